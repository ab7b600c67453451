/-! constructors: contracts of methods that make cells -/
def et_PcN (g : et_G) (sz : Nat) (ws : va_W) (av : List Value) (X : State → Prop) : Array Value → State → Prop := fun v U => v = av.toArray ∧ U.heap.size = sz ∧ va_P (gD g) vwCl ws U.heap ∧ et_C g U ∧ va_D (fun _ => True) ws ∧ X U
def et_PcWX (g : et_G) (ws : va_W) (av : List Value) (X : State → Prop) : Array Value → State → Prop := fun v U => v = av.toArray ∧ va_P (gD g) vwCl ws U.heap ∧ et_C g U ∧ va_D (fun _ => True) ws ∧ X U
def et_QN (g : et_G) (A : Nat → Prop) (B : va_W → Prop) (v : Option Value) : Array Value → State → Outcome → State → Prop := fun _ st oc t => oc = .returned v ∧ (∃ w, B w ∧ va_P (gD g) vwCl w t.heap ∧ va_D A w) ∧ va_F A st t
abbrev et_blind (X : State → Prop) : Prop := ∀ (a : Array Value) (U : State) (f : JFrame) (mk : MethodId), X U → X (U.calling f mk a)
theorem et_PcN.blind {g : et_G} {sz : Nat} {ws : va_W} {av : List Value} {X : State → Prop} (hX : et_blind X) : FrameBlind (et_PcN g sz ws av X) := fun a U f mk h => ⟨h.1, h.2.1, h.2.2.1, et_C.same (u := U) (U := U.calling f mk a) rfl h.2.2.2.1, h.2.2.2.2.1, hX a U f mk h.2.2.2.2.2⟩
theorem et_PcWX.blind {g : et_G} {ws : va_W} {av : List Value} {X : State → Prop} (hX : et_blind X) : FrameBlind (et_PcWX g ws av X) := fun a U f mk h => ⟨h.1, h.2.1, et_C.same (u := U) (U := U.calling f mk a) rfl h.2.2.1, h.2.2.2.1, hX a U f mk h.2.2.2.2⟩
def et_fs (j : Nat) : Int32 := ([0, -1, 1, 0, -1, 1, -1, 1, -1, 1, -2, 2, -2, 2, -1, 1] : List Int32).getD j 0
def et_rs (j : Nat) : Int32 := ([-1, 0, 0, 1, -1, -1, 1, 1, -2, -2, -1, -1, 1, 1, 2, 2] : List Int32).getD j 0
def et_ST (st1 st2 : Nat) (A : Nat → Prop) (U : State) : Prop := va_Z "EndTables$Board" "FILE_STEPS" "[I" (.ref st1) A U U.heap ∧ va_T .int st1 16 (fun j => .int (et_fs j)) A U U.heap ∧ va_Z "EndTables$Board" "RANK_STEPS" "[I" (.ref st2) A U U.heap ∧ va_T .int st2 16 (fun j => .int (et_rs j)) A U U.heap
theorem et_ST.blind {st1 st2 : Nat} {A : Nat → Prop} : et_blind (et_ST st1 st2 A) := fun a U f mk h => ⟨h.1.moved (u := U) (U := U.calling f mk a) (Vm.Alike.refl U.vm), h.2.1.moved (u := U) (U := U.calling f mk a) (Vm.Alike.refl U.vm), h.2.2.1.moved (u := U) (U := U.calling f mk a) (Vm.Alike.refl U.vm), h.2.2.2.moved (u := U) (U := U.calling f mk a) (Vm.Alike.refl U.vm)⟩
theorem et_ST.at {st1 st2 : Nat} {A B : Nat → Prop} {s : State} {H : Heap} {locs : List Loc} (h : et_ST st1 st2 A s) (hS : va_S A s.heap H locs) (hB : ∀ q, B q → A q) (U : State) (hU : U.heap = H) (hW : s.WarmedH U.vm) : et_ST st1 st2 B U := by
  unfold et_ST
  rw [hU]
  obtain ⟨h1, h2, h3, h4⟩ := h
  exact ⟨((h1.kept hS.2.1).moved hW.alike).narrow hB, ((h2.kept hS.2.1).moved hW.alike).narrow hB, ((h3.kept hS.2.1).moved hW.alike).narrow hB, ((h4.kept hS.2.1).moved hW.alike).narrow hB⟩
theorem et_clsI {g : et_G} {s : State} {cA : ClassId} (hC : et_C g s) (h : va_K (gD g) vwCl (gty g ++ [(cA, .int)]) s) : cA = gI g := by
  have h1 := va_nm_int (h.2 4 (cA, .int) rfl).2
  have h2 := va_nm_int (hC.1.2 0 (gI g, .int) rfl).2
  exact Option.some.inj (h1.symm.trans h2)
theorem et_clsJ {g : et_G} {s : State} {cA : ClassId} (hC : et_C g s) (h : va_K (gD g) vwCl (gty g ++ [(cA, .long)]) s) : cA = gJ g := by
  have h1 := va_nm_long (h.2 4 (cA, .long) rfl).2
  have h2 := va_nm_long (hC.1.2 1 (gJ g, .long) rfl).2
  exact Option.some.inj (h1.symm.trans h2)
theorem et_clsZ {g : et_G} {s : State} {cA : ClassId} (hC : et_C g s) (h : va_K (gD g) vwCl (gty g ++ [(cA, .boolean)]) s) : cA = gZ g := by
  have h1 := va_nm_boolean (h.2 4 (cA, .boolean) rfl).2
  have h2 := va_nm_boolean (hC.1.2 2 (gZ g, .boolean) rfl).2
  exact Option.some.inj (h1.symm.trans h2)
theorem et_clsT {g : et_G} {s : State} {cA : ClassId} (hC : et_C g s) (h : va_K (gD g) vwCl (gty g ++ [(cA, .object RX3)]) s) : cA = gT g := by
  obtain ⟨-, -, -, -, -, h1⟩ := (h.2 4 (cA, .object RX3) rfl).2
  obtain ⟨-, -, -, -, -, h2⟩ := (hC.1.2 3 (gT g, .object RX3) rfl).2
  exact Option.some.inj (h1.symm.trans h2)
section EtN
variable {l : Launch} {y : MethodName} {ws ws' : List Cond} {rm : Room} {g : et_G} {world world' : va_W} {av : List Value} {v : Option Value} {cc : ByteArray} {maxL mc ms sz : Nat} {ret : Option FieldType} {X : State → Prop} {B : va_W → Prop}
theorem et_startN (hy : plainName y.cls = true) (hw : ws = Cond.code y cc maxL ret :: ws') (hn : (lg_sl av).length ≤ maxL)
    (body : ∀ (p : Program) (e : Env) (s : State) (m : MethodId) (args : Array Value) (below : List Frame) (meth : Method) (c : Code), p.tables.exec = Jvm.exec → c.code = cc → meth.sig.returnType = ret → (∀ w ∈ ws, w.before args s = true) → s.vm.findClass y.cls = some m.cls → meth.locks = false → c.maxLocals = maxL → meth.name = y.name → s.heap.size = sz → va_P (gD g) vwCl world s.heap → et_C g s → X s → va_D (va_A world sz) world → va_S (va_A world sz) s.heap s.heap [] → (∀ q : Nat, s.heap.size ≤ q → va_A world sz q) → ∀ ls : Array Slot, lv_has ls maxL (lv_args 0 av) → W p l e rm s m args below meth c s.heap [] 0 0 (MQ below (et_QN g (va_A world sz) B v) args s mc ms (va_A world sz)) (F0 m 0 ls [])) :
    Met l y ws rm (et_PcN g sz world av X) (et_QN g (va_A world sz) B v) mc ms (va_A world sz) := by
  refine Met.ofW (cc := cc) (maxL := maxL) (ret := ret) hy hw ?_
  intro p e s m args below meth c s₁ B hml hv
  obtain ⟨rfl, hsz, hP, hC, hD, hX⟩ := hv
  have hl := lv_entry av (n := maxL) hn
  rw [lg_entry_eq]
  exact body p e s m _ below meth c B.exec B.bytes B.returns (atoms_spec (ws := ws) B.pre) (findClass_of_methodNamed B.named) B.notSynchronized hml (name_of_methodNamed B.named B.method).1 hsz hP hC hX hD.self va_S.rf (fun q h => Or.inr (hsz ▸ h)) _ hl
theorem et_startWX (hy : plainName y.cls = true) (hw : ws = Cond.code y cc maxL ret :: ws') (hn : (lg_sl av).length ≤ maxL)
    (body : ∀ (p : Program) (e : Env) (s : State) (m : MethodId) (args : Array Value) (below : List Frame) (meth : Method) (c : Code), p.tables.exec = Jvm.exec → c.code = cc → meth.sig.returnType = ret → (∀ w ∈ ws, w.before args s = true) → s.vm.findClass y.cls = some m.cls → meth.locks = false → c.maxLocals = maxL → va_P (gD g) vwCl world s.heap → et_C g s → va_D (et_ad world) world → va_S (et_ad world) s.heap s.heap [] → X s → ∀ ls : Array Slot, lv_has ls maxL (lv_args 0 av) → W p l e rm s m args below meth c s.heap [] 0 0 (MQ below (et_QW g world world' v) args s 0 0 (et_ad world)) (F0 m 0 ls [])) :
    Met l y ws rm (et_PcWX g world av X) (et_QW g world world' v) 0 0 (et_ad world) := by
  refine Met.ofW (cc := cc) (maxL := maxL) (ret := ret) hy hw ?_
  intro p e s m args below meth c s₁ B hml hv
  obtain ⟨rfl, hP, hC, hD, hX⟩ := hv
  have hl := lv_entry av (n := maxL) hn
  rw [lg_entry_eq]
  exact body p e s m _ below meth c B.exec B.bytes B.returns (atoms_spec (ws := ws) B.pre) (findClass_of_methodNamed B.named) B.notSynchronized hml hP hC (et_D.self hD) va_S.rf hX _ hl
end EtN
section EtCallA
variable {p : Program} {l : Launch} {e : Env} {R : Room} {s : State} {m : MethodId} {args : Array Value} {below : List Frame} {meth : Method} {c : Code} {H : Heap} {locs : List Loc} {cells slots mc ms : Nat} {Q : State → Prop} {pc : Nat} {ls : Array Slot} {rest st0 : List Value} {a : Array Value} {g : et_G} {ws wc wr : va_W} {A : Nat → Prop} {H0 : Heap} {X : State → Prop} {B : va_W → Prop}
theorem et_preSN {As : List Value} (hP : va_P (gD g) vwCl ws H) (hC : et_C g s) (hD : va_D A ws) (is : List Nat) (hn : va_nd is = true) (hs : is.map (fun i => ws[i]?) = wc.map some) (hb : et_blind X) (hX : ∀ U : State, U.heap = H → s.WarmedH U.vm → X U) : PreS s H (et_PcN g H.size wc As X) As :=
  ⟨et_PcN.blind hb, fun U hU hW => ⟨rfl, by rw [hU], by rw [hU]; exact hP.sub is (et_filter hs), hC.warm hW, (hD.sub is hn hs).weaken (fun _ _ _ _ => trivial), hX U hU hW⟩⟩
theorem et_preVWX {C : String} {T : u_T} {N q0 ci : Nat} {b : Addr} {fs As : List Value} (hP : va_P (gD g) vwCl ws H) (hC : et_C g s) (hD : va_D A ws) (is : List Nat) (hn : va_nd is = true) (hs : is.map (fun i => ws[i]?) = wc.map some) (hb : et_blind X) (hX : ∀ U : State, U.heap = H → s.WarmedH U.vm → X U) (hc : vwCl[ci]? = some (C, T, N)) (he : ws[q0]? = some (b, .inr (ci, fs))) : PreV s H C b (et_PcWX g wc (.ref b :: As) X) As :=
  ⟨et_PcWX.blind hb, va_recv hC.1 hP hc he, fun U hU hW => ⟨rfl, by rw [hU]; exact hP.sub is (et_filter hs), hC.warm hW, (hD.sub is hn hs).weaken (fun _ _ _ _ => trivial), hX U hU hW⟩⟩
theorem et_callA (hr : va_Run p l e R s m args below meth c H locs cells slots mc ms (F0 m pc ls st0) rest (et_QN g (va_A wc H.size) B none a) (va_A wc H.size)) (hP : va_P (gD g) vwCl ws H) (hD : va_D A ws) (hS : va_S A H0 H locs) (hA1 : ∀ q, q < H.size → va_A wc H.size q → A q) (isC isR : List Nat) (hC : isC.map (fun i => ws[i]?) = wc.map some) (hR : isR.map (fun i => ws[i]?) = wr.map some) (hn : va_nd isR = true) (hdis : ∀ i ∈ isR, i ∉ isC) (hF : ∀ q, va_A wc H.size q → A q)
    (kk : ∀ (w1 : va_W) (H1 : Heap) (locs1 : List Loc), B w1 → va_P (gD g) vwCl (wr ++ w1) H1 → va_D A (wr ++ w1) → va_S A H0 H1 locs1 → W p l e R s m args below meth c H1 locs1 (cells + mc) (slots + ms) Q (F0 m (pc + 3) ls rest)) : W p l e R s m args below meth c H locs cells slots Q (F0 m pc ls st0) := by
  intro T hT X
  obtain ⟨v', st₀, t, T', L, h0, X', hL, e1, e2, ⟨hv, ⟨w1, hB, hP1, hD1⟩, hz, hk⟩, st⟩ := hr T hT X
  cases hv
  rw [h0] at hz hk
  obtain ⟨hP2, hD2⟩ := va_join (wr := wr) (w1 := w1) hP hD isC isR hC hR hn hdis (H1 := T'.heap) (fun q h1 h2 => by rw [e1]; exact hk q h1 h2) hF (by rw [e1]; exact hP1) hD1
  obtain ⟨t2, a1, b1⟩ := kk w1 T'.heap (locs ++ L) hB hP2 hD2
    ⟨Nat.le_trans hS.1 (by rw [e1]; exact hz), fun q h1 h2 => by rw [e1, hk q (Nat.lt_of_lt_of_le h1 hS.1) (fun z => h2 (hF q z))]; exact hS.2.1 q h1 h2, fun q hq => by
      rcases List.mem_append.mp hq with h | h
      · exact hS.2.2 q h
      · exact hF _ (hL q h)⟩ T' rfl X'
  exact ⟨t2, st t2 a1, b1⟩
end EtCallA

set_option maxHeartbeats 4000000 in
set_option maxRecDepth 100000 in
theorem c_X2_init (l : Launch) (g : et_G) (sz : Nat) (po : Nat)  : Met l yX2_init (Cond.code yX2_init cX2_init 1 none :: W0) ({ frames := 1, cells := 0, slots := 0, locals := 12 } : Room) (et_PcN g sz ([(po, .inr (2, [.int 0, .int 0, .int 0, .int 0, .int 0]))]) [.ref po] (fun _ => True)) (et_QN g (va_A ([(po, .inr (2, [.int 0, .int 0, .int 0, .int 0, .int 0]))]) sz) (fun w : va_W => w = [(po, .inr (2, [.int 0, .int 0, .int 0, .int 0, .int 0]))]) none) 0 0 (va_A ([(po, .inr (2, [.int 0, .int 0, .int 0, .int 0, .int 0]))]) sz) := by
  refine et_startN (by decide) rfl (Nat.le_of_ble_eq_true rfl) ?_
  intro p e s m args below meth c hx hb hr hts0 hown hlocks hml hin hsz hP hC hX hD hS hA ls hl
  subst hsz
  have hts : ∀ w ∈ W0, w.before args s = true := fun w h => hts0 w (List.mem_cons_of_mem _ h)
  have hown : s.vm.findClass RX2 = some m.cls := hown
  have hl : lv_has ls 1 [(0, .ref po)] := hl
  refine lv_aload_n hx hb dX2_init_0 rfl (lv_at hl 0 rfl) ?_
  refine W.objInit hx hb hown (hts _ w_204) (hts _ w_96) (hts _ w_97) rfl (by rw [hml]; exact hl.1) rfl dX2_init_1 (Nat.le_of_ble_eq_true rfl) (Nat.le_of_ble_eq_true rfl) ?_
  refine W.eq (g2 := F0 m 4 ls []) rfl ?_
  have hP9 := hP.sub (ws' := [(po, .inr (2, [.int 0, .int 0, .int 0, .int 0, .int 0]))]) [0] rfl
  have hD9 := hD.sub (ws' := [(po, .inr (2, [.int 0, .int 0, .int 0, .int 0, .int 0]))]) [0] (by decide) rfl
  exact W.vret hx hb hr (fun t ht hW => ⟨rfl, ⟨_, rfl, by rw [ht]; exact hP9, hD9⟩, hS.F ht⟩) hS.2.2 dX2_init_4 hlocks

set_option maxHeartbeats 4000000 in
set_option maxRecDepth 100000 in
theorem c_X1_init (l : Launch) (g : et_G) (sz : Nat) (li : Nat)  : Met l yX1_init (Cond.code yX1_init cX1_init 1 none :: W0) ({ frames := 1, cells := 1, slots := 64, locals := 12 } : Room) (et_PcN g sz ([(li, .inr (1, [.null, .int 0]))]) [.ref li] (fun _ => True)) (et_QN g (va_A ([(li, .inr (1, [.null, .int 0]))]) sz) (fun w : va_W => ∃ tq : Nat, w = [(li, .inr (1, [.ref tq, .int (0 : Int32)])), (tq, .inl (gI g, 64, .inl (fun _ => 0)))]) none) 1 64 (va_A ([(li, .inr (1, [.null, .int 0]))]) sz) := by
  refine et_startN (by decide) rfl (Nat.le_of_ble_eq_true rfl) ?_
  intro p e s m args below meth c hx hb hr hts0 hown hlocks hml hin hsz hP hC hX hD hS hA ls hl
  subst hsz
  have hts : ∀ w ∈ W0, w.before args s = true := fun w h => hts0 w (List.mem_cons_of_mem _ h)
  have hown : s.vm.findClass RX1 = some m.cls := hown
  have hl : lv_has ls 1 [(0, .ref li)] := hl
  refine lv_aload_n hx hb dX1_init_0 rfl (lv_at hl 0 rfl) ?_
  refine W.objInit hx hb hown (hts _ w_241) (hts _ w_96) (hts _ w_97) rfl (by rw [hml]; exact hl.1) rfl dX1_init_1 (Nat.le_of_ble_eq_true rfl) (Nat.le_of_ble_eq_true rfl) ?_
  refine W.eq (g2 := F0 m 4 ls []) rfl ?_
  refine lv_aload_n hx hb dX1_init_4 rfl (lv_at hl 0 rfl) ?_
  refine lv_bipush (v := (64 : Int32)) hx hb dX1_init_5 (by decide) ?_
  refine va_newa (atype := .int) hx hb (hts _ w_154) rfl hC.1 hP hD hS hA (N' := 64) (a0 := (64, .inl (fun _ => 0))) (fun cA => rfl) (by decide) (by decide) (by show 64 * 4 ≤ 536870912; omega) (Nat.le_of_ble_eq_true rfl) (by show 0 + 64 ≤ 64; omega) dX1_init_7 (fun n1 cA H hK2 hP hD hS => ?_)
  obtain rfl : cA = gI g := et_clsI hC hK2
  have hP : va_P (gD g) vwCl ([(li, .inr (1, [.null, .int 0])), (n1, .inl (gI g, 64, .inl (fun _ => 0)))]) H := hP
  have hD : va_D (va_A ([(li, .inr (1, [.null, .int 0]))]) s.heap.size) ([(li, .inr (1, [.null, .int 0])), (n1, .inl (gI g, 64, .inl (fun _ => 0)))]) := hD
  refine W.widen (k := 1) (n := 64) (by omega) (by omega) ?_
  refine va_putF (D := gD g) (ci := 1) (v := .ref n1) (ty := .array .int) (C := RX1) (T := TX1) (N := 2) hx hb hts inW_X1 tyX1 tyX1_ok nmX1 hown hC.1 hP hD hS 0 rfl rfl 0 (by decide) (hts _ w_242) (fun _ h9 => h9) rfl hin rfl (by decide +kernel) rfl rfl (Nat.le_of_ble_eq_true rfl) dX1_init_9 (fun H locs hP hD hS => ?_)
  have hP : va_P (gD g) vwCl ([(li, .inr (1, [.ref n1, .int 0])), (n1, .inl (gI g, 64, .inl (fun _ => 0)))]) H := hP
  have hD : va_D (va_A ([(li, .inr (1, [.null, .int 0]))]) s.heap.size) ([(li, .inr (1, [.ref n1, .int 0])), (n1, .inl (gI g, 64, .inl (fun _ => 0)))]) := hD
  refine lv_aload_n hx hb dX1_init_12 rfl (lv_at hl 0 rfl) ?_
  refine lv_iconst (v := (0 : Int32)) hx hb dX1_init_13 (by decide) ?_
  refine va_put (D := gD g) (ci := 1) (v := .int (0 : Int32)) (ty := .int) (C := RX1) (T := TX1) (N := 2) hx hb hts inW_X1 tyX1 tyX1_ok nmX1 hown hC.1 hP hD hS 0 rfl rfl 1 (by decide) (hts _ w_243) (fun _ h9 => h9) rfl (by decide +kernel) rfl rfl (Nat.le_of_ble_eq_true rfl) dX1_init_14 (fun H locs hP hD hS => ?_)
  have hP : va_P (gD g) vwCl ([(li, .inr (1, [.ref n1, .int (0 : Int32)])), (n1, .inl (gI g, 64, .inl (fun _ => 0)))]) H := hP
  have hD : va_D (va_A ([(li, .inr (1, [.null, .int 0]))]) s.heap.size) ([(li, .inr (1, [.ref n1, .int (0 : Int32)])), (n1, .inl (gI g, 64, .inl (fun _ => 0)))]) := hD
  have hP9 := hP.sub (ws' := [(li, .inr (1, [.ref n1, .int (0 : Int32)])), (n1, .inl (gI g, 64, .inl (fun _ => 0)))]) [0, 1] rfl
  have hD9 := hD.sub (ws' := [(li, .inr (1, [.ref n1, .int (0 : Int32)])), (n1, .inl (gI g, 64, .inl (fun _ => 0)))]) [0, 1] (by decide) rfl
  exact W.vret hx hb hr (fun t ht hW => ⟨rfl, ⟨_, ⟨n1, rfl⟩, by rw [ht]; exact hP9, hD9⟩, hS.F ht⟩) hS.2.2 dX1_init_17 hlocks

theorem et_lay_in {cell : Int32} {n i : Nat} (hn : n ≤ 64) (h1 : ¬ cell < 0) (h2 : cell < nI n) (hi : i < 16) : vp_in (nI i * nI n + cell) (16 * n) := by
  rcases pk_ix cell (n := n) (by omega) with h | h | ⟨j, hj, rfl⟩
  · exact absurd h h1
  · exact absurd h2 (Int32.not_lt.mpr h)
  · rw [pk_mul, nI_add]
    have h5 : i * n ≤ 15 * n := Nat.mul_le_mul_right n (by omega)
    exact vp_in_nI (by omega) (by omega)
theorem et_fit (x : Int32) : ∃ j : Nat, 3 ≤ j ∧ j ≤ 8 ∧ mX0_fit x = nI j := by
  unfold mX0_fit
  split
  · exact ⟨8, by omega, by omega, rfl⟩
  · rename_i h
    split
    · rename_i h2
      rcases pk_ix x (n := 9) (by omega) with h3 | h3 | ⟨j, hj, rfl⟩
      · exact absurd (Int32.lt_trans h3 (show (0 : Int32) < 3 by decide)) h
      · exact absurd (Int32.le_trans (show nI 9 ≤ x from h3) h2) (by decide)
      · refine ⟨j, ?_, by omega, rfl⟩
        rcases Nat.lt_or_ge j 3 with q | q
        · exact absurd (nI_lt q (by omega)) h
        · exact q
    · exact ⟨8, by omega, by omega, rfl⟩
def mB_n (f r : Int32) : Nat := (mX0_fit f * mX0_fit r).toNatClampNeg
theorem et_nfit (f r : Int32) : mX0_fit f * mX0_fit r = nI (mB_n f r) := by
  obtain ⟨a, h1, h2, ea⟩ := et_fit f
  obtain ⟨b, h3, h4, eb⟩ := et_fit r
  unfold mB_n
  have h5 : a * b ≤ 8 * 8 := Nat.mul_le_mul h2 h4
  rw [ea, eb, pk_mul, nI_clamp (by omega)]
theorem et_nle (f r : Int32) : mB_n f r ≤ 64 := by
  obtain ⟨a, h1, h2, ea⟩ := et_fit f
  obtain ⟨b, h3, h4, eb⟩ := et_fit r
  unfold mB_n
  have h5 : a * b ≤ 8 * 8 := Nat.mul_le_mul h2 h4
  rw [ea, eb, pk_mul, nI_clamp (by omega)]
  omega
theorem et_minmax {n : Nat} (hn : n ≤ 64) : (if (0 : Int32) < (if (64 : Int32) < nI n then (64 : Int32) else nI n) then (if (64 : Int32) < nI n then (64 : Int32) else nI n) else (0 : Int32)) = nI n := by
  rw [if_neg (show ¬ (64 : Int32) < nI n from nI_nlt (a := 64) (b := n) hn (by omega))]
  split
  · rfl
  · rename_i h
    rcases n with _ | n
    · rfl
    · exact absurd (nI_lt (a := 0) (b := n + 1) (by omega) (by omega)) h
theorem et_mul5 (x : Nat) : nI (2 * x) * (5 : Int32) = nI (10 * x) := by
  rw [show (5 : Int32) = nI 5 from rfl, pk_mul, show 2 * x * 5 = 10 * x by omega]

def mX0_layCell_L1 (FI : Int32) (RI : Int32) (n : Nat) (file : Int32) (rank : Int32) : Nat → Nat → (Nat → Int32) → (Nat → Int32)
  | 0, i1, stf1 =>
    stf1
  | k1 + 1, i1, stf1 =>
    mX0_layCell_L1 FI RI n file rank k1 (i1 + 1) (upd stf1 (((nI i1) * (nI n)) + (mX0_cellAt FI RI file rank)).toNatClampNeg (mX0_cellAt FI RI (file + (et_fs (nI i1).toNatClampNeg)) (rank + (et_rs (nI i1).toNatClampNeg))))
def mX0_layCell (FI : Int32) (RI : Int32) (n : Nat) (sqf : Nat → Int32) (stf : Nat → Int32) (file : Int32) (rank : Int32) : (Nat → Int32) × (Nat → Int32) :=
  if (mX0_cellAt FI RI file rank) < 0 then
    (sqf, stf)
  else
    if (mX0_cellAt FI RI file rank) < (nI n) then
      (upd sqf (mX0_cellAt FI RI file rank).toNatClampNeg (file + ((8 : Int32) * rank)), (mX0_layCell_L1 FI RI n file rank 16 0 stf))
    else
      (sqf, stf)
set_option maxHeartbeats 4000000 in
set_option maxRecDepth 100000 in
theorem c_X0_layCell (l : Launch) (g : et_G) (st1 st2 : Nat) (b : Nat) (q1 : Nat) (q2 : Nat) (FI : Int32) (RI : Int32) (n : Nat) (al : Int64) (ff : Int64) (lf : Int64) (sqf : Nat → Int32) (stf : Nat → Int32) (file : Int32) (rank : Int32) (hn : n ≤ 64) : Met l yX0_layCell (Cond.code yX0_layCell cX0_layCell 5 none :: W0) ({ frames := 1, cells := 0, slots := 0, locals := 23 } : Room) (et_PcWX g ([(b, .inr (0, [.int FI, .int RI, .int (nI n), .ref q1, .ref q2, .long al, .long ff, .long lf])), (q1, .inl (gI g, n, .inl sqf)), (q2, .inl (gI g, 16 * n, .inl stf))]) [.ref b, .int file, .int rank] (et_ST st1 st2 (et_ad ([(b, .inr (0, [.int FI, .int RI, .int (nI n), .ref q1, .ref q2, .long al, .long ff, .long lf])), (q1, .inl (gI g, n, .inl sqf)), (q2, .inl (gI g, 16 * n, .inl stf))])))) (et_QW g ([(b, .inr (0, [.int FI, .int RI, .int (nI n), .ref q1, .ref q2, .long al, .long ff, .long lf])), (q1, .inl (gI g, n, .inl sqf)), (q2, .inl (gI g, 16 * n, .inl stf))]) ([(b, .inr (0, [.int FI, .int RI, .int (nI n), .ref q1, .ref q2, .long al, .long ff, .long lf])), (q1, .inl (gI g, n, .inl ((mX0_layCell FI RI n sqf stf file rank).1))), (q2, .inl (gI g, 16 * n, .inl ((mX0_layCell FI RI n sqf stf file rank).2)))]) none) 0 0 (et_ad ([(b, .inr (0, [.int FI, .int RI, .int (nI n), .ref q1, .ref q2, .long al, .long ff, .long lf])), (q1, .inl (gI g, n, .inl sqf)), (q2, .inl (gI g, 16 * n, .inl stf))])) := by
  refine et_startWX (by decide) rfl (Nat.le_of_ble_eq_true rfl) ?_
  intro p e s m args below meth c hx hb hr hts0 hown hlocks hml hP hC hD hS hX ls hl
  have hts : ∀ w ∈ W0, w.before args s = true := fun w h => hts0 w (List.mem_cons_of_mem _ h)
  have hown : s.vm.findClass RX0 = some m.cls := hown
  have hl : lv_has ls 5 [(0, .ref b), (1, .int file), (2, .int rank)] := hl
  refine lv_aload_n hx hb dX0_layCell_0 rfl (lv_at hl 0 rfl) ?_
  refine lv_iload_n hx hb dX0_layCell_1 rfl (lv_at hl 1 rfl) ?_
  refine lv_iload_n hx hb dX0_layCell_2 rfl (lv_at hl 2 rfl) ?_
  refine et_callP1 (v := .int (mX0_cellAt FI RI file rank)) (va_runV (As := [.int file, .int rank]) (rest := []) ⟨hx, hb, hml, hown, hts⟩ (c_X0_cellAt l g b q1 q2 FI RI n al ff lf sqf stf file rank) (cwV 2 hts (W0_gV w_114 w_116 w_1 w_77 w_117) rfl rfl rfl (by decide +kernel) ⟨Nat.le_of_ble_eq_true rfl, Nat.le_of_ble_eq_true rfl⟩) (et_preV hP hC [0, 1, 2] rfl (ci := 0) (q0 := 0) rfl rfl) rfl rfl hl.1 rfl (lv_room (Nat.le_of_ble_eq_true rfl)) dX0_layCell_3 ⟨Nat.le_of_ble_eq_true rfl, Nat.le_of_ble_eq_true rfl⟩) ?_
  refine lv_istore_n (lv' := [(3, .int (mX0_cellAt FI RI file rank)), (0, .ref b), (1, .int file), (2, .int rank)]) hx hb dX0_layCell_6 rfl hl (by decide) rfl (fun ls hl => ?_)
  refine lv_iload_n hx hb dX0_layCell_7 rfl (lv_at hl 0 rfl) ?_
  refine lv_if_lt (tgt := 19) hx hb dX0_layCell_8 (by decide) (fun c_1 => ?_) (fun c_1 => ?_)
  ·
    have hfin : (sqf, stf) = (mX0_layCell FI RI n sqf stf file rank) := (by rw [mX0_layCell, if_pos c_1])
    exact et_vretW hx hb hr hlocks dX0_layCell_19 hP hS (by rw [← hfin])
  ·
    refine lv_iload_n hx hb dX0_layCell_11 rfl (lv_at hl 0 rfl) ?_
    refine lv_aload_n hx hb dX0_layCell_12 rfl (lv_at hl 1 rfl) ?_
    refine va_get (D := gD g) (ci := 0) (v := .int (nI n)) (C := RX0) (T := TX0) (N := 8) hx hb hts inW_X0 hown hC.1 hP 0 rfl rfl 2 (by decide) (hts _ w_130) (fun _ h9 => h9) rfl dX0_layCell_13 ?_
    refine lv_icmp_lt (tgt := 20) hx hb dX0_layCell_16 (by decide) (fun c_2 => ?_) (fun c_2 => ?_)
    ·
      refine lv_aload_n hx hb dX0_layCell_20 rfl (lv_at hl 1 rfl) ?_
      refine va_get (D := gD g) (ci := 0) (v := .ref q1) (C := RX0) (T := TX0) (N := 8) hx hb hts inW_X0 hown hC.1 hP 0 rfl rfl 3 (by decide) (hts _ w_132) (fun _ h9 => h9) rfl dX0_layCell_21 ?_
      refine lv_iload_n hx hb dX0_layCell_24 rfl (lv_at hl 0 rfl) ?_
      refine lv_iload_n hx hb dX0_layCell_25 rfl (lv_at hl 2 rfl) ?_
      refine lv_bipush (v := (8 : Int32)) hx hb dX0_layCell_26 (by decide) ?_
      refine lv_iload_n hx hb dX0_layCell_28 rfl (lv_at hl 3 rfl) ?_
      refine lv_imul hx hb dX0_layCell_29 ?_
      refine lv_iadd hx hb dX0_layCell_30 ?_
      refine va_iast (D := gD g) hx hb hC.1 hP hD hS 1 0 rfl rfl (et_in2 (by assumption) (by assumption) (by omega)) dX0_layCell_31 (fun H locs hP hD hS => ?_)
      have hP : va_P (gD g) vwCl ([(b, .inr (0, [.int FI, .int RI, .int (nI n), .ref q1, .ref q2, .long al, .long ff, .long lf])), (q1, .inl (gI g, n, .inl (upd sqf (mX0_cellAt FI RI file rank).toNatClampNeg (file + ((8 : Int32) * rank))))), (q2, .inl (gI g, 16 * n, .inl stf))]) H := hP
      have hD : va_D (et_ad ([(b, .inr (0, [.int FI, .int RI, .int (nI n), .ref q1, .ref q2, .long al, .long ff, .long lf])), (q1, .inl (gI g, n, .inl sqf)), (q2, .inl (gI g, 16 * n, .inl stf))])) ([(b, .inr (0, [.int FI, .int RI, .int (nI n), .ref q1, .ref q2, .long al, .long ff, .long lf])), (q1, .inl (gI g, n, .inl (upd sqf (mX0_cellAt FI RI file rank).toNatClampNeg (file + ((8 : Int32) * rank))))), (q2, .inl (gI g, 16 * n, .inl stf))]) := hD
      refine lv_iconst (v := (0 : Int32)) hx hb dX0_layCell_32 (by decide) ?_
      refine lv_istore (lv' := [(4, .int (0 : Int32)), (3, .int (mX0_cellAt FI RI file rank)), (0, .ref b), (1, .int file), (2, .int rank)]) hx hb dX0_layCell_33 hl (by decide) rfl (fun ls hl => ?_)
      have hx1 : ∀ (H : Heap) (locs : List Loc), va_P (gD g) vwCl ([(b, .inr (0, [.int FI, .int RI, .int (nI n), .ref q1, .ref q2, .long al, .long ff, .long lf])), (q1, .inl (gI g, n, .inl (upd sqf (mX0_cellAt FI RI file rank).toNatClampNeg (file + ((8 : Int32) * rank))))), (q2, .inl (gI g, 16 * n, .inl (mX0_layCell_L1 FI RI n file rank 16 0 stf)))]) H → va_D (et_ad ([(b, .inr (0, [.int FI, .int RI, .int (nI n), .ref q1, .ref q2, .long al, .long ff, .long lf])), (q1, .inl (gI g, n, .inl sqf)), (q2, .inl (gI g, 16 * n, .inl stf))])) ([(b, .inr (0, [.int FI, .int RI, .int (nI n), .ref q1, .ref q2, .long al, .long ff, .long lf])), (q1, .inl (gI g, n, .inl (upd sqf (mX0_cellAt FI RI file rank).toNatClampNeg (file + ((8 : Int32) * rank))))), (q2, .inl (gI g, 16 * n, .inl (mX0_layCell_L1 FI RI n file rank 16 0 stf)))]) → va_S (et_ad ([(b, .inr (0, [.int FI, .int RI, .int (nI n), .ref q1, .ref q2, .long al, .long ff, .long lf])), (q1, .inl (gI g, n, .inl sqf)), (q2, .inl (gI g, 16 * n, .inl stf))])) s.heap H locs → ∀ ls : Array Slot, lv_has ls 5 [(3, .int (mX0_cellAt FI RI file rank)), (0, .ref b), (1, .int file), (2, .int rank)] → W p l e ({ frames := 1, cells := 0, slots := 0, locals := 23 } : Room) s m args below meth c H locs 0 0 (MQ below (et_QW g ([(b, .inr (0, [.int FI, .int RI, .int (nI n), .ref q1, .ref q2, .long al, .long ff, .long lf])), (q1, .inl (gI g, n, .inl sqf)), (q2, .inl (gI g, 16 * n, .inl stf))]) ([(b, .inr (0, [.int FI, .int RI, .int (nI n), .ref q1, .ref q2, .long al, .long ff, .long lf])), (q1, .inl (gI g, n, .inl ((mX0_layCell FI RI n sqf stf file rank).1))), (q2, .inl (gI g, 16 * n, .inl ((mX0_layCell FI RI n sqf stf file rank).2)))]) none) args s 0 0 (et_ad ([(b, .inr (0, [.int FI, .int RI, .int (nI n), .ref q1, .ref q2, .long al, .long ff, .long lf])), (q1, .inl (gI g, n, .inl sqf)), (q2, .inl (gI g, 16 * n, .inl stf))]))) (F0 m 82 ls []) := by
        intro H locs hP hD hS ls hl
        have hfin : (upd sqf (mX0_cellAt FI RI file rank).toNatClampNeg (file + ((8 : Int32) * rank)), (mX0_layCell_L1 FI RI n file rank 16 0 stf)) = (mX0_layCell FI RI n sqf stf file rank) := (by rw [mX0_layCell, if_neg c_1, if_pos c_2])
        exact et_vretW hx hb hr hlocks dX0_layCell_82 hP hS (by rw [← hfin])
      have hL1 : ∀ (k1 i1 : Nat) (stf1 : Nat → Int32), i1 + k1 = 16 → mX0_layCell_L1 FI RI n file rank k1 i1 stf1 = (mX0_layCell_L1 FI RI n file rank 16 0 stf) → ∀ (H : Heap) (locs : List Loc), va_P (gD g) vwCl ([(b, .inr (0, [.int FI, .int RI, .int (nI n), .ref q1, .ref q2, .long al, .long ff, .long lf])), (q1, .inl (gI g, n, .inl (upd sqf (mX0_cellAt FI RI file rank).toNatClampNeg (file + ((8 : Int32) * rank))))), (q2, .inl (gI g, 16 * n, .inl stf1))]) H → va_D (et_ad ([(b, .inr (0, [.int FI, .int RI, .int (nI n), .ref q1, .ref q2, .long al, .long ff, .long lf])), (q1, .inl (gI g, n, .inl sqf)), (q2, .inl (gI g, 16 * n, .inl stf))])) ([(b, .inr (0, [.int FI, .int RI, .int (nI n), .ref q1, .ref q2, .long al, .long ff, .long lf])), (q1, .inl (gI g, n, .inl (upd sqf (mX0_cellAt FI RI file rank).toNatClampNeg (file + ((8 : Int32) * rank))))), (q2, .inl (gI g, 16 * n, .inl stf1))]) → va_S (et_ad ([(b, .inr (0, [.int FI, .int RI, .int (nI n), .ref q1, .ref q2, .long al, .long ff, .long lf])), (q1, .inl (gI g, n, .inl sqf)), (q2, .inl (gI g, 16 * n, .inl stf))])) s.heap H locs → ∀ ls : Array Slot, lv_has ls 5 [(4, .int (nI i1)), (3, .int (mX0_cellAt FI RI file rank)), (0, .ref b), (1, .int file), (2, .int rank)] → W p l e ({ frames := 1, cells := 0, slots := 0, locals := 23 } : Room) s m args below meth c H locs 0 0 (MQ below (et_QW g ([(b, .inr (0, [.int FI, .int RI, .int (nI n), .ref q1, .ref q2, .long al, .long ff, .long lf])), (q1, .inl (gI g, n, .inl sqf)), (q2, .inl (gI g, 16 * n, .inl stf))]) ([(b, .inr (0, [.int FI, .int RI, .int (nI n), .ref q1, .ref q2, .long al, .long ff, .long lf])), (q1, .inl (gI g, n, .inl ((mX0_layCell FI RI n sqf stf file rank).1))), (q2, .inl (gI g, 16 * n, .inl ((mX0_layCell FI RI n sqf stf file rank).2)))]) none) args s 0 0 (et_ad ([(b, .inr (0, [.int FI, .int RI, .int (nI n), .ref q1, .ref q2, .long al, .long ff, .long lf])), (q1, .inl (gI g, n, .inl sqf)), (q2, .inl (gI g, 16 * n, .inl stf))]))) (F0 m 35 ls []) := by
        intro k1
        induction k1 with
        | zero =>
          intro i1 stf1 hik  hm H locs hP hD hS ls hl
          refine lv_iload hx hb dX0_layCell_35 (lv_at hl 0 rfl) ?_
          refine lv_bipush (v := (16 : Int32)) hx hb dX0_layCell_37 (by decide) ?_
          refine lv_icmp_ge (tgt := 82) hx hb dX0_layCell_39 (by decide) (fun c_3 => ?_) (fun c_3 => ?_)
          rotate_left
          · exact absurd (et_le (a := 16) (b := i1) (by omega) (by omega)) c_3
          have hq1 : stf1 = (mX0_layCell_L1 FI RI n file rank 16 0 stf) := (by rw [mX0_layCell_L1] : mX0_layCell_L1 FI RI n file rank 0 i1 stf1 = stf1).symm.trans hm
          exact hx1 _ _ (by rw [← hq1]; exact hP) (by rw [← hq1]; exact hD) hS ls (lv_sub hl [1, 2, 3, 4] rfl)
        | succ k1 ih1 =>
          intro i1 stf1 hik  hm H locs hP hD hS ls hl
          refine lv_iload hx hb dX0_layCell_35 (lv_at hl 0 rfl) ?_
          refine lv_bipush (v := (16 : Int32)) hx hb dX0_layCell_37 (by decide) ?_
          refine lv_icmp_ge (tgt := 82) hx hb dX0_layCell_39 (by decide) (fun c_4 => ?_) (fun c_4 => ?_)
          · exact absurd c_4 (et_ge (a := i1) (b := 16) (by omega) (by omega))
          refine lv_aload_n hx hb dX0_layCell_42 rfl (lv_at hl 2 rfl) ?_
          refine va_get (D := gD g) (ci := 0) (v := .ref q2) (C := RX0) (T := TX0) (N := 8) hx hb hts inW_X0 hown hC.1 hP 0 rfl rfl 4 (by decide) (hts _ w_133) (fun _ h9 => h9) rfl dX0_layCell_43 ?_
          refine lv_iload hx hb dX0_layCell_46 (lv_at hl 0 rfl) ?_
          refine lv_aload_n hx hb dX0_layCell_48 rfl (lv_at hl 2 rfl) ?_
          refine va_get (D := gD g) (ci := 0) (v := .int (nI n)) (C := RX0) (T := TX0) (N := 8) hx hb hts inW_X0 hown hC.1 hP 0 rfl rfl 2 (by decide) (hts _ w_130) (fun _ h9 => h9) rfl dX0_layCell_49 ?_
          refine lv_imul hx hb dX0_layCell_52 ?_
          refine lv_iload_n hx hb dX0_layCell_53 rfl (lv_at hl 1 rfl) ?_
          refine lv_iadd hx hb dX0_layCell_54 ?_
          refine lv_aload_n hx hb dX0_layCell_55 rfl (lv_at hl 2 rfl) ?_
          refine lv_iload_n hx hb dX0_layCell_56 rfl (lv_at hl 3 rfl) ?_
          refine va_gets hx hb hX.1 hS hown (hts _ w_118) (fun _ h9 => h9) dX0_layCell_57 ?_
          refine lv_iload hx hb dX0_layCell_60 (lv_at hl 0 rfl) ?_
          refine va_ti (f := fun j => .int (et_fs j)) hx hb hX.2.1 hS (vp_in_nI (by omega) (by omega)) (v := .int (et_fs (nI i1).toNatClampNeg)) rfl dX0_layCell_62 ?_
          refine lv_iadd hx hb dX0_layCell_63 ?_
          refine lv_iload_n hx hb dX0_layCell_64 rfl (lv_at hl 4 rfl) ?_
          refine va_gets hx hb hX.2.2.1 hS hown (hts _ w_120) (fun _ h9 => h9) dX0_layCell_65 ?_
          refine lv_iload hx hb dX0_layCell_68 (lv_at hl 0 rfl) ?_
          refine va_ti (f := fun j => .int (et_rs j)) hx hb hX.2.2.2 hS (vp_in_nI (by omega) (by omega)) (v := .int (et_rs (nI i1).toNatClampNeg)) rfl dX0_layCell_70 ?_
          refine lv_iadd hx hb dX0_layCell_71 ?_
          refine et_callP1 (v := .int (mX0_cellAt FI RI (file + (et_fs (nI i1).toNatClampNeg)) (rank + (et_rs (nI i1).toNatClampNeg)))) (va_runV (As := [.int (file + (et_fs (nI i1).toNatClampNeg)), .int (rank + (et_rs (nI i1).toNatClampNeg))]) (rest := [.int (((nI i1) * (nI n)) + (mX0_cellAt FI RI file rank)), .ref q2]) ⟨hx, hb, hml, hown, hts⟩ (c_X0_cellAt l g b q1 q2 FI RI n al ff lf (upd sqf (mX0_cellAt FI RI file rank).toNatClampNeg (file + ((8 : Int32) * rank))) stf1 (file + (et_fs (nI i1).toNatClampNeg)) (rank + (et_rs (nI i1).toNatClampNeg))) (cwV 2 hts (W0_gV w_114 w_116 w_1 w_77 w_117) rfl rfl rfl (by decide +kernel) ⟨Nat.le_of_ble_eq_true rfl, Nat.le_of_ble_eq_true rfl⟩) (et_preV hP hC [0, 1, 2] rfl (ci := 0) (q0 := 0) rfl rfl) rfl rfl hl.1 rfl (lv_room (Nat.le_of_ble_eq_true rfl)) dX0_layCell_72 ⟨Nat.le_of_ble_eq_true rfl, Nat.le_of_ble_eq_true rfl⟩) ?_
          refine va_iast (D := gD g) hx hb hC.1 hP hD hS 2 0 rfl rfl (et_lay_in hn (by assumption) (by assumption) (by omega)) dX0_layCell_75 (fun H locs hP hD hS => ?_)
          have hP : va_P (gD g) vwCl ([(b, .inr (0, [.int FI, .int RI, .int (nI n), .ref q1, .ref q2, .long al, .long ff, .long lf])), (q1, .inl (gI g, n, .inl (upd sqf (mX0_cellAt FI RI file rank).toNatClampNeg (file + ((8 : Int32) * rank))))), (q2, .inl (gI g, 16 * n, .inl (upd stf1 (((nI i1) * (nI n)) + (mX0_cellAt FI RI file rank)).toNatClampNeg (mX0_cellAt FI RI (file + (et_fs (nI i1).toNatClampNeg)) (rank + (et_rs (nI i1).toNatClampNeg))))))]) H := hP
          have hD : va_D (et_ad ([(b, .inr (0, [.int FI, .int RI, .int (nI n), .ref q1, .ref q2, .long al, .long ff, .long lf])), (q1, .inl (gI g, n, .inl sqf)), (q2, .inl (gI g, 16 * n, .inl stf))])) ([(b, .inr (0, [.int FI, .int RI, .int (nI n), .ref q1, .ref q2, .long al, .long ff, .long lf])), (q1, .inl (gI g, n, .inl (upd sqf (mX0_cellAt FI RI file rank).toNatClampNeg (file + ((8 : Int32) * rank))))), (q2, .inl (gI g, 16 * n, .inl (upd stf1 (((nI i1) * (nI n)) + (mX0_cellAt FI RI file rank)).toNatClampNeg (mX0_cellAt FI RI (file + (et_fs (nI i1).toNatClampNeg)) (rank + (et_rs (nI i1).toNatClampNeg))))))]) := hD
          refine lv_iinc (v := nI (i1 + 1)) (lv' := [(4, .int (nI (i1 + 1))), (3, .int (mX0_cellAt FI RI file rank)), (0, .ref b), (1, .int file), (2, .int rank)]) hx hb dX0_layCell_76 hl (k := 0) rfl (et_inc i1) (by decide) rfl (fun ls hl => ?_)
          refine lv_goto (tgt := 35) hx hb dX0_layCell_79 (by decide) ?_
          exact ih1 (i1 + 1) (upd stf1 (((nI i1) * (nI n)) + (mX0_cellAt FI RI file rank)).toNatClampNeg (mX0_cellAt FI RI (file + (et_fs (nI i1).toNatClampNeg)) (rank + (et_rs (nI i1).toNatClampNeg)))) (by omega) ((by rw [mX0_layCell_L1] : mX0_layCell_L1 FI RI n file rank (k1 + 1) i1 stf1 = mX0_layCell_L1 FI RI n file rank k1 (i1 + 1) (upd stf1 (((nI i1) * (nI n)) + (mX0_cellAt FI RI file rank)).toNatClampNeg (mX0_cellAt FI RI (file + (et_fs (nI i1).toNatClampNeg)) (rank + (et_rs (nI i1).toNatClampNeg))))).symm.trans hm) _ _ hP hD hS ls (lv_sub hl [0, 1, 2, 3, 4] rfl)
      exact hL1 16 0 stf (by omega) rfl _ _ hP hD hS ls (lv_sub hl [0, 1, 2, 3, 4] rfl)
    ·
      have hfin : (sqf, stf) = (mX0_layCell FI RI n sqf stf file rank) := (by rw [mX0_layCell, if_neg c_1, if_neg c_2])
      exact et_vretW hx hb hr hlocks dX0_layCell_19 hP hS (by rw [← hfin])

def mX0_init_L2 (files : Int32) (ranks : Int32) (i1 : Nat) : Nat → Nat → (Nat → Int32) → (Nat → Int32) → (Nat → Int32) × (Nat → Int32)
  | 0, i2, sqf2, stf2 =>
    (sqf2, stf2)
  | k2 + 1, i2, sqf2, stf2 =>
    mX0_init_L2 files ranks i1 k2 (i2 + 1) ((mX0_layCell (mX0_fit files) (mX0_fit ranks) (mB_n files ranks) sqf2 stf2 (nI i2) (nI i1)).1) ((mX0_layCell (mX0_fit files) (mX0_fit ranks) (mB_n files ranks) sqf2 stf2 (nI i2) (nI i1)).2)
def mX0_init_L1 (files : Int32) (ranks : Int32) : Nat → Nat → Int64 → (Nat → Int32) → (Nat → Int32) → Int64 × (Nat → Int32) × (Nat → Int32)
  | 0, i1, first1, sqf1, stf1 =>
    (first1, sqf1, stf1)
  | k1 + 1, i1, first1, sqf1, stf1 =>
    mX0_init_L1 files ranks k1 (i1 + 1) (first1 ||| (mX0_bit ((mX0_fit files) * (nI i1)))) ((mX0_init_L2 files ranks i1 ((mX0_fit files).toNatClampNeg) 0 sqf1 stf1).1) ((mX0_init_L2 files ranks i1 ((mX0_fit files).toNatClampNeg) 0 sqf1 stf1).2)
def mX0_init (files : Int32) (ranks : Int32) : Int64 × Int64 × Int64 × (Nat → Int32) × (Nat → Int32) :=
  (((-1 : Int64).toUInt64 >>> (((64 : Int32) - (nI (mB_n files ranks))).toInt64.toUInt64 &&& Int64.toUInt64 63)).toInt64, (mX0_init_L1 files ranks ((mX0_fit ranks).toNatClampNeg) 0 (0 : Int64) (fun _ => 0) (fun _ => 0)).1, ((mX0_init_L1 files ranks ((mX0_fit ranks).toNatClampNeg) 0 (0 : Int64) (fun _ => 0) (fun _ => 0)).1) <<< (((mX0_fit files) - (1 : Int32)).toInt64 &&& 63), (mX0_init_L1 files ranks ((mX0_fit ranks).toNatClampNeg) 0 (0 : Int64) (fun _ => 0) (fun _ => 0)).2.1, (mX0_init_L1 files ranks ((mX0_fit ranks).toNatClampNeg) 0 (0 : Int64) (fun _ => 0) (fun _ => 0)).2.2)
set_option maxHeartbeats 4000000 in
set_option maxRecDepth 100000 in
theorem c_X0_init (l : Launch) (g : et_G) (sz : Nat) (st1 st2 : Nat) (b : Nat) (files : Int32) (ranks : Int32)  : Met l yX0_init (Cond.code yX0_init cX0_init 7 none :: W0) ({ frames := 2, cells := 2, slots := 1088, locals := 47 } : Room) (et_PcN g sz ([(b, .inr (0, [.int 0, .int 0, .int 0, .null, .null, .long 0, .long 0, .long 0]))]) [.ref b, .int files, .int ranks] (et_ST st1 st2 (va_A ([(b, .inr (0, [.int 0, .int 0, .int 0, .null, .null, .long 0, .long 0, .long 0]))]) sz))) (et_QN g (va_A ([(b, .inr (0, [.int 0, .int 0, .int 0, .null, .null, .long 0, .long 0, .long 0]))]) sz) (fun w : va_W => ∃ q1 q2 : Nat, w = [(b, .inr (0, [.int (mX0_fit files), .int (mX0_fit ranks), .int (nI (mB_n files ranks)), .ref q1, .ref q2, .long ((mX0_init files ranks).1), .long ((mX0_init files ranks).2.1), .long ((mX0_init files ranks).2.2.1)])), (q1, .inl (gI g, (mB_n files ranks), .inl ((mX0_init files ranks).2.2.2.1))), (q2, .inl (gI g, 16 * (mB_n files ranks), .inl ((mX0_init files ranks).2.2.2.2)))]) none) 2 1088 (va_A ([(b, .inr (0, [.int 0, .int 0, .int 0, .null, .null, .long 0, .long 0, .long 0]))]) sz) := by
  refine et_startN (by decide) rfl (Nat.le_of_ble_eq_true rfl) ?_
  intro p e s m args below meth c hx hb hr hts0 hown hlocks hml hin hsz hP hC hX hD hS hA ls hl
  subst hsz
  have hts : ∀ w ∈ W0, w.before args s = true := fun w h => hts0 w (List.mem_cons_of_mem _ h)
  have hown : s.vm.findClass RX0 = some m.cls := hown
  have hl : lv_has ls 7 [(0, .ref b), (1, .int files), (2, .int ranks)] := hl
  have hn64 := et_nle files ranks
  have hc1 := et_clx (mX0_fit files)
  have hc2 := et_clx (mX0_fit ranks)
  refine lv_aload_n hx hb dX0_init_0 rfl (lv_at hl 0 rfl) ?_
  refine W.objInit hx hb hown (hts _ w_103) (hts _ w_96) (hts _ w_97) rfl (by rw [hml]; exact hl.1) rfl dX0_init_1 (Nat.le_of_ble_eq_true rfl) (Nat.le_of_ble_eq_true rfl) ?_
  refine W.eq (g2 := F0 m 4 ls []) rfl ?_
  refine lv_aload_n hx hb dX0_init_4 rfl (lv_at hl 0 rfl) ?_
  refine lv_iload_n hx hb dX0_init_5 rfl (lv_at hl 1 rfl) ?_
  refine et_callP1 (v := .int (mX0_fit files)) (va_runS (As := [.int files]) (rest := [.ref b]) ⟨hx, hb, hml, hown, hts⟩ (c_X0_fit l g files) (va_cwS 1 hts (W0_gS w_104 w_105 w_77 w_106) rfl rfl rfl (by decide +kernel) ⟨Nat.le_of_ble_eq_true rfl, Nat.le_of_ble_eq_true rfl⟩) (et_preS hP hC [] rfl) rfl rfl hl.1 rfl (lv_room (Nat.le_of_ble_eq_true rfl)) dX0_init_6 ⟨Nat.le_of_ble_eq_true rfl, Nat.le_of_ble_eq_true rfl⟩) ?_
  refine va_putF (D := gD g) (ci := 0) (v := .int (mX0_fit files)) (ty := .int) (C := RX0) (T := TX0) (N := 8) hx hb hts inW_X0 tyX0 tyX0_ok nmX0 hown hC.1 hP hD hS 0 rfl rfl 0 (by decide) (hts _ w_123) (fun _ h9 => h9) rfl hin rfl (by decide +kernel) rfl rfl (Nat.le_of_ble_eq_true rfl) dX0_init_9 (fun H locs hP hD hS => ?_)
  have hP : va_P (gD g) vwCl ([(b, .inr (0, [.int (mX0_fit files), .int 0, .int 0, .null, .null, .long 0, .long 0, .long 0]))]) H := hP
  have hD : va_D (va_A ([(b, .inr (0, [.int 0, .int 0, .int 0, .null, .null, .long 0, .long 0, .long 0]))]) s.heap.size) ([(b, .inr (0, [.int (mX0_fit files), .int 0, .int 0, .null, .null, .long 0, .long 0, .long 0]))]) := hD
  refine lv_aload_n hx hb dX0_init_12 rfl (lv_at hl 0 rfl) ?_
  refine lv_iload_n hx hb dX0_init_13 rfl (lv_at hl 2 rfl) ?_
  refine et_callP1 (v := .int (mX0_fit ranks)) (va_runS (As := [.int ranks]) (rest := [.ref b]) ⟨hx, hb, hml, hown, hts⟩ (c_X0_fit l g ranks) (va_cwS 1 hts (W0_gS w_104 w_105 w_77 w_106) rfl rfl rfl (by decide +kernel) ⟨Nat.le_of_ble_eq_true rfl, Nat.le_of_ble_eq_true rfl⟩) (et_preS hP hC [] rfl) rfl rfl hl.1 rfl (lv_room (Nat.le_of_ble_eq_true rfl)) dX0_init_14 ⟨Nat.le_of_ble_eq_true rfl, Nat.le_of_ble_eq_true rfl⟩) ?_
  refine va_putF (D := gD g) (ci := 0) (v := .int (mX0_fit ranks)) (ty := .int) (C := RX0) (T := TX0) (N := 8) hx hb hts inW_X0 tyX0 tyX0_ok nmX0 hown hC.1 hP hD hS 0 rfl rfl 1 (by decide) (hts _ w_125) (fun _ h9 => h9) rfl hin rfl (by decide +kernel) rfl rfl (Nat.le_of_ble_eq_true rfl) dX0_init_17 (fun H locs hP hD hS => ?_)
  have hP : va_P (gD g) vwCl ([(b, .inr (0, [.int (mX0_fit files), .int (mX0_fit ranks), .int 0, .null, .null, .long 0, .long 0, .long 0]))]) H := hP
  have hD : va_D (va_A ([(b, .inr (0, [.int 0, .int 0, .int 0, .null, .null, .long 0, .long 0, .long 0]))]) s.heap.size) ([(b, .inr (0, [.int (mX0_fit files), .int (mX0_fit ranks), .int 0, .null, .null, .long 0, .long 0, .long 0]))]) := hD
  refine lv_aload_n hx hb dX0_init_20 rfl (lv_at hl 0 rfl) ?_
  refine lv_aload_n hx hb dX0_init_21 rfl (lv_at hl 0 rfl) ?_
  refine va_get (D := gD g) (ci := 0) (v := .int (mX0_fit files)) (C := RX0) (T := TX0) (N := 8) hx hb hts inW_X0 hown hC.1 hP 0 rfl rfl 0 (by decide) (hts _ w_123) (fun _ h9 => h9) rfl dX0_init_22 ?_
  refine lv_aload_n hx hb dX0_init_25 rfl (lv_at hl 0 rfl) ?_
  refine va_get (D := gD g) (ci := 0) (v := .int (mX0_fit ranks)) (C := RX0) (T := TX0) (N := 8) hx hb hts inW_X0 hown hC.1 hP 0 rfl rfl 1 (by decide) (hts _ w_125) (fun _ h9 => h9) rfl dX0_init_26 ?_
  refine lv_imul hx hb dX0_init_29 ?_
  refine et_stki (show ((mX0_fit files) * (mX0_fit ranks)) = (nI (mB_n files ranks)) from (et_nfit files ranks)) ?_
  refine va_putF (D := gD g) (ci := 0) (v := .int (nI (mB_n files ranks))) (ty := .int) (C := RX0) (T := TX0) (N := 8) hx hb hts inW_X0 tyX0 tyX0_ok nmX0 hown hC.1 hP hD hS 0 rfl rfl 2 (by decide) (hts _ w_130) (fun _ h9 => h9) rfl hin rfl (by decide +kernel) rfl rfl (Nat.le_of_ble_eq_true rfl) dX0_init_30 (fun H locs hP hD hS => ?_)
  have hP : va_P (gD g) vwCl ([(b, .inr (0, [.int (mX0_fit files), .int (mX0_fit ranks), .int (nI (mB_n files ranks)), .null, .null, .long 0, .long 0, .long 0]))]) H := hP
  have hD : va_D (va_A ([(b, .inr (0, [.int 0, .int 0, .int 0, .null, .null, .long 0, .long 0, .long 0]))]) s.heap.size) ([(b, .inr (0, [.int (mX0_fit files), .int (mX0_fit ranks), .int (nI (mB_n files ranks)), .null, .null, .long 0, .long 0, .long 0]))]) := hD
  refine lv_aload_n hx hb dX0_init_33 rfl (lv_at hl 0 rfl) ?_
  refine lv_aload_n hx hb dX0_init_34 rfl (lv_at hl 0 rfl) ?_
  refine va_get (D := gD g) (ci := 0) (v := .int (nI (mB_n files ranks))) (C := RX0) (T := TX0) (N := 8) hx hb hts inW_X0 hown hC.1 hP 0 rfl rfl 2 (by decide) (hts _ w_130) (fun _ h9 => h9) rfl dX0_init_35 ?_
  refine va_newa (atype := .int) hx hb (hts _ w_154) rfl hC.1 hP hD hS hA (N' := (mB_n files ranks)) (a0 := ((mB_n files ranks), .inl (fun _ => 0))) (fun cA => rfl) (nI_pos (by omega)) (nI_clamp (by omega)) (by show (mB_n files ranks) * 4 ≤ 536870912; omega) (Nat.le_of_ble_eq_true rfl) (by show 0 + (mB_n files ranks) ≤ 1088; omega) dX0_init_38 (fun n1 cA H hK2 hP hD hS => ?_)
  obtain rfl : cA = gI g := et_clsI hC hK2
  have hP : va_P (gD g) vwCl ([(b, .inr (0, [.int (mX0_fit files), .int (mX0_fit ranks), .int (nI (mB_n files ranks)), .null, .null, .long 0, .long 0, .long 0])), (n1, .inl (gI g, (mB_n files ranks), .inl (fun _ => 0)))]) H := hP
  have hD : va_D (va_A ([(b, .inr (0, [.int 0, .int 0, .int 0, .null, .null, .long 0, .long 0, .long 0]))]) s.heap.size) ([(b, .inr (0, [.int (mX0_fit files), .int (mX0_fit ranks), .int (nI (mB_n files ranks)), .null, .null, .long 0, .long 0, .long 0])), (n1, .inl (gI g, (mB_n files ranks), .inl (fun _ => 0)))]) := hD
  refine W.widen (k := 1) (n := 64) (by omega) (by omega) ?_
  refine va_putF (D := gD g) (ci := 0) (v := .ref n1) (ty := .array .int) (C := RX0) (T := TX0) (N := 8) hx hb hts inW_X0 tyX0 tyX0_ok nmX0 hown hC.1 hP hD hS 0 rfl rfl 3 (by decide) (hts _ w_132) (fun _ h9 => h9) rfl hin rfl (by decide +kernel) rfl rfl (Nat.le_of_ble_eq_true rfl) dX0_init_40 (fun H locs hP hD hS => ?_)
  have hP : va_P (gD g) vwCl ([(b, .inr (0, [.int (mX0_fit files), .int (mX0_fit ranks), .int (nI (mB_n files ranks)), .ref n1, .null, .long 0, .long 0, .long 0])), (n1, .inl (gI g, (mB_n files ranks), .inl (fun _ => 0)))]) H := hP
  have hD : va_D (va_A ([(b, .inr (0, [.int 0, .int 0, .int 0, .null, .null, .long 0, .long 0, .long 0]))]) s.heap.size) ([(b, .inr (0, [.int (mX0_fit files), .int (mX0_fit ranks), .int (nI (mB_n files ranks)), .ref n1, .null, .long 0, .long 0, .long 0])), (n1, .inl (gI g, (mB_n files ranks), .inl (fun _ => 0)))]) := hD
  refine lv_aload_n hx hb dX0_init_43 rfl (lv_at hl 0 rfl) ?_
  refine lv_bipush (v := (16 : Int32)) hx hb dX0_init_44 (by decide) ?_
  refine lv_aload_n hx hb dX0_init_46 rfl (lv_at hl 0 rfl) ?_
  refine va_get (D := gD g) (ci := 0) (v := .int (nI (mB_n files ranks))) (C := RX0) (T := TX0) (N := 8) hx hb hts inW_X0 hown hC.1 hP 0 rfl rfl 2 (by decide) (hts _ w_130) (fun _ h9 => h9) rfl dX0_init_47 ?_
  refine lv_imul hx hb dX0_init_50 ?_
  refine et_stki (show ((16 : Int32) * (nI (mB_n files ranks))) = (nI (16 * (mB_n files ranks))) from (pk_mul 16 _)) ?_
  refine va_newa (atype := .int) hx hb (hts _ w_154) rfl hC.1 hP hD hS hA (N' := 16 * (mB_n files ranks)) (a0 := (16 * (mB_n files ranks), .inl (fun _ => 0))) (fun cA => rfl) (nI_pos (by omega)) (nI_clamp (by omega)) (by show (16 * (mB_n files ranks)) * 4 ≤ 536870912; omega) (Nat.le_of_ble_eq_true rfl) (by show 64 + (16 * (mB_n files ranks)) ≤ 1088; omega) dX0_init_51 (fun n2 cA H hK2 hP hD hS => ?_)
  obtain rfl : cA = gI g := et_clsI hC hK2
  have hP : va_P (gD g) vwCl ([(b, .inr (0, [.int (mX0_fit files), .int (mX0_fit ranks), .int (nI (mB_n files ranks)), .ref n1, .null, .long 0, .long 0, .long 0])), (n1, .inl (gI g, (mB_n files ranks), .inl (fun _ => 0))), (n2, .inl (gI g, 16 * (mB_n files ranks), .inl (fun _ => 0)))]) H := hP
  have hD : va_D (va_A ([(b, .inr (0, [.int 0, .int 0, .int 0, .null, .null, .long 0, .long 0, .long 0]))]) s.heap.size) ([(b, .inr (0, [.int (mX0_fit files), .int (mX0_fit ranks), .int (nI (mB_n files ranks)), .ref n1, .null, .long 0, .long 0, .long 0])), (n1, .inl (gI g, (mB_n files ranks), .inl (fun _ => 0))), (n2, .inl (gI g, 16 * (mB_n files ranks), .inl (fun _ => 0)))]) := hD
  refine W.widen (k := 2) (n := 1088) (by omega) (by omega) ?_
  refine va_putF (D := gD g) (ci := 0) (v := .ref n2) (ty := .array .int) (C := RX0) (T := TX0) (N := 8) hx hb hts inW_X0 tyX0 tyX0_ok nmX0 hown hC.1 hP hD hS 0 rfl rfl 4 (by decide) (hts _ w_133) (fun _ h9 => h9) rfl hin rfl (by decide +kernel) rfl rfl (Nat.le_of_ble_eq_true rfl) dX0_init_53 (fun H locs hP hD hS => ?_)
  have hP : va_P (gD g) vwCl ([(b, .inr (0, [.int (mX0_fit files), .int (mX0_fit ranks), .int (nI (mB_n files ranks)), .ref n1, .ref n2, .long 0, .long 0, .long 0])), (n1, .inl (gI g, (mB_n files ranks), .inl (fun _ => 0))), (n2, .inl (gI g, 16 * (mB_n files ranks), .inl (fun _ => 0)))]) H := hP
  have hD : va_D (va_A ([(b, .inr (0, [.int 0, .int 0, .int 0, .null, .null, .long 0, .long 0, .long 0]))]) s.heap.size) ([(b, .inr (0, [.int (mX0_fit files), .int (mX0_fit ranks), .int (nI (mB_n files ranks)), .ref n1, .ref n2, .long 0, .long 0, .long 0])), (n1, .inl (gI g, (mB_n files ranks), .inl (fun _ => 0))), (n2, .inl (gI g, 16 * (mB_n files ranks), .inl (fun _ => 0)))]) := hD
  have hP : va_P (gD g) vwCl ([(b, .inr (0, [.int (mX0_fit files), .int (mX0_fit ranks), .int (nI (mB_n files ranks)), .ref n1, .ref n2, .long (0 : Int64), .long (0 : Int64), .long (0 : Int64)])), (n1, .inl (gI g, (mB_n files ranks), .inl (fun _ => 0))), (n2, .inl (gI g, 16 * (mB_n files ranks), .inl (fun _ => 0)))]) H := hP
  have hD : va_D (va_A ([(b, .inr (0, [.int 0, .int 0, .int 0, .null, .null, .long 0, .long 0, .long 0]))]) s.heap.size) ([(b, .inr (0, [.int (mX0_fit files), .int (mX0_fit ranks), .int (nI (mB_n files ranks)), .ref n1, .ref n2, .long (0 : Int64), .long (0 : Int64), .long (0 : Int64)])), (n1, .inl (gI g, (mB_n files ranks), .inl (fun _ => 0))), (n2, .inl (gI g, 16 * (mB_n files ranks), .inl (fun _ => 0)))]) := hD
  refine lv_lconst (v := (0 : Int64)) hx hb dX0_init_56 rfl ?_
  refine lv_lstore_n (lv' := [(3, .long (0 : Int64)), (0, .ref b), (1, .int files), (2, .int ranks)]) hx hb dX0_init_57 rfl hl (by decide) rfl (fun ls hl => ?_)
  refine lv_iconst (v := (0 : Int32)) hx hb dX0_init_58 (by decide) ?_
  refine lv_istore (lv' := [(5, .int (0 : Int32)), (3, .long (0 : Int64)), (0, .ref b), (1, .int files), (2, .int ranks)]) hx hb dX0_init_59 hl (by decide) rfl (fun ls hl => ?_)
  have hx1 : ∀ (H : Heap) (locs : List Loc), va_P (gD g) vwCl ([(b, .inr (0, [.int (mX0_fit files), .int (mX0_fit ranks), .int (nI (mB_n files ranks)), .ref n1, .ref n2, .long (0 : Int64), .long (0 : Int64), .long (0 : Int64)])), (n1, .inl (gI g, (mB_n files ranks), .inl ((mX0_init_L1 files ranks ((mX0_fit ranks).toNatClampNeg) 0 (0 : Int64) (fun _ => 0) (fun _ => 0)).2.1))), (n2, .inl (gI g, 16 * (mB_n files ranks), .inl ((mX0_init_L1 files ranks ((mX0_fit ranks).toNatClampNeg) 0 (0 : Int64) (fun _ => 0) (fun _ => 0)).2.2)))]) H → va_D (va_A ([(b, .inr (0, [.int 0, .int 0, .int 0, .null, .null, .long 0, .long 0, .long 0]))]) s.heap.size) ([(b, .inr (0, [.int (mX0_fit files), .int (mX0_fit ranks), .int (nI (mB_n files ranks)), .ref n1, .ref n2, .long (0 : Int64), .long (0 : Int64), .long (0 : Int64)])), (n1, .inl (gI g, (mB_n files ranks), .inl ((mX0_init_L1 files ranks ((mX0_fit ranks).toNatClampNeg) 0 (0 : Int64) (fun _ => 0) (fun _ => 0)).2.1))), (n2, .inl (gI g, 16 * (mB_n files ranks), .inl ((mX0_init_L1 files ranks ((mX0_fit ranks).toNatClampNeg) 0 (0 : Int64) (fun _ => 0) (fun _ => 0)).2.2)))]) → va_S (va_A ([(b, .inr (0, [.int 0, .int 0, .int 0, .null, .null, .long 0, .long 0, .long 0]))]) s.heap.size) s.heap H locs → ∀ ls : Array Slot, lv_has ls 7 [(3, .long ((mX0_init_L1 files ranks ((mX0_fit ranks).toNatClampNeg) 0 (0 : Int64) (fun _ => 0) (fun _ => 0)).1)), (0, .ref b), (1, .int files), (2, .int ranks)] → W p l e ({ frames := 2, cells := 2, slots := 1088, locals := 47 } : Room) s m args below meth c H locs 2 1088 (MQ below (et_QN g (va_A ([(b, .inr (0, [.int 0, .int 0, .int 0, .null, .null, .long 0, .long 0, .long 0]))]) s.heap.size) (fun w : va_W => ∃ q1 q2 : Nat, w = [(b, .inr (0, [.int (mX0_fit files), .int (mX0_fit ranks), .int (nI (mB_n files ranks)), .ref q1, .ref q2, .long ((mX0_init files ranks).1), .long ((mX0_init files ranks).2.1), .long ((mX0_init files ranks).2.2.1)])), (q1, .inl (gI g, (mB_n files ranks), .inl ((mX0_init files ranks).2.2.2.1))), (q2, .inl (gI g, 16 * (mB_n files ranks), .inl ((mX0_init files ranks).2.2.2.2)))]) none) args s 2 1088 (va_A ([(b, .inr (0, [.int 0, .int 0, .int 0, .null, .null, .long 0, .long 0, .long 0]))]) s.heap.size)) (F0 m 115 ls []) := by
    intro H locs hP hD hS ls hl
    refine lv_aload_n hx hb dX0_init_115 rfl (lv_at hl 1 rfl) ?_
    refine lv_ldc2 hx hb hown (hts _ w_122) dX0_init_116 ?_
    refine lv_bipush (v := (64 : Int32)) hx hb dX0_init_119 (by decide) ?_
    refine lv_aload_n hx hb dX0_init_121 rfl (lv_at hl 1 rfl) ?_
    refine va_get (D := gD g) (ci := 0) (v := .int (nI (mB_n files ranks))) (C := RX0) (T := TX0) (N := 8) hx hb hts inW_X0 hown hC.1 hP 0 rfl rfl 2 (by decide) (hts _ w_130) (fun _ h9 => h9) rfl dX0_init_122 ?_
    refine lv_isub hx hb dX0_init_125 ?_
    refine lv_lushr (v := ((-1 : Int64).toUInt64 >>> (((64 : Int32) - (nI (mB_n files ranks))).toInt64.toUInt64 &&& Int64.toUInt64 63)).toInt64) hx hb dX0_init_126 rfl ?_
    refine va_putF (D := gD g) (ci := 0) (v := .long (((-1 : Int64).toUInt64 >>> (((64 : Int32) - (nI (mB_n files ranks))).toInt64.toUInt64 &&& Int64.toUInt64 63)).toInt64)) (ty := .long) (C := RX0) (T := TX0) (N := 8) hx hb hts inW_X0 tyX0 tyX0_ok nmX0 hown hC.1 hP hD hS 0 rfl rfl 5 (by decide) (hts _ w_134) (fun _ h9 => h9) rfl hin rfl (by decide +kernel) rfl rfl (Nat.le_of_ble_eq_true rfl) dX0_init_127 (fun H locs hP hD hS => ?_)
    have hP : va_P (gD g) vwCl ([(b, .inr (0, [.int (mX0_fit files), .int (mX0_fit ranks), .int (nI (mB_n files ranks)), .ref n1, .ref n2, .long (((-1 : Int64).toUInt64 >>> (((64 : Int32) - (nI (mB_n files ranks))).toInt64.toUInt64 &&& Int64.toUInt64 63)).toInt64), .long (0 : Int64), .long (0 : Int64)])), (n1, .inl (gI g, (mB_n files ranks), .inl ((mX0_init_L1 files ranks ((mX0_fit ranks).toNatClampNeg) 0 (0 : Int64) (fun _ => 0) (fun _ => 0)).2.1))), (n2, .inl (gI g, 16 * (mB_n files ranks), .inl ((mX0_init_L1 files ranks ((mX0_fit ranks).toNatClampNeg) 0 (0 : Int64) (fun _ => 0) (fun _ => 0)).2.2)))]) H := hP
    have hD : va_D (va_A ([(b, .inr (0, [.int 0, .int 0, .int 0, .null, .null, .long 0, .long 0, .long 0]))]) s.heap.size) ([(b, .inr (0, [.int (mX0_fit files), .int (mX0_fit ranks), .int (nI (mB_n files ranks)), .ref n1, .ref n2, .long (((-1 : Int64).toUInt64 >>> (((64 : Int32) - (nI (mB_n files ranks))).toInt64.toUInt64 &&& Int64.toUInt64 63)).toInt64), .long (0 : Int64), .long (0 : Int64)])), (n1, .inl (gI g, (mB_n files ranks), .inl ((mX0_init_L1 files ranks ((mX0_fit ranks).toNatClampNeg) 0 (0 : Int64) (fun _ => 0) (fun _ => 0)).2.1))), (n2, .inl (gI g, 16 * (mB_n files ranks), .inl ((mX0_init_L1 files ranks ((mX0_fit ranks).toNatClampNeg) 0 (0 : Int64) (fun _ => 0) (fun _ => 0)).2.2)))]) := hD
    refine lv_aload_n hx hb dX0_init_130 rfl (lv_at hl 1 rfl) ?_
    refine lv_lload_n hx hb dX0_init_131 rfl (lv_at hl 0 rfl) ?_
    refine va_putF (D := gD g) (ci := 0) (v := .long ((mX0_init_L1 files ranks ((mX0_fit ranks).toNatClampNeg) 0 (0 : Int64) (fun _ => 0) (fun _ => 0)).1)) (ty := .long) (C := RX0) (T := TX0) (N := 8) hx hb hts inW_X0 tyX0 tyX0_ok nmX0 hown hC.1 hP hD hS 0 rfl rfl 6 (by decide) (hts _ w_135) (fun _ h9 => h9) rfl hin rfl (by decide +kernel) rfl rfl (Nat.le_of_ble_eq_true rfl) dX0_init_132 (fun H locs hP hD hS => ?_)
    have hP : va_P (gD g) vwCl ([(b, .inr (0, [.int (mX0_fit files), .int (mX0_fit ranks), .int (nI (mB_n files ranks)), .ref n1, .ref n2, .long (((-1 : Int64).toUInt64 >>> (((64 : Int32) - (nI (mB_n files ranks))).toInt64.toUInt64 &&& Int64.toUInt64 63)).toInt64), .long ((mX0_init_L1 files ranks ((mX0_fit ranks).toNatClampNeg) 0 (0 : Int64) (fun _ => 0) (fun _ => 0)).1), .long (0 : Int64)])), (n1, .inl (gI g, (mB_n files ranks), .inl ((mX0_init_L1 files ranks ((mX0_fit ranks).toNatClampNeg) 0 (0 : Int64) (fun _ => 0) (fun _ => 0)).2.1))), (n2, .inl (gI g, 16 * (mB_n files ranks), .inl ((mX0_init_L1 files ranks ((mX0_fit ranks).toNatClampNeg) 0 (0 : Int64) (fun _ => 0) (fun _ => 0)).2.2)))]) H := hP
    have hD : va_D (va_A ([(b, .inr (0, [.int 0, .int 0, .int 0, .null, .null, .long 0, .long 0, .long 0]))]) s.heap.size) ([(b, .inr (0, [.int (mX0_fit files), .int (mX0_fit ranks), .int (nI (mB_n files ranks)), .ref n1, .ref n2, .long (((-1 : Int64).toUInt64 >>> (((64 : Int32) - (nI (mB_n files ranks))).toInt64.toUInt64 &&& Int64.toUInt64 63)).toInt64), .long ((mX0_init_L1 files ranks ((mX0_fit ranks).toNatClampNeg) 0 (0 : Int64) (fun _ => 0) (fun _ => 0)).1), .long (0 : Int64)])), (n1, .inl (gI g, (mB_n files ranks), .inl ((mX0_init_L1 files ranks ((mX0_fit ranks).toNatClampNeg) 0 (0 : Int64) (fun _ => 0) (fun _ => 0)).2.1))), (n2, .inl (gI g, 16 * (mB_n files ranks), .inl ((mX0_init_L1 files ranks ((mX0_fit ranks).toNatClampNeg) 0 (0 : Int64) (fun _ => 0) (fun _ => 0)).2.2)))]) := hD
    refine lv_aload_n hx hb dX0_init_135 rfl (lv_at hl 1 rfl) ?_
    refine lv_lload_n hx hb dX0_init_136 rfl (lv_at hl 0 rfl) ?_
    refine lv_aload_n hx hb dX0_init_137 rfl (lv_at hl 1 rfl) ?_
    refine va_get (D := gD g) (ci := 0) (v := .int (mX0_fit files)) (C := RX0) (T := TX0) (N := 8) hx hb hts inW_X0 hown hC.1 hP 0 rfl rfl 0 (by decide) (hts _ w_123) (fun _ h9 => h9) rfl dX0_init_138 ?_
    refine lv_iconst (v := (1 : Int32)) hx hb dX0_init_141 (by decide) ?_
    refine lv_isub hx hb dX0_init_142 ?_
    refine lv_lshl (v := ((mX0_init_L1 files ranks ((mX0_fit ranks).toNatClampNeg) 0 (0 : Int64) (fun _ => 0) (fun _ => 0)).1) <<< (((mX0_fit files) - (1 : Int32)).toInt64 &&& 63)) hx hb dX0_init_143 rfl ?_
    refine va_putF (D := gD g) (ci := 0) (v := .long (((mX0_init_L1 files ranks ((mX0_fit ranks).toNatClampNeg) 0 (0 : Int64) (fun _ => 0) (fun _ => 0)).1) <<< (((mX0_fit files) - (1 : Int32)).toInt64 &&& 63))) (ty := .long) (C := RX0) (T := TX0) (N := 8) hx hb hts inW_X0 tyX0 tyX0_ok nmX0 hown hC.1 hP hD hS 0 rfl rfl 7 (by decide) (hts _ w_136) (fun _ h9 => h9) rfl hin rfl (by decide +kernel) rfl rfl (Nat.le_of_ble_eq_true rfl) dX0_init_144 (fun H locs hP hD hS => ?_)
    have hP : va_P (gD g) vwCl ([(b, .inr (0, [.int (mX0_fit files), .int (mX0_fit ranks), .int (nI (mB_n files ranks)), .ref n1, .ref n2, .long (((-1 : Int64).toUInt64 >>> (((64 : Int32) - (nI (mB_n files ranks))).toInt64.toUInt64 &&& Int64.toUInt64 63)).toInt64), .long ((mX0_init_L1 files ranks ((mX0_fit ranks).toNatClampNeg) 0 (0 : Int64) (fun _ => 0) (fun _ => 0)).1), .long (((mX0_init_L1 files ranks ((mX0_fit ranks).toNatClampNeg) 0 (0 : Int64) (fun _ => 0) (fun _ => 0)).1) <<< (((mX0_fit files) - (1 : Int32)).toInt64 &&& 63))])), (n1, .inl (gI g, (mB_n files ranks), .inl ((mX0_init_L1 files ranks ((mX0_fit ranks).toNatClampNeg) 0 (0 : Int64) (fun _ => 0) (fun _ => 0)).2.1))), (n2, .inl (gI g, 16 * (mB_n files ranks), .inl ((mX0_init_L1 files ranks ((mX0_fit ranks).toNatClampNeg) 0 (0 : Int64) (fun _ => 0) (fun _ => 0)).2.2)))]) H := hP
    have hD : va_D (va_A ([(b, .inr (0, [.int 0, .int 0, .int 0, .null, .null, .long 0, .long 0, .long 0]))]) s.heap.size) ([(b, .inr (0, [.int (mX0_fit files), .int (mX0_fit ranks), .int (nI (mB_n files ranks)), .ref n1, .ref n2, .long (((-1 : Int64).toUInt64 >>> (((64 : Int32) - (nI (mB_n files ranks))).toInt64.toUInt64 &&& Int64.toUInt64 63)).toInt64), .long ((mX0_init_L1 files ranks ((mX0_fit ranks).toNatClampNeg) 0 (0 : Int64) (fun _ => 0) (fun _ => 0)).1), .long (((mX0_init_L1 files ranks ((mX0_fit ranks).toNatClampNeg) 0 (0 : Int64) (fun _ => 0) (fun _ => 0)).1) <<< (((mX0_fit files) - (1 : Int32)).toInt64 &&& 63))])), (n1, .inl (gI g, (mB_n files ranks), .inl ((mX0_init_L1 files ranks ((mX0_fit ranks).toNatClampNeg) 0 (0 : Int64) (fun _ => 0) (fun _ => 0)).2.1))), (n2, .inl (gI g, 16 * (mB_n files ranks), .inl ((mX0_init_L1 files ranks ((mX0_fit ranks).toNatClampNeg) 0 (0 : Int64) (fun _ => 0) (fun _ => 0)).2.2)))]) := hD
    have hfin : (((-1 : Int64).toUInt64 >>> (((64 : Int32) - (nI (mB_n files ranks))).toInt64.toUInt64 &&& Int64.toUInt64 63)).toInt64, (mX0_init_L1 files ranks ((mX0_fit ranks).toNatClampNeg) 0 (0 : Int64) (fun _ => 0) (fun _ => 0)).1, ((mX0_init_L1 files ranks ((mX0_fit ranks).toNatClampNeg) 0 (0 : Int64) (fun _ => 0) (fun _ => 0)).1) <<< (((mX0_fit files) - (1 : Int32)).toInt64 &&& 63), (mX0_init_L1 files ranks ((mX0_fit ranks).toNatClampNeg) 0 (0 : Int64) (fun _ => 0) (fun _ => 0)).2.1, (mX0_init_L1 files ranks ((mX0_fit ranks).toNatClampNeg) 0 (0 : Int64) (fun _ => 0) (fun _ => 0)).2.2) = (mX0_init files ranks) := (by rw [mX0_init])
    have hP9 := hP.sub (ws' := [(b, .inr (0, [.int (mX0_fit files), .int (mX0_fit ranks), .int (nI (mB_n files ranks)), .ref n1, .ref n2, .long (((-1 : Int64).toUInt64 >>> (((64 : Int32) - (nI (mB_n files ranks))).toInt64.toUInt64 &&& Int64.toUInt64 63)).toInt64), .long ((mX0_init_L1 files ranks ((mX0_fit ranks).toNatClampNeg) 0 (0 : Int64) (fun _ => 0) (fun _ => 0)).1), .long (((mX0_init_L1 files ranks ((mX0_fit ranks).toNatClampNeg) 0 (0 : Int64) (fun _ => 0) (fun _ => 0)).1) <<< (((mX0_fit files) - (1 : Int32)).toInt64 &&& 63))])), (n1, .inl (gI g, (mB_n files ranks), .inl ((mX0_init_L1 files ranks ((mX0_fit ranks).toNatClampNeg) 0 (0 : Int64) (fun _ => 0) (fun _ => 0)).2.1))), (n2, .inl (gI g, 16 * (mB_n files ranks), .inl ((mX0_init_L1 files ranks ((mX0_fit ranks).toNatClampNeg) 0 (0 : Int64) (fun _ => 0) (fun _ => 0)).2.2)))]) [0, 1, 2] rfl
    have hD9 := hD.sub (ws' := [(b, .inr (0, [.int (mX0_fit files), .int (mX0_fit ranks), .int (nI (mB_n files ranks)), .ref n1, .ref n2, .long (((-1 : Int64).toUInt64 >>> (((64 : Int32) - (nI (mB_n files ranks))).toInt64.toUInt64 &&& Int64.toUInt64 63)).toInt64), .long ((mX0_init_L1 files ranks ((mX0_fit ranks).toNatClampNeg) 0 (0 : Int64) (fun _ => 0) (fun _ => 0)).1), .long (((mX0_init_L1 files ranks ((mX0_fit ranks).toNatClampNeg) 0 (0 : Int64) (fun _ => 0) (fun _ => 0)).1) <<< (((mX0_fit files) - (1 : Int32)).toInt64 &&& 63))])), (n1, .inl (gI g, (mB_n files ranks), .inl ((mX0_init_L1 files ranks ((mX0_fit ranks).toNatClampNeg) 0 (0 : Int64) (fun _ => 0) (fun _ => 0)).2.1))), (n2, .inl (gI g, 16 * (mB_n files ranks), .inl ((mX0_init_L1 files ranks ((mX0_fit ranks).toNatClampNeg) 0 (0 : Int64) (fun _ => 0) (fun _ => 0)).2.2)))]) [0, 1, 2] (by decide) rfl
    exact W.vret hx hb hr (fun t ht hW => ⟨rfl, ⟨_, ⟨n1, n2, by rw [← hfin]⟩, by rw [ht]; exact hP9, hD9⟩, hS.F ht⟩) hS.2.2 dX0_init_147 hlocks
  have hL1 : ∀ (k1 i1 : Nat) (first1 : Int64) (sqf1 : Nat → Int32) (stf1 : Nat → Int32), i1 + k1 = (mX0_fit ranks).toNatClampNeg → mX0_init_L1 files ranks k1 i1 first1 sqf1 stf1 = (mX0_init_L1 files ranks ((mX0_fit ranks).toNatClampNeg) 0 (0 : Int64) (fun _ => 0) (fun _ => 0)) → ∀ (H : Heap) (locs : List Loc), va_P (gD g) vwCl ([(b, .inr (0, [.int (mX0_fit files), .int (mX0_fit ranks), .int (nI (mB_n files ranks)), .ref n1, .ref n2, .long (0 : Int64), .long (0 : Int64), .long (0 : Int64)])), (n1, .inl (gI g, (mB_n files ranks), .inl sqf1)), (n2, .inl (gI g, 16 * (mB_n files ranks), .inl stf1))]) H → va_D (va_A ([(b, .inr (0, [.int 0, .int 0, .int 0, .null, .null, .long 0, .long 0, .long 0]))]) s.heap.size) ([(b, .inr (0, [.int (mX0_fit files), .int (mX0_fit ranks), .int (nI (mB_n files ranks)), .ref n1, .ref n2, .long (0 : Int64), .long (0 : Int64), .long (0 : Int64)])), (n1, .inl (gI g, (mB_n files ranks), .inl sqf1)), (n2, .inl (gI g, 16 * (mB_n files ranks), .inl stf1))]) → va_S (va_A ([(b, .inr (0, [.int 0, .int 0, .int 0, .null, .null, .long 0, .long 0, .long 0]))]) s.heap.size) s.heap H locs → ∀ ls : Array Slot, lv_has ls 7 [(5, .int (nI i1)), (3, .long first1), (0, .ref b), (1, .int files), (2, .int ranks)] → W p l e ({ frames := 2, cells := 2, slots := 1088, locals := 47 } : Room) s m args below meth c H locs 2 1088 (MQ below (et_QN g (va_A ([(b, .inr (0, [.int 0, .int 0, .int 0, .null, .null, .long 0, .long 0, .long 0]))]) s.heap.size) (fun w : va_W => ∃ q1 q2 : Nat, w = [(b, .inr (0, [.int (mX0_fit files), .int (mX0_fit ranks), .int (nI (mB_n files ranks)), .ref q1, .ref q2, .long ((mX0_init files ranks).1), .long ((mX0_init files ranks).2.1), .long ((mX0_init files ranks).2.2.1)])), (q1, .inl (gI g, (mB_n files ranks), .inl ((mX0_init files ranks).2.2.2.1))), (q2, .inl (gI g, 16 * (mB_n files ranks), .inl ((mX0_init files ranks).2.2.2.2)))]) none) args s 2 1088 (va_A ([(b, .inr (0, [.int 0, .int 0, .int 0, .null, .null, .long 0, .long 0, .long 0]))]) s.heap.size)) (F0 m 61 ls []) := by
    intro k1
    induction k1 with
    | zero =>
      intro i1 first1 sqf1 stf1 hik  hm H locs hP hD hS ls hl
      refine lv_iload hx hb dX0_init_61 (lv_at hl 0 rfl) ?_
      refine lv_aload_n hx hb dX0_init_63 rfl (lv_at hl 2 rfl) ?_
      refine va_get (D := gD g) (ci := 0) (v := .int (mX0_fit ranks)) (C := RX0) (T := TX0) (N := 8) hx hb hts inW_X0 hown hC.1 hP 0 rfl rfl 1 (by decide) (hts _ w_125) (fun _ h9 => h9) rfl dX0_init_64 ?_
      refine lv_icmp_ge (tgt := 115) hx hb dX0_init_67 (by decide) (fun c_1 => ?_) (fun c_1 => ?_)
      rotate_left
      · exact absurd (et_clT (by omega)) c_1
      have hq1 : (first1, sqf1, stf1) = (mX0_init_L1 files ranks ((mX0_fit ranks).toNatClampNeg) 0 (0 : Int64) (fun _ => 0) (fun _ => 0)) := (by rw [mX0_init_L1] : mX0_init_L1 files ranks 0 i1 first1 sqf1 stf1 = (first1, sqf1, stf1)).symm.trans hm
      have hq1_0 : first1 = (mX0_init_L1 files ranks ((mX0_fit ranks).toNatClampNeg) 0 (0 : Int64) (fun _ => 0) (fun _ => 0)).1 := congrArg (fun z => z.1) hq1
      have hq1_1 : sqf1 = (mX0_init_L1 files ranks ((mX0_fit ranks).toNatClampNeg) 0 (0 : Int64) (fun _ => 0) (fun _ => 0)).2.1 := congrArg (fun z => z.2.1) hq1
      have hq1_2 : stf1 = (mX0_init_L1 files ranks ((mX0_fit ranks).toNatClampNeg) 0 (0 : Int64) (fun _ => 0) (fun _ => 0)).2.2 := congrArg (fun z => z.2.2) hq1
      exact hx1 _ _ (by rw [← hq1_1, ← hq1_2]; exact hP) (by rw [← hq1_1, ← hq1_2]; exact hD) hS ls (by rw [← hq1_0]; exact lv_sub hl [1, 2, 3, 4] rfl)
    | succ k1 ih1 =>
      intro i1 first1 sqf1 stf1 hik  hm H locs hP hD hS ls hl
      refine lv_iload hx hb dX0_init_61 (lv_at hl 0 rfl) ?_
      refine lv_aload_n hx hb dX0_init_63 rfl (lv_at hl 2 rfl) ?_
      refine va_get (D := gD g) (ci := 0) (v := .int (mX0_fit ranks)) (C := RX0) (T := TX0) (N := 8) hx hb hts inW_X0 hown hC.1 hP 0 rfl rfl 1 (by decide) (hts _ w_125) (fun _ h9 => h9) rfl dX0_init_64 ?_
      refine lv_icmp_ge (tgt := 115) hx hb dX0_init_67 (by decide) (fun c_2 => ?_) (fun c_2 => ?_)
      · exact absurd c_2 (et_clF (by omega))
      refine lv_lload_n hx hb dX0_init_70 rfl (lv_at hl 1 rfl) ?_
      refine lv_aload_n hx hb dX0_init_71 rfl (lv_at hl 2 rfl) ?_
      refine va_get (D := gD g) (ci := 0) (v := .int (mX0_fit files)) (C := RX0) (T := TX0) (N := 8) hx hb hts inW_X0 hown hC.1 hP 0 rfl rfl 0 (by decide) (hts _ w_123) (fun _ h9 => h9) rfl dX0_init_72 ?_
      refine lv_iload hx hb dX0_init_75 (lv_at hl 0 rfl) ?_
      refine lv_imul hx hb dX0_init_77 ?_
      refine et_callP1 (v := .long (mX0_bit ((mX0_fit files) * (nI i1)))) (va_runS (As := [.int ((mX0_fit files) * (nI i1))]) (rest := [.long first1]) ⟨hx, hb, hml, hown, hts⟩ (c_X0_bit l g ((mX0_fit files) * (nI i1))) (va_cwS 1 hts (W0_gS w_107 w_108 w_77 w_109) rfl rfl rfl (by decide +kernel) ⟨Nat.le_of_ble_eq_true rfl, Nat.le_of_ble_eq_true rfl⟩) (et_preS hP hC [] rfl) rfl rfl hl.1 rfl (lv_room (Nat.le_of_ble_eq_true rfl)) dX0_init_78 ⟨Nat.le_of_ble_eq_true rfl, Nat.le_of_ble_eq_true rfl⟩) ?_
      refine lv_lor hx hb dX0_init_81 ?_
      refine lv_lstore_n (lv' := [(3, .long (first1 ||| (mX0_bit ((mX0_fit files) * (nI i1))))), (5, .int (nI i1)), (0, .ref b), (1, .int files), (2, .int ranks)]) hx hb dX0_init_82 rfl hl (by decide) rfl (fun ls hl => ?_)
      refine lv_iconst (v := (0 : Int32)) hx hb dX0_init_83 (by decide) ?_
      refine lv_istore (lv' := [(6, .int (0 : Int32)), (3, .long (first1 ||| (mX0_bit ((mX0_fit files) * (nI i1))))), (5, .int (nI i1)), (0, .ref b), (1, .int files), (2, .int ranks)]) hx hb dX0_init_84 hl (by decide) rfl (fun ls hl => ?_)
      have hx2 : ∀ (H : Heap) (locs : List Loc), va_P (gD g) vwCl ([(b, .inr (0, [.int (mX0_fit files), .int (mX0_fit ranks), .int (nI (mB_n files ranks)), .ref n1, .ref n2, .long (0 : Int64), .long (0 : Int64), .long (0 : Int64)])), (n1, .inl (gI g, (mB_n files ranks), .inl ((mX0_init_L2 files ranks i1 ((mX0_fit files).toNatClampNeg) 0 sqf1 stf1).1))), (n2, .inl (gI g, 16 * (mB_n files ranks), .inl ((mX0_init_L2 files ranks i1 ((mX0_fit files).toNatClampNeg) 0 sqf1 stf1).2)))]) H → va_D (va_A ([(b, .inr (0, [.int 0, .int 0, .int 0, .null, .null, .long 0, .long 0, .long 0]))]) s.heap.size) ([(b, .inr (0, [.int (mX0_fit files), .int (mX0_fit ranks), .int (nI (mB_n files ranks)), .ref n1, .ref n2, .long (0 : Int64), .long (0 : Int64), .long (0 : Int64)])), (n1, .inl (gI g, (mB_n files ranks), .inl ((mX0_init_L2 files ranks i1 ((mX0_fit files).toNatClampNeg) 0 sqf1 stf1).1))), (n2, .inl (gI g, 16 * (mB_n files ranks), .inl ((mX0_init_L2 files ranks i1 ((mX0_fit files).toNatClampNeg) 0 sqf1 stf1).2)))]) → va_S (va_A ([(b, .inr (0, [.int 0, .int 0, .int 0, .null, .null, .long 0, .long 0, .long 0]))]) s.heap.size) s.heap H locs → ∀ ls : Array Slot, lv_has ls 7 [(3, .long (first1 ||| (mX0_bit ((mX0_fit files) * (nI i1))))), (5, .int (nI i1)), (0, .ref b), (1, .int files), (2, .int ranks)] → W p l e ({ frames := 2, cells := 2, slots := 1088, locals := 47 } : Room) s m args below meth c H locs 2 1088 (MQ below (et_QN g (va_A ([(b, .inr (0, [.int 0, .int 0, .int 0, .null, .null, .long 0, .long 0, .long 0]))]) s.heap.size) (fun w : va_W => ∃ q1 q2 : Nat, w = [(b, .inr (0, [.int (mX0_fit files), .int (mX0_fit ranks), .int (nI (mB_n files ranks)), .ref q1, .ref q2, .long ((mX0_init files ranks).1), .long ((mX0_init files ranks).2.1), .long ((mX0_init files ranks).2.2.1)])), (q1, .inl (gI g, (mB_n files ranks), .inl ((mX0_init files ranks).2.2.2.1))), (q2, .inl (gI g, 16 * (mB_n files ranks), .inl ((mX0_init files ranks).2.2.2.2)))]) none) args s 2 1088 (va_A ([(b, .inr (0, [.int 0, .int 0, .int 0, .null, .null, .long 0, .long 0, .long 0]))]) s.heap.size)) (F0 m 109 ls []) := by
        intro H locs hP hD hS ls hl
        refine lv_iinc (v := nI (i1 + 1)) (lv' := [(5, .int (nI (i1 + 1))), (3, .long (first1 ||| (mX0_bit ((mX0_fit files) * (nI i1))))), (0, .ref b), (1, .int files), (2, .int ranks)]) hx hb dX0_init_109 hl (k := 1) rfl (et_inc i1) (by decide) rfl (fun ls hl => ?_)
        refine lv_goto (tgt := 61) hx hb dX0_init_112 (by decide) ?_
        exact ih1 (i1 + 1) (first1 ||| (mX0_bit ((mX0_fit files) * (nI i1)))) ((mX0_init_L2 files ranks i1 ((mX0_fit files).toNatClampNeg) 0 sqf1 stf1).1) ((mX0_init_L2 files ranks i1 ((mX0_fit files).toNatClampNeg) 0 sqf1 stf1).2) (by omega) ((by rw [mX0_init_L1] : mX0_init_L1 files ranks (k1 + 1) i1 first1 sqf1 stf1 = mX0_init_L1 files ranks k1 (i1 + 1) (first1 ||| (mX0_bit ((mX0_fit files) * (nI i1)))) ((mX0_init_L2 files ranks i1 ((mX0_fit files).toNatClampNeg) 0 sqf1 stf1).1) ((mX0_init_L2 files ranks i1 ((mX0_fit files).toNatClampNeg) 0 sqf1 stf1).2)).symm.trans hm) _ _ hP hD hS ls (lv_sub hl [0, 1, 2, 3, 4] rfl)
      have hL2 : ∀ (k2 i2 : Nat) (sqf2 : Nat → Int32) (stf2 : Nat → Int32), i2 + k2 = (mX0_fit files).toNatClampNeg → mX0_init_L2 files ranks i1 k2 i2 sqf2 stf2 = (mX0_init_L2 files ranks i1 ((mX0_fit files).toNatClampNeg) 0 sqf1 stf1) → ∀ (H : Heap) (locs : List Loc), va_P (gD g) vwCl ([(b, .inr (0, [.int (mX0_fit files), .int (mX0_fit ranks), .int (nI (mB_n files ranks)), .ref n1, .ref n2, .long (0 : Int64), .long (0 : Int64), .long (0 : Int64)])), (n1, .inl (gI g, (mB_n files ranks), .inl sqf2)), (n2, .inl (gI g, 16 * (mB_n files ranks), .inl stf2))]) H → va_D (va_A ([(b, .inr (0, [.int 0, .int 0, .int 0, .null, .null, .long 0, .long 0, .long 0]))]) s.heap.size) ([(b, .inr (0, [.int (mX0_fit files), .int (mX0_fit ranks), .int (nI (mB_n files ranks)), .ref n1, .ref n2, .long (0 : Int64), .long (0 : Int64), .long (0 : Int64)])), (n1, .inl (gI g, (mB_n files ranks), .inl sqf2)), (n2, .inl (gI g, 16 * (mB_n files ranks), .inl stf2))]) → va_S (va_A ([(b, .inr (0, [.int 0, .int 0, .int 0, .null, .null, .long 0, .long 0, .long 0]))]) s.heap.size) s.heap H locs → ∀ ls : Array Slot, lv_has ls 7 [(6, .int (nI i2)), (3, .long (first1 ||| (mX0_bit ((mX0_fit files) * (nI i1))))), (5, .int (nI i1)), (0, .ref b), (1, .int files), (2, .int ranks)] → W p l e ({ frames := 2, cells := 2, slots := 1088, locals := 47 } : Room) s m args below meth c H locs 2 1088 (MQ below (et_QN g (va_A ([(b, .inr (0, [.int 0, .int 0, .int 0, .null, .null, .long 0, .long 0, .long 0]))]) s.heap.size) (fun w : va_W => ∃ q1 q2 : Nat, w = [(b, .inr (0, [.int (mX0_fit files), .int (mX0_fit ranks), .int (nI (mB_n files ranks)), .ref q1, .ref q2, .long ((mX0_init files ranks).1), .long ((mX0_init files ranks).2.1), .long ((mX0_init files ranks).2.2.1)])), (q1, .inl (gI g, (mB_n files ranks), .inl ((mX0_init files ranks).2.2.2.1))), (q2, .inl (gI g, 16 * (mB_n files ranks), .inl ((mX0_init files ranks).2.2.2.2)))]) none) args s 2 1088 (va_A ([(b, .inr (0, [.int 0, .int 0, .int 0, .null, .null, .long 0, .long 0, .long 0]))]) s.heap.size)) (F0 m 86 ls []) := by
        intro k2
        induction k2 with
        | zero =>
          intro i2 sqf2 stf2 hik  hm H locs hP hD hS ls hl
          refine lv_iload hx hb dX0_init_86 (lv_at hl 0 rfl) ?_
          refine lv_aload_n hx hb dX0_init_88 rfl (lv_at hl 3 rfl) ?_
          refine va_get (D := gD g) (ci := 0) (v := .int (mX0_fit files)) (C := RX0) (T := TX0) (N := 8) hx hb hts inW_X0 hown hC.1 hP 0 rfl rfl 0 (by decide) (hts _ w_123) (fun _ h9 => h9) rfl dX0_init_89 ?_
          refine lv_icmp_ge (tgt := 109) hx hb dX0_init_92 (by decide) (fun c_3 => ?_) (fun c_3 => ?_)
          rotate_left
          · exact absurd (et_clT (by omega)) c_3
          have hq2 : (sqf2, stf2) = (mX0_init_L2 files ranks i1 ((mX0_fit files).toNatClampNeg) 0 sqf1 stf1) := (by rw [mX0_init_L2] : mX0_init_L2 files ranks i1 0 i2 sqf2 stf2 = (sqf2, stf2)).symm.trans hm
          have hq2_0 : sqf2 = (mX0_init_L2 files ranks i1 ((mX0_fit files).toNatClampNeg) 0 sqf1 stf1).1 := congrArg (fun z => z.1) hq2
          have hq2_1 : stf2 = (mX0_init_L2 files ranks i1 ((mX0_fit files).toNatClampNeg) 0 sqf1 stf1).2 := congrArg (fun z => z.2) hq2
          exact hx2 _ _ (by rw [← hq2_0, ← hq2_1]; exact hP) (by rw [← hq2_0, ← hq2_1]; exact hD) hS ls (lv_sub hl [1, 2, 3, 4, 5] rfl)
        | succ k2 ih2 =>
          intro i2 sqf2 stf2 hik  hm H locs hP hD hS ls hl
          refine lv_iload hx hb dX0_init_86 (lv_at hl 0 rfl) ?_
          refine lv_aload_n hx hb dX0_init_88 rfl (lv_at hl 3 rfl) ?_
          refine va_get (D := gD g) (ci := 0) (v := .int (mX0_fit files)) (C := RX0) (T := TX0) (N := 8) hx hb hts inW_X0 hown hC.1 hP 0 rfl rfl 0 (by decide) (hts _ w_123) (fun _ h9 => h9) rfl dX0_init_89 ?_
          refine lv_icmp_ge (tgt := 109) hx hb dX0_init_92 (by decide) (fun c_4 => ?_) (fun c_4 => ?_)
          · exact absurd c_4 (et_clF (by omega))
          refine lv_aload_n hx hb dX0_init_95 rfl (lv_at hl 3 rfl) ?_
          refine lv_iload hx hb dX0_init_96 (lv_at hl 0 rfl) ?_
          refine lv_iload hx hb dX0_init_98 (lv_at hl 2 rfl) ?_
          refine et_callW0 (ws' := [(b, .inr (0, [.int (mX0_fit files), .int (mX0_fit ranks), .int (nI (mB_n files ranks)), .ref n1, .ref n2, .long (0 : Int64), .long (0 : Int64), .long (0 : Int64)])), (n1, .inl (gI g, (mB_n files ranks), .inl ((mX0_layCell (mX0_fit files) (mX0_fit ranks) (mB_n files ranks) sqf2 stf2 (nI i2) (nI i1)).1))), (n2, .inl (gI g, 16 * (mB_n files ranks), .inl ((mX0_layCell (mX0_fit files) (mX0_fit ranks) (mB_n files ranks) sqf2 stf2 (nI i2) (nI i1)).2)))]) (va_runV (As := [.int (nI i2), .int (nI i1)]) (rest := []) ⟨hx, hb, hml, hown, hts⟩ (c_X0_layCell l g st1 st2 b n1 n2 (mX0_fit files) (mX0_fit ranks) (mB_n files ranks) (0 : Int64) (0 : Int64) (0 : Int64) sqf2 stf2 (nI i2) (nI i1) hn64) (cwV 2 hts (W0_gV w_110 w_112 w_0 w_77 w_113) rfl rfl rfl (by decide +kernel) ⟨Nat.le_of_ble_eq_true rfl, Nat.le_of_ble_eq_true rfl⟩) (et_preVWX hP hC hD [0, 1, 2] (by decide) rfl et_ST.blind (fun U hU hW => hX.at hS (fun q h => et_ad.sub hD (is := [0, 1, 2]) rfl h) U hU hW) (ci := 0) (q0 := 0) rfl rfl) rfl rfl hl.1 rfl (lv_room (Nat.le_of_ble_eq_true rfl)) dX0_init_100 ⟨Nat.le_of_ble_eq_true rfl, Nat.le_of_ble_eq_true rfl⟩) hP hD hS [0, 1, 2] [] 3 rfl [b, n1, n2] rfl rfl rfl [] rfl rfl rfl (by decide +kernel) (fun H locs hP hD hS => ?_)
          refine lv_iinc (v := nI (i2 + 1)) (lv' := [(6, .int (nI (i2 + 1))), (3, .long (first1 ||| (mX0_bit ((mX0_fit files) * (nI i1))))), (5, .int (nI i1)), (0, .ref b), (1, .int files), (2, .int ranks)]) hx hb dX0_init_103 hl (k := 0) rfl (et_inc i2) (by decide) rfl (fun ls hl => ?_)
          refine lv_goto (tgt := 86) hx hb dX0_init_106 (by decide) ?_
          exact ih2 (i2 + 1) ((mX0_layCell (mX0_fit files) (mX0_fit ranks) (mB_n files ranks) sqf2 stf2 (nI i2) (nI i1)).1) ((mX0_layCell (mX0_fit files) (mX0_fit ranks) (mB_n files ranks) sqf2 stf2 (nI i2) (nI i1)).2) (by omega) ((by rw [mX0_init_L2] : mX0_init_L2 files ranks i1 (k2 + 1) i2 sqf2 stf2 = mX0_init_L2 files ranks i1 k2 (i2 + 1) ((mX0_layCell (mX0_fit files) (mX0_fit ranks) (mB_n files ranks) sqf2 stf2 (nI i2) (nI i1)).1) ((mX0_layCell (mX0_fit files) (mX0_fit ranks) (mB_n files ranks) sqf2 stf2 (nI i2) (nI i1)).2)).symm.trans hm) _ _ hP hD hS ls (lv_sub hl [0, 1, 2, 3, 4, 5] rfl)
      exact hL2 ((mX0_fit files).toNatClampNeg) 0 sqf1 stf1 (by omega) rfl _ _ hP hD hS ls (lv_sub hl [0, 1, 2, 3, 4, 5] rfl)
  exact hL1 ((mX0_fit ranks).toNatClampNeg) 0 (0 : Int64) (fun _ => 0) (fun _ => 0) (by omega) rfl _ _ hP hD hS ls (lv_sub hl [0, 1, 2, 3, 4] rfl)

set_option maxHeartbeats 4000000 in
set_option maxRecDepth 100000 in
theorem c_X3_init (l : Launch) (g : et_G) (sz : Nat) (b : Nat) (q1 : Nat) (q2 : Nat) (FI : Int32) (RI : Int32) (n : Nat) (al : Int64) (ff : Int64) (lf : Int64) (sqf : Nat → Int32) (stf : Nat → Int32) (t : Nat) (K : Int32) (hn : n ≤ 64) : Met l yX3_init (Cond.code yX3_init cX3_init 4 none :: W0) ({ frames := 1, cells := 4, slots := 65536, locals := 14 } : Room) (et_PcN g sz ([(t, .inr (3, [.null, .int 0, .int 0, .null, .null, .null, .null, .int 0, .int 0])), (b, .inr (0, [.int FI, .int RI, .int (nI n), .ref q1, .ref q2, .long al, .long ff, .long lf])), (q1, .inl (gI g, n, .inl sqf)), (q2, .inl (gI g, 16 * n, .inl stf))]) [.ref t, .ref b, .int K] (fun _ => True)) (et_QN g (va_A ([(t, .inr (3, [.null, .int 0, .int 0, .null, .null, .null, .null, .int 0, .int 0])), (b, .inr (0, [.int FI, .int RI, .int (nI n), .ref q1, .ref q2, .long al, .long ff, .long lf])), (q1, .inl (gI g, n, .inl sqf)), (q2, .inl (gI g, 16 * n, .inl stf))]) sz) (fun w : va_W => ∃ v1 v2 v3 v4 : Nat, w = [(t, .inr (3, [.ref b, .int K, .int (nI (n * n)), .ref v1, .ref v2, .ref v3, .ref v4, .int (-1 : Int32), .int (zI false)])), (v1, .inl (gJ g, 2 * (n * n), .inr (.inl (fun _ => 0)))), (v2, .inl (gJ g, 2 * (n * n), .inr (.inl (fun _ => 0)))), (v3, .inl (gJ g, 2 * (n * n), .inr (.inl (fun _ => 0)))), (v4, .inl (gJ g, 10 * (n * n), .inr (.inl (fun _ => 0)))), (b, .inr (0, [.int FI, .int RI, .int (nI n), .ref q1, .ref q2, .long al, .long ff, .long lf])), (q1, .inl (gI g, n, .inl sqf)), (q2, .inl (gI g, 16 * n, .inl stf))]) none) 4 65536 (va_A ([(t, .inr (3, [.null, .int 0, .int 0, .null, .null, .null, .null, .int 0, .int 0])), (b, .inr (0, [.int FI, .int RI, .int (nI n), .ref q1, .ref q2, .long al, .long ff, .long lf])), (q1, .inl (gI g, n, .inl sqf)), (q2, .inl (gI g, 16 * n, .inl stf))]) sz) := by
  refine et_startN (by decide) rfl (Nat.le_of_ble_eq_true rfl) ?_
  intro p e s m args below meth c hx hb hr hts0 hown hlocks hml hin hsz hP hC hX hD hS hA ls hl
  subst hsz
  have hts : ∀ w ∈ W0, w.before args s = true := fun w h => hts0 w (List.mem_cons_of_mem _ h)
  have hown : s.vm.findClass RX3 = some m.cls := hown
  have hl : lv_has ls 4 [(0, .ref t), (1, .ref b), (2, .int K)] := hl
  have hnn : n * n ≤ 4096 := Nat.mul_le_mul hn hn
  refine lv_aload_n hx hb dX3_init_0 rfl (lv_at hl 0 rfl) ?_
  refine W.objInit hx hb hown (hts _ w_161) (hts _ w_96) (hts _ w_97) rfl (by rw [hml]; exact hl.1) rfl dX3_init_1 (Nat.le_of_ble_eq_true rfl) (Nat.le_of_ble_eq_true rfl) ?_
  refine W.eq (g2 := F0 m 4 ls []) rfl ?_
  refine lv_aload_n hx hb dX3_init_4 rfl (lv_at hl 0 rfl) ?_
  refine lv_aload_n hx hb dX3_init_5 rfl (lv_at hl 1 rfl) ?_
  refine va_putF (D := gD g) (ci := 3) (v := .ref b) (ty := .object "EndTables$Board") (C := RX3) (T := TX3) (N := 9) hx hb hts inW_X3 tyX3 tyX3_ok nmX3 hown hC.1 hP hD hS 0 rfl rfl 0 (by decide) (hts _ w_168) (fun _ h9 => h9) rfl hin rfl (by decide +kernel) rfl rfl (Nat.le_of_ble_eq_true rfl) dX3_init_6 (fun H locs hP hD hS => ?_)
  have hP : va_P (gD g) vwCl ([(t, .inr (3, [.ref b, .int 0, .int 0, .null, .null, .null, .null, .int 0, .int 0])), (b, .inr (0, [.int FI, .int RI, .int (nI n), .ref q1, .ref q2, .long al, .long ff, .long lf])), (q1, .inl (gI g, n, .inl sqf)), (q2, .inl (gI g, 16 * n, .inl stf))]) H := hP
  have hD : va_D (va_A ([(t, .inr (3, [.null, .int 0, .int 0, .null, .null, .null, .null, .int 0, .int 0])), (b, .inr (0, [.int FI, .int RI, .int (nI n), .ref q1, .ref q2, .long al, .long ff, .long lf])), (q1, .inl (gI g, n, .inl sqf)), (q2, .inl (gI g, 16 * n, .inl stf))]) s.heap.size) ([(t, .inr (3, [.ref b, .int 0, .int 0, .null, .null, .null, .null, .int 0, .int 0])), (b, .inr (0, [.int FI, .int RI, .int (nI n), .ref q1, .ref q2, .long al, .long ff, .long lf])), (q1, .inl (gI g, n, .inl sqf)), (q2, .inl (gI g, 16 * n, .inl stf))]) := hD
  refine lv_aload_n hx hb dX3_init_9 rfl (lv_at hl 0 rfl) ?_
  refine lv_iload_n hx hb dX3_init_10 rfl (lv_at hl 2 rfl) ?_
  refine va_putF (D := gD g) (ci := 3) (v := .int K) (ty := .int) (C := RX3) (T := TX3) (N := 9) hx hb hts inW_X3 tyX3 tyX3_ok nmX3 hown hC.1 hP hD hS 0 rfl rfl 1 (by decide) (hts _ w_169) (fun _ h9 => h9) rfl hin rfl (by decide +kernel) rfl rfl (Nat.le_of_ble_eq_true rfl) dX3_init_11 (fun H locs hP hD hS => ?_)
  have hP : va_P (gD g) vwCl ([(t, .inr (3, [.ref b, .int K, .int 0, .null, .null, .null, .null, .int 0, .int 0])), (b, .inr (0, [.int FI, .int RI, .int (nI n), .ref q1, .ref q2, .long al, .long ff, .long lf])), (q1, .inl (gI g, n, .inl sqf)), (q2, .inl (gI g, 16 * n, .inl stf))]) H := hP
  have hD : va_D (va_A ([(t, .inr (3, [.null, .int 0, .int 0, .null, .null, .null, .null, .int 0, .int 0])), (b, .inr (0, [.int FI, .int RI, .int (nI n), .ref q1, .ref q2, .long al, .long ff, .long lf])), (q1, .inl (gI g, n, .inl sqf)), (q2, .inl (gI g, 16 * n, .inl stf))]) s.heap.size) ([(t, .inr (3, [.ref b, .int K, .int 0, .null, .null, .null, .null, .int 0, .int 0])), (b, .inr (0, [.int FI, .int RI, .int (nI n), .ref q1, .ref q2, .long al, .long ff, .long lf])), (q1, .inl (gI g, n, .inl sqf)), (q2, .inl (gI g, 16 * n, .inl stf))]) := hD
  refine lv_iconst (v := (0 : Int32)) hx hb dX3_init_14 (by decide) ?_
  refine lv_aload_n hx hb dX3_init_15 rfl (lv_at hl 1 rfl) ?_
  refine va_getN (D := gD g) (ci := 0) (v := .int (nI n)) (C := RX0) (T := TX0) (N := 8) hx hb hts inW_X0 hown hC.1 hP 1 rfl rfl 2 (by decide) (et_nwF hC (List.mem_of_getElem? (i := 23) rfl)) (fun _ h9 => h9) rfl dX3_init_16 ?_
  refine lv_bipush (v := (64 : Int32)) hx hb dX3_init_19 (by decide) ?_
  refine va_mmin hx hb (hml.trans hl.1.symm) hown (hts _ w_162) (hts _ w_163) (hts _ w_79) (hts _ w_164) (Nat.le_of_ble_eq_true rfl) (Nat.le_of_ble_eq_true rfl) (Nat.le_of_ble_eq_true rfl) (Nat.le_of_ble_eq_true rfl) dX3_init_21 ?_
  refine va_mmax hx hb (hml.trans hl.1.symm) hown (hts _ w_165) (hts _ w_166) (hts _ w_79) (hts _ w_167) (Nat.le_of_ble_eq_true rfl) (Nat.le_of_ble_eq_true rfl) (Nat.le_of_ble_eq_true rfl) (Nat.le_of_ble_eq_true rfl) dX3_init_24 ?_
  refine et_stki (show (if (0 : Int32) < (if (64 : Int32) < (nI n) then (64 : Int32) else (nI n)) then (if (64 : Int32) < (nI n) then (64 : Int32) else (nI n)) else (0 : Int32)) = (nI n) from (et_minmax hn)) ?_
  refine lv_istore_n (lv' := [(3, .int (nI n)), (0, .ref t), (1, .ref b), (2, .int K)]) hx hb dX3_init_27 rfl hl (by decide) rfl (fun ls hl => ?_)
  refine lv_aload_n hx hb dX3_init_28 rfl (lv_at hl 1 rfl) ?_
  refine lv_iload_n hx hb dX3_init_29 rfl (lv_at hl 0 rfl) ?_
  refine lv_iload_n hx hb dX3_init_30 rfl (lv_at hl 0 rfl) ?_
  refine lv_imul hx hb dX3_init_31 ?_
  refine et_stki (show ((nI n) * (nI n)) = (nI (n * n)) from (pk_mul n n)) ?_
  refine va_putF (D := gD g) (ci := 3) (v := .int (nI (n * n))) (ty := .int) (C := RX3) (T := TX3) (N := 9) hx hb hts inW_X3 tyX3 tyX3_ok nmX3 hown hC.1 hP hD hS 0 rfl rfl 2 (by decide) (hts _ w_170) (fun _ h9 => h9) rfl hin rfl (by decide +kernel) rfl rfl (Nat.le_of_ble_eq_true rfl) dX3_init_32 (fun H locs hP hD hS => ?_)
  have hP : va_P (gD g) vwCl ([(t, .inr (3, [.ref b, .int K, .int (nI (n * n)), .null, .null, .null, .null, .int 0, .int 0])), (b, .inr (0, [.int FI, .int RI, .int (nI n), .ref q1, .ref q2, .long al, .long ff, .long lf])), (q1, .inl (gI g, n, .inl sqf)), (q2, .inl (gI g, 16 * n, .inl stf))]) H := hP
  have hD : va_D (va_A ([(t, .inr (3, [.null, .int 0, .int 0, .null, .null, .null, .null, .int 0, .int 0])), (b, .inr (0, [.int FI, .int RI, .int (nI n), .ref q1, .ref q2, .long al, .long ff, .long lf])), (q1, .inl (gI g, n, .inl sqf)), (q2, .inl (gI g, 16 * n, .inl stf))]) s.heap.size) ([(t, .inr (3, [.ref b, .int K, .int (nI (n * n)), .null, .null, .null, .null, .int 0, .int 0])), (b, .inr (0, [.int FI, .int RI, .int (nI n), .ref q1, .ref q2, .long al, .long ff, .long lf])), (q1, .inl (gI g, n, .inl sqf)), (q2, .inl (gI g, 16 * n, .inl stf))]) := hD
  refine lv_aload_n hx hb dX3_init_35 rfl (lv_at hl 1 rfl) ?_
  refine lv_iconst (v := (2 : Int32)) hx hb dX3_init_36 (by decide) ?_
  refine lv_aload_n hx hb dX3_init_37 rfl (lv_at hl 1 rfl) ?_
  refine va_get (D := gD g) (ci := 3) (v := .int (nI (n * n))) (C := RX3) (T := TX3) (N := 9) hx hb hts inW_X3 hown hC.1 hP 0 rfl rfl 2 (by decide) (hts _ w_170) (fun _ h9 => h9) rfl dX3_init_38 ?_
  refine lv_imul hx hb dX3_init_41 ?_
  refine et_stki (show ((2 : Int32) * (nI (n * n))) = (nI (2 * (n * n))) from (pk_mul 2 _)) ?_
  refine va_newa (atype := .long) hx hb (hts _ w_198) rfl hC.1 hP hD hS hA (N' := 2 * (n * n)) (a0 := (2 * (n * n), .inr (.inl (fun _ => 0)))) (fun cA => rfl) (nI_pos (by omega)) (nI_clamp (by omega)) (by show (2 * (n * n)) * 8 ≤ 536870912; omega) (Nat.le_of_ble_eq_true rfl) (by show 0 + (2 * (n * n)) ≤ 65536; omega) dX3_init_42 (fun n1 cA H hK2 hP hD hS => ?_)
  obtain rfl : cA = gJ g := et_clsJ hC hK2
  have hP : va_P (gD g) vwCl ([(t, .inr (3, [.ref b, .int K, .int (nI (n * n)), .null, .null, .null, .null, .int 0, .int 0])), (b, .inr (0, [.int FI, .int RI, .int (nI n), .ref q1, .ref q2, .long al, .long ff, .long lf])), (q1, .inl (gI g, n, .inl sqf)), (q2, .inl (gI g, 16 * n, .inl stf)), (n1, .inl (gJ g, 2 * (n * n), .inr (.inl (fun _ => 0))))]) H := hP
  have hD : va_D (va_A ([(t, .inr (3, [.null, .int 0, .int 0, .null, .null, .null, .null, .int 0, .int 0])), (b, .inr (0, [.int FI, .int RI, .int (nI n), .ref q1, .ref q2, .long al, .long ff, .long lf])), (q1, .inl (gI g, n, .inl sqf)), (q2, .inl (gI g, 16 * n, .inl stf))]) s.heap.size) ([(t, .inr (3, [.ref b, .int K, .int (nI (n * n)), .null, .null, .null, .null, .int 0, .int 0])), (b, .inr (0, [.int FI, .int RI, .int (nI n), .ref q1, .ref q2, .long al, .long ff, .long lf])), (q1, .inl (gI g, n, .inl sqf)), (q2, .inl (gI g, 16 * n, .inl stf)), (n1, .inl (gJ g, 2 * (n * n), .inr (.inl (fun _ => 0))))]) := hD
  refine W.widen (k := 1) (n := 8192) (by omega) (by omega) ?_
  refine va_putF (D := gD g) (ci := 3) (v := .ref n1) (ty := .array .long) (C := RX3) (T := TX3) (N := 9) hx hb hts inW_X3 tyX3 tyX3_ok nmX3 hown hC.1 hP hD hS 0 rfl rfl 3 (by decide) (hts _ w_171) (fun _ h9 => h9) rfl hin rfl (by decide +kernel) rfl rfl (Nat.le_of_ble_eq_true rfl) dX3_init_44 (fun H locs hP hD hS => ?_)
  have hP : va_P (gD g) vwCl ([(t, .inr (3, [.ref b, .int K, .int (nI (n * n)), .ref n1, .null, .null, .null, .int 0, .int 0])), (b, .inr (0, [.int FI, .int RI, .int (nI n), .ref q1, .ref q2, .long al, .long ff, .long lf])), (q1, .inl (gI g, n, .inl sqf)), (q2, .inl (gI g, 16 * n, .inl stf)), (n1, .inl (gJ g, 2 * (n * n), .inr (.inl (fun _ => 0))))]) H := hP
  have hD : va_D (va_A ([(t, .inr (3, [.null, .int 0, .int 0, .null, .null, .null, .null, .int 0, .int 0])), (b, .inr (0, [.int FI, .int RI, .int (nI n), .ref q1, .ref q2, .long al, .long ff, .long lf])), (q1, .inl (gI g, n, .inl sqf)), (q2, .inl (gI g, 16 * n, .inl stf))]) s.heap.size) ([(t, .inr (3, [.ref b, .int K, .int (nI (n * n)), .ref n1, .null, .null, .null, .int 0, .int 0])), (b, .inr (0, [.int FI, .int RI, .int (nI n), .ref q1, .ref q2, .long al, .long ff, .long lf])), (q1, .inl (gI g, n, .inl sqf)), (q2, .inl (gI g, 16 * n, .inl stf)), (n1, .inl (gJ g, 2 * (n * n), .inr (.inl (fun _ => 0))))]) := hD
  refine lv_aload_n hx hb dX3_init_47 rfl (lv_at hl 1 rfl) ?_
  refine lv_iconst (v := (2 : Int32)) hx hb dX3_init_48 (by decide) ?_
  refine lv_aload_n hx hb dX3_init_49 rfl (lv_at hl 1 rfl) ?_
  refine va_get (D := gD g) (ci := 3) (v := .int (nI (n * n))) (C := RX3) (T := TX3) (N := 9) hx hb hts inW_X3 hown hC.1 hP 0 rfl rfl 2 (by decide) (hts _ w_170) (fun _ h9 => h9) rfl dX3_init_50 ?_
  refine lv_imul hx hb dX3_init_53 ?_
  refine et_stki (show ((2 : Int32) * (nI (n * n))) = (nI (2 * (n * n))) from (pk_mul 2 _)) ?_
  refine va_newa (atype := .long) hx hb (hts _ w_198) rfl hC.1 hP hD hS hA (N' := 2 * (n * n)) (a0 := (2 * (n * n), .inr (.inl (fun _ => 0)))) (fun cA => rfl) (nI_pos (by omega)) (nI_clamp (by omega)) (by show (2 * (n * n)) * 8 ≤ 536870912; omega) (Nat.le_of_ble_eq_true rfl) (by show 8192 + (2 * (n * n)) ≤ 65536; omega) dX3_init_54 (fun n2 cA H hK2 hP hD hS => ?_)
  obtain rfl : cA = gJ g := et_clsJ hC hK2
  have hP : va_P (gD g) vwCl ([(t, .inr (3, [.ref b, .int K, .int (nI (n * n)), .ref n1, .null, .null, .null, .int 0, .int 0])), (b, .inr (0, [.int FI, .int RI, .int (nI n), .ref q1, .ref q2, .long al, .long ff, .long lf])), (q1, .inl (gI g, n, .inl sqf)), (q2, .inl (gI g, 16 * n, .inl stf)), (n1, .inl (gJ g, 2 * (n * n), .inr (.inl (fun _ => 0)))), (n2, .inl (gJ g, 2 * (n * n), .inr (.inl (fun _ => 0))))]) H := hP
  have hD : va_D (va_A ([(t, .inr (3, [.null, .int 0, .int 0, .null, .null, .null, .null, .int 0, .int 0])), (b, .inr (0, [.int FI, .int RI, .int (nI n), .ref q1, .ref q2, .long al, .long ff, .long lf])), (q1, .inl (gI g, n, .inl sqf)), (q2, .inl (gI g, 16 * n, .inl stf))]) s.heap.size) ([(t, .inr (3, [.ref b, .int K, .int (nI (n * n)), .ref n1, .null, .null, .null, .int 0, .int 0])), (b, .inr (0, [.int FI, .int RI, .int (nI n), .ref q1, .ref q2, .long al, .long ff, .long lf])), (q1, .inl (gI g, n, .inl sqf)), (q2, .inl (gI g, 16 * n, .inl stf)), (n1, .inl (gJ g, 2 * (n * n), .inr (.inl (fun _ => 0)))), (n2, .inl (gJ g, 2 * (n * n), .inr (.inl (fun _ => 0))))]) := hD
  refine W.widen (k := 2) (n := 16384) (by omega) (by omega) ?_
  refine va_putF (D := gD g) (ci := 3) (v := .ref n2) (ty := .array .long) (C := RX3) (T := TX3) (N := 9) hx hb hts inW_X3 tyX3 tyX3_ok nmX3 hown hC.1 hP hD hS 0 rfl rfl 4 (by decide) (hts _ w_172) (fun _ h9 => h9) rfl hin rfl (by decide +kernel) rfl rfl (Nat.le_of_ble_eq_true rfl) dX3_init_56 (fun H locs hP hD hS => ?_)
  have hP : va_P (gD g) vwCl ([(t, .inr (3, [.ref b, .int K, .int (nI (n * n)), .ref n1, .ref n2, .null, .null, .int 0, .int 0])), (b, .inr (0, [.int FI, .int RI, .int (nI n), .ref q1, .ref q2, .long al, .long ff, .long lf])), (q1, .inl (gI g, n, .inl sqf)), (q2, .inl (gI g, 16 * n, .inl stf)), (n1, .inl (gJ g, 2 * (n * n), .inr (.inl (fun _ => 0)))), (n2, .inl (gJ g, 2 * (n * n), .inr (.inl (fun _ => 0))))]) H := hP
  have hD : va_D (va_A ([(t, .inr (3, [.null, .int 0, .int 0, .null, .null, .null, .null, .int 0, .int 0])), (b, .inr (0, [.int FI, .int RI, .int (nI n), .ref q1, .ref q2, .long al, .long ff, .long lf])), (q1, .inl (gI g, n, .inl sqf)), (q2, .inl (gI g, 16 * n, .inl stf))]) s.heap.size) ([(t, .inr (3, [.ref b, .int K, .int (nI (n * n)), .ref n1, .ref n2, .null, .null, .int 0, .int 0])), (b, .inr (0, [.int FI, .int RI, .int (nI n), .ref q1, .ref q2, .long al, .long ff, .long lf])), (q1, .inl (gI g, n, .inl sqf)), (q2, .inl (gI g, 16 * n, .inl stf)), (n1, .inl (gJ g, 2 * (n * n), .inr (.inl (fun _ => 0)))), (n2, .inl (gJ g, 2 * (n * n), .inr (.inl (fun _ => 0))))]) := hD
  refine lv_aload_n hx hb dX3_init_59 rfl (lv_at hl 1 rfl) ?_
  refine lv_iconst (v := (2 : Int32)) hx hb dX3_init_60 (by decide) ?_
  refine lv_aload_n hx hb dX3_init_61 rfl (lv_at hl 1 rfl) ?_
  refine va_get (D := gD g) (ci := 3) (v := .int (nI (n * n))) (C := RX3) (T := TX3) (N := 9) hx hb hts inW_X3 hown hC.1 hP 0 rfl rfl 2 (by decide) (hts _ w_170) (fun _ h9 => h9) rfl dX3_init_62 ?_
  refine lv_imul hx hb dX3_init_65 ?_
  refine et_stki (show ((2 : Int32) * (nI (n * n))) = (nI (2 * (n * n))) from (pk_mul 2 _)) ?_
  refine va_newa (atype := .long) hx hb (hts _ w_198) rfl hC.1 hP hD hS hA (N' := 2 * (n * n)) (a0 := (2 * (n * n), .inr (.inl (fun _ => 0)))) (fun cA => rfl) (nI_pos (by omega)) (nI_clamp (by omega)) (by show (2 * (n * n)) * 8 ≤ 536870912; omega) (Nat.le_of_ble_eq_true rfl) (by show 16384 + (2 * (n * n)) ≤ 65536; omega) dX3_init_66 (fun n3 cA H hK2 hP hD hS => ?_)
  obtain rfl : cA = gJ g := et_clsJ hC hK2
  have hP : va_P (gD g) vwCl ([(t, .inr (3, [.ref b, .int K, .int (nI (n * n)), .ref n1, .ref n2, .null, .null, .int 0, .int 0])), (b, .inr (0, [.int FI, .int RI, .int (nI n), .ref q1, .ref q2, .long al, .long ff, .long lf])), (q1, .inl (gI g, n, .inl sqf)), (q2, .inl (gI g, 16 * n, .inl stf)), (n1, .inl (gJ g, 2 * (n * n), .inr (.inl (fun _ => 0)))), (n2, .inl (gJ g, 2 * (n * n), .inr (.inl (fun _ => 0)))), (n3, .inl (gJ g, 2 * (n * n), .inr (.inl (fun _ => 0))))]) H := hP
  have hD : va_D (va_A ([(t, .inr (3, [.null, .int 0, .int 0, .null, .null, .null, .null, .int 0, .int 0])), (b, .inr (0, [.int FI, .int RI, .int (nI n), .ref q1, .ref q2, .long al, .long ff, .long lf])), (q1, .inl (gI g, n, .inl sqf)), (q2, .inl (gI g, 16 * n, .inl stf))]) s.heap.size) ([(t, .inr (3, [.ref b, .int K, .int (nI (n * n)), .ref n1, .ref n2, .null, .null, .int 0, .int 0])), (b, .inr (0, [.int FI, .int RI, .int (nI n), .ref q1, .ref q2, .long al, .long ff, .long lf])), (q1, .inl (gI g, n, .inl sqf)), (q2, .inl (gI g, 16 * n, .inl stf)), (n1, .inl (gJ g, 2 * (n * n), .inr (.inl (fun _ => 0)))), (n2, .inl (gJ g, 2 * (n * n), .inr (.inl (fun _ => 0)))), (n3, .inl (gJ g, 2 * (n * n), .inr (.inl (fun _ => 0))))]) := hD
  refine W.widen (k := 3) (n := 24576) (by omega) (by omega) ?_
  refine va_putF (D := gD g) (ci := 3) (v := .ref n3) (ty := .array .long) (C := RX3) (T := TX3) (N := 9) hx hb hts inW_X3 tyX3 tyX3_ok nmX3 hown hC.1 hP hD hS 0 rfl rfl 5 (by decide) (hts _ w_173) (fun _ h9 => h9) rfl hin rfl (by decide +kernel) rfl rfl (Nat.le_of_ble_eq_true rfl) dX3_init_68 (fun H locs hP hD hS => ?_)
  have hP : va_P (gD g) vwCl ([(t, .inr (3, [.ref b, .int K, .int (nI (n * n)), .ref n1, .ref n2, .ref n3, .null, .int 0, .int 0])), (b, .inr (0, [.int FI, .int RI, .int (nI n), .ref q1, .ref q2, .long al, .long ff, .long lf])), (q1, .inl (gI g, n, .inl sqf)), (q2, .inl (gI g, 16 * n, .inl stf)), (n1, .inl (gJ g, 2 * (n * n), .inr (.inl (fun _ => 0)))), (n2, .inl (gJ g, 2 * (n * n), .inr (.inl (fun _ => 0)))), (n3, .inl (gJ g, 2 * (n * n), .inr (.inl (fun _ => 0))))]) H := hP
  have hD : va_D (va_A ([(t, .inr (3, [.null, .int 0, .int 0, .null, .null, .null, .null, .int 0, .int 0])), (b, .inr (0, [.int FI, .int RI, .int (nI n), .ref q1, .ref q2, .long al, .long ff, .long lf])), (q1, .inl (gI g, n, .inl sqf)), (q2, .inl (gI g, 16 * n, .inl stf))]) s.heap.size) ([(t, .inr (3, [.ref b, .int K, .int (nI (n * n)), .ref n1, .ref n2, .ref n3, .null, .int 0, .int 0])), (b, .inr (0, [.int FI, .int RI, .int (nI n), .ref q1, .ref q2, .long al, .long ff, .long lf])), (q1, .inl (gI g, n, .inl sqf)), (q2, .inl (gI g, 16 * n, .inl stf)), (n1, .inl (gJ g, 2 * (n * n), .inr (.inl (fun _ => 0)))), (n2, .inl (gJ g, 2 * (n * n), .inr (.inl (fun _ => 0)))), (n3, .inl (gJ g, 2 * (n * n), .inr (.inl (fun _ => 0))))]) := hD
  refine lv_aload_n hx hb dX3_init_71 rfl (lv_at hl 1 rfl) ?_
  refine lv_iconst (v := (2 : Int32)) hx hb dX3_init_72 (by decide) ?_
  refine lv_aload_n hx hb dX3_init_73 rfl (lv_at hl 1 rfl) ?_
  refine va_get (D := gD g) (ci := 3) (v := .int (nI (n * n))) (C := RX3) (T := TX3) (N := 9) hx hb hts inW_X3 hown hC.1 hP 0 rfl rfl 2 (by decide) (hts _ w_170) (fun _ h9 => h9) rfl dX3_init_74 ?_
  refine lv_imul hx hb dX3_init_77 ?_
  refine et_stki (show ((2 : Int32) * (nI (n * n))) = (nI (2 * (n * n))) from (pk_mul 2 _)) ?_
  refine lv_iconst (v := (5 : Int32)) hx hb dX3_init_78 (by decide) ?_
  refine lv_imul hx hb dX3_init_79 ?_
  refine et_stki (show ((nI (2 * (n * n))) * (5 : Int32)) = (nI (10 * (n * n))) from (et_mul5 _)) ?_
  refine va_newa (atype := .long) hx hb (hts _ w_198) rfl hC.1 hP hD hS hA (N' := 10 * (n * n)) (a0 := (10 * (n * n), .inr (.inl (fun _ => 0)))) (fun cA => rfl) (nI_pos (by omega)) (nI_clamp (by omega)) (by show (10 * (n * n)) * 8 ≤ 536870912; omega) (Nat.le_of_ble_eq_true rfl) (by show 24576 + (10 * (n * n)) ≤ 65536; omega) dX3_init_80 (fun n4 cA H hK2 hP hD hS => ?_)
  obtain rfl : cA = gJ g := et_clsJ hC hK2
  have hP : va_P (gD g) vwCl ([(t, .inr (3, [.ref b, .int K, .int (nI (n * n)), .ref n1, .ref n2, .ref n3, .null, .int 0, .int 0])), (b, .inr (0, [.int FI, .int RI, .int (nI n), .ref q1, .ref q2, .long al, .long ff, .long lf])), (q1, .inl (gI g, n, .inl sqf)), (q2, .inl (gI g, 16 * n, .inl stf)), (n1, .inl (gJ g, 2 * (n * n), .inr (.inl (fun _ => 0)))), (n2, .inl (gJ g, 2 * (n * n), .inr (.inl (fun _ => 0)))), (n3, .inl (gJ g, 2 * (n * n), .inr (.inl (fun _ => 0)))), (n4, .inl (gJ g, 10 * (n * n), .inr (.inl (fun _ => 0))))]) H := hP
  have hD : va_D (va_A ([(t, .inr (3, [.null, .int 0, .int 0, .null, .null, .null, .null, .int 0, .int 0])), (b, .inr (0, [.int FI, .int RI, .int (nI n), .ref q1, .ref q2, .long al, .long ff, .long lf])), (q1, .inl (gI g, n, .inl sqf)), (q2, .inl (gI g, 16 * n, .inl stf))]) s.heap.size) ([(t, .inr (3, [.ref b, .int K, .int (nI (n * n)), .ref n1, .ref n2, .ref n3, .null, .int 0, .int 0])), (b, .inr (0, [.int FI, .int RI, .int (nI n), .ref q1, .ref q2, .long al, .long ff, .long lf])), (q1, .inl (gI g, n, .inl sqf)), (q2, .inl (gI g, 16 * n, .inl stf)), (n1, .inl (gJ g, 2 * (n * n), .inr (.inl (fun _ => 0)))), (n2, .inl (gJ g, 2 * (n * n), .inr (.inl (fun _ => 0)))), (n3, .inl (gJ g, 2 * (n * n), .inr (.inl (fun _ => 0)))), (n4, .inl (gJ g, 10 * (n * n), .inr (.inl (fun _ => 0))))]) := hD
  refine W.widen (k := 4) (n := 65536) (by omega) (by omega) ?_
  refine va_putF (D := gD g) (ci := 3) (v := .ref n4) (ty := .array .long) (C := RX3) (T := TX3) (N := 9) hx hb hts inW_X3 tyX3 tyX3_ok nmX3 hown hC.1 hP hD hS 0 rfl rfl 6 (by decide) (hts _ w_174) (fun _ h9 => h9) rfl hin rfl (by decide +kernel) rfl rfl (Nat.le_of_ble_eq_true rfl) dX3_init_82 (fun H locs hP hD hS => ?_)
  have hP : va_P (gD g) vwCl ([(t, .inr (3, [.ref b, .int K, .int (nI (n * n)), .ref n1, .ref n2, .ref n3, .ref n4, .int 0, .int 0])), (b, .inr (0, [.int FI, .int RI, .int (nI n), .ref q1, .ref q2, .long al, .long ff, .long lf])), (q1, .inl (gI g, n, .inl sqf)), (q2, .inl (gI g, 16 * n, .inl stf)), (n1, .inl (gJ g, 2 * (n * n), .inr (.inl (fun _ => 0)))), (n2, .inl (gJ g, 2 * (n * n), .inr (.inl (fun _ => 0)))), (n3, .inl (gJ g, 2 * (n * n), .inr (.inl (fun _ => 0)))), (n4, .inl (gJ g, 10 * (n * n), .inr (.inl (fun _ => 0))))]) H := hP
  have hD : va_D (va_A ([(t, .inr (3, [.null, .int 0, .int 0, .null, .null, .null, .null, .int 0, .int 0])), (b, .inr (0, [.int FI, .int RI, .int (nI n), .ref q1, .ref q2, .long al, .long ff, .long lf])), (q1, .inl (gI g, n, .inl sqf)), (q2, .inl (gI g, 16 * n, .inl stf))]) s.heap.size) ([(t, .inr (3, [.ref b, .int K, .int (nI (n * n)), .ref n1, .ref n2, .ref n3, .ref n4, .int 0, .int 0])), (b, .inr (0, [.int FI, .int RI, .int (nI n), .ref q1, .ref q2, .long al, .long ff, .long lf])), (q1, .inl (gI g, n, .inl sqf)), (q2, .inl (gI g, 16 * n, .inl stf)), (n1, .inl (gJ g, 2 * (n * n), .inr (.inl (fun _ => 0)))), (n2, .inl (gJ g, 2 * (n * n), .inr (.inl (fun _ => 0)))), (n3, .inl (gJ g, 2 * (n * n), .inr (.inl (fun _ => 0)))), (n4, .inl (gJ g, 10 * (n * n), .inr (.inl (fun _ => 0))))]) := hD
  refine lv_aload_n hx hb dX3_init_85 rfl (lv_at hl 1 rfl) ?_
  refine lv_iconst (v := (-1 : Int32)) hx hb dX3_init_86 (by decide) ?_
  refine va_put (D := gD g) (ci := 3) (v := .int (-1 : Int32)) (ty := .int) (C := RX3) (T := TX3) (N := 9) hx hb hts inW_X3 tyX3 tyX3_ok nmX3 hown hC.1 hP hD hS 0 rfl rfl 7 (by decide) (hts _ w_175) (fun _ h9 => h9) rfl (by decide +kernel) rfl rfl (Nat.le_of_ble_eq_true rfl) dX3_init_87 (fun H locs hP hD hS => ?_)
  have hP : va_P (gD g) vwCl ([(t, .inr (3, [.ref b, .int K, .int (nI (n * n)), .ref n1, .ref n2, .ref n3, .ref n4, .int (-1 : Int32), .int 0])), (b, .inr (0, [.int FI, .int RI, .int (nI n), .ref q1, .ref q2, .long al, .long ff, .long lf])), (q1, .inl (gI g, n, .inl sqf)), (q2, .inl (gI g, 16 * n, .inl stf)), (n1, .inl (gJ g, 2 * (n * n), .inr (.inl (fun _ => 0)))), (n2, .inl (gJ g, 2 * (n * n), .inr (.inl (fun _ => 0)))), (n3, .inl (gJ g, 2 * (n * n), .inr (.inl (fun _ => 0)))), (n4, .inl (gJ g, 10 * (n * n), .inr (.inl (fun _ => 0))))]) H := hP
  have hD : va_D (va_A ([(t, .inr (3, [.null, .int 0, .int 0, .null, .null, .null, .null, .int 0, .int 0])), (b, .inr (0, [.int FI, .int RI, .int (nI n), .ref q1, .ref q2, .long al, .long ff, .long lf])), (q1, .inl (gI g, n, .inl sqf)), (q2, .inl (gI g, 16 * n, .inl stf))]) s.heap.size) ([(t, .inr (3, [.ref b, .int K, .int (nI (n * n)), .ref n1, .ref n2, .ref n3, .ref n4, .int (-1 : Int32), .int 0])), (b, .inr (0, [.int FI, .int RI, .int (nI n), .ref q1, .ref q2, .long al, .long ff, .long lf])), (q1, .inl (gI g, n, .inl sqf)), (q2, .inl (gI g, 16 * n, .inl stf)), (n1, .inl (gJ g, 2 * (n * n), .inr (.inl (fun _ => 0)))), (n2, .inl (gJ g, 2 * (n * n), .inr (.inl (fun _ => 0)))), (n3, .inl (gJ g, 2 * (n * n), .inr (.inl (fun _ => 0)))), (n4, .inl (gJ g, 10 * (n * n), .inr (.inl (fun _ => 0))))]) := hD
  refine lv_aload_n hx hb dX3_init_90 rfl (lv_at hl 1 rfl) ?_
  refine lv_iconst (v := (0 : Int32)) hx hb dX3_init_91 (by decide) ?_
  refine va_put (D := gD g) (ci := 3) (v := .int (zI false)) (ty := .boolean) (C := RX3) (T := TX3) (N := 9) hx hb hts inW_X3 tyX3 tyX3_ok nmX3 hown hC.1 hP hD hS 0 rfl rfl 8 (by decide) (hts _ w_177) (fun _ h9 => h9) rfl (by decide +kernel) rfl rfl (Nat.le_of_ble_eq_true rfl) dX3_init_92 (fun H locs hP hD hS => ?_)
  have hP : va_P (gD g) vwCl ([(t, .inr (3, [.ref b, .int K, .int (nI (n * n)), .ref n1, .ref n2, .ref n3, .ref n4, .int (-1 : Int32), .int (zI false)])), (b, .inr (0, [.int FI, .int RI, .int (nI n), .ref q1, .ref q2, .long al, .long ff, .long lf])), (q1, .inl (gI g, n, .inl sqf)), (q2, .inl (gI g, 16 * n, .inl stf)), (n1, .inl (gJ g, 2 * (n * n), .inr (.inl (fun _ => 0)))), (n2, .inl (gJ g, 2 * (n * n), .inr (.inl (fun _ => 0)))), (n3, .inl (gJ g, 2 * (n * n), .inr (.inl (fun _ => 0)))), (n4, .inl (gJ g, 10 * (n * n), .inr (.inl (fun _ => 0))))]) H := hP
  have hD : va_D (va_A ([(t, .inr (3, [.null, .int 0, .int 0, .null, .null, .null, .null, .int 0, .int 0])), (b, .inr (0, [.int FI, .int RI, .int (nI n), .ref q1, .ref q2, .long al, .long ff, .long lf])), (q1, .inl (gI g, n, .inl sqf)), (q2, .inl (gI g, 16 * n, .inl stf))]) s.heap.size) ([(t, .inr (3, [.ref b, .int K, .int (nI (n * n)), .ref n1, .ref n2, .ref n3, .ref n4, .int (-1 : Int32), .int (zI false)])), (b, .inr (0, [.int FI, .int RI, .int (nI n), .ref q1, .ref q2, .long al, .long ff, .long lf])), (q1, .inl (gI g, n, .inl sqf)), (q2, .inl (gI g, 16 * n, .inl stf)), (n1, .inl (gJ g, 2 * (n * n), .inr (.inl (fun _ => 0)))), (n2, .inl (gJ g, 2 * (n * n), .inr (.inl (fun _ => 0)))), (n3, .inl (gJ g, 2 * (n * n), .inr (.inl (fun _ => 0)))), (n4, .inl (gJ g, 10 * (n * n), .inr (.inl (fun _ => 0))))]) := hD
  have hP9 := hP.sub (ws' := [(t, .inr (3, [.ref b, .int K, .int (nI (n * n)), .ref n1, .ref n2, .ref n3, .ref n4, .int (-1 : Int32), .int (zI false)])), (n1, .inl (gJ g, 2 * (n * n), .inr (.inl (fun _ => 0)))), (n2, .inl (gJ g, 2 * (n * n), .inr (.inl (fun _ => 0)))), (n3, .inl (gJ g, 2 * (n * n), .inr (.inl (fun _ => 0)))), (n4, .inl (gJ g, 10 * (n * n), .inr (.inl (fun _ => 0)))), (b, .inr (0, [.int FI, .int RI, .int (nI n), .ref q1, .ref q2, .long al, .long ff, .long lf])), (q1, .inl (gI g, n, .inl sqf)), (q2, .inl (gI g, 16 * n, .inl stf))]) [0, 4, 5, 6, 7, 1, 2, 3] rfl
  have hD9 := hD.sub (ws' := [(t, .inr (3, [.ref b, .int K, .int (nI (n * n)), .ref n1, .ref n2, .ref n3, .ref n4, .int (-1 : Int32), .int (zI false)])), (n1, .inl (gJ g, 2 * (n * n), .inr (.inl (fun _ => 0)))), (n2, .inl (gJ g, 2 * (n * n), .inr (.inl (fun _ => 0)))), (n3, .inl (gJ g, 2 * (n * n), .inr (.inl (fun _ => 0)))), (n4, .inl (gJ g, 10 * (n * n), .inr (.inl (fun _ => 0)))), (b, .inr (0, [.int FI, .int RI, .int (nI n), .ref q1, .ref q2, .long al, .long ff, .long lf])), (q1, .inl (gI g, n, .inl sqf)), (q2, .inl (gI g, 16 * n, .inl stf))]) [0, 4, 5, 6, 7, 1, 2, 3] (by decide) rfl
  exact W.vret hx hb hr (fun t ht hW => ⟨rfl, ⟨_, ⟨n1, n2, n3, n4, rfl⟩, by rw [ht]; exact hP9, hD9⟩, hS.F ht⟩) hS.2.2 dX3_init_95 hlocks

def mX5_init_V2 (ranks : Int32) : Int32 :=
  if ranks < (3 : Int32) then
    (8 : Int32)
  else
    if ranks ≤ (8 : Int32) then
      ranks
    else
      (8 : Int32)
def mX5_init_V1 (files : Int32) : Int32 :=
  if files < (3 : Int32) then
    (8 : Int32)
  else
    if files ≤ (8 : Int32) then
      files
    else
      (8 : Int32)
def mX5_init (files : Int32) (ranks : Int32) : Int32 × Int32 :=
  ((mX5_init_V1 files), (mX5_init_V2 ranks))
set_option maxHeartbeats 4000000 in
set_option maxRecDepth 100000 in
theorem c_X5_init (l : Launch) (g : et_G) (sz : Nat) (md : Nat) (files : Int32) (ranks : Int32)  : Met l yX5_init (Cond.code yX5_init cX5_init 3 none :: W0) ({ frames := 1, cells := 4, slots := 327756, locals := 12 } : Room) (et_PcN g sz ([(md, .inr (5, [.int 0, .int 0, .int 0, .null, .null, .null, .int 0, .int 0, .int 0, .int 0, .int 0, .int 0, .null, .int 0]))]) [.ref md, .int files, .int ranks] (fun _ => True)) (et_QN g (va_A ([(md, .inr (5, [.int 0, .int 0, .int 0, .null, .null, .null, .int 0, .int 0, .int 0, .int 0, .int 0, .int 0, .null, .int 0]))]) sz) (fun w : va_W => ∃ r1 r2 r3 r4 : Nat, w = [(md, .inr (5, [.int 0, .int ((mX5_init files ranks).1), .int ((mX5_init files ranks).2), .ref r1, .ref r2, .ref r3, .int (zI false), .int 0, .int 0, .int 0, .int 0, .int 0, .ref r4, .int 0])), (r1, .inl (gJ g, 327680, .inr (.inl (fun _ => 0)))), (r2, .inl (gZ g, 6, .inl (fun _ => (0 : Int32)))), (r3, .inl (gI g, 6, .inl (fun _ => 0))), (r4, .inl (gI g, 64, .inl (fun _ => 0)))]) none) 4 327756 (va_A ([(md, .inr (5, [.int 0, .int 0, .int 0, .null, .null, .null, .int 0, .int 0, .int 0, .int 0, .int 0, .int 0, .null, .int 0]))]) sz) := by
  refine et_startN (by decide) rfl (Nat.le_of_ble_eq_true rfl) ?_
  intro p e s m args below meth c hx hb hr hts0 hown hlocks hml hin hsz hP hC hX hD hS hA ls hl
  subst hsz
  have hts : ∀ w ∈ W0, w.before args s = true := fun w h => hts0 w (List.mem_cons_of_mem _ h)
  have hown : s.vm.findClass RX5 = some m.cls := hown
  have hl : lv_has ls 3 [(0, .ref md), (1, .int files), (2, .int ranks)] := hl
  refine lv_aload_n hx hb dX5_init_0 rfl (lv_at hl 0 rfl) ?_
  refine W.objInit hx hb hown (hts _ w_731) (hts _ w_96) (hts _ w_97) rfl (by rw [hml]; exact hl.1) rfl dX5_init_1 (Nat.le_of_ble_eq_true rfl) (Nat.le_of_ble_eq_true rfl) ?_
  refine W.eq (g2 := F0 m 4 ls []) rfl ?_
  refine lv_aload_n hx hb dX5_init_4 rfl (lv_at hl 0 rfl) ?_
  refine lv_ldc hx hb hown (hts _ w_732) dX5_init_5 ?_
  refine va_newa (atype := .long) hx hb (hts _ w_198) rfl hC.1 hP hD hS hA (N' := 327680) (a0 := (327680, .inr (.inl (fun _ => 0)))) (fun cA => rfl) (by decide) (by decide) (by show 327680 * 8 ≤ 536870912; omega) (Nat.le_of_ble_eq_true rfl) (by show 0 + 327680 ≤ 327756; omega) dX5_init_7 (fun n1 cA H hK2 hP hD hS => ?_)
  obtain rfl : cA = gJ g := et_clsJ hC hK2
  have hP : va_P (gD g) vwCl ([(md, .inr (5, [.int 0, .int 0, .int 0, .null, .null, .null, .int 0, .int 0, .int 0, .int 0, .int 0, .int 0, .null, .int 0])), (n1, .inl (gJ g, 327680, .inr (.inl (fun _ => 0))))]) H := hP
  have hD : va_D (va_A ([(md, .inr (5, [.int 0, .int 0, .int 0, .null, .null, .null, .int 0, .int 0, .int 0, .int 0, .int 0, .int 0, .null, .int 0]))]) s.heap.size) ([(md, .inr (5, [.int 0, .int 0, .int 0, .null, .null, .null, .int 0, .int 0, .int 0, .int 0, .int 0, .int 0, .null, .int 0])), (n1, .inl (gJ g, 327680, .inr (.inl (fun _ => 0))))]) := hD
  refine W.widen (k := 1) (n := 327680) (by omega) (by omega) ?_
  refine va_putF (D := gD g) (ci := 5) (v := .ref n1) (ty := .array .long) (C := RX5) (T := TX5) (N := 14) hx hb hts inW_X5 tyX5 tyX5_ok nmX5 hown hC.1 hP hD hS 0 rfl rfl 3 (by decide) (hts _ w_736) (fun _ h9 => h9) rfl hin rfl (by decide +kernel) rfl rfl (Nat.le_of_ble_eq_true rfl) dX5_init_9 (fun H locs hP hD hS => ?_)
  have hP : va_P (gD g) vwCl ([(md, .inr (5, [.int 0, .int 0, .int 0, .ref n1, .null, .null, .int 0, .int 0, .int 0, .int 0, .int 0, .int 0, .null, .int 0])), (n1, .inl (gJ g, 327680, .inr (.inl (fun _ => 0))))]) H := hP
  have hD : va_D (va_A ([(md, .inr (5, [.int 0, .int 0, .int 0, .null, .null, .null, .int 0, .int 0, .int 0, .int 0, .int 0, .int 0, .null, .int 0]))]) s.heap.size) ([(md, .inr (5, [.int 0, .int 0, .int 0, .ref n1, .null, .null, .int 0, .int 0, .int 0, .int 0, .int 0, .int 0, .null, .int 0])), (n1, .inl (gJ g, 327680, .inr (.inl (fun _ => 0))))]) := hD
  refine lv_aload_n hx hb dX5_init_12 rfl (lv_at hl 0 rfl) ?_
  refine lv_bipush (v := (6 : Int32)) hx hb dX5_init_13 (by decide) ?_
  refine va_newa (atype := .boolean) hx hb (hts _ w_776) rfl hC.1 hP hD hS hA (N' := 6) (a0 := (6, .inl (fun _ => 0))) (fun cA => rfl) (by decide) (by decide) (by show 6 * 1 ≤ 536870912; omega) (Nat.le_of_ble_eq_true rfl) (by show 327680 + 6 ≤ 327756; omega) dX5_init_15 (fun n2 cA H hK2 hP hD hS => ?_)
  obtain rfl : cA = gZ g := et_clsZ hC hK2
  have hP : va_P (gD g) vwCl ([(md, .inr (5, [.int 0, .int 0, .int 0, .ref n1, .null, .null, .int 0, .int 0, .int 0, .int 0, .int 0, .int 0, .null, .int 0])), (n1, .inl (gJ g, 327680, .inr (.inl (fun _ => 0)))), (n2, .inl (gZ g, 6, .inl (fun _ => 0)))]) H := hP
  have hD : va_D (va_A ([(md, .inr (5, [.int 0, .int 0, .int 0, .null, .null, .null, .int 0, .int 0, .int 0, .int 0, .int 0, .int 0, .null, .int 0]))]) s.heap.size) ([(md, .inr (5, [.int 0, .int 0, .int 0, .ref n1, .null, .null, .int 0, .int 0, .int 0, .int 0, .int 0, .int 0, .null, .int 0])), (n1, .inl (gJ g, 327680, .inr (.inl (fun _ => 0)))), (n2, .inl (gZ g, 6, .inl (fun _ => 0)))]) := hD
  refine W.widen (k := 2) (n := 327686) (by omega) (by omega) ?_
  refine va_putF (D := gD g) (ci := 5) (v := .ref n2) (ty := .array .boolean) (C := RX5) (T := TX5) (N := 14) hx hb hts inW_X5 tyX5 tyX5_ok nmX5 hown hC.1 hP hD hS 0 rfl rfl 4 (by decide) (hts _ w_737) (fun _ h9 => h9) rfl hin rfl (by decide +kernel) rfl rfl (Nat.le_of_ble_eq_true rfl) dX5_init_17 (fun H locs hP hD hS => ?_)
  have hP : va_P (gD g) vwCl ([(md, .inr (5, [.int 0, .int 0, .int 0, .ref n1, .ref n2, .null, .int 0, .int 0, .int 0, .int 0, .int 0, .int 0, .null, .int 0])), (n1, .inl (gJ g, 327680, .inr (.inl (fun _ => 0)))), (n2, .inl (gZ g, 6, .inl (fun _ => 0)))]) H := hP
  have hD : va_D (va_A ([(md, .inr (5, [.int 0, .int 0, .int 0, .null, .null, .null, .int 0, .int 0, .int 0, .int 0, .int 0, .int 0, .null, .int 0]))]) s.heap.size) ([(md, .inr (5, [.int 0, .int 0, .int 0, .ref n1, .ref n2, .null, .int 0, .int 0, .int 0, .int 0, .int 0, .int 0, .null, .int 0])), (n1, .inl (gJ g, 327680, .inr (.inl (fun _ => 0)))), (n2, .inl (gZ g, 6, .inl (fun _ => 0)))]) := hD
  refine lv_aload_n hx hb dX5_init_20 rfl (lv_at hl 0 rfl) ?_
  refine lv_bipush (v := (6 : Int32)) hx hb dX5_init_21 (by decide) ?_
  refine va_newa (atype := .int) hx hb (hts _ w_154) rfl hC.1 hP hD hS hA (N' := 6) (a0 := (6, .inl (fun _ => 0))) (fun cA => rfl) (by decide) (by decide) (by show 6 * 4 ≤ 536870912; omega) (Nat.le_of_ble_eq_true rfl) (by show 327686 + 6 ≤ 327756; omega) dX5_init_23 (fun n3 cA H hK2 hP hD hS => ?_)
  obtain rfl : cA = gI g := et_clsI hC hK2
  have hP : va_P (gD g) vwCl ([(md, .inr (5, [.int 0, .int 0, .int 0, .ref n1, .ref n2, .null, .int 0, .int 0, .int 0, .int 0, .int 0, .int 0, .null, .int 0])), (n1, .inl (gJ g, 327680, .inr (.inl (fun _ => 0)))), (n2, .inl (gZ g, 6, .inl (fun _ => 0))), (n3, .inl (gI g, 6, .inl (fun _ => 0)))]) H := hP
  have hD : va_D (va_A ([(md, .inr (5, [.int 0, .int 0, .int 0, .null, .null, .null, .int 0, .int 0, .int 0, .int 0, .int 0, .int 0, .null, .int 0]))]) s.heap.size) ([(md, .inr (5, [.int 0, .int 0, .int 0, .ref n1, .ref n2, .null, .int 0, .int 0, .int 0, .int 0, .int 0, .int 0, .null, .int 0])), (n1, .inl (gJ g, 327680, .inr (.inl (fun _ => 0)))), (n2, .inl (gZ g, 6, .inl (fun _ => 0))), (n3, .inl (gI g, 6, .inl (fun _ => 0)))]) := hD
  refine W.widen (k := 3) (n := 327692) (by omega) (by omega) ?_
  refine va_putF (D := gD g) (ci := 5) (v := .ref n3) (ty := .array .int) (C := RX5) (T := TX5) (N := 14) hx hb hts inW_X5 tyX5 tyX5_ok nmX5 hown hC.1 hP hD hS 0 rfl rfl 5 (by decide) (hts _ w_738) (fun _ h9 => h9) rfl hin rfl (by decide +kernel) rfl rfl (Nat.le_of_ble_eq_true rfl) dX5_init_25 (fun H locs hP hD hS => ?_)
  have hP : va_P (gD g) vwCl ([(md, .inr (5, [.int 0, .int 0, .int 0, .ref n1, .ref n2, .ref n3, .int 0, .int 0, .int 0, .int 0, .int 0, .int 0, .null, .int 0])), (n1, .inl (gJ g, 327680, .inr (.inl (fun _ => 0)))), (n2, .inl (gZ g, 6, .inl (fun _ => 0))), (n3, .inl (gI g, 6, .inl (fun _ => 0)))]) H := hP
  have hD : va_D (va_A ([(md, .inr (5, [.int 0, .int 0, .int 0, .null, .null, .null, .int 0, .int 0, .int 0, .int 0, .int 0, .int 0, .null, .int 0]))]) s.heap.size) ([(md, .inr (5, [.int 0, .int 0, .int 0, .ref n1, .ref n2, .ref n3, .int 0, .int 0, .int 0, .int 0, .int 0, .int 0, .null, .int 0])), (n1, .inl (gJ g, 327680, .inr (.inl (fun _ => 0)))), (n2, .inl (gZ g, 6, .inl (fun _ => 0))), (n3, .inl (gI g, 6, .inl (fun _ => 0)))]) := hD
  refine lv_aload_n hx hb dX5_init_28 rfl (lv_at hl 0 rfl) ?_
  refine lv_bipush (v := (64 : Int32)) hx hb dX5_init_29 (by decide) ?_
  refine va_newa (atype := .int) hx hb (hts _ w_154) rfl hC.1 hP hD hS hA (N' := 64) (a0 := (64, .inl (fun _ => 0))) (fun cA => rfl) (by decide) (by decide) (by show 64 * 4 ≤ 536870912; omega) (Nat.le_of_ble_eq_true rfl) (by show 327692 + 64 ≤ 327756; omega) dX5_init_31 (fun n4 cA H hK2 hP hD hS => ?_)
  obtain rfl : cA = gI g := et_clsI hC hK2
  have hP : va_P (gD g) vwCl ([(md, .inr (5, [.int 0, .int 0, .int 0, .ref n1, .ref n2, .ref n3, .int 0, .int 0, .int 0, .int 0, .int 0, .int 0, .null, .int 0])), (n1, .inl (gJ g, 327680, .inr (.inl (fun _ => 0)))), (n2, .inl (gZ g, 6, .inl (fun _ => 0))), (n3, .inl (gI g, 6, .inl (fun _ => 0))), (n4, .inl (gI g, 64, .inl (fun _ => 0)))]) H := hP
  have hD : va_D (va_A ([(md, .inr (5, [.int 0, .int 0, .int 0, .null, .null, .null, .int 0, .int 0, .int 0, .int 0, .int 0, .int 0, .null, .int 0]))]) s.heap.size) ([(md, .inr (5, [.int 0, .int 0, .int 0, .ref n1, .ref n2, .ref n3, .int 0, .int 0, .int 0, .int 0, .int 0, .int 0, .null, .int 0])), (n1, .inl (gJ g, 327680, .inr (.inl (fun _ => 0)))), (n2, .inl (gZ g, 6, .inl (fun _ => 0))), (n3, .inl (gI g, 6, .inl (fun _ => 0))), (n4, .inl (gI g, 64, .inl (fun _ => 0)))]) := hD
  refine W.widen (k := 4) (n := 327756) (by omega) (by omega) ?_
  refine va_putF (D := gD g) (ci := 5) (v := .ref n4) (ty := .array .int) (C := RX5) (T := TX5) (N := 14) hx hb hts inW_X5 tyX5 tyX5_ok nmX5 hown hC.1 hP hD hS 0 rfl rfl 12 (by decide) (hts _ w_745) (fun _ h9 => h9) rfl hin rfl (by decide +kernel) rfl rfl (Nat.le_of_ble_eq_true rfl) dX5_init_33 (fun H locs hP hD hS => ?_)
  have hP : va_P (gD g) vwCl ([(md, .inr (5, [.int 0, .int 0, .int 0, .ref n1, .ref n2, .ref n3, .int 0, .int 0, .int 0, .int 0, .int 0, .int 0, .ref n4, .int 0])), (n1, .inl (gJ g, 327680, .inr (.inl (fun _ => 0)))), (n2, .inl (gZ g, 6, .inl (fun _ => 0))), (n3, .inl (gI g, 6, .inl (fun _ => 0))), (n4, .inl (gI g, 64, .inl (fun _ => 0)))]) H := hP
  have hD : va_D (va_A ([(md, .inr (5, [.int 0, .int 0, .int 0, .null, .null, .null, .int 0, .int 0, .int 0, .int 0, .int 0, .int 0, .null, .int 0]))]) s.heap.size) ([(md, .inr (5, [.int 0, .int 0, .int 0, .ref n1, .ref n2, .ref n3, .int 0, .int 0, .int 0, .int 0, .int 0, .int 0, .ref n4, .int 0])), (n1, .inl (gJ g, 327680, .inr (.inl (fun _ => 0)))), (n2, .inl (gZ g, 6, .inl (fun _ => 0))), (n3, .inl (gI g, 6, .inl (fun _ => 0))), (n4, .inl (gI g, 64, .inl (fun _ => 0)))]) := hD
  refine lv_aload_n hx hb dX5_init_36 rfl (lv_at hl 0 rfl) ?_
  have hj1 : ∀ ls : Array Slot, lv_has ls 3 [(0, .ref md), (1, .int files), (2, .int ranks)] → W p l e ({ frames := 1, cells := 4, slots := 327756, locals := 12 } : Room) s m args below meth c H locs 4 327756 (MQ below (et_QN g (va_A ([(md, .inr (5, [.int 0, .int 0, .int 0, .null, .null, .null, .int 0, .int 0, .int 0, .int 0, .int 0, .int 0, .null, .int 0]))]) s.heap.size) (fun w : va_W => ∃ r1 r2 r3 r4 : Nat, w = [(md, .inr (5, [.int 0, .int ((mX5_init files ranks).1), .int ((mX5_init files ranks).2), .ref r1, .ref r2, .ref r3, .int (zI false), .int 0, .int 0, .int 0, .int 0, .int 0, .ref r4, .int 0])), (r1, .inl (gJ g, 327680, .inr (.inl (fun _ => 0)))), (r2, .inl (gZ g, 6, .inl (fun _ => (0 : Int32)))), (r3, .inl (gI g, 6, .inl (fun _ => 0))), (r4, .inl (gI g, 64, .inl (fun _ => 0)))]) none) args s 4 327756 (va_A ([(md, .inr (5, [.int 0, .int 0, .int 0, .null, .null, .null, .int 0, .int 0, .int 0, .int 0, .int 0, .int 0, .null, .int 0]))]) s.heap.size)) (F0 m 54 ls [.int (mX5_init_V1 files), .ref md]) := by
    intro ls hl
    refine va_putF (D := gD g) (ci := 5) (v := .int (mX5_init_V1 files)) (ty := .int) (C := RX5) (T := TX5) (N := 14) hx hb hts inW_X5 tyX5 tyX5_ok nmX5 hown hC.1 hP hD hS 0 rfl rfl 1 (by decide) (hts _ w_734) (fun _ h9 => h9) rfl hin rfl (by decide +kernel) rfl rfl (Nat.le_of_ble_eq_true rfl) dX5_init_54 (fun H locs hP hD hS => ?_)
    have hP : va_P (gD g) vwCl ([(md, .inr (5, [.int 0, .int (mX5_init_V1 files), .int 0, .ref n1, .ref n2, .ref n3, .int 0, .int 0, .int 0, .int 0, .int 0, .int 0, .ref n4, .int 0])), (n1, .inl (gJ g, 327680, .inr (.inl (fun _ => 0)))), (n2, .inl (gZ g, 6, .inl (fun _ => 0))), (n3, .inl (gI g, 6, .inl (fun _ => 0))), (n4, .inl (gI g, 64, .inl (fun _ => 0)))]) H := hP
    have hD : va_D (va_A ([(md, .inr (5, [.int 0, .int 0, .int 0, .null, .null, .null, .int 0, .int 0, .int 0, .int 0, .int 0, .int 0, .null, .int 0]))]) s.heap.size) ([(md, .inr (5, [.int 0, .int (mX5_init_V1 files), .int 0, .ref n1, .ref n2, .ref n3, .int 0, .int 0, .int 0, .int 0, .int 0, .int 0, .ref n4, .int 0])), (n1, .inl (gJ g, 327680, .inr (.inl (fun _ => 0)))), (n2, .inl (gZ g, 6, .inl (fun _ => 0))), (n3, .inl (gI g, 6, .inl (fun _ => 0))), (n4, .inl (gI g, 64, .inl (fun _ => 0)))]) := hD
    refine lv_aload_n hx hb dX5_init_57 rfl (lv_at hl 0 rfl) ?_
    have hj2 : ∀ ls : Array Slot, lv_has ls 3 [(0, .ref md), (1, .int files), (2, .int ranks)] → W p l e ({ frames := 1, cells := 4, slots := 327756, locals := 12 } : Room) s m args below meth c H locs 4 327756 (MQ below (et_QN g (va_A ([(md, .inr (5, [.int 0, .int 0, .int 0, .null, .null, .null, .int 0, .int 0, .int 0, .int 0, .int 0, .int 0, .null, .int 0]))]) s.heap.size) (fun w : va_W => ∃ r1 r2 r3 r4 : Nat, w = [(md, .inr (5, [.int 0, .int ((mX5_init files ranks).1), .int ((mX5_init files ranks).2), .ref r1, .ref r2, .ref r3, .int (zI false), .int 0, .int 0, .int 0, .int 0, .int 0, .ref r4, .int 0])), (r1, .inl (gJ g, 327680, .inr (.inl (fun _ => 0)))), (r2, .inl (gZ g, 6, .inl (fun _ => (0 : Int32)))), (r3, .inl (gI g, 6, .inl (fun _ => 0))), (r4, .inl (gI g, 64, .inl (fun _ => 0)))]) none) args s 4 327756 (va_A ([(md, .inr (5, [.int 0, .int 0, .int 0, .null, .null, .null, .int 0, .int 0, .int 0, .int 0, .int 0, .int 0, .null, .int 0]))]) s.heap.size)) (F0 m 75 ls [.int (mX5_init_V2 ranks), .ref md]) := by
      intro ls hl
      refine va_putF (D := gD g) (ci := 5) (v := .int (mX5_init_V2 ranks)) (ty := .int) (C := RX5) (T := TX5) (N := 14) hx hb hts inW_X5 tyX5 tyX5_ok nmX5 hown hC.1 hP hD hS 0 rfl rfl 2 (by decide) (hts _ w_735) (fun _ h9 => h9) rfl hin rfl (by decide +kernel) rfl rfl (Nat.le_of_ble_eq_true rfl) dX5_init_75 (fun H locs hP hD hS => ?_)
      have hP : va_P (gD g) vwCl ([(md, .inr (5, [.int 0, .int (mX5_init_V1 files), .int (mX5_init_V2 ranks), .ref n1, .ref n2, .ref n3, .int 0, .int 0, .int 0, .int 0, .int 0, .int 0, .ref n4, .int 0])), (n1, .inl (gJ g, 327680, .inr (.inl (fun _ => 0)))), (n2, .inl (gZ g, 6, .inl (fun _ => 0))), (n3, .inl (gI g, 6, .inl (fun _ => 0))), (n4, .inl (gI g, 64, .inl (fun _ => 0)))]) H := hP
      have hD : va_D (va_A ([(md, .inr (5, [.int 0, .int 0, .int 0, .null, .null, .null, .int 0, .int 0, .int 0, .int 0, .int 0, .int 0, .null, .int 0]))]) s.heap.size) ([(md, .inr (5, [.int 0, .int (mX5_init_V1 files), .int (mX5_init_V2 ranks), .ref n1, .ref n2, .ref n3, .int 0, .int 0, .int 0, .int 0, .int 0, .int 0, .ref n4, .int 0])), (n1, .inl (gJ g, 327680, .inr (.inl (fun _ => 0)))), (n2, .inl (gZ g, 6, .inl (fun _ => 0))), (n3, .inl (gI g, 6, .inl (fun _ => 0))), (n4, .inl (gI g, 64, .inl (fun _ => 0)))]) := hD
      have hfin : ((mX5_init_V1 files), (mX5_init_V2 ranks)) = (mX5_init files ranks) := (by rw [mX5_init])
      have hP9 := hP.sub (ws' := [(md, .inr (5, [.int 0, .int (mX5_init_V1 files), .int (mX5_init_V2 ranks), .ref n1, .ref n2, .ref n3, .int (zI false), .int 0, .int 0, .int 0, .int 0, .int 0, .ref n4, .int 0])), (n1, .inl (gJ g, 327680, .inr (.inl (fun _ => 0)))), (n2, .inl (gZ g, 6, .inl (fun _ => (0 : Int32)))), (n3, .inl (gI g, 6, .inl (fun _ => 0))), (n4, .inl (gI g, 64, .inl (fun _ => 0)))]) [0, 1, 2, 3, 4] rfl
      have hD9 := hD.sub (ws' := [(md, .inr (5, [.int 0, .int (mX5_init_V1 files), .int (mX5_init_V2 ranks), .ref n1, .ref n2, .ref n3, .int (zI false), .int 0, .int 0, .int 0, .int 0, .int 0, .ref n4, .int 0])), (n1, .inl (gJ g, 327680, .inr (.inl (fun _ => 0)))), (n2, .inl (gZ g, 6, .inl (fun _ => (0 : Int32)))), (n3, .inl (gI g, 6, .inl (fun _ => 0))), (n4, .inl (gI g, 64, .inl (fun _ => 0)))]) [0, 1, 2, 3, 4] (by decide) rfl
      exact W.vret hx hb hr (fun t ht hW => ⟨rfl, ⟨_, ⟨n1, n2, n3, n4, by rw [← hfin]⟩, by rw [ht]; exact hP9, hD9⟩, hS.F ht⟩) hS.2.2 dX5_init_78 hlocks
    refine lv_iload_n hx hb dX5_init_58 rfl (lv_at hl 2 rfl) ?_
    refine lv_iconst (v := (3 : Int32)) hx hb dX5_init_59 (by decide) ?_
    refine lv_icmp_lt (tgt := 69) hx hb dX5_init_60 (by decide) (fun c_1 => ?_) (fun c_1 => ?_)
    ·
      refine lv_bipush (v := (8 : Int32)) hx hb dX5_init_69 (by decide) ?_
      refine lv_goto (tgt := 75) hx hb dX5_init_71 (by decide) ?_
      have he1 : ((8 : Int32) : Int32) = (mX5_init_V2 ranks) := (by rw [mX5_init_V2, if_pos c_1])
      exact et_stki he1 (hj2 ls (lv_sub hl [0, 1, 2] rfl))
    ·
      refine lv_iload_n hx hb dX5_init_63 rfl (lv_at hl 2 rfl) ?_
      refine lv_bipush (v := (8 : Int32)) hx hb dX5_init_64 (by decide) ?_
      refine lv_icmp_le (tgt := 74) hx hb dX5_init_66 (by decide) (fun c_2 => ?_) (fun c_2 => ?_)
      ·
        refine lv_iload_n hx hb dX5_init_74 rfl (lv_at hl 2 rfl) ?_
        have he2 : (ranks : Int32) = (mX5_init_V2 ranks) := (by rw [mX5_init_V2, if_neg c_1, if_pos c_2])
        exact et_stki he2 (hj2 ls (lv_sub hl [0, 1, 2] rfl))
      ·
        refine lv_bipush (v := (8 : Int32)) hx hb dX5_init_69 (by decide) ?_
        refine lv_goto (tgt := 75) hx hb dX5_init_71 (by decide) ?_
        have he3 : ((8 : Int32) : Int32) = (mX5_init_V2 ranks) := (by rw [mX5_init_V2, if_neg c_1, if_neg c_2])
        exact et_stki he3 (hj2 ls (lv_sub hl [0, 1, 2] rfl))
  refine lv_iload_n hx hb dX5_init_37 rfl (lv_at hl 1 rfl) ?_
  refine lv_iconst (v := (3 : Int32)) hx hb dX5_init_38 (by decide) ?_
  refine lv_icmp_lt (tgt := 48) hx hb dX5_init_39 (by decide) (fun c_3 => ?_) (fun c_3 => ?_)
  ·
    refine lv_bipush (v := (8 : Int32)) hx hb dX5_init_48 (by decide) ?_
    refine lv_goto (tgt := 54) hx hb dX5_init_50 (by decide) ?_
    have he4 : ((8 : Int32) : Int32) = (mX5_init_V1 files) := (by rw [mX5_init_V1, if_pos c_3])
    exact et_stki he4 (hj1 ls (lv_sub hl [0, 1, 2] rfl))
  ·
    refine lv_iload_n hx hb dX5_init_42 rfl (lv_at hl 1 rfl) ?_
    refine lv_bipush (v := (8 : Int32)) hx hb dX5_init_43 (by decide) ?_
    refine lv_icmp_le (tgt := 53) hx hb dX5_init_45 (by decide) (fun c_4 => ?_) (fun c_4 => ?_)
    ·
      refine lv_iload_n hx hb dX5_init_53 rfl (lv_at hl 1 rfl) ?_
      have he5 : (files : Int32) = (mX5_init_V1 files) := (by rw [mX5_init_V1, if_neg c_3, if_pos c_4])
      exact et_stki he5 (hj1 ls (lv_sub hl [0, 1, 2] rfl))
    ·
      refine lv_bipush (v := (8 : Int32)) hx hb dX5_init_48 (by decide) ?_
      refine lv_goto (tgt := 54) hx hb dX5_init_50 (by decide) ?_
      have he6 : ((8 : Int32) : Int32) = (mX5_init_V1 files) := (by rw [mX5_init_V1, if_neg c_3, if_neg c_4])
      exact et_stki he6 (hj1 ls (lv_sub hl [0, 1, 2] rfl))
