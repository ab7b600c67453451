
/-! contexts, contracts' forms and call rows of this claim -/
def zI (b : Bool) : Int32 := if b = true then 1 else 0
theorem zI_t : zI true = 1 := rfl
theorem zI_f : zI false = 0 := rfl
theorem zI_narrow (b : Bool) : narrow .boolean (.int (zI b)) = .int (zI b) := by cases b <;> rfl
theorem zI_eq0 (b : Bool) : zI b = 0 ↔ b = false := by cases b <;> simp [zI_t, zI_f]
abbrev et_G : Type := (Nat → ClassId) × (Nat → Nat → Nat) × ClassId × ClassId × ClassId × ClassId
abbrev gD (g : et_G) : va_G := (g.1, g.2.1)
abbrev gI (g : et_G) : ClassId := g.2.2.1
abbrev gJ (g : et_G) : ClassId := g.2.2.2.1
abbrev gZ (g : et_G) : ClassId := g.2.2.2.2.1
abbrev gT (g : et_G) : ClassId := g.2.2.2.2.2
abbrev gty (g : et_G) : List (ClassId × FieldType) := [(gI g, .int), (gJ g, .long), (gZ g, .boolean), (gT g, .object RX3)]
def et_nF : List (String × Nat × String × String × String) := [(RX4, 110, "EndTables$Position", "kind", "I"), (RX4, 113, "EndTables$Position", "white", "I"), (RX4, 120, "EndTables$Position", "man", "I"), (RX4, 123, "EndTables$Position", "black", "I"), (RX4, 126, "EndTables$Position", "side", "I"), (RX4, 135, "EndTables$MoveList", "listed", "I"), (RX4, 179, "EndTables$Table", "solved", "Z"), (RX4, 48, "EndTables$Board", "ranks", "I"), (RX4, 52, "EndTables$Board", "files", "I"), (RX4, 96, "EndTables$Table", "deepest", "I"), (RX0, 106, "EndTables$Position", "black", "I"), (RX0, 113, "EndTables$Position", "side", "I"), (RX0, 91, "EndTables$Position", "kind", "I"), (RX0, 96, "EndTables$Position", "man", "I"), (RX0, 99, "EndTables$Position", "white", "I"), (RX1, 23, "EndTables$Position", "side", "I"), (RX1, 28, "EndTables$Position", "white", "I"), (RX1, 37, "EndTables$Position", "kind", "I"), (RX1, 40, "EndTables$Position", "man", "I"), (RX1, 50, "EndTables$Position", "black", "I"), (RX1, 73, "EndTables$Board", "ranks", "I"), (RX1, 80, "EndTables$Board", "cells", "I"), (RX3, 162, "EndTables$Board", "ranks", "I"), (RX3, 19, "EndTables$Board", "cells", "I")]
def et_nM : List (String × Nat × MethodName) := [(RX4, 103, yX1_fill), (RX4, 116, yX0_squareOf), (RX4, 129, yX0_inCheck), (RX4, 140, yX1_toldAt), (RX4, 152, yX1_holds), (RX4, 170, yX0_cellOf), (RX4, 173, yX0_isPosition), (RX4, 182, yX3_solve), (RX4, 186, yX3_plies), (RX4, 190, yX2_go), (RX4, 24, yX3_init), (RX4, 29, yX2_init), (RX4, 39, yX1_init), (RX4, 81, yX3_amount), (RX4, 85, yX3_pick), (RX4, 9, yX0_init), (RX4, 99, yX2_copy), (RX0, 109, yX4_isMan), (RX0, 116, yX4_isSide), (RX1, 31, yX0_around), (RX1, 43, yX0_bit), (RX1, 46, yX0_attacked), (RX1, 66, yX0_step), (RX1, 70, yX0_rankOf), (RX1, 83, yX0_squareOf), (RX2, 27, yX0_cellOf), (RX3, 105, yX0_roomForBlack), (RX3, 108, yX0_attacked), (RX3, 124, yX0_around), (RX3, 127, yX0_nextTo), (RX3, 156, yX0_step), (RX3, 159, yX0_rankOf), (RX3, 64, yX0_bit), (RX3, 90, yX0_squareOf)]
def et_NW (U : State) : Prop := (∀ q ∈ et_nF, va_Nw (.fieldLinkNest q.1 q.2.1 q.2.2.1 q.2.2.2.1 q.2.2.2.2 "EndTables") U) ∧ (∀ q ∈ et_nM, va_Nw (.methodLinkNest q.1 q.2.1 q.2.2 "EndTables") U)
theorem et_NW.warm {s U : State} (hW : s.WarmedH U.vm) (h : et_NW s) : et_NW U := ⟨fun q hq => va_Nw.warmF hW (h.1 q hq), fun q hq => va_Nw.warmM hW (h.2 q hq)⟩
theorem et_NW.same {u U : State} (hv : u.vm = U.vm) (h : et_NW u) : et_NW U := ⟨fun q hq => va_Nw.same rfl hv (h.1 q hq), fun q hq => va_Nw.same rfl hv (h.2 q hq)⟩
def et_C (g : et_G) (U : State) : Prop := va_K (gD g) vwCl (gty g) U ∧ et_NW U
theorem et_C.warm {g : et_G} {s U : State} (hW : s.WarmedH U.vm) (h : et_C g s) : et_C g U := ⟨va_K.moved hW.alike h.1, h.2.warm hW⟩
theorem et_C.same {g : et_G} {u U : State} (hv : u.vm = U.vm) (h : et_C g u) : et_C g U := ⟨va_K.moved (by rw [hv]; exact Vm.Alike.refl _) h.1, h.2.same hv⟩
theorem et_nwF {g : et_G} {s : State} {args : Array Value} (hC : et_C g s) {a b n d : String} {i : Nat} (hm : (a, i, b, n, d) ∈ et_nF) : (Cond.fieldLinkNest a i b n d "EndTables").before args s = true := va_Nw.use rfl (hC.2.1 _ hm)
theorem et_nwM {g : et_G} {s : State} (hC : et_C g s) {a : String} {i : Nat} {y : MethodName} (hm : (a, i, y) ∈ et_nM) : va_Nw (.methodLinkNest a i y "EndTables") s := hC.2.2 _ hm
def et_Pc (g : et_G) (ws : va_W) (av : List Value) : Array Value → State → Prop := fun v U => v = av.toArray ∧ va_P (gD g) vwCl ws U.heap ∧ et_C g U
def et_PcW (g : et_G) (ws : va_W) (av : List Value) : Array Value → State → Prop := fun v U => v = av.toArray ∧ va_P (gD g) vwCl ws U.heap ∧ et_C g U ∧ va_D (fun _ => True) ws
theorem et_Pc.blind {g : et_G} {ws : va_W} {av : List Value} : FrameBlind (et_Pc g ws av) := fun a U f mk h => ⟨h.1, h.2.1, et_C.same (u := U) (U := U.calling f mk a) rfl h.2.2⟩
theorem et_PcW.blind {g : et_G} {ws : va_W} {av : List Value} : FrameBlind (et_PcW g ws av) := fun a U f mk h => ⟨h.1, h.2.1, et_C.same (u := U) (U := U.calling f mk a) rfl h.2.2.1, h.2.2.2⟩
def et_QP (v : Option Value) : Array Value → State → Outcome → State → Prop := fun _ st oc t => oc = .returned v ∧ t.heap = st.heap
def et_ad (ws : va_W) : Nat → Prop := fun q => q ∈ ws.map Prod.fst
def et_QW (g : et_G) (ws ws' : va_W) (v : Option Value) : Array Value → State → Outcome → State → Prop := fun _ st oc t => oc = .returned v ∧ va_P (gD g) vwCl ws' t.heap ∧ va_F (et_ad ws) st t
abbrev et_no : Addr → Prop := fun _ => False
theorem et_ad.of {ws : va_W} {k : Nat} {q : Nat × va_E} (h : ws[k]? = some q) : et_ad ws q.1 := List.mem_map.mpr ⟨q, List.mem_of_getElem? h, rfl⟩
theorem et_ad.get {ws : va_W} {a : Nat} (h : et_ad ws a) : ∃ (k : Nat) (e : va_E), ws[k]? = some (a, e) := by
  obtain ⟨⟨b, e⟩, hq, rfl⟩ := List.mem_map.mp h
  obtain ⟨k, hk⟩ := List.getElem?_of_mem hq
  exact ⟨k, e, hk⟩
theorem et_D.self {ws : va_W} (h : va_D (fun _ => True) ws) : va_D (et_ad ws) ws := ⟨h.1, fun _ _ hk => et_ad.of hk⟩
section EtStart
variable {l : Launch} {y : MethodName} {ws ws' : List Cond} {rm : Room} {g : et_G} {world world' : va_W} {av : List Value} {v : Option Value} {cc : ByteArray} {maxL : Nat} {ret : Option FieldType}
theorem et_startP (hy : plainName y.cls = true) (hw : ws = Cond.code y cc maxL ret :: ws') (hn : (lg_sl av).length ≤ maxL)
    (body : ∀ (p : Program) (e : Env) (s : State) (m : MethodId) (args : Array Value) (below : List Frame) (meth : Method) (c : Code), p.tables.exec = Jvm.exec → c.code = cc → meth.sig.returnType = ret → (∀ w ∈ ws, w.before args s = true) → s.vm.findClass y.cls = some m.cls → meth.locks = false → c.maxLocals = maxL → va_P (gD g) vwCl world s.heap → et_C g s → ∀ ls : Array Slot, lv_has ls maxL (lv_args 0 av) → W p l e rm s m args below meth c s.heap [] 0 0 (MQ below (et_QP v) args s 0 0 et_no) (F0 m 0 ls [])) :
    Met l y ws rm (et_Pc g world av) (et_QP v) 0 0 et_no := by
  refine Met.ofW (cc := cc) (maxL := maxL) (ret := ret) hy hw ?_
  intro p e s m args below meth c s₁ B hml hv
  obtain ⟨rfl, hP, hC⟩ := hv
  have hl := lv_entry av (n := maxL) hn
  rw [lg_entry_eq]
  exact body p e s m _ below meth c B.exec B.bytes B.returns (atoms_spec (ws := ws) B.pre) (findClass_of_methodNamed B.named) B.notSynchronized hml hP hC _ hl
theorem et_startW (hy : plainName y.cls = true) (hw : ws = Cond.code y cc maxL ret :: ws') (hn : (lg_sl av).length ≤ maxL)
    (body : ∀ (p : Program) (e : Env) (s : State) (m : MethodId) (args : Array Value) (below : List Frame) (meth : Method) (c : Code), p.tables.exec = Jvm.exec → c.code = cc → meth.sig.returnType = ret → (∀ w ∈ ws, w.before args s = true) → s.vm.findClass y.cls = some m.cls → meth.locks = false → c.maxLocals = maxL → va_P (gD g) vwCl world s.heap → et_C g s → va_D (et_ad world) world → va_S (et_ad world) s.heap s.heap [] → ∀ ls : Array Slot, lv_has ls maxL (lv_args 0 av) → W p l e rm s m args below meth c s.heap [] 0 0 (MQ below (et_QW g world world' v) args s 0 0 (et_ad world)) (F0 m 0 ls [])) :
    Met l y ws rm (et_PcW g world av) (et_QW g world world' v) 0 0 (et_ad world) := by
  refine Met.ofW (cc := cc) (maxL := maxL) (ret := ret) hy hw ?_
  intro p e s m args below meth c s₁ B hml hv
  obtain ⟨rfl, hP, hC, hD⟩ := hv
  have hl := lv_entry av (n := maxL) hn
  rw [lg_entry_eq]
  exact body p e s m _ below meth c B.exec B.bytes B.returns (atoms_spec (ws := ws) B.pre) (findClass_of_methodNamed B.named) B.notSynchronized hml hP hC (et_D.self hD) va_S.rf _ hl
end EtStart
section EtRet
variable {p : Program} {l : Launch} {e : Env} {R : Room} {s : State} {m : MethodId} {args : Array Value} {below : List Frame} {meth : Method} {c : Code} {H : Heap} {locs : List Loc} {cc : ByteArray} {pc : Nat} {ls : Array Slot} {g : et_G} {world world' ws : va_W}
theorem et_iret (hx : p.tables.exec = Jvm.exec) (hb : c.code = cc) (hr : meth.sig.returnType = some .int) (hlocks : meth.locks = false) (hdg : decode cc pc = .ok (.ireturn, 1)) {x v : Int32} (hv : x = v) : W p l e R s m args below meth c s.heap [] 0 0 (MQ below (et_QP (some (.int v))) args s 0 0 et_no) (F0 m pc ls [.int x]) := by
  subst hv
  exact W.iret hx hb hr (fun t ht hW => ⟨rfl, ht⟩) (fun q h => nomatch h) hdg hlocks
theorem et_lret (hx : p.tables.exec = Jvm.exec) (hb : c.code = cc) (hr : meth.sig.returnType = some .long) (hlocks : meth.locks = false) (hdg : decode cc pc = .ok (.lreturn, 1)) {x v : Int64} (hv : x = v) : W p l e R s m args below meth c s.heap [] 0 0 (MQ below (et_QP (some (.long v))) args s 0 0 et_no) (F0 m pc ls [.long x]) := by
  subst hv
  exact W.lret hx hb hr (fun t ht hW => ⟨rfl, ht⟩) (fun q h => nomatch h) hdg hlocks
theorem et_zret (hx : p.tables.exec = Jvm.exec) (hb : c.code = cc) (hr : meth.sig.returnType = some .boolean) (hlocks : meth.locks = false) (hdg : decode cc pc = .ok (.ireturn, 1)) {x : Int32} {b : Bool} (hv : x = zI b) : W p l e R s m args below meth c s.heap [] 0 0 (MQ below (et_QP (some (.int (zI b)))) args s 0 0 et_no) (F0 m pc ls [.int x]) := by
  subst hv
  exact W.zret hx hb hr (zI_narrow b) (fun t ht hW => ⟨rfl, ht⟩) (fun q h => nomatch h) hdg hlocks
theorem et_aret (hx : p.tables.exec = Jvm.exec) (hb : c.code = cc) {C : String} (hr : meth.sig.returnType = some (.object C)) (hlocks : meth.locks = false) (hdg : decode cc pc = .ok (.areturn, 1)) {x v : Option Nat} (hv : x = v) : W p l e R s m args below meth c s.heap [] 0 0 (MQ below (et_QP (some (va_rf v))) args s 0 0 et_no) (F0 m pc ls [va_rf x]) := by
  subst hv
  exact W.aret hx hb hr (Or.inl ⟨C, rfl⟩) (by cases x with | none => exact Or.inl rfl | some a => exact Or.inr ⟨a, rfl⟩) (fun t ht hW => ⟨rfl, ht⟩) (fun q h => nomatch h) hdg hlocks
theorem et_vret (hx : p.tables.exec = Jvm.exec) (hb : c.code = cc) (hr : meth.sig.returnType = none) (hlocks : meth.locks = false) (hdg : decode cc pc = .ok (.return_, 1)) : W p l e R s m args below meth c s.heap [] 0 0 (MQ below (et_QP none) args s 0 0 et_no) (F0 m pc ls []) := W.vret hx hb hr (fun t ht hW => ⟨rfl, ht⟩) (fun q h => nomatch h) hdg hlocks
theorem et_vretW (hx : p.tables.exec = Jvm.exec) (hb : c.code = cc) (hr : meth.sig.returnType = none) (hlocks : meth.locks = false) (hdg : decode cc pc = .ok (.return_, 1)) (hP : va_P (gD g) vwCl ws H) (hS : va_S (et_ad world) s.heap H locs) (hw : ws = world') : W p l e R s m args below meth c H locs 0 0 (MQ below (et_QW g world world' none) args s 0 0 (et_ad world)) (F0 m pc ls []) := by
  subst hw
  exact W.vret hx hb hr (fun t ht hW => ⟨rfl, by rw [ht]; exact hP, hS.F ht⟩) hS.2.2 hdg hlocks
theorem et_iretW (hx : p.tables.exec = Jvm.exec) (hb : c.code = cc) (hr : meth.sig.returnType = some .int) (hlocks : meth.locks = false) (hdg : decode cc pc = .ok (.ireturn, 1)) (hP : va_P (gD g) vwCl ws H) (hS : va_S (et_ad world) s.heap H locs) (hw : ws = world') {x v : Int32} (hv : x = v) : W p l e R s m args below meth c H locs 0 0 (MQ below (et_QW g world world' (some (.int v))) args s 0 0 (et_ad world)) (F0 m pc ls [.int x]) := by
  subst hw; subst hv
  exact W.iret hx hb hr (fun t ht hW => ⟨rfl, by rw [ht]; exact hP, hS.F ht⟩) hS.2.2 hdg hlocks
theorem et_zretW (hx : p.tables.exec = Jvm.exec) (hb : c.code = cc) (hr : meth.sig.returnType = some .boolean) (hlocks : meth.locks = false) (hdg : decode cc pc = .ok (.ireturn, 1)) (hP : va_P (gD g) vwCl ws H) (hS : va_S (et_ad world) s.heap H locs) (hw : ws = world') {x : Int32} {b : Bool} (hv : x = zI b) : W p l e R s m args below meth c H locs 0 0 (MQ below (et_QW g world world' (some (.int (zI b)))) args s 0 0 (et_ad world)) (F0 m pc ls [.int x]) := by
  subst hw; subst hv
  exact W.zret hx hb hr (zI_narrow b) (fun t ht hW => ⟨rfl, by rw [ht]; exact hP, hS.F ht⟩) hS.2.2 hdg hlocks
theorem et_aretW (hx : p.tables.exec = Jvm.exec) (hb : c.code = cc) {C : String} (hr : meth.sig.returnType = some (.object C)) (hlocks : meth.locks = false) (hdg : decode cc pc = .ok (.areturn, 1)) (hP : va_P (gD g) vwCl ws H) (hS : va_S (et_ad world) s.heap H locs) (hw : ws = world') {x v : Option Nat} (hv : x = v) : W p l e R s m args below meth c H locs 0 0 (MQ below (et_QW g world world' (some (va_rf v))) args s 0 0 (et_ad world)) (F0 m pc ls [va_rf x]) := by
  subst hw; subst hv
  exact W.aret hx hb hr (Or.inl ⟨C, rfl⟩) (by cases x with | none => exact Or.inl rfl | some a => exact Or.inr ⟨a, rfl⟩) (fun t ht hW => ⟨rfl, by rw [ht]; exact hP, hS.F ht⟩) hS.2.2 hdg hlocks
end EtRet
/-! worlds: a part written anew -/
def et_upd : va_W → List Nat → va_W → va_W
  | ws, i :: is, e :: es => et_upd (ws.set i e) is es
  | ws, [], _ => ws
  | ws, _ :: _, [] => ws
theorem et_upd_get : ∀ (is : List Nat) (es ws : va_W) (k : Nat) (q : Nat × va_E), is.length = es.length → va_nd is = true → (et_upd ws is es)[k]? = some q → (∃ j : Nat, is[j]? = some k ∧ es[j]? = some q) ∨ (k ∉ is ∧ ws[k]? = some q)
  | [], _, ws, k, q, _, _, h => Or.inr ⟨List.not_mem_nil, by simpa [et_upd] using h⟩
  | _ :: _, [], _, _, _, hl, _, _ => by simp at hl
  | i :: is, e :: es, ws, k, q, hl, hn, h => by
    simp only [va_nd, Bool.and_eq_true, decide_eq_true_eq] at hn
    rcases et_upd_get is es (ws.set i e) k q (by simpa using hl) hn.2 (by simpa [et_upd] using h) with ⟨j, h1, h2⟩ | ⟨h1, h2⟩
    · exact Or.inl ⟨j + 1, by simpa using h1, by simpa using h2⟩
    · by_cases hk : k = i
      · subst hk
        have hlt : k < (ws.set k e).length := (List.getElem?_eq_some_iff.mp h2).1
        rw [List.getElem?_set_self (by simpa using hlt)] at h2
        exact Or.inl ⟨0, by simp, by simpa using h2⟩
      · rw [List.getElem?_set_ne (Ne.symm hk)] at h2
        exact Or.inr ⟨by simp [hk, h1], h2⟩
theorem et_of_map {is : List Nat} {ws wc : va_W} (hs : is.map (fun i => ws[i]?) = wc.map some) {j k : Nat} (hj : is[j]? = some k) : ∃ q, wc[j]? = some q ∧ ws[k]? = some q := by
  have h1 : (is.map (fun i => ws[i]?))[j]? = some (ws[k]?) := by rw [List.getElem?_map, hj]; rfl
  rw [hs, List.getElem?_map] at h1
  cases hq : wc[j]? with
  | none => rw [hq] at h1; cases h1
  | some q => rw [hq] at h1; exact ⟨q, rfl, (Option.some.inj h1).symm⟩
theorem et_of_map2 {is : List Nat} {ws wc : va_W} (hs : is.map (fun i => ws[i]?) = wc.map some) {j : Nat} {q : Nat × va_E} (hj : wc[j]? = some q) : ∃ k, is[j]? = some k ∧ ws[k]? = some q := by
  have h1 : (is.map (fun i => ws[i]?))[j]? = some (some q) := by rw [hs, List.getElem?_map, hj]; rfl
  rw [List.getElem?_map] at h1
  cases hi : is[j]? with
  | none => rw [hi] at h1; cases h1
  | some i => rw [hi] at h1; exact ⟨i, rfl, Option.some.inj h1⟩
theorem et_addr {wc wc' : va_W} (hl : wc'.map Prod.fst = wc.map Prod.fst) {j : Nat} {q r : Nat × va_E} (h1 : wc'[j]? = some q) (h2 : wc[j]? = some r) : q.1 = r.1 := by
  have e : (wc'.map Prod.fst)[j]? = (wc.map Prod.fst)[j]? := by rw [hl]
  rw [List.getElem?_map, List.getElem?_map, h1, h2] at e
  exact Option.some.inj e
theorem et_ad.sub {is : List Nat} {ws wc : va_W} {A : Nat → Prop} (hD : va_D A ws) (hs : is.map (fun i => ws[i]?) = wc.map some) {a : Nat} (h : et_ad wc a) : A a := by
  obtain ⟨j, e, hj⟩ := et_ad.get h
  obtain ⟨k, -, hk⟩ := et_of_map2 hs hj
  exact hD.2 k (a, e) hk
theorem et_upd_D {is : List Nat} {ws wc wc' : va_W} {A : Nat → Prop} (hD : va_D A ws) (hn : va_nd is = true) (hs : is.map (fun i => ws[i]?) = wc.map some) (hl : wc'.map Prod.fst = wc.map Prod.fst) : va_D A (et_upd ws is wc') := by
  have hlen : is.length = wc'.length := by
    have h1 := congrArg List.length hs
    have h2 := congrArg List.length hl
    simp only [List.length_map] at h1 h2
    omega
  have key : ∀ (k : Nat) (q : Nat × va_E), (et_upd ws is wc')[k]? = some q → ∃ q0, ws[k]? = some q0 ∧ q0.1 = q.1 := by
    intro k q hk
    rcases et_upd_get is wc' ws k q hlen hn hk with ⟨j, h1, h2⟩ | ⟨-, h2⟩
    · obtain ⟨w, hw1, hw2⟩ := et_of_map hs h1
      exact ⟨w, hw2, (et_addr hl h2 hw1).symm⟩
    · exact ⟨q, h2, rfl⟩
  refine ⟨fun i j x y hi hj hxy => ?_, fun k q hk => ?_⟩
  · obtain ⟨x0, h1, h2⟩ := key i x hi
    obtain ⟨y0, h3, h4⟩ := key j y hj
    exact hD.1 i j x0 y0 h1 h3 (h2.trans (hxy.trans h4.symm))
  · obtain ⟨q0, h1, h2⟩ := key k q hk
    rw [← h2]
    exact hD.2 k q0 h1
theorem et_upd_P {is : List Nat} {ws wc wc' : va_W} {A : Nat → Prop} {D : va_G} {cl : List vw_C} {H H1 : Heap} (hP : va_P D cl ws H) (hD : va_D A ws) (hn : va_nd is = true) (hs : is.map (fun i => ws[i]?) = wc.map some) (hl : wc'.map Prod.fst = wc.map Prod.fst)
    (hP1 : va_P D cl wc' H1) (hk : ∀ q : Nat, q < H.size → ¬ et_ad wc q → H1[q]? = H[q]?) : va_P D cl (et_upd ws is wc') H1 := by
  have hlen : is.length = wc'.length := by
    have h1 := congrArg List.length hs
    have h2 := congrArg List.length hl
    simp only [List.length_map] at h1 h2
    omega
  intro k q h
  rcases et_upd_get is wc' ws k q hlen hn h with ⟨j, h1, h2⟩ | ⟨hni, h2⟩
  · exact hP1 j q h2
  · have h3 := hP k q h2
    refine h3.kept (hk q.1 h3.lt (fun hc => ?_))
    obtain ⟨j, e, hj⟩ := et_ad.get hc
    obtain ⟨i, hi1, hi2⟩ := et_of_map2 hs hj
    have := hD.1 k i q (q.1, e) h2 hi2 rfl
    subst this
    exact hni (List.mem_of_getElem? hi1)
section EtCall
variable {p : Program} {l : Launch} {e : Env} {R : Room} {s : State} {m : MethodId} {args : Array Value} {below : List Frame} {meth : Method} {c : Code} {H : Heap} {locs : List Loc} {cells slots : Nat} {Q : State → Prop} {pc : Nat} {ls : Array Slot} {rest st0 : List Value} {a : Array Value} {g : et_G} {ws wc wc' ws' : va_W} {A : Nat → Prop} {H0 : Heap}
theorem et_preV {C : String} {T : u_T} {N q0 ci : Nat} {b : Addr} {fs As : List Value} (hP : va_P (gD g) vwCl ws H) (hC : et_C g s) (is : List Nat) (hs : is.filterMap (fun i => ws[i]?) = wc) (hc : vwCl[ci]? = some (C, T, N)) (he : ws[q0]? = some (b, .inr (ci, fs))) : PreV s H C b (et_Pc g wc (.ref b :: As)) As :=
  ⟨et_Pc.blind, va_recv hC.1 hP hc he, fun U hU hW => ⟨rfl, by rw [hU]; exact hP.sub is hs, hC.warm hW⟩⟩
theorem et_preS {As : List Value} (hP : va_P (gD g) vwCl ws H) (hC : et_C g s) (is : List Nat) (hs : is.filterMap (fun i => ws[i]?) = wc) : PreS s H (et_Pc g wc As) As :=
  ⟨et_Pc.blind, fun U hU hW => ⟨rfl, by rw [hU]; exact hP.sub is hs, hC.warm hW⟩⟩
theorem et_filter {is : List Nat} (hs : is.map (fun i => ws[i]?) = wc.map some) : is.filterMap (fun i => ws[i]?) = wc := by
  have : (is.map (fun i => ws[i]?)).filterMap id = (wc.map some).filterMap id := by rw [hs]
  simpa [List.filterMap_map, Function.comp_def] using this
theorem et_preVW {C : String} {T : u_T} {N q0 ci : Nat} {b : Addr} {fs As : List Value} (hP : va_P (gD g) vwCl ws H) (hC : et_C g s) (hD : va_D A ws) (is : List Nat) (hn : va_nd is = true) (hs : is.map (fun i => ws[i]?) = wc.map some) (hc : vwCl[ci]? = some (C, T, N)) (he : ws[q0]? = some (b, .inr (ci, fs))) : PreV s H C b (et_PcW g wc (.ref b :: As)) As :=
  ⟨et_PcW.blind, va_recv hC.1 hP hc he, fun U hU hW => ⟨rfl, by rw [hU]; exact hP.sub is (et_filter hs), hC.warm hW, (hD.sub is hn hs).weaken (fun _ _ _ _ => trivial)⟩⟩
theorem et_preSW {As : List Value} (hP : va_P (gD g) vwCl ws H) (hC : et_C g s) (hD : va_D A ws) (is : List Nat) (hn : va_nd is = true) (hs : is.map (fun i => ws[i]?) = wc.map some) : PreS s H (et_PcW g wc As) As :=
  ⟨et_PcW.blind, fun U hU hW => ⟨rfl, by rw [hU]; exact hP.sub is (et_filter hs), hC.warm hW, (hD.sub is hn hs).weaken (fun _ _ _ _ => trivial)⟩⟩
theorem et_callP {v : Option Value} (hr : va_Run p l e R s m args below meth c H locs cells slots 0 0 (F0 m pc ls st0) rest (et_QP v a) et_no)
    (kk : W p l e R s m args below meth c H locs cells slots Q (F0 m (pc + 3) ls (v.toList ++ rest))) : W p l e R s m args below meth c H locs cells slots Q (F0 m pc ls st0) := by
  intro T hT X
  obtain ⟨v', st₀, t, T', L, h0, X', hL, e1, e2, ⟨hv, hh⟩, st⟩ := hr T hT X
  cases hv
  have hLn : L = [] := List.eq_nil_iff_forall_not_mem.mpr (fun q h => hL q h)
  subst hLn
  rw [List.append_nil] at X'
  obtain ⟨t2, a1, b1⟩ := kk T' (by rw [e1, hh, h0]) X'
  exact ⟨t2, st t2 a1, b1⟩
theorem et_callW {v : Option Value} (hr : va_Run p l e R s m args below meth c H locs cells slots 0 0 (F0 m pc ls st0) rest (et_QW g wc wc' v a) (et_ad wc)) (hP : va_P (gD g) vwCl ws H) (hD : va_D A ws) (hS : va_S A H0 H locs) (is : List Nat) (hn : va_nd is = true) (hs : is.map (fun i => ws[i]?) = wc.map some) (hl : wc'.map Prod.fst = wc.map Prod.fst) (hu : et_upd ws is wc' = ws')
    (kk : ∀ (H1 : Heap) (locs1 : List Loc), va_P (gD g) vwCl ws' H1 → va_D A ws' → va_S A H0 H1 locs1 → W p l e R s m args below meth c H1 locs1 cells slots Q (F0 m (pc + 3) ls (v.toList ++ rest))) : W p l e R s m args below meth c H locs cells slots Q (F0 m pc ls st0) := by
  intro T hT X
  obtain ⟨v', st₀, t, T', L, h0, X', hL, e1, e2, ⟨hv, hP1, hF⟩, st⟩ := hr T hT X
  cases hv
  subst hu
  obtain ⟨hz, hk⟩ := hF
  rw [h0] at hz hk
  obtain ⟨t2, a1, b1⟩ := kk T'.heap (locs ++ L) (by rw [e1]; exact et_upd_P hP hD hn hs hl hP1 hk) (et_upd_D hD hn hs hl)
    ⟨Nat.le_trans hS.1 (by rw [e1]; exact hz), fun q h1 h2 => by rw [e1, hk q (Nat.lt_of_lt_of_le h1 hS.1) (fun z => h2 (et_ad.sub hD hs z))]; exact hS.2.1 q h1 h2, fun q hq => by
      rcases List.mem_append.mp hq with h | h
      · exact hS.2.2 q h
      · exact et_ad.sub hD hs (hL q h)⟩ T' rfl X'
  exact ⟨t2, st t2 a1, b1⟩
end EtCall
/-! loops' numbers -/
theorem et_inc (i : Nat) : nI i + Int32.ofInt 1 = nI (i + 1) := nI_1 i
theorem et_ge {a b : Nat} (h : a < b) (hb : b < 2147483648) : ¬ nI b ≤ nI a := nI_ge h hb
theorem et_le {a b : Nat} (h : a ≤ b) (hb : b < 2147483648) : nI a ≤ nI b := nI_le h hb
theorem et_dec {N : Nat} {P : Nat → Prop} [DecidablePred P] (h : (List.range N).all (fun i => decide (P i)) = true) {i : Nat} (hi : i < N) : P i := by
  have := List.all_eq_true.mp h i (List.mem_range.mpr hi)
  exact of_decide_eq_true this
/-! a part of a world written anew, by places -/
theorem et_new_get {is js : List Nat} {ws ws' wc' : va_W} (hs' : is.map (fun i => ws'[i]?) = wc'.map some) (hj : js.map (fun i => ws'[i]?) = js.map (fun i => ws[i]?)) (N : Nat) (hN : ws'.length = N) (hc : (List.range N).all (fun k => is.contains k || js.contains k) = true) {k : Nat} {q : Nat × va_E} (h : ws'[k]? = some q) : (∃ j : Nat, is[j]? = some k ∧ wc'[j]? = some q) ∨ (k ∉ is ∧ ws[k]? = some q) := by
  have hk : k < N := by rw [← hN]; exact (List.getElem?_eq_some_iff.mp h).1
  by_cases hi : k ∈ is
  · obtain ⟨j, hj1⟩ := List.getElem?_of_mem hi
    obtain ⟨r, h1, h2⟩ := et_of_map hs' hj1
    rw [h] at h2
    cases h2
    exact Or.inl ⟨j, hj1, h1⟩
  · have h3 := List.all_eq_true.mp hc k (List.mem_range.mpr hk)
    simp only [Bool.or_eq_true, List.contains_iff_mem] at h3
    rcases h3 with h3 | h3
    · exact absurd h3 hi
    · obtain ⟨j, hj1⟩ := List.getElem?_of_mem h3
      have e1 : (js.map (fun i => ws'[i]?))[j]? = some (ws'[k]?) := by rw [List.getElem?_map, hj1]; rfl
      have e2 : (js.map (fun i => ws[i]?))[j]? = some (ws[k]?) := by rw [List.getElem?_map, hj1]; rfl
      rw [hj, e2] at e1
      have e3 := Option.some.inj e1
      exact Or.inr ⟨hi, by rw [e3]; exact h⟩
theorem et_new_D {is js : List Nat} {ws ws' wc wc' : va_W} {A : Nat → Prop} (hD : va_D A ws) (hs : is.map (fun i => ws[i]?) = wc.map some) (hl : wc'.map Prod.fst = wc.map Prod.fst) (hs' : is.map (fun i => ws'[i]?) = wc'.map some) (hj : js.map (fun i => ws'[i]?) = js.map (fun i => ws[i]?)) (N : Nat) (hN : ws'.length = N) (hc : (List.range N).all (fun k => is.contains k || js.contains k) = true) : va_D A ws' := by
  have key : ∀ (k : Nat) (q : Nat × va_E), ws'[k]? = some q → ∃ q0, ws[k]? = some q0 ∧ q0.1 = q.1 := by
    intro k q hk
    rcases et_new_get hs' hj N hN hc hk with ⟨j, h1, h2⟩ | ⟨-, h2⟩
    · obtain ⟨w, hw1, hw2⟩ := et_of_map hs h1
      exact ⟨w, hw2, (et_addr hl h2 hw1).symm⟩
    · exact ⟨q, h2, rfl⟩
  refine ⟨fun i j x y hi hj hxy => ?_, fun k q hk => ?_⟩
  · obtain ⟨x0, h1, h2⟩ := key i x hi
    obtain ⟨y0, h3, h4⟩ := key j y hj
    exact hD.1 i j x0 y0 h1 h3 (h2.trans (hxy.trans h4.symm))
  · obtain ⟨q0, h1, h2⟩ := key k q hk
    rw [← h2]
    exact hD.2 k q0 h1
theorem et_new_P {is js : List Nat} {ws ws' wc wc' : va_W} {A : Nat → Prop} {D : va_G} {cl : List vw_C} {H H1 : Heap} (hP : va_P D cl ws H) (hD : va_D A ws) (hs : is.map (fun i => ws[i]?) = wc.map some) (hs' : is.map (fun i => ws'[i]?) = wc'.map some) (hj : js.map (fun i => ws'[i]?) = js.map (fun i => ws[i]?)) (N : Nat) (hN : ws'.length = N) (hc : (List.range N).all (fun k => is.contains k || js.contains k) = true)
    (hP1 : va_P D cl wc' H1) (hk : ∀ q : Nat, q < H.size → ¬ et_ad wc q → H1[q]? = H[q]?) : va_P D cl ws' H1 := by
  intro k q h
  rcases et_new_get hs' hj N hN hc h with ⟨j, h1, h2⟩ | ⟨hni, h2⟩
  · exact hP1 j q h2
  · have h3 := hP k q h2
    refine h3.kept (hk q.1 h3.lt (fun hc => ?_))
    obtain ⟨j, e, hj⟩ := et_ad.get hc
    obtain ⟨i, hi1, hi2⟩ := et_of_map2 hs hj
    have := hD.1 k i q (q.1, e) h2 hi2 rfl
    subst this
    exact hni (List.mem_of_getElem? hi1)
section EtCallN
variable {p : Program} {l : Launch} {e : Env} {R : Room} {s : State} {m : MethodId} {args : Array Value} {below : List Frame} {meth : Method} {c : Code} {H : Heap} {locs : List Loc} {cells slots : Nat} {Q : State → Prop} {pc : Nat} {ls : Array Slot} {rest st0 : List Value} {a : Array Value} {g : et_G} {ws wc wc' ws' : va_W} {A : Nat → Prop} {H0 : Heap}
theorem et_callN {v : Option Value} (hr : va_Run p l e R s m args below meth c H locs cells slots 0 0 (F0 m pc ls st0) rest (et_QW g wc wc' v a) (et_ad wc)) (hP : va_P (gD g) vwCl ws H) (hD : va_D A ws) (hS : va_S A H0 H locs) (is js : List Nat) (N : Nat) (hs : is.map (fun i => ws[i]?) = wc.map some) (hl : wc'.map Prod.fst = wc.map Prod.fst) (hs' : is.map (fun i => ws'[i]?) = wc'.map some) (hj : js.map (fun i => ws'[i]?) = js.map (fun i => ws[i]?)) (hN : ws'.length = N) (hc : (List.range N).all (fun k => is.contains k || js.contains k) = true)
    (kk : ∀ (H1 : Heap) (locs1 : List Loc), va_P (gD g) vwCl ws' H1 → va_D A ws' → va_S A H0 H1 locs1 → W p l e R s m args below meth c H1 locs1 cells slots Q (F0 m (pc + 3) ls (v.toList ++ rest))) : W p l e R s m args below meth c H locs cells slots Q (F0 m pc ls st0) := by
  intro T hT X
  obtain ⟨v', st₀, t, T', L, h0, X', hL, e1, e2, ⟨hv, hP1, hF⟩, st⟩ := hr T hT X
  cases hv
  obtain ⟨hz, hk⟩ := hF
  rw [h0] at hz hk
  obtain ⟨t2, a1, b1⟩ := kk T'.heap (locs ++ L) (by rw [e1]; exact et_new_P hP hD hs hs' hj N hN hc hP1 hk) (et_new_D hD hs hl hs' hj N hN hc)
    ⟨Nat.le_trans hS.1 (by rw [e1]; exact hz), fun q h1 h2 => by rw [e1, hk q (Nat.lt_of_lt_of_le h1 hS.1) (fun z => h2 (et_ad.sub hD hs z))]; exact hS.2.1 q h1 h2, fun q hq => by
      rcases List.mem_append.mp hq with h | h
      · exact hS.2.2 q h
      · exact et_ad.sub hD hs (hL q h)⟩ T' rfl X'
  exact ⟨t2, st t2 a1, b1⟩
end EtCallN
/-! calls, by what they leave on the stack -/
section EtCall2
variable {p : Program} {l : Launch} {e : Env} {R : Room} {s : State} {m : MethodId} {args : Array Value} {below : List Frame} {meth : Method} {c : Code} {H : Heap} {locs : List Loc} {cells slots : Nat} {Q : State → Prop} {pc : Nat} {ls : Array Slot} {rest st0 : List Value} {a : Array Value} {g : et_G} {ws wc wc' ws' : va_W} {A : Nat → Prop} {H0 : Heap}
theorem et_callP1 {v : Value} (hr : va_Run p l e R s m args below meth c H locs cells slots 0 0 (F0 m pc ls st0) rest (et_QP (some v) a) et_no)
    (kk : W p l e R s m args below meth c H locs cells slots Q (F0 m (pc + 3) ls (v :: rest))) : W p l e R s m args below meth c H locs cells slots Q (F0 m pc ls st0) := et_callP hr kk
theorem et_callP0 (hr : va_Run p l e R s m args below meth c H locs cells slots 0 0 (F0 m pc ls st0) rest (et_QP none a) et_no)
    (kk : W p l e R s m args below meth c H locs cells slots Q (F0 m (pc + 3) ls rest)) : W p l e R s m args below meth c H locs cells slots Q (F0 m pc ls st0) := et_callP hr kk
theorem et_callW1 {v : Value} (hr : va_Run p l e R s m args below meth c H locs cells slots 0 0 (F0 m pc ls st0) rest (et_QW g wc wc' (some v) a) (et_ad wc)) (hP : va_P (gD g) vwCl ws H) (hD : va_D A ws) (hS : va_S A H0 H locs) (is js : List Nat) (N : Nat) (hs : is.map (fun i => ws[i]?) = wc.map some) (ads : List Nat) (hl : wc'.map Prod.fst = ads) (hl2 : wc.map Prod.fst = ads) (hs' : is.map (fun i => ws'[i]?) = wc'.map some) (wr : va_W) (hj1 : js.map (fun i => ws'[i]?) = wr.map some) (hj2 : js.map (fun i => ws[i]?) = wr.map some) (hN : ws'.length = N) (hc : (List.range N).all (fun k => is.contains k || js.contains k) = true)
    (kk : ∀ (H1 : Heap) (locs1 : List Loc), va_P (gD g) vwCl ws' H1 → va_D A ws' → va_S A H0 H1 locs1 → W p l e R s m args below meth c H1 locs1 cells slots Q (F0 m (pc + 3) ls (v :: rest))) : W p l e R s m args below meth c H locs cells slots Q (F0 m pc ls st0) := et_callN hr hP hD hS is js N hs (hl.trans hl2.symm) hs' (hj1.trans hj2.symm) hN hc kk
theorem et_callW0 (hr : va_Run p l e R s m args below meth c H locs cells slots 0 0 (F0 m pc ls st0) rest (et_QW g wc wc' none a) (et_ad wc)) (hP : va_P (gD g) vwCl ws H) (hD : va_D A ws) (hS : va_S A H0 H locs) (is js : List Nat) (N : Nat) (hs : is.map (fun i => ws[i]?) = wc.map some) (ads : List Nat) (hl : wc'.map Prod.fst = ads) (hl2 : wc.map Prod.fst = ads) (hs' : is.map (fun i => ws'[i]?) = wc'.map some) (wr : va_W) (hj1 : js.map (fun i => ws'[i]?) = wr.map some) (hj2 : js.map (fun i => ws[i]?) = wr.map some) (hN : ws'.length = N) (hc : (List.range N).all (fun k => is.contains k || js.contains k) = true)
    (kk : ∀ (H1 : Heap) (locs1 : List Loc), va_P (gD g) vwCl ws' H1 → va_D A ws' → va_S A H0 H1 locs1 → W p l e R s m args below meth c H1 locs1 cells slots Q (F0 m (pc + 3) ls rest)) : W p l e R s m args below meth c H locs cells slots Q (F0 m pc ls st0) := et_callN hr hP hD hS is js N hs (hl.trans hl2.symm) hs' (hj1.trans hj2.symm) hN hc kk
end EtCall2
theorem et_in {i : Int32} {N : Nat} (h1 : ¬ i < 0) (h2 : ¬ nI N ≤ i) (hN : N < 2147483648) : vp_in i N := by
  rcases pk_ix i hN with h | h | ⟨j, hj, rfl⟩
  · exact absurd h h1
  · exact absurd h h2
  · exact vp_in_nI hj hN
theorem et_in2 {i : Int32} {N : Nat} (h1 : ¬ i < 0) (h2 : i < nI N) (hN : N < 2147483648) : vp_in i N := by
  rcases pk_ix i hN with h | h | ⟨j, hj, rfl⟩
  · exact absurd h h1
  · exact absurd h2 (Int32.not_lt.mpr h)
  · exact vp_in_nI hj hN
theorem et_clx (x : Int32) : x.toNatClampNeg < 2147483648 := by
  have := Int32.toInt_lt x
  show x.toInt.toNat < _
  omega
theorem et_clF {x : Int32} {i : Nat} (h : i < x.toNatClampNeg) : ¬ x ≤ nI i := by
  intro hle
  have h1 := Int32.le_iff_toInt_le.mp hle
  have h2 : i < x.toInt.toNat := h
  have h3 := et_clx x
  rw [nI_toInt (by omega)] at h1
  omega
theorem et_clT {x : Int32} {i : Nat} (h : i = x.toNatClampNeg) : x ≤ nI i := by
  have h3 := et_clx x
  apply Int32.le_iff_toInt_le.mpr
  rw [nI_toInt (by omega)]
  have h2 : i = x.toInt.toNat := h
  omega
def et_tf (e1 e2 e3 e4 e5 : Nat) : Nat → Option Nat
  | 1 => some e1
  | 2 => some e2
  | 3 => some e3
  | 4 => some e4
  | 5 => some e5
  | _ => none
