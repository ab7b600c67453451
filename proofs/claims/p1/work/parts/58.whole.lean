/-! THE CLAIM OUT OF ONE WALK OF THE LAW'S BODY. Your part is whole_start (and what it stands on); all else here is the same for every law, but numbers. -/
def R_law : String := "EndTablesLaw"
def lw_P (b : Addr) (xs : List Int32) (args : Array Value) (s : State) : Prop := args = #[.ref b] ∧ s.IntsAt b xs ∧ xs.length ≤ 8 ∧ (Jvm.Cond.and given_1 narrow_1).before args s = true
def lw_Q (_ : Array Value) (s : State) (o : Outcome) (t : State) : Prop := o = .returned (some (.int 1)) ∧ Framed s o t [] 600002 7302198
def lw_Z (below : List Frame) (a : Array Value) (s : State) : State → Prop := fun t => ∃ o, t.status = .running ∧ Ended t below o ∧ lw_Q a s o t
/-- the law's own end, with 1 on the stack, nothing written that was there before, its room as the claim has it -/
theorem lw_ret {p : Program} {l : Launch} {e : Env} {s : State} {m : MethodId} {below : List Frame} {meth : Method} {c : Code} {b : Nat} (hx : p.tables.exec = Jvm.exec) (hb : c.code = code) (hr : meth.sig.returnType = ret) (hlocks : meth.locks = false) {pc : Nat} {H : Heap} {ls : Array Slot} (hdg : decode code pc = .ok (.ireturn, 1)) : W p l e room_1 s m #[Value.ref b] below meth c H [] 600002 7302198 (lw_Z below #[Value.ref b] s) (F0 m pc ls [.int 1]) := by
  intro T hT X
  obtain ⟨fs, hret, hrun, hended, hW, hframe⟩ := X.leave (v := some (.int 1)) (hlocks := hlocks) (fun h => by rw [hr] at h; cases h)
  have hmeth' : T.vm.method? m = some meth := X.method'
  refine ⟨T.setFrames fs, ?_, .returned (some (.int 1)), hrun, hended, rfl, ⟨_, rfl⟩, hW, hframe⟩
  jvm_step X.here [X.here.top, hx, hb, hdg, hmeth', hr, ret, narrow_b1]
  (try refine ⟨rfl, ?_⟩); (try refine ⟨rfl, ?_⟩)
  first | (intro acts; rw [hret _ acts rfl rfl rfl]) | rw [hret _ _ rfl rfl rfl]
  exact Steps.refl _
/-- what holds at the law's entry: the machine, the code, the tables' words (any of lw_tbl by 'hts w (by decide +kernel)'), the script of L ints xs at the cell b, what the Statement gives of the start (any of its parts by flat_of_before) -/
def lw_At (p : Program) (s : State) (m : MethodId) (meth : Method) (c : Code) (b L : Nat) (xs : Nat → Int32) : Prop :=
  p.tables.exec = Jvm.exec ∧ c.code = code ∧ meth.sig.returnType = ret ∧ c.maxLocals = 7 ∧ s.vm.findClass R_law = some m.cls ∧ (∀ w ∈ lw_tbl, w.before #[Value.ref b] s = true) ∧ va_X b L xs s s.heap ∧ b < s.heap.size ∧ meth.locks = false ∧ (Jvm.Cond.and given_1 narrow_1).before #[Value.ref b] s = true
-- ===== YOUR PART BEGINS =====
/-- YOUR PART: from the entry, for every script of at most 8 ints, the law comes to its end with true ('hflags': the launch's flags, for a law that throws: no stack traces) -/
theorem whole_start {p : Program} {e : Env} {s : State} {m : MethodId} {below : List Frame} {meth : Method} {c : Code} (l : Launch) (hflags : l.flags = flags0) {b L : Nat} {xs : Nat → Int32} (hL : L ≤ 8) (C0 : lw_At p s m meth c b L xs) : W p l e room_1 s m #[Value.ref b] below meth c s.heap [] 0 0 (lw_Z below #[Value.ref b] s) (entryFrame m ([Value.ref b] : List Value).toArray 7) := by
  obtain ⟨hx, hb, hr, hml, hown, hall, hXs, hbl, hlocks, hgv⟩ := id C0
  have hts : ∀ w ∈ W0, w.before #[Value.ref b] s = true := fun w h => hall w (W0_in h)
  have hst : l.stackTraces = false := by
    unfold Launch.stackTraces
    rw [hflags]
    decide
  have hA0 : ∀ a : Nat, a < s.heap.size → ¬ (fun q : Nat => s.heap.size ≤ q) a := fun a h => Nat.not_le.mpr h
  have hA : ∀ q : Nat, s.heap.size ≤ q → (fun q : Nat => s.heap.size ≤ q) q := fun _ h => h
  have hbA := hA0 b hbl
  obtain ⟨g, hC⟩ := et_entC hall
  obtain ⟨st1, st2, hX⟩ := et_entSA (A := fun q : Nat => s.heap.size ≤ q) hall hgv hA0
  have hTL := et_entTL (A := fun q : Nat => s.heap.size ≤ q) hall hgv hA0
  have fin : ∀ (H : Heap) (locs : List Loc) (ls : Array Slot) (cells slots : Nat), cells ≤ 600002 → slots ≤ 7302198 → va_S (fun q : Nat => s.heap.size ≤ q) s.heap H locs → W p l e room_1 s m #[Value.ref b] below meth c H locs cells slots (lw_Z below #[Value.ref b] s) (F0 m 936 ls []) := by
    intro H locs ls cells slots h1 h2 hS
    refine lv_iconst (v := (1 : Int32)) hx hb dL_law_936 (by decide) ?_
    refine va_forget (fun q hq => hS.2.2 q hq) ?_
    refine W.widen (k := 600002) (n := 7302198) h1 h2 ?_
    exact lw_ret hx hb hr hlocks dL_law_937
  have hl := lv_entry ([.ref b]) (n := 7) (Nat.le_of_ble_eq_true rfl)
  rw [lg_entry_eq]
  generalize (lg_sl ([.ref b]) ++ List.replicate (7 - (lg_sl ([.ref b])).length) Slot.unset).toArray = ls at hl ⊢
  have hl : lv_has ls 7 [(0, .ref b)] := hl
  obtain ⟨F, hF⟩ : ∃ F : Int32, F = (if nI L ≤ (0 : Int32) then 0 else xs (0 : Int32).toNatClampNeg) := ⟨_, rfl⟩
  obtain ⟨K, hK⟩ : ∃ K : Int32, K = (if nI L ≤ (1 : Int32) then 0 else xs (1 : Int32).toNatClampNeg) := ⟨_, rfl⟩
  refine et_law1 l hL hx hb hml hown hts hC hX hXs hbl hl F K hF hK (fun w x md jq hw H locs hP hD hS ls hl => ?_)
  obtain ⟨c_b, c_q1, c_q2, c_ta, c_t_1, c_v1_1, c_v2_1, c_v3_1, c_v4_1, c_t_2, c_v1_2, c_v2_2, c_v3_2, c_v4_2, c_t_3, c_v1_3, c_v2_3, c_v3_3, c_v4_3, c_t_4, c_v1_4, c_v2_4, c_v3_4, c_v4_4, c_t_5, c_v1_5, c_v2_5, c_v3_5, c_v4_5, c_po, c_p2, c_li, c_tq, e_r1, e_r2, e_r3, e_r4, rfl⟩ := hw
  obtain ⟨F1, f1, f2, hFe⟩ := c_fit F
  obtain ⟨R1, r1, r2, hRe⟩ := c_fit K
  have hB : bd F1 R1 := ⟨f1, f2, r1, r2⟩
  obtain ⟨hn, hD0⟩ := c_init hB hFe hRe
  have h5F : (mX5_init F K).1 = nI F1 := hFe
  have h5R : (mX5_init F K).2 = nI R1 := hRe
  rw [hFe, hRe, hn, h5F, h5R] at hP hD
  have hP := hP.sub (ws' := (md, .inr (5, [.int 0, .int (nI F1), .int (nI R1), .ref e_r1, .ref e_r2, .ref e_r3, .int (zI false), .int 0, .int 0, .int 0, .int 0, .int 0, .ref e_r4, .int 0])) :: (e_r1, .inl (gJ g, 327680, .inr (.inl (fun _ => 0)))) :: (e_r2, .inl (gZ g, 6, .inl (fun _ => (0 : Int32)))) :: (e_r3, .inl (gI g, 6, .inl (fun _ => 0))) :: (e_r4, .inl (gI g, 64, .inl (fun _ => 0))) :: (jq, .inl (gJ g, 1, .inr (.inl (fun _ => 0)))) :: ftV g F1 R1 (F1 * R1) (mX0_init F K).1 (mX0_init F K).2.1 (mX0_init F K).2.2.1 (mX0_init F K).2.2.2.1 (mX0_init F K).2.2.2.2 x c_b c_q1 c_q2 c_ta c_t_1 c_v1_1 c_v2_1 c_v3_1 c_v4_1 c_t_2 c_v1_2 c_v2_2 c_v3_2 c_v4_2 c_t_3 c_v1_3 c_v2_3 c_v3_3 c_v4_3 c_t_4 c_v1_4 c_v2_4 c_v3_4 c_v4_4 c_t_5 c_v1_5 c_v2_5 c_v3_5 c_v4_5 c_po c_p2 c_li c_tq) [34, 35, 36, 37, 38, 39, 0, 1, 2, 3, 4, 5, 6, 7, 8, 9, 10, 11, 12, 13, 14, 15, 16, 17, 18, 19, 20, 21, 22, 23, 24, 25, 26, 27, 28, 29, 30, 31, 32, 33] rfl
  have hD := hD.sub (ws' := (md, .inr (5, [.int 0, .int (nI F1), .int (nI R1), .ref e_r1, .ref e_r2, .ref e_r3, .int (zI false), .int 0, .int 0, .int 0, .int 0, .int 0, .ref e_r4, .int 0])) :: (e_r1, .inl (gJ g, 327680, .inr (.inl (fun _ => 0)))) :: (e_r2, .inl (gZ g, 6, .inl (fun _ => (0 : Int32)))) :: (e_r3, .inl (gI g, 6, .inl (fun _ => 0))) :: (e_r4, .inl (gI g, 64, .inl (fun _ => 0))) :: (jq, .inl (gJ g, 1, .inr (.inl (fun _ => 0)))) :: ftV g F1 R1 (F1 * R1) (mX0_init F K).1 (mX0_init F K).2.1 (mX0_init F K).2.2.1 (mX0_init F K).2.2.2.1 (mX0_init F K).2.2.2.2 x c_b c_q1 c_q2 c_ta c_t_1 c_v1_1 c_v2_1 c_v3_1 c_v4_1 c_t_2 c_v1_2 c_v2_2 c_v3_2 c_v4_2 c_t_3 c_v1_3 c_v2_3 c_v3_3 c_v4_3 c_t_4 c_v1_4 c_v2_4 c_v3_4 c_v4_4 c_t_5 c_v1_5 c_v2_5 c_v3_5 c_v4_5 c_po c_p2 c_li c_tq) [34, 35, 36, 37, 38, 39, 0, 1, 2, 3, 4, 5, 6, 7, 8, 9, 10, 11, 12, 13, 14, 15, 16, 17, 18, 19, 20, 21, 22, 23, 24, 25, 26, 27, 28, 29, 30, 31, 32, 33] (by decide) rfl
  refine et_lawHead hx hb hXs hbl hbA hS hl 0 4 rfl rfl (fun _ => fin H locs ls 40 656680 (by omega) (by omega) hS) (fun h8 => ?_)
  have hL8 := et_law8 L hL h8
  refine et_lawOp hx hb hXs hbl hbA hS hl 0 4 rfl rfl hL8 ?_
  generalize xs 2 &&& 15 = v
  by_cases c_0 : v = 0
  · refine lv_tableIn (tgt := 128) hx hb dL_law_60 (by rw [c_0]; decide) (by rw [c_0]; decide) (off := 68) (by rw [c_0]; rfl) (by decide) ?_
    exact ft_size hst hA hx hb hr hlocks hml hown hts hC hTL hXs hbl hbA hL8 hB hD0 hP hD hS hl (fun H locs ls hS => fin H locs ls 42 656692 (by omega) (by omega) hS)
  by_cases c_1 : v = 1
  · refine lv_tableIn (tgt := 169) hx hb dL_law_60 (by rw [c_1]; decide) (by rw [c_1]; decide) (off := 109) (by rw [c_1]; rfl) (by decide) ?_
    exact ft_distance hst hA hx hb hr hlocks hml hown hts hC hTL hXs hbl hbA hL8 hB hD0 hP hD hS hl (fun H locs ls hS => fin H locs ls 42 656692 (by omega) (by omega) hS)
  by_cases c_2 : v = 2
  · refine lv_tableIn (tgt := 273) hx hb dL_law_60 (by rw [c_2]; decide) (by rw [c_2]; decide) (off := 213) (by rw [c_2]; rfl) (by decide) ?_
    exact ft_count hst hA hx hb hr hlocks hml hown hts hC hTL hXs hbl hbA hL8 hB hD0 hP hD hS hl (fun H locs ls hS => fin H locs ls 42 656692 (by omega) (by omega) hS)
  by_cases c_3 : v = 3
  · refine lv_tableIn (tgt := 353) hx hb dL_law_60 (by rw [c_3]; decide) (by rw [c_3]; decide) (off := 293) (by rw [c_3]; rfl) (by decide) ?_
    exact ft_find hst hA hx hb hr hlocks hml hown hts hC hTL hXs hbl hbA hL8 hB hD0 hP hD hS hl (fun H locs ls hS => fin H locs ls 42 656692 (by omega) (by omega) hS)
  by_cases c_4 : v = 4
  · refine lv_tableIn (tgt := 445) hx hb dL_law_60 (by rw [c_4]; decide) (by rw [c_4]; decide) (off := 385) (by rw [c_4]; rfl) (by decide) ?_
    exact ft_longest hst hA hx hb hr hlocks hml hown hts hC hTL hXs hbl hbA hL8 hB hD0 hP hD hS hl (fun H locs ls hS => fin H locs ls 42 656692 (by omega) (by omega) hS)
  by_cases c_5 : v = 5
  · refine lv_tableIn (tgt := 501) hx hb dL_law_60 (by rw [c_5]; decide) (by rw [c_5]; decide) (off := 441) (by rw [c_5]; rfl) (by decide) ?_
    exact ft_set hst hA hx hb hr hlocks hml hown hts hC hTL hXs hbl hbA hL8 hB hD0 hP hD hS hl (fun H locs ls hS => fin H locs ls 42 656692 (by omega) (by omega) hS)
  by_cases c_6 : v = 6
  · refine lv_tableIn (tgt := 574) hx hb dL_law_60 (by rw [c_6]; decide) (by rw [c_6]; decide) (off := 514) (by rw [c_6]; rfl) (by decide) ?_
    exact ft_about hst hA hx hb hr hlocks hml hown hts hC hTL hXs hbl hbA hL8 hB hD0 hP hD hS hl (fun H locs ls hS => fin H locs ls 42 656692 (by omega) (by omega) hS)
  by_cases c_7 : v = 7
  · refine lv_tableIn (tgt := 630) hx hb dL_law_60 (by rw [c_7]; decide) (by rw [c_7]; decide) (off := 570) (by rw [c_7]; rfl) (by decide) ?_
    exact ft_left hst hA hx hb hr hlocks hml hown hts hC hTL hXs hbl hbA hL8 hB hD0 hP hD hS hl (fun H locs ls hS => fin H locs ls 42 656692 (by omega) (by omega) hS)
  by_cases c_8 : v = 8
  · refine lv_tableIn (tgt := 674) hx hb dL_law_60 (by rw [c_8]; decide) (by rw [c_8]; decide) (off := 614) (by rw [c_8]; rfl) (by decide) ?_
    exact ft_moves hst hA hx hb hr hlocks hml hown hts hC hTL hXs hbl hbA hL8 hB hD0 hP hD hS hl (fun H locs ls hS => fin H locs ls 42 656692 (by omega) (by omega) hS)
  by_cases c_9 : v = 9
  · refine lv_tableIn (tgt := 718) hx hb dL_law_60 (by rw [c_9]; decide) (by rw [c_9]; decide) (off := 658) (by rw [c_9]; rfl) (by decide) ?_
    exact ft_move hst hA hx hb hr hlocks hml hown hts hC hTL hXs hbl hbA hL8 hB hD0 hP hD hS hl (fun H locs ls hS => fin H locs ls 42 656692 (by omega) (by omega) hS)
  by_cases c_10 : v = 10
  · refine lv_tableIn (tgt := 774) hx hb dL_law_60 (by rw [c_10]; decide) (by rw [c_10]; decide) (off := 714) (by rw [c_10]; rfl) (by decide) ?_
    exact ft_best hst hA hx hb hr hlocks hml hown hts hC hTL hXs hbl hbA hL8 hB hD0 hP hD hS hl (fun H locs ls hS => fin H locs ls 42 656692 (by omega) (by omega) hS)
  by_cases c_11 : v = 11
  · refine lv_tableIn (tgt := 818) hx hb dL_law_60 (by rw [c_11]; decide) (by rw [c_11]; decide) (off := 758) (by rw [c_11]; rfl) (by decide) ?_
    exact ft_play hst hA hx hb hr hlocks hml hown hts hC hTL hXs hbl hbA hL8 hB hD0 hP hD hS hl (fun H locs ls hS => fin H locs ls 42 656692 (by omega) (by omega) hS)
  by_cases c_12 : v = 12
  · refine lv_tableIn (tgt := 874) hx hb dL_law_60 (by rw [c_12]; decide) (by rw [c_12]; decide) (off := 814) (by rw [c_12]; rfl) (by decide) ?_
    exact ft_run hst hA hx hb hr hlocks hml hown hts hC hTL hXs hbl hbA hL8 hB hD0 hP hD hS hl (fun H locs ls hS => fin H locs ls 42 656692 (by omega) (by omega) hS)
  refine lv_tableOut (tgt := 930) hx hb dL_law_60 (by have h_0 := lv_neT c_0 (a := 0) (by decide); have h_1 := lv_neT c_1 (a := 1) (by decide); have h_2 := lv_neT c_2 (a := 2) (by decide); have h_3 := lv_neT c_3 (a := 3) (by decide); have h_4 := lv_neT c_4 (a := 4) (by decide); have h_5 := lv_neT c_5 (a := 5) (by decide); have h_6 := lv_neT c_6 (a := 6) (by decide); have h_7 := lv_neT c_7 (a := 7) (by decide); have h_8 := lv_neT c_8 (a := 8) (by decide); have h_9 := lv_neT c_9 (a := 9) (by decide); have h_10 := lv_neT c_10 (a := 10) (by decide); have h_11 := lv_neT c_11 (a := 11) (by decide); have h_12 := lv_neT c_12 (a := 12) (by decide); omega) (by decide) ?_
  refine W.widen (k := 42) (n := 656692) (by omega) (by omega) ?_
  exact et_lawBack hx hb hXs hbl hbA hS hl 0 4 rfl [(4, .int (8 : Int32)), (3, .ref jq), (2, .ref md), (1, .ref x), (0, .ref b)] rfl rfl hL8 (fun ls => fin H locs ls 42 656692 (by omega) (by omega) hS)
set_option maxHeartbeats 4000000 in
theorem lw_walk (l : Launch) (hflags : l.flags = flags0) (b : Addr) (xs : List Int32) : MetFree l x (headSpec (Jvm.Cond.code x code maxLocals ret :: tables_1) room_1) (lw_P b xs) (fun _ _ _ _ _ => True) lw_Q := by
  refine MetFree.of_bodyS (code := code) (maxLocals := maxLocals) (ret := ret) (by decide) ?_ ?_
  · intro args s m h hn
    obtain ⟨meth, c, h1, h2, h3, h4, h5, h6, -, -⟩ := Cond.code_spec hn (atoms_spec (ws := Jvm.Cond.code x code maxLocals ret :: tables_1) h _ List.mem_cons_self)
    exact ⟨meth, c, h1, h2, h3, h4, h5, h6⟩
  · intro p e s m args below meth c s₁ B hml0 hP _
    obtain ⟨rfl, hx, hbd, hgv⟩ := hP
    obtain ⟨scr, harrAt, hlist, hof, hsmall⟩ := hx
    obtain ⟨hcb, hkn, -, -⟩ := State.arrayAt?_spec harrAt
    have hown : s.vm.findClass R_law = some m.cls := findClass_of_methodNamed B.named
    have hts0 : ∀ c ∈ (Jvm.Cond.code x code maxLocals ret :: tables_1), c.before #[Value.ref b] s = true := atoms_spec (ws := Jvm.Cond.code x code maxLocals ret :: tables_1) B.pre
    have hts : ∀ w ∈ lw_tbl, w.before #[Value.ref b] s = true := k2_hts_sels lw_privs (fun w hw => hts0 w (List.mem_cons_of_mem _ hw)) lw_privs_ok
    have hml : c.maxLocals = 7 := B.maxLocals_eq (hts0 _ List.mem_cons_self)
    have X₀ : Stand p l e room_1 s m #[Value.ref b] below meth c s₁ [] 0 0 := Stand.of_body B
    have hh0 : s₁.heap = s.heap := by rw [B.state]; rfl
    have hsz : scr.slots.size = xs.length := by rw [← Array.length_toList, hlist, List.length_map]
    have hval : ∀ j : Nat, j < xs.length → scr.slots[j]? = some (.int (xs.getD j 0)) := fun j hj => by
      rw [← Array.getElem?_toList, hlist]
      simp [hj]
    have hbl : b < s.heap.size := (Array.getElem?_eq_some_iff.mp hcb).1
    have hX : va_X b xs.length (fun j => xs.getD j 0) s s.heap := ⟨scr, hcb, hof, hkn, hsz, hval⟩
    have K : W p l e room_1 s m #[Value.ref b] below meth c s₁.heap [] 0 0 (lw_Z below #[Value.ref b] s) (entryFrame m ([Value.ref b] : List Value).toArray 7) := by
      rw [hh0]
      exact whole_start l hflags hbd ⟨B.exec, B.bytes, B.returns, hml, hown, hts, hX, hbl, B.notSynchronized, hgv⟩
    obtain ⟨t, a1, o, b1, b2, b3⟩ := K s₁ rfl X₀
    exact ⟨t, o, a1, b1, b2, b3⟩
theorem lw_pre_spec {args : Array Value} {s : State} (h : (Jvm.Cond.and given_1 narrow_1).before args s = true) (hr : rest_1_c.before args s = true) : ∃ (b : Addr) (xs : List Int32), lw_P b xs args s := by
  have hs := flat_of_before _ h
  have hq := flat_of_before _ hr
  have hc : (Cond.count 1).before args s = true := hs _ (by decide +kernel)
  have harr : (Cond.arrayOf (.arg 0) .int).before args s = true := hs _ (by decide +kernel)
  have hle : (Cond.le (.length (.arg 0)) (.int 8)).before args s = true := hs _ (by decide +kernel)
  have hlen : (Cond.isInt (.length (.arg 0))).before args s = true := hq _ (by decide +kernel)
  have hall : (Cond.all (.arg 0) (.isInt (.elem (.arg 0) (.index 0)))).before args s = true := hq _ (by decide +kernel)
  obtain ⟨b, xs, hb, hx⟩ := State.ints_of_pre rfl harr hlen hall
  have hsm : xs.length < 2 ^ 31 := hx.choose_spec.2.2.2
  have hev : (Term.length (.arg 0)).eval args s none [] s = some (.int xs.length.toInt32) := hx.length_eval hb
  have hv := Cond.le_ints hev (show (Term.int 8).eval args s none [] s = some (.int 8) from rfl)
  have hd : xs.length.toInt32 ≤ 8 := by
    simpa [Cond.before, Cond.holds, hv] using hle
  have hN : xs.length ≤ 8 := (Int32.ofNat_le_ofNat hsm (by decide)).mp (show Int32.ofNat xs.length ≤ Int32.ofNat 8 from hd)
  exact ⟨b, xs, Cond.one_arg hc (show args[0]? = some (.ref b) from hb), hx, hN, h⟩
theorem lw_comes (l : Launch) (hflags : l.flags = flags0) : Comes l x (Jvm.Cond.code x code maxLocals ret :: tables_1) room_1 (fun tb e args s => Calls_1 tb e args s ∧ rest_1 tb e args s ∧ Pre_1 tb e args s)
    (fun _ _ args s o t => lw_Q args s o t) := by
  intro p e ha hc hk s m args below hf hfit hheap happ hpre
  obtain ⟨b, xs, hP⟩ := lw_pre_spec hpre.2.2 hpre.2.1
  obtain ⟨k, o, h1, h2, h3, hQ⟩ := lw_walk l hflags b xs p e ha hc hk s m args below hf ((Spec.applies_iff_loose hf).mp happ).1 hP trivial
  exact ⟨k, o, h1, h2, h3, hQ⟩
theorem lw_frame {s t : State} {o : Outcome} {args : Array Value} (h : Framed s o t [] 600002 7302198) :
    Framed s o t (fieldLocs frame_1_writes args s ++ arrayLocs frame_1_arrays args s ++ staticLocs frame_1_statics s) 600002 7302198 := h
theorem lw_limb (L : Cond) (hL : ∀ (args : Array Value) (s t : State), L.after args s (.returned (some (.int 1))) t = true) :
    ArmFor flags0 classFile x code maxLocals ret World_1 tables_1 room_1 Calls_1 rest_1 Pre_1
      (fun tb e a s o t => postC L tb e a s o t ∧ Framed s o t (fieldLocs frame_1_writes a s ++ arrayLocs frame_1_arrays a s ++ staticLocs frame_1_statics s) 600002 7302198) := by
  intro l hflags _ _ p e ha hc hk s m args below hf hfit hheap happ hpre
  obtain ⟨k, o, h1, h2, h3, rfl, hF⟩ := lw_comes l hflags p e ha hc hk s m args below hf hfit hheap happ hpre
  exact ⟨k, _, h1, h2, h3, hL args s _, lw_frame hF⟩
theorem i_vc : Claimed_1_1 ∧ Claimed_1_2 := ⟨lw_limb limb_1_1 (fun args s t => by simp [limb_1_1, Cond.after, Cond.holds, Cond.value]), lw_limb limb_1_2 (fun args s t => Cond.after_iff.mpr (by
  first | (rw [show limb_1_2 = Cond.eq .result (.int 1) from rfl, Cond.eq_ints (x := 1) (y := 1) rfl rfl]; simp; done) | (simp [limb_1_2, Cond.value, Term.eval]; done)))⟩
