
/-! at the law's entry -/
theorem et_arr {args : Array Value} {s : State} {ty : FieldType} (h : (Cond.arrayClass ty).before args s = true) : ∃ cA, ArrOfT s cA ty ∧ s.vm.findClass ("[" ++ ty.toString) = some cA := by
  obtain ⟨cA, kA, comp, h1, h2, h3⟩ := Cond.arrayClass_spec h
  exact ⟨cA, fun n z => ⟨fun k h => (by cases h), kA, h2, comp, h3⟩, h1⟩
theorem et_arrO {args : Array Value} {s : State} {C : String} (h : (Cond.arrayOver (.object C)).before args s = true) : ∃ cA, ArrOfT s cA (.object C) ∧ va_RA s cA (.object C) := by
  obtain ⟨comp, cA, kA, h1, h2, h3, h4, h5⟩ := Cond.arrayOver_spec h
  exact ⟨cA, fun n z => ⟨fun k h => (by cases h), kA, h3, comp, h4⟩, kA, comp, h3, h4, h1, h5⟩
theorem et_entNF : ∀ q ∈ et_nF, Cond.fieldLinkNest q.1 q.2.1 q.2.2.1 q.2.2.2.1 q.2.2.2.2 "EndTables" ∈ lw_tbl := by decide +kernel
theorem et_entNM : ∀ q ∈ et_nM, Cond.methodLinkNest q.1 q.2.1 q.2.2 "EndTables" ∈ lw_tbl := by decide +kernel
theorem et_entC {s : State} {args : Array Value} (hts : ∀ w ∈ lw_tbl, w.before args s = true) : ∃ g, et_C g s := by
  obtain ⟨c0, i0, k0⟩ := u_known (ws := lw_tbl) (C := RX0) (T := TX0) (N := 8) (n := 8) hts (fun w h => (List.mem_filter.mp (inW_X0 w h)).1) (hts _ (by decide +kernel))
  obtain ⟨c1, i1, k1⟩ := u_known (ws := lw_tbl) (C := RX1) (T := TX1) (N := 2) (n := 2) hts (fun w h => (List.mem_filter.mp (inW_X1 w h)).1) (hts _ (by decide +kernel))
  obtain ⟨c2, i2, k2⟩ := u_known (ws := lw_tbl) (C := RX2) (T := TX2) (N := 5) (n := 5) hts (fun w h => (List.mem_filter.mp (inW_X2 w h)).1) (hts _ (by decide +kernel))
  obtain ⟨c3, i3, k3⟩ := u_known (ws := lw_tbl) (C := RX3) (T := TX3) (N := 9) (n := 9) hts (fun w h => (List.mem_filter.mp (inW_X3 w h)).1) (hts _ (by decide +kernel))
  obtain ⟨c4, i4, k4⟩ := u_known (ws := lw_tbl) (C := RX4) (T := TX4) (N := 6) (n := 6) hts (fun w h => (List.mem_filter.mp (inW_X4 w h)).1) (hts _ (by decide +kernel))
  obtain ⟨c5, i5, k5⟩ := u_known (ws := lw_tbl) (C := RX5) (T := TX5) (N := 14) (n := 14) hts (fun w h => (List.mem_filter.mp (inW_X5 w h)).1) (hts _ (by decide +kernel))
  obtain ⟨aI, hI, nI⟩ := et_arr (ty := .int) (hts _ (by decide +kernel))
  obtain ⟨aJ, hJ, nJ⟩ := et_arr (ty := .long) (hts _ (by decide +kernel))
  obtain ⟨aZ, hZ, nZ⟩ := et_arr (ty := .boolean) (hts _ (by decide +kernel))
  obtain ⟨aT, hT, rT⟩ := et_arrO (C := RX3) (hts _ (by decide +kernel))
  refine ⟨((fun c => match c with | 0 => c0 | 1 => c1 | 2 => c2 | 3 => c3 | 4 => c4 | _ => c5), (fun c => match c with | 0 => i0 | 1 => i1 | 2 => i2 | 3 => i3 | 4 => i4 | _ => i5), aI, aJ, aZ, aT), ⟨fun c q hq => ?_, fun k q hq => ?_⟩, fun q hq => va_Nw.of rfl (hts _ (et_entNF q hq)), fun q hq => va_Nw.of rfl (hts _ (et_entNM q hq))⟩
  · match c, hq with
    | 0, hq => cases hq; exact k0
    | 1, hq => cases hq; exact k1
    | 2, hq => cases hq; exact k2
    | 3, hq => cases hq; exact k3
    | 4, hq => cases hq; exact k4
    | 5, hq => cases hq; exact k5
    | c + 6, hq => simp [vwCl] at hq
  · match k, hq with
    | 0, hq => cases hq; exact ⟨hI, nI⟩
    | 1, hq => cases hq; exact ⟨hJ, nJ⟩
    | 2, hq => cases hq; exact ⟨hZ, nZ⟩
    | 3, hq => cases hq; exact ⟨hT, rT⟩
    | k + 4, hq => simp [gty] at hq
abbrev et_pre : Cond := Cond.and given_1 narrow_1
theorem et_stepT {s : State} {args : Array Value} {A : Nat → Prop} {nm : String} {f : Nat → Int32} (hl : (Cond.laysStatic "EndTables$Board" nm "[I").before args s = true) (hini : (Cond.initialized "EndTables$Board").before args s = true) (harr : (Cond.arrayOf (.static "EndTables$Board" nm "[I") .int).before args s = true) (hlen : (Cond.eq (.length (.static "EndTables$Board" nm "[I")) (.int 16)).before args s = true) (hel : ∀ j : Nat, j < 16 → (Cond.eq (.elem (.static "EndTables$Board" nm "[I") (.int (Int32.ofNat j))) (.int (f j))).before args s = true) (hA : ∀ a : Nat, a < s.heap.size → ¬ A a) : ∃ st : Nat, va_Z "EndTables$Board" nm "[I" (.ref st) A s s.heap ∧ va_T .int st 16 (fun j => .int (f j)) A s s.heap := by
  obtain ⟨st, h1, h2⟩ := va_Tof (tm := .static "EndTables$Board" nm "[I") (N := 16) (f := fun j => .int (f j)) (by decide) harr (va_eqt hlen) (fun j hj => va_eqt (hel j hj)) hA
  exact ⟨st, va_Zof hl hini h1 hA, h2⟩
theorem et_entF : ∀ j < 16, Cond.eq (.elem (.static "EndTables$Board" "FILE_STEPS" "[I") (.int (Int32.ofNat j))) (.int (et_fs j)) ∈ flatC et_pre := by decide +kernel
theorem et_entR : ∀ j < 16, Cond.eq (.elem (.static "EndTables$Board" "RANK_STEPS" "[I") (.int (Int32.ofNat j))) (.int (et_rs j)) ∈ flatC et_pre := by decide +kernel
theorem et_entSA {s : State} {args : Array Value} {A : Nat → Prop} (hts : ∀ w ∈ lw_tbl, w.before args s = true) (hg : et_pre.before args s = true) (hA : ∀ a : Nat, a < s.heap.size → ¬ A a) : ∃ st1 st2, et_SA st1 st2 A s := by
  have hs := flat_of_before _ hg
  obtain ⟨st1, f1, f2⟩ := et_stepT (A := A) (nm := "FILE_STEPS") (f := et_fs) (hts _ (by decide +kernel)) (hts _ (by decide +kernel)) (hs _ (by decide +kernel)) (hs _ (by decide +kernel)) (fun j hj => hs _ (et_entF j hj)) hA
  obtain ⟨st2, r1, r2⟩ := et_stepT (A := A) (nm := "RANK_STEPS") (f := et_rs) (hts _ (by decide +kernel)) (hts _ (by decide +kernel)) (hs _ (by decide +kernel)) (hs _ (by decide +kernel)) (fun j hj => hs _ (et_entR j hj)) hA
  exact ⟨st1, st2, ⟨f1, f2, r1, r2⟩, va_AO.of (A := args) (hts _ (by decide +kernel))⟩
theorem et_entStr : ∀ q ∈ et_str, Cond.stringRef RX4 q.1 q.2 ∈ lw_tbl := by decide +kernel
theorem et_entTw : ∀ w ∈ et_tw, w ∈ lw_tbl := by decide +kernel
theorem et_entTL {s : State} {args : Array Value} {A : Nat → Prop} (hts : ∀ w ∈ lw_tbl, w.before args s = true) (hg : et_pre.before args s = true) (hA : ∀ a : Nat, a < s.heap.size → ¬ A a) : et_TL A s := by
  have hs := flat_of_before _ hg
  obtain ⟨cX, kX, hcX, -⟩ := Cond.instantiable_spec (hts (.instantiable RX4 6) (by decide +kernel))
  refine ⟨⟨fun q hq => ?_, fun w hw => va_Nw.of (et_tw_on hw) (hts _ (et_entTw w hw)), vx_Zqof (args := args) (hts _ (by decide +kernel)) (hts _ (by decide +kernel)) (hs _ (by decide +kernel)) hA, vx_Zqof (args := args) (hts _ (by decide +kernel)) (hts _ (by decide +kernel)) (hs _ (by decide +kernel)) hA⟩, va_Nw.of rfl (hts _ (by decide +kernel)), va_Nw.of rfl (hts _ (by decide +kernel)), va_Nw.of rfl (hts _ (by decide +kernel)), va_Nc.of (args := args) (hs _ (by decide +kernel))⟩
  obtain ⟨-, -, -, a, -, -, -, -, -, hev⟩ := Cond.stringRef_spec hcX (hts _ (et_entStr q hq))
  exact ⟨a, vk_R.of (A := args) (hts _ (et_entStr q hq)) hev⟩
