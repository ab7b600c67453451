theorem w_377 : (.classLink RL 13 "java/lang/IllegalArgumentException" : Cond) ∈ W0 := W0_of 377 (by decide +kernel) (by decide +kernel)
theorem w_378 : (.methodLink RL 7 yX4_distance : Cond) ∈ W0 := W0_of 378 (by decide +kernel) (by decide +kernel)
theorem w_379 : (.instanceMethod yX4_distance : Cond) ∈ W0 := W0_of 379 (by decide +kernel) (by decide +kernel)
theorem w_380 : (.selects RX4 yX4_distance yX4_distance : Cond) ∈ W0 := W0_of 380 (by decide +kernel) (by decide +kernel)
theorem w_381 : (.code yX4_distance cX4_distance 6 (some (.int)) : Cond) ∈ W0 := W0_of 381 (by decide +kernel) (by decide +kernel)
theorem w_554 : (.methodLink RL 15 yX4_count : Cond) ∈ W0 := W0_of 554 (by decide +kernel) (by decide +kernel)
theorem w_555 : (.instanceMethod yX4_count : Cond) ∈ W0 := W0_of 555 (by decide +kernel) (by decide +kernel)
theorem w_556 : (.selects RX4 yX4_count yX4_count : Cond) ∈ W0 := W0_of 556 (by decide +kernel) (by decide +kernel)
theorem w_557 : (.code yX4_count cX4_count 5 (some (.int)) : Cond) ∈ W0 := W0_of 557 (by decide +kernel) (by decide +kernel)
theorem w_576 : (.classLink RL 23 "java/lang/IndexOutOfBoundsException" : Cond) ∈ W0 := W0_of 576 (by decide +kernel) (by decide +kernel)
theorem w_577 : (.methodLink RL 19 yX4_find : Cond) ∈ W0 := W0_of 577 (by decide +kernel) (by decide +kernel)
theorem w_578 : (.instanceMethod yX4_find : Cond) ∈ W0 := W0_of 578 (by decide +kernel) (by decide +kernel)
theorem w_579 : (.selects RX4 yX4_find yX4_find : Cond) ∈ W0 := W0_of 579 (by decide +kernel) (by decide +kernel)
theorem w_580 : (.code yX4_find cX4_find 7 (some (.int)) : Cond) ∈ W0 := W0_of 580 (by decide +kernel) (by decide +kernel)
theorem w_611 : (.methodLink RL 25 yX4_longest : Cond) ∈ W0 := W0_of 611 (by decide +kernel) (by decide +kernel)
theorem w_612 : (.instanceMethod yX4_longest : Cond) ∈ W0 := W0_of 612 (by decide +kernel) (by decide +kernel)
theorem w_613 : (.selects RX4 yX4_longest yX4_longest : Cond) ∈ W0 := W0_of 613 (by decide +kernel) (by decide +kernel)
theorem w_614 : (.code yX4_longest cX4_longest 3 (some (.int)) : Cond) ∈ W0 := W0_of 614 (by decide +kernel) (by decide +kernel)
theorem w_619 : (.classLink RL 32 "java/lang/IllegalStateException" : Cond) ∈ W0 := W0_of 619 (by decide +kernel) (by decide +kernel)
theorem w_620 : (.methodLink RL 29 yX4_about : Cond) ∈ W0 := W0_of 620 (by decide +kernel) (by decide +kernel)
theorem w_621 : (.instanceMethod yX4_about : Cond) ∈ W0 := W0_of 621 (by decide +kernel) (by decide +kernel)
theorem w_622 : (.selects RX4 yX4_about yX4_about : Cond) ∈ W0 := W0_of 622 (by decide +kernel) (by decide +kernel)
theorem w_623 : (.code yX4_about cX4_about 2 (some (.int)) : Cond) ∈ W0 := W0_of 623 (by decide +kernel) (by decide +kernel)
theorem w_650 : (.methodLink RL 34 yX4_left : Cond) ∈ W0 := W0_of 650 (by decide +kernel) (by decide +kernel)
theorem w_651 : (.instanceMethod yX4_left : Cond) ∈ W0 := W0_of 651 (by decide +kernel) (by decide +kernel)
theorem w_652 : (.selects RX4 yX4_left yX4_left : Cond) ∈ W0 := W0_of 652 (by decide +kernel) (by decide +kernel)
theorem w_653 : (.code yX4_left cX4_left 1 (some (.int)) : Cond) ∈ W0 := W0_of 653 (by decide +kernel) (by decide +kernel)
theorem w_657 : (.methodLink RL 38 yX4_moves : Cond) ∈ W0 := W0_of 657 (by decide +kernel) (by decide +kernel)
theorem w_658 : (.instanceMethod yX4_moves : Cond) ∈ W0 := W0_of 658 (by decide +kernel) (by decide +kernel)
theorem w_659 : (.selects RX4 yX4_moves yX4_moves : Cond) ∈ W0 := W0_of 659 (by decide +kernel) (by decide +kernel)
theorem w_660 : (.code yX4_moves cX4_moves 1 (some (.int)) : Cond) ∈ W0 := W0_of 660 (by decide +kernel) (by decide +kernel)
theorem w_664 : (.methodLink RL 41 yX4_move : Cond) ∈ W0 := W0_of 664 (by decide +kernel) (by decide +kernel)
theorem w_665 : (.instanceMethod yX4_move : Cond) ∈ W0 := W0_of 665 (by decide +kernel) (by decide +kernel)
theorem w_666 : (.selects RX4 yX4_move yX4_move : Cond) ∈ W0 := W0_of 666 (by decide +kernel) (by decide +kernel)
theorem w_667 : (.code yX4_move cX4_move 2 (some (.int)) : Cond) ∈ W0 := W0_of 667 (by decide +kernel) (by decide +kernel)
theorem w_676 : (.methodLink RL 44 yX4_best : Cond) ∈ W0 := W0_of 676 (by decide +kernel) (by decide +kernel)
theorem w_677 : (.instanceMethod yX4_best : Cond) ∈ W0 := W0_of 677 (by decide +kernel) (by decide +kernel)
theorem w_678 : (.selects RX4 yX4_best yX4_best : Cond) ∈ W0 := W0_of 678 (by decide +kernel) (by decide +kernel)
theorem w_679 : (.code yX4_best cX4_best 1 (some (.int)) : Cond) ∈ W0 := W0_of 679 (by decide +kernel) (by decide +kernel)
theorem w_704 : (.methodLink RL 47 yX4_play : Cond) ∈ W0 := W0_of 704 (by decide +kernel) (by decide +kernel)
theorem w_705 : (.instanceMethod yX4_play : Cond) ∈ W0 := W0_of 705 (by decide +kernel) (by decide +kernel)
theorem w_706 : (.selects RX4 yX4_play yX4_play : Cond) ∈ W0 := W0_of 706 (by decide +kernel) (by decide +kernel)
theorem w_707 : (.code yX4_play cX4_play 2 (some (.int)) : Cond) ∈ W0 := W0_of 707 (by decide +kernel) (by decide +kernel)
theorem w_721 : (.methodLink RL 50 yX4_run : Cond) ∈ W0 := W0_of 721 (by decide +kernel) (by decide +kernel)
theorem w_722 : (.instanceMethod yX4_run : Cond) ∈ W0 := W0_of 722 (by decide +kernel) (by decide +kernel)
theorem w_723 : (.selects RX4 yX4_run yX4_run : Cond) ∈ W0 := W0_of 723 (by decide +kernel) (by decide +kernel)
theorem w_724 : (.code yX4_run cX4_run 3 (some (.int)) : Cond) ∈ W0 := W0_of 724 (by decide +kernel) (by decide +kernel)


theorem et_startL {l : Launch} {y : MethodName} {ws ws' : List Cond} {rm : Room} {g : et_G} {world : va_W} {av : List Value} {cc : ByteArray} {maxL mc ms sz : Nat} {ret : Option FieldType} {hh : List (Nat × Nat × Nat × Nat)} {X : State → Prop} {Qc : Array Value → State → Outcome → State → Prop} {XC : String → State → State → Prop} (hy : plainName y.cls = true) (hw : ws = Cond.codeWith y cc maxL ret hh :: ws') (hn : (lg_sl av).length ≤ maxL)
    (body : ∀ (p : Program) (e : Env) (s : State) (m : MethodId) (args : Array Value) (below : List Frame) (meth : Method) (c : Code), p.tables.exec = Jvm.exec → c.code = cc → meth.sig.returnType = ret → (∀ w ∈ ws, w.before args s = true) → s.vm.findClass y.cls = some m.cls → meth.locks = false → c.maxLocals = maxL → c.exceptionTable.toList = tableOf hh → s.heap.size = sz → va_P (gD g) vwCl world s.heap → et_C g s → X s → va_D (va_A world sz) world → va_S (va_A world sz) s.heap s.heap [] → (∀ q : Nat, s.heap.size ≤ q → va_A world sz q) → ∀ ls : Array Slot, lv_has ls maxL (lv_args 0 av) → W p l e rm s m args below meth c s.heap [] 0 0 (vx_MQ below Qc XC args s mc ms (va_A world sz)) (F0 m 0 ls [])) :
    vx_Met l y ws rm (et_PcN g sz world av X) Qc XC mc ms (va_A world sz) := by
  refine vx_ofWH (cc := cc) (maxL := maxL) (ret := ret) (hh := hh) hy hw ?_
  intro p e s m args below meth c s₁ B hml hv
  obtain ⟨rfl, hsz, hP, hC, hD, hX⟩ := hv
  have hl := lv_entry av (n := maxL) hn
  have hat := atoms_spec (ws := ws) B.pre
  rw [lg_entry_eq]
  exact body p e s m _ below meth c B.exec B.bytes B.returns hat (findClass_of_methodNamed B.named) B.notSynchronized hml (vx_table (x := y) B (hat _ (by rw [hw]; exact List.mem_cons_self))) hsz hP hC hX hD.self va_S.rf (fun q h => Or.inr (hsz ▸ h)) _ hl
/-- what the handlers need: which exception is which class -/
def et_TL (A : Nat → Prop) (U : State) : Prop := et_TH A U ∧ va_Nw (.castable "java/lang/IllegalArgumentException" "java/lang/IllegalArgumentException") U ∧ va_Nw (.castable "java/lang/IndexOutOfBoundsException" "java/lang/IndexOutOfBoundsException") U ∧ va_Nw (.castable "java/lang/IllegalStateException" "java/lang/IllegalStateException") U ∧ va_Nc "java/lang/IndexOutOfBoundsException" "java/lang/IllegalArgumentException" U
theorem et_TL.blind {A : Nat → Prop} : et_blind (et_TL A) := fun a U f mk h => ⟨et_TH.blind a U f mk h.1, va_Nw.same (u := U) (U := U.calling f mk a) rfl rfl h.2.1, va_Nw.same (u := U) (U := U.calling f mk a) rfl rfl h.2.2.1, va_Nw.same (u := U) (U := U.calling f mk a) rfl rfl h.2.2.2.1, h.2.2.2.2.moved (u := U) (U := U.calling f mk a) (Vm.Alike.refl U.vm)⟩
theorem et_TL.at {A B : Nat → Prop} {s : State} {H : Heap} {locs : List Loc} (h : et_TL A s) (hS : va_S A s.heap H locs) (hB : ∀ q, B q → A q) (U : State) (hU : U.heap = H) (hW : s.WarmedH U.vm) : et_TL B U := ⟨h.1.at hS hB U hU hW, h.2.1.warmC hW, h.2.2.1.warmC hW, h.2.2.2.1.warmC hW, h.2.2.2.2.moved hW.alike⟩
def et_QL (g : et_G) (jq : Nat) (A : Nat → Prop) (cd : Int32) (z : Nat → Int64) : Array Value → State → Outcome → State → Prop := fun _ st oc t => oc = .returned (some (.int cd)) ∧ va_P (gD g) vwCl [(jq, .inl (gJ g, 1, .inr (.inl z)))] t.heap ∧ va_F A st t
def et_noX : String → State → State → Prop := fun _ _ _ => False
section EtLaw
variable {p : Program} {l : Launch} {e : Env} {R : Room} {s : State} {m : MethodId} {args : Array Value} {below : List Frame} {meth : Method} {c : Code} {H : Heap} {locs : List Loc} {cells slots mc ms : Nat} {Q : State → Prop} {pc : Nat} {ls : Array Slot} {rest st0 : List Value} {a : Array Value} {g : et_G} {V : va_W} {j : Nat × va_E} {A : Nat → Prop} {H0 : Heap} {M : Nat × Int32}
theorem et_freeJ (hD : va_D A (j :: V)) (hS : va_S A H0 H locs) (hA : ∀ q : Nat, H0.size ≤ q → A q) : ∀ q, va_A V H.size q → A q := fun q h => by
  rcases h with ⟨k, e, h⟩ | h
  · exact hD.2 (k + 1) (q, e) (by simpa using h)
  · exact hA q (Nat.le_trans hS.1 h)
theorem et_preVJ {C : String} {T : u_T} {N q0 ci : Nat} {b : Addr} {fs As : List Value} {X : State → Prop} (hP : va_P (gD g) vwCl (j :: V) H) (hC : et_C g s) (hD : va_D A (j :: V)) (hb : et_blind X) (hX : ∀ U : State, U.heap = H → s.WarmedH U.vm → X U) (hc : vwCl[ci]? = some (C, T, N)) (he : V[q0]? = some (b, .inr (ci, fs))) : PreV s H C b (et_PcN g H.size V (.ref b :: As) X) As := by
  have hPV : va_P (gD g) vwCl V H := fun k q hk => hP (k + 1) q (by simpa using hk)
  have hDV : va_D (fun _ => True) V := ⟨fun i k p q hi hk e => by
    have := hD.1 (i + 1) (k + 1) p q (by simpa using hi) (by simpa using hk) e
    omega, fun _ _ _ => trivial⟩
  exact ⟨et_PcN.blind hb, va_recv hC.1 hPV hc he, fun U hU hW => ⟨rfl, by rw [hU], by rw [hU]; exact hPV, hC.warm hW, hDV, hX U hU hW⟩⟩
/-- a call of the class: it throws, or answers; the result's array is as it was -/
theorem et_callTJ (hr : vx_Run p l e R s m args below meth c H locs cells slots mc ms (F0 m pc ls st0) rest (et_QT M (va_A V H.size) a) (et_XT M (va_A V H.size)) (va_A V H.size)) (hP : va_P (gD g) vwCl (j :: V) H) (hD : va_D A (j :: V)) (hS : va_S A H0 H locs) (hF : ∀ q, va_A V H.size q → A q)
    (kx : ∀ (k : Nat) (E : String) (ce : Cell) (q9 : Addr) (H1 : Heap) (locs1 : List Loc), k ≠ 0 → et_exn k = E → M = (k, (0 : Int32)) → va_P (gD g) vwCl [j] H1 → va_S A H0 H1 locs1 → H1[q9]? = some ce → ce.vm = .none → s.vm.findClass E = some ce.cls → vx_W p l e R s m args below meth c H1 locs1 (cells + mc) (slots + ms) Q (F0 m pc ls rest) q9)
    (kk : ∀ v : Int32, M = (0, v) → ∀ (H1 : Heap) (locs1 : List Loc), va_P (gD g) vwCl [j] H1 → va_S A H0 H1 locs1 → W p l e R s m args below meth c H1 locs1 (cells + mc) (slots + ms) Q (F0 m (pc + 3) ls (.int v :: rest))) : W p l e R s m args below meth c H locs cells slots Q (F0 m pc ls st0) := by
  intro T hT X
  have key : ∀ {t T' : State} {st₀ : State} {L : List Loc}, st₀.heap = H → T'.heap = t.heap → va_F (va_A V H.size) st₀ t → (∀ z ∈ L, va_A V H.size z.base) → va_P (gD g) vwCl [j] T'.heap ∧ va_S A H0 T'.heap (locs ++ L) := by
    intro t T' st₀ L h0 e1 hFr hL
    obtain ⟨hz, hk⟩ := hFr
    rw [h0] at hz hk
    have hj := hP 0 j rfl
    have hn : ¬ va_A V H.size j.1 := by
      rintro (⟨k, e, h⟩ | h)
      · have := hD.1 0 (k + 1) j (j.1, e) rfl (by simpa using h) rfl
        omega
      · exact absurd hj.lt (Nat.not_lt.mpr h)
    refine ⟨fun k q hk2 => ?_, ⟨Nat.le_trans hS.1 (by rw [e1]; exact hz), fun q h1 h2 => ?_, fun q hq => ?_⟩⟩
    · cases k with
      | zero =>
        cases hk2
        exact hj.kept (by rw [e1]; exact hk _ hj.lt hn)
      | succ k => simp at hk2
    · rw [e1, hk q (Nat.lt_of_lt_of_le h1 hS.1) (fun z => h2 (hF q z))]
      exact hS.2.1 q h1 h2
    · rcases List.mem_append.mp hq with h | h
      · exact hS.2.2 q h
      · exact hF _ (hL q h)
  rcases hr T hT X with ⟨v, st₀, t, T', L, h0, X', hL, e1, e2, ⟨w, hv, hM, hFr⟩, st⟩ | ⟨q, st₀, t, T', L, E, ce, h0, X', hL, e1, e2, ⟨k, hk0, hkE, hM, hFr⟩, hce, hcv, hcl, st⟩
  · cases hv
    obtain ⟨h1, h2⟩ := key h0 e1 hFr hL
    obtain ⟨t2, a1, b1⟩ := kk w hM T'.heap (locs ++ L) h1 h2 T' rfl X'
    exact ⟨t2, st t2 a1, b1⟩
  · obtain ⟨h1, h2⟩ := key h0 e1 hFr hL
    obtain ⟨t2, a1, b1⟩ := kx k E ce q T'.heap (locs ++ L) hk0 hkE hM h1 h2 (by rw [e1]; exact hce) hcv hcl T' rfl X'
    exact ⟨t2, st.trans a1, b1⟩
end EtLaw

theorem dL_cell_0 : decode cL_cell 0 = .ok (.iload_n 1, 1) := by decide +kernel
theorem dL_cell_1 : decode cL_cell 1 = .ok (.aload_n 0, 1) := by decide +kernel
theorem dL_cell_2 : decode cL_cell 2 = .ok (.arraylength, 1) := by decide +kernel
theorem dL_cell_3 : decode cL_cell 3 = .ok (.if_icmp .ge 9, 3) := by decide +kernel
theorem dL_cell_6 : decode cL_cell 6 = .ok (.aload_n 0, 1) := by decide +kernel
theorem dL_cell_7 : decode cL_cell 7 = .ok (.iload_n 1, 1) := by decide +kernel
theorem dL_cell_8 : decode cL_cell 8 = .ok (.iaload, 1) := by decide +kernel
theorem dL_cell_9 : decode cL_cell 9 = .ok (.goto 4, 3) := by decide +kernel
theorem dL_cell_12 : decode cL_cell 12 = .ok (.iconst 0, 1) := by decide +kernel
theorem dL_cell_13 : decode cL_cell 13 = .ok (.ireturn, 1) := by decide +kernel
theorem dL_distance_0 : decode cL_distance 0 = .ok (.aload 6, 2) := by decide +kernel
theorem dL_distance_2 : decode cL_distance 2 = .ok (.iconst 0, 1) := by decide +kernel
theorem dL_distance_3 : decode cL_distance 3 = .ok (.aload_n 0, 1) := by decide +kernel
theorem dL_distance_4 : decode cL_distance 4 = .ok (.iload_n 1, 1) := by decide +kernel
theorem dL_distance_5 : decode cL_distance 5 = .ok (.iload_n 2, 1) := by decide +kernel
theorem dL_distance_6 : decode cL_distance 6 = .ok (.iload_n 3, 1) := by decide +kernel
theorem dL_distance_7 : decode cL_distance 7 = .ok (.iload 4, 2) := by decide +kernel
theorem dL_distance_9 : decode cL_distance 9 = .ok (.iload 5, 2) := by decide +kernel
theorem dL_distance_11 : decode cL_distance 11 = .ok (.invokevirtual 7, 3) := by decide +kernel
theorem dL_distance_14 : decode cL_distance 14 = .ok (.i2l, 1) := by decide +kernel
theorem dL_distance_15 : decode cL_distance 15 = .ok (.lastore, 1) := by decide +kernel
theorem dL_distance_16 : decode cL_distance 16 = .ok (.goto 7, 3) := by decide +kernel
theorem dL_distance_19 : decode cL_distance 19 = .ok (.astore 7, 2) := by decide +kernel
theorem dL_distance_21 : decode cL_distance 21 = .ok (.iconst 1, 1) := by decide +kernel
theorem dL_distance_22 : decode cL_distance 22 = .ok (.ireturn, 1) := by decide +kernel
theorem dL_distance_23 : decode cL_distance 23 = .ok (.iconst 0, 1) := by decide +kernel
theorem dL_distance_24 : decode cL_distance 24 = .ok (.ireturn, 1) := by decide +kernel
theorem dL_count_0 : decode cL_count 0 = .ok (.aload 4, 2) := by decide +kernel
theorem dL_count_2 : decode cL_count 2 = .ok (.iconst 0, 1) := by decide +kernel
theorem dL_count_3 : decode cL_count 3 = .ok (.aload_n 0, 1) := by decide +kernel
theorem dL_count_4 : decode cL_count 4 = .ok (.iload_n 1, 1) := by decide +kernel
theorem dL_count_5 : decode cL_count 5 = .ok (.iload_n 2, 1) := by decide +kernel
theorem dL_count_6 : decode cL_count 6 = .ok (.iload_n 3, 1) := by decide +kernel
theorem dL_count_7 : decode cL_count 7 = .ok (.invokevirtual 15, 3) := by decide +kernel
theorem dL_count_10 : decode cL_count 10 = .ok (.i2l, 1) := by decide +kernel
theorem dL_count_11 : decode cL_count 11 = .ok (.lastore, 1) := by decide +kernel
theorem dL_count_12 : decode cL_count 12 = .ok (.goto 7, 3) := by decide +kernel
theorem dL_count_15 : decode cL_count 15 = .ok (.astore 5, 2) := by decide +kernel
theorem dL_count_17 : decode cL_count 17 = .ok (.iconst 1, 1) := by decide +kernel
theorem dL_count_18 : decode cL_count 18 = .ok (.ireturn, 1) := by decide +kernel
theorem dL_count_19 : decode cL_count 19 = .ok (.iconst 0, 1) := by decide +kernel
theorem dL_count_20 : decode cL_count 20 = .ok (.ireturn, 1) := by decide +kernel
theorem dL_find_0 : decode cL_find 0 = .ok (.aload 5, 2) := by decide +kernel
theorem dL_find_2 : decode cL_find 2 = .ok (.iconst 0, 1) := by decide +kernel
theorem dL_find_3 : decode cL_find 3 = .ok (.aload_n 0, 1) := by decide +kernel
theorem dL_find_4 : decode cL_find 4 = .ok (.iload_n 1, 1) := by decide +kernel
theorem dL_find_5 : decode cL_find 5 = .ok (.iload_n 2, 1) := by decide +kernel
theorem dL_find_6 : decode cL_find 6 = .ok (.iload_n 3, 1) := by decide +kernel
theorem dL_find_7 : decode cL_find 7 = .ok (.iload 4, 2) := by decide +kernel
theorem dL_find_9 : decode cL_find 9 = .ok (.invokevirtual 19, 3) := by decide +kernel
theorem dL_find_12 : decode cL_find 12 = .ok (.i2l, 1) := by decide +kernel
theorem dL_find_13 : decode cL_find 13 = .ok (.lastore, 1) := by decide +kernel
theorem dL_find_14 : decode cL_find 14 = .ok (.goto 11, 3) := by decide +kernel
theorem dL_find_17 : decode cL_find 17 = .ok (.astore 6, 2) := by decide +kernel
theorem dL_find_19 : decode cL_find 19 = .ok (.iconst 1, 1) := by decide +kernel
theorem dL_find_20 : decode cL_find 20 = .ok (.ireturn, 1) := by decide +kernel
theorem dL_find_21 : decode cL_find 21 = .ok (.astore 6, 2) := by decide +kernel
theorem dL_find_23 : decode cL_find 23 = .ok (.iconst 2, 1) := by decide +kernel
theorem dL_find_24 : decode cL_find 24 = .ok (.ireturn, 1) := by decide +kernel
theorem dL_find_25 : decode cL_find 25 = .ok (.iconst 0, 1) := by decide +kernel
theorem dL_find_26 : decode cL_find 26 = .ok (.ireturn, 1) := by decide +kernel
theorem dL_longest_0 : decode cL_longest 0 = .ok (.aload_n 2, 1) := by decide +kernel
theorem dL_longest_1 : decode cL_longest 1 = .ok (.iconst 0, 1) := by decide +kernel
theorem dL_longest_2 : decode cL_longest 2 = .ok (.aload_n 0, 1) := by decide +kernel
theorem dL_longest_3 : decode cL_longest 3 = .ok (.iload_n 1, 1) := by decide +kernel
theorem dL_longest_4 : decode cL_longest 4 = .ok (.invokevirtual 25, 3) := by decide +kernel
theorem dL_longest_7 : decode cL_longest 7 = .ok (.i2l, 1) := by decide +kernel
theorem dL_longest_8 : decode cL_longest 8 = .ok (.lastore, 1) := by decide +kernel
theorem dL_longest_9 : decode cL_longest 9 = .ok (.goto 6, 3) := by decide +kernel
theorem dL_longest_12 : decode cL_longest 12 = .ok (.astore_n 3, 1) := by decide +kernel
theorem dL_longest_13 : decode cL_longest 13 = .ok (.iconst 1, 1) := by decide +kernel
theorem dL_longest_14 : decode cL_longest 14 = .ok (.ireturn, 1) := by decide +kernel
theorem dL_longest_15 : decode cL_longest 15 = .ok (.iconst 0, 1) := by decide +kernel
theorem dL_longest_16 : decode cL_longest 16 = .ok (.ireturn, 1) := by decide +kernel
theorem dL_about_0 : decode cL_about 0 = .ok (.aload_n 2, 1) := by decide +kernel
theorem dL_about_1 : decode cL_about 1 = .ok (.iconst 0, 1) := by decide +kernel
theorem dL_about_2 : decode cL_about 2 = .ok (.aload_n 0, 1) := by decide +kernel
theorem dL_about_3 : decode cL_about 3 = .ok (.iload_n 1, 1) := by decide +kernel
theorem dL_about_4 : decode cL_about 4 = .ok (.invokevirtual 29, 3) := by decide +kernel
theorem dL_about_7 : decode cL_about 7 = .ok (.i2l, 1) := by decide +kernel
theorem dL_about_8 : decode cL_about 8 = .ok (.lastore, 1) := by decide +kernel
theorem dL_about_9 : decode cL_about 9 = .ok (.goto 9, 3) := by decide +kernel
theorem dL_about_12 : decode cL_about 12 = .ok (.astore_n 3, 1) := by decide +kernel
theorem dL_about_13 : decode cL_about 13 = .ok (.iconst 1, 1) := by decide +kernel
theorem dL_about_14 : decode cL_about 14 = .ok (.ireturn, 1) := by decide +kernel
theorem dL_about_15 : decode cL_about 15 = .ok (.astore_n 3, 1) := by decide +kernel
theorem dL_about_16 : decode cL_about 16 = .ok (.iconst 2, 1) := by decide +kernel
theorem dL_about_17 : decode cL_about 17 = .ok (.ireturn, 1) := by decide +kernel
theorem dL_about_18 : decode cL_about 18 = .ok (.iconst 0, 1) := by decide +kernel
theorem dL_about_19 : decode cL_about 19 = .ok (.ireturn, 1) := by decide +kernel
theorem dL_left_0 : decode cL_left 0 = .ok (.aload_n 1, 1) := by decide +kernel
theorem dL_left_1 : decode cL_left 1 = .ok (.iconst 0, 1) := by decide +kernel
theorem dL_left_2 : decode cL_left 2 = .ok (.aload_n 0, 1) := by decide +kernel
theorem dL_left_3 : decode cL_left 3 = .ok (.invokevirtual 34, 3) := by decide +kernel
theorem dL_left_6 : decode cL_left 6 = .ok (.i2l, 1) := by decide +kernel
theorem dL_left_7 : decode cL_left 7 = .ok (.lastore, 1) := by decide +kernel
theorem dL_left_8 : decode cL_left 8 = .ok (.goto 6, 3) := by decide +kernel
theorem dL_left_11 : decode cL_left 11 = .ok (.astore_n 2, 1) := by decide +kernel
theorem dL_left_12 : decode cL_left 12 = .ok (.iconst 1, 1) := by decide +kernel
theorem dL_left_13 : decode cL_left 13 = .ok (.ireturn, 1) := by decide +kernel
theorem dL_left_14 : decode cL_left 14 = .ok (.iconst 0, 1) := by decide +kernel
theorem dL_left_15 : decode cL_left 15 = .ok (.ireturn, 1) := by decide +kernel
theorem dL_moves_0 : decode cL_moves 0 = .ok (.aload_n 1, 1) := by decide +kernel
theorem dL_moves_1 : decode cL_moves 1 = .ok (.iconst 0, 1) := by decide +kernel
theorem dL_moves_2 : decode cL_moves 2 = .ok (.aload_n 0, 1) := by decide +kernel
theorem dL_moves_3 : decode cL_moves 3 = .ok (.invokevirtual 38, 3) := by decide +kernel
theorem dL_moves_6 : decode cL_moves 6 = .ok (.i2l, 1) := by decide +kernel
theorem dL_moves_7 : decode cL_moves 7 = .ok (.lastore, 1) := by decide +kernel
theorem dL_moves_8 : decode cL_moves 8 = .ok (.goto 6, 3) := by decide +kernel
theorem dL_moves_11 : decode cL_moves 11 = .ok (.astore_n 2, 1) := by decide +kernel
theorem dL_moves_12 : decode cL_moves 12 = .ok (.iconst 1, 1) := by decide +kernel
theorem dL_moves_13 : decode cL_moves 13 = .ok (.ireturn, 1) := by decide +kernel
theorem dL_moves_14 : decode cL_moves 14 = .ok (.iconst 0, 1) := by decide +kernel
theorem dL_moves_15 : decode cL_moves 15 = .ok (.ireturn, 1) := by decide +kernel
theorem dL_move_0 : decode cL_move 0 = .ok (.aload_n 2, 1) := by decide +kernel
theorem dL_move_1 : decode cL_move 1 = .ok (.iconst 0, 1) := by decide +kernel
theorem dL_move_2 : decode cL_move 2 = .ok (.aload_n 0, 1) := by decide +kernel
theorem dL_move_3 : decode cL_move 3 = .ok (.iload_n 1, 1) := by decide +kernel
theorem dL_move_4 : decode cL_move 4 = .ok (.invokevirtual 41, 3) := by decide +kernel
theorem dL_move_7 : decode cL_move 7 = .ok (.i2l, 1) := by decide +kernel
theorem dL_move_8 : decode cL_move 8 = .ok (.lastore, 1) := by decide +kernel
theorem dL_move_9 : decode cL_move 9 = .ok (.goto 9, 3) := by decide +kernel
theorem dL_move_12 : decode cL_move 12 = .ok (.astore_n 3, 1) := by decide +kernel
theorem dL_move_13 : decode cL_move 13 = .ok (.iconst 1, 1) := by decide +kernel
theorem dL_move_14 : decode cL_move 14 = .ok (.ireturn, 1) := by decide +kernel
theorem dL_move_15 : decode cL_move 15 = .ok (.astore_n 3, 1) := by decide +kernel
theorem dL_move_16 : decode cL_move 16 = .ok (.iconst 2, 1) := by decide +kernel
theorem dL_move_17 : decode cL_move 17 = .ok (.ireturn, 1) := by decide +kernel
theorem dL_move_18 : decode cL_move 18 = .ok (.iconst 0, 1) := by decide +kernel
theorem dL_move_19 : decode cL_move 19 = .ok (.ireturn, 1) := by decide +kernel
theorem dL_best_0 : decode cL_best 0 = .ok (.aload_n 1, 1) := by decide +kernel
theorem dL_best_1 : decode cL_best 1 = .ok (.iconst 0, 1) := by decide +kernel
theorem dL_best_2 : decode cL_best 2 = .ok (.aload_n 0, 1) := by decide +kernel
theorem dL_best_3 : decode cL_best 3 = .ok (.invokevirtual 44, 3) := by decide +kernel
theorem dL_best_6 : decode cL_best 6 = .ok (.i2l, 1) := by decide +kernel
theorem dL_best_7 : decode cL_best 7 = .ok (.lastore, 1) := by decide +kernel
theorem dL_best_8 : decode cL_best 8 = .ok (.goto 6, 3) := by decide +kernel
theorem dL_best_11 : decode cL_best 11 = .ok (.astore_n 2, 1) := by decide +kernel
theorem dL_best_12 : decode cL_best 12 = .ok (.iconst 1, 1) := by decide +kernel
theorem dL_best_13 : decode cL_best 13 = .ok (.ireturn, 1) := by decide +kernel
theorem dL_best_14 : decode cL_best 14 = .ok (.iconst 0, 1) := by decide +kernel
theorem dL_best_15 : decode cL_best 15 = .ok (.ireturn, 1) := by decide +kernel
theorem dL_play_0 : decode cL_play 0 = .ok (.aload_n 2, 1) := by decide +kernel
theorem dL_play_1 : decode cL_play 1 = .ok (.iconst 0, 1) := by decide +kernel
theorem dL_play_2 : decode cL_play 2 = .ok (.aload_n 0, 1) := by decide +kernel
theorem dL_play_3 : decode cL_play 3 = .ok (.iload_n 1, 1) := by decide +kernel
theorem dL_play_4 : decode cL_play 4 = .ok (.invokevirtual 47, 3) := by decide +kernel
theorem dL_play_7 : decode cL_play 7 = .ok (.i2l, 1) := by decide +kernel
theorem dL_play_8 : decode cL_play 8 = .ok (.lastore, 1) := by decide +kernel
theorem dL_play_9 : decode cL_play 9 = .ok (.goto 9, 3) := by decide +kernel
theorem dL_play_12 : decode cL_play 12 = .ok (.astore_n 3, 1) := by decide +kernel
theorem dL_play_13 : decode cL_play 13 = .ok (.iconst 1, 1) := by decide +kernel
theorem dL_play_14 : decode cL_play 14 = .ok (.ireturn, 1) := by decide +kernel
theorem dL_play_15 : decode cL_play 15 = .ok (.astore_n 3, 1) := by decide +kernel
theorem dL_play_16 : decode cL_play 16 = .ok (.iconst 2, 1) := by decide +kernel
theorem dL_play_17 : decode cL_play 17 = .ok (.ireturn, 1) := by decide +kernel
theorem dL_play_18 : decode cL_play 18 = .ok (.iconst 0, 1) := by decide +kernel
theorem dL_play_19 : decode cL_play 19 = .ok (.ireturn, 1) := by decide +kernel
theorem dL_run_0 : decode cL_run 0 = .ok (.aload_n 2, 1) := by decide +kernel
theorem dL_run_1 : decode cL_run 1 = .ok (.iconst 0, 1) := by decide +kernel
theorem dL_run_2 : decode cL_run 2 = .ok (.aload_n 0, 1) := by decide +kernel
theorem dL_run_3 : decode cL_run 3 = .ok (.iload_n 1, 1) := by decide +kernel
theorem dL_run_4 : decode cL_run 4 = .ok (.invokevirtual 50, 3) := by decide +kernel
theorem dL_run_7 : decode cL_run 7 = .ok (.i2l, 1) := by decide +kernel
theorem dL_run_8 : decode cL_run 8 = .ok (.lastore, 1) := by decide +kernel
theorem dL_run_9 : decode cL_run 9 = .ok (.goto 9, 3) := by decide +kernel
theorem dL_run_12 : decode cL_run 12 = .ok (.astore_n 3, 1) := by decide +kernel
theorem dL_run_13 : decode cL_run 13 = .ok (.iconst 1, 1) := by decide +kernel
theorem dL_run_14 : decode cL_run 14 = .ok (.ireturn, 1) := by decide +kernel
theorem dL_run_15 : decode cL_run 15 = .ok (.astore_n 3, 1) := by decide +kernel
theorem dL_run_16 : decode cL_run 16 = .ok (.iconst 2, 1) := by decide +kernel
theorem dL_run_17 : decode cL_run 17 = .ok (.ireturn, 1) := by decide +kernel
theorem dL_run_18 : decode cL_run 18 = .ok (.iconst 0, 1) := by decide +kernel
theorem dL_run_19 : decode cL_run 19 = .ok (.ireturn, 1) := by decide +kernel

/-- the script's own array -/
def et_PX (b L : Nat) (xs : Nat → Int32) (av : List Value) : Array Value → State → Prop := fun v U => v = av.toArray ∧ va_X b L xs U U.heap ∧ b < U.heap.size
theorem et_startX {l : Launch} {y : MethodName} {ws ws' : List Cond} {rm : Room} {b L : Nat} {xs : Nat → Int32} {av : List Value} {cc : ByteArray} {maxL : Nat} {ret : Option FieldType} {v : Option Value} (hy : plainName y.cls = true) (hw : ws = Cond.code y cc maxL ret :: ws') (hn : (lg_sl av).length ≤ maxL)
    (body : ∀ (p : Program) (e : Env) (s : State) (m : MethodId) (args : Array Value) (below : List Frame) (meth : Method) (c : Code), p.tables.exec = Jvm.exec → c.code = cc → meth.sig.returnType = ret → (∀ w ∈ ws, w.before args s = true) → s.vm.findClass y.cls = some m.cls → meth.locks = false → c.maxLocals = maxL → va_X b L xs s s.heap → b < s.heap.size → ∀ ls : Array Slot, lv_has ls maxL (lv_args 0 av) → W p l e rm s m args below meth c s.heap [] 0 0 (MQ below (et_QP v) args s 0 0 et_no) (F0 m 0 ls [])) :
    Met l y ws rm (et_PX b L xs av) (et_QP v) 0 0 et_no := by
  refine Met.ofW (cc := cc) (maxL := maxL) (ret := ret) hy hw ?_
  intro p e s m args below meth c s₁ B hml hv
  obtain ⟨rfl, hX, hbl⟩ := hv
  have hl := lv_entry av (n := maxL) hn
  rw [lg_entry_eq]
  exact body p e s m _ below meth c B.exec B.bytes B.returns (atoms_spec (ws := ws) B.pre) (findClass_of_methodNamed B.named) B.notSynchronized hml hX hbl _ hl
theorem c_L_cell (l : Launch) (b L : Nat) (xs : Nat → Int32) (i : Int32) (hL : L < 2147483648) (hi : ¬ i < 0) : Met l yL_cell (Cond.code yL_cell cL_cell 2 (some (.int)) :: W0) ({ frames := 0, cells := 0, slots := 0, locals := 0 } : Room) (et_PX b L xs [.ref b, .int i]) (et_QP (some (.int (if nI L ≤ i then 0 else xs i.toNatClampNeg)))) 0 0 et_no := by
  refine et_startX (by decide) rfl (Nat.le_of_ble_eq_true rfl) ?_
  intro p e s m args below meth c hx hb hr hts0 hown hlocks hml hX hbl ls hl
  have hl : lv_has ls 2 [(0, .ref b), (1, .int i)] := hl
  have hS : va_S (fun _ => False) s.heap s.heap [] := va_S.rf
  refine lv_iload_n hx hb dL_cell_0 rfl (lv_at hl 1 rfl) ?_
  refine lv_aload_n hx hb dL_cell_1 rfl (lv_at hl 0 rfl) ?_
  refine va_slen hx hb hX hbl (fun h => h) hS dL_cell_2 ?_
  refine lv_icmp_ge (tgt := 12) hx hb dL_cell_3 (by decide) (fun c_1 => ?_) (fun c_1 => ?_)
  ·
    refine lv_iconst (v := (0 : Int32)) hx hb dL_cell_12 (by decide) ?_
    exact et_iret hx hb hr hlocks dL_cell_13 (if_pos c_1).symm
  ·
    refine lv_aload_n hx hb dL_cell_6 rfl (lv_at hl 0 rfl) ?_
    refine lv_iload_n hx hb dL_cell_7 rfl (lv_at hl 1 rfl) ?_
    refine va_sld hx hb hX hbl (fun h => h) hS (et_in (N := L) hi c_1 hL) dL_cell_8 ?_
    refine lv_goto (tgt := 13) hx hb dL_cell_9 (by decide) ?_
    exact et_iret hx hb hr hlocks dL_cell_13 (if_neg c_1).symm

set_option maxHeartbeats 4000000 in
theorem c_L_distance (l : Launch) (g : et_G) (sz jq : Nat) (z : Nat → Int64) (V : va_W) (x : Nat) (fs : List Value) (he : V[0]? = some (x, .inr (4, fs))) (a0 a1 a2 a3 a4 : Int32) (M : Nat × Int32) (hM : M.1 = 0 ∨ M.1 = 1) (fr lo : Nat) (hfr : fr ≤ 7) (hlo : lo ≤ 200) (hm : vx_Met l yX4_distance (Cond.code yX4_distance cX4_distance 6 (some (.int)) :: W0) ({ frames := fr, cells := 2, slots := 12, locals := lo } : Room) (et_PcN g sz V [.ref x, .int a0, .int a1, .int a2, .int a3, .int a4] (et_TH (va_A V sz))) (et_QT M (va_A V sz)) (et_XT M (va_A V sz)) 2 12 (va_A V sz)) : vx_Met l yL_distance (Cond.codeWith yL_distance cL_distance 8 (some (.int)) [(0, 16, 19, 13)] :: W0) ({ frames := 8, cells := 2, slots := 12, locals := 225 } : Room) (et_PcN g sz ((jq, .inl (gJ g, 1, .inr (.inl z))) :: V) [.ref x, .int a0, .int a1, .int a2, .int a3, .int a4, .ref jq] (et_TL (va_A ((jq, .inl (gJ g, 1, .inr (.inl z))) :: V) sz))) (et_QL g jq (va_A ((jq, .inl (gJ g, 1, .inr (.inl z))) :: V) sz) (if M.1 = 0 then (0 : Int32) else 1) (if M.1 = 0 then vp_updL z 0 M.2.toInt64 else z)) et_noX 2 12 (va_A ((jq, .inl (gJ g, 1, .inr (.inl z))) :: V) sz) := by
  refine et_startL (by decide) rfl (Nat.le_of_ble_eq_true rfl) ?_
  intro p e s m args below meth c hx hb hr hts0 hown hlocks hml htab hsz hP hC hX hD hS hA ls hl
  subst hsz
  have hts : ∀ w ∈ W0, w.before args s = true := fun w h => hts0 w (List.mem_cons_of_mem _ h)
  have hown : s.vm.findClass RL = some m.cls := hown
  have hl : lv_has ls 8 [(0, .ref x), (1, .int a0), (2, .int a1), (3, .int a2), (4, .int a3), (5, .int a4), (6, .ref jq)] := hl
  refine lv_aload hx hb dL_distance_0 (lv_at hl 6 rfl) ?_
  refine lv_iconst (v := (0 : Int32)) hx hb dL_distance_2 (by decide) ?_
  refine lv_aload_n hx hb dL_distance_3 rfl (lv_at hl 0 rfl) ?_
  refine lv_iload_n hx hb dL_distance_4 rfl (lv_at hl 1 rfl) ?_
  refine lv_iload_n hx hb dL_distance_5 rfl (lv_at hl 2 rfl) ?_
  refine lv_iload_n hx hb dL_distance_6 rfl (lv_at hl 3 rfl) ?_
  refine lv_iload hx hb dL_distance_7 (lv_at hl 4 rfl) ?_
  refine lv_iload hx hb dL_distance_9 (lv_at hl 5 rfl) ?_
  have hFc := et_freeJ hD hS hA
  refine et_callTJ (vx_runV (As := [.int a0, .int a1, .int a2, .int a3, .int a4]) (rest := [.int (0 : Int32), .ref jq]) ⟨hx, hb, hml, hown, hts⟩ hm (cwV 5 hts (W0_gV w_378 w_379 w_380 w_76 w_381) rfl rfl rfl (by decide +kernel) ⟨Nat.succ_le_succ hfr, Nat.add_le_add_left hlo (8 + (6 + 11))⟩) (et_preVJ hP hC hD et_TH.blind (fun U hU hW => hX.1.at hS (fun q h => hFc q h) U hU hW) (ci := 4) (q0 := 0) rfl he) rfl rfl hl.1 rfl (lv_room (Nat.le_of_ble_eq_true rfl)) dL_distance_11 ⟨Nat.le_of_ble_eq_true rfl, Nat.le_of_ble_eq_true rfl⟩) hP hD hS (fun q h => hFc q h) (fun ek E ce q9 H locs hk0 hkE hkM hP hS hce hcv hcl => ?_) (fun v hv H locs hP hS => ?_)
  ·
    rw [hkM] at hM
    rcases hM with h9 | h9
    · exact absurd h9 hk0
    cases h9
    cases hkE
    refine vx_catch (own := RL) (name := "java/lang/IllegalArgumentException") hown [] ⟨0, 16, 19, 13⟩ [] (htab.trans rfl) (fun z h => by cases h) (by decide) (by decide) (hts _ w_377) (va_Nw.use rfl hX.2.1) hce hcv hcl ?_
    refine lv_astore (lv' := [(7, .ref q9), (0, .ref x), (1, .int a0), (2, .int a1), (3, .int a2), (4, .int a3), (5, .int a4), (6, .ref jq)]) hx hb dL_distance_19 hl (by decide) rfl (fun ls hl => ?_)
    refine lv_iconst (v := (1 : Int32)) hx hb dL_distance_21 (by decide) ?_
    refine vx_ret ?_
    refine W.widen (k := 2) (n := 12) (by omega) (by omega) ?_
    exact W.iret hx hb hr (fun t ht hW => ⟨by rw [hkM]; rfl, by rw [ht, hkM]; exact hP, hS.F ht⟩) hS.2.2 dL_distance_22 hlocks
  ·
    refine lv_i2l (v := v.toInt64) hx hb dL_distance_14 rfl ?_
    have hDJ : va_D (va_A ((jq, .inl (gJ g, 1, .inr (.inl z))) :: V) s.heap.size) [(jq, .inl (gJ g, 1, .inr (.inl z)))] := hD.sub [0] (by decide) rfl
    refine va_last (D := gD g) hx hb hC.1 hP hDJ hS 0 1 rfl rfl (by unfold vp_in; decide) dL_distance_15 (fun H locs hP hDJ hS => ?_)
    refine lv_goto (tgt := 23) hx hb dL_distance_16 (by decide) ?_
    refine lv_iconst (v := (0 : Int32)) hx hb dL_distance_23 (by decide) ?_
    refine vx_ret ?_
    refine W.widen (k := 2) (n := 12) (by omega) (by omega) ?_
    exact W.iret hx hb hr (fun t ht hW => ⟨by rw [hv]; rfl, by rw [ht, hv]; exact hP, hS.F ht⟩) hS.2.2 dL_distance_24 hlocks
set_option maxHeartbeats 4000000 in
theorem c_L_count (l : Launch) (g : et_G) (sz jq : Nat) (z : Nat → Int64) (V : va_W) (x : Nat) (fs : List Value) (he : V[0]? = some (x, .inr (4, fs))) (a0 a1 a2 : Int32) (M : Nat × Int32) (hM : M.1 = 0 ∨ M.1 = 1) (fr lo : Nat) (hfr : fr ≤ 7) (hlo : lo ≤ 200) (hm : vx_Met l yX4_count (Cond.code yX4_count cX4_count 5 (some (.int)) :: W0) ({ frames := fr, cells := 2, slots := 12, locals := lo } : Room) (et_PcN g sz V [.ref x, .int a0, .int a1, .int a2] (et_TH (va_A V sz))) (et_QT M (va_A V sz)) (et_XT M (va_A V sz)) 2 12 (va_A V sz)) : vx_Met l yL_count (Cond.codeWith yL_count cL_count 6 (some (.int)) [(0, 12, 15, 13)] :: W0) ({ frames := 8, cells := 2, slots := 12, locals := 224 } : Room) (et_PcN g sz ((jq, .inl (gJ g, 1, .inr (.inl z))) :: V) [.ref x, .int a0, .int a1, .int a2, .ref jq] (et_TL (va_A ((jq, .inl (gJ g, 1, .inr (.inl z))) :: V) sz))) (et_QL g jq (va_A ((jq, .inl (gJ g, 1, .inr (.inl z))) :: V) sz) (if M.1 = 0 then (0 : Int32) else 1) (if M.1 = 0 then vp_updL z 0 M.2.toInt64 else z)) et_noX 2 12 (va_A ((jq, .inl (gJ g, 1, .inr (.inl z))) :: V) sz) := by
  refine et_startL (by decide) rfl (Nat.le_of_ble_eq_true rfl) ?_
  intro p e s m args below meth c hx hb hr hts0 hown hlocks hml htab hsz hP hC hX hD hS hA ls hl
  subst hsz
  have hts : ∀ w ∈ W0, w.before args s = true := fun w h => hts0 w (List.mem_cons_of_mem _ h)
  have hown : s.vm.findClass RL = some m.cls := hown
  have hl : lv_has ls 6 [(0, .ref x), (1, .int a0), (2, .int a1), (3, .int a2), (4, .ref jq)] := hl
  refine lv_aload hx hb dL_count_0 (lv_at hl 4 rfl) ?_
  refine lv_iconst (v := (0 : Int32)) hx hb dL_count_2 (by decide) ?_
  refine lv_aload_n hx hb dL_count_3 rfl (lv_at hl 0 rfl) ?_
  refine lv_iload_n hx hb dL_count_4 rfl (lv_at hl 1 rfl) ?_
  refine lv_iload_n hx hb dL_count_5 rfl (lv_at hl 2 rfl) ?_
  refine lv_iload_n hx hb dL_count_6 rfl (lv_at hl 3 rfl) ?_
  have hFc := et_freeJ hD hS hA
  refine et_callTJ (vx_runV (As := [.int a0, .int a1, .int a2]) (rest := [.int (0 : Int32), .ref jq]) ⟨hx, hb, hml, hown, hts⟩ hm (cwV 3 hts (W0_gV w_554 w_555 w_556 w_76 w_557) rfl rfl rfl (by decide +kernel) ⟨Nat.succ_le_succ hfr, Nat.add_le_add_left hlo (8 + (5 + 11))⟩) (et_preVJ hP hC hD et_TH.blind (fun U hU hW => hX.1.at hS (fun q h => hFc q h) U hU hW) (ci := 4) (q0 := 0) rfl he) rfl rfl hl.1 rfl (lv_room (Nat.le_of_ble_eq_true rfl)) dL_count_7 ⟨Nat.le_of_ble_eq_true rfl, Nat.le_of_ble_eq_true rfl⟩) hP hD hS (fun q h => hFc q h) (fun ek E ce q9 H locs hk0 hkE hkM hP hS hce hcv hcl => ?_) (fun v hv H locs hP hS => ?_)
  ·
    rw [hkM] at hM
    rcases hM with h9 | h9
    · exact absurd h9 hk0
    cases h9
    cases hkE
    refine vx_catch (own := RL) (name := "java/lang/IllegalArgumentException") hown [] ⟨0, 12, 15, 13⟩ [] (htab.trans rfl) (fun z h => by cases h) (by decide) (by decide) (hts _ w_377) (va_Nw.use rfl hX.2.1) hce hcv hcl ?_
    refine lv_astore (lv' := [(5, .ref q9), (0, .ref x), (1, .int a0), (2, .int a1), (3, .int a2), (4, .ref jq)]) hx hb dL_count_15 hl (by decide) rfl (fun ls hl => ?_)
    refine lv_iconst (v := (1 : Int32)) hx hb dL_count_17 (by decide) ?_
    refine vx_ret ?_
    refine W.widen (k := 2) (n := 12) (by omega) (by omega) ?_
    exact W.iret hx hb hr (fun t ht hW => ⟨by rw [hkM]; rfl, by rw [ht, hkM]; exact hP, hS.F ht⟩) hS.2.2 dL_count_18 hlocks
  ·
    refine lv_i2l (v := v.toInt64) hx hb dL_count_10 rfl ?_
    have hDJ : va_D (va_A ((jq, .inl (gJ g, 1, .inr (.inl z))) :: V) s.heap.size) [(jq, .inl (gJ g, 1, .inr (.inl z)))] := hD.sub [0] (by decide) rfl
    refine va_last (D := gD g) hx hb hC.1 hP hDJ hS 0 1 rfl rfl (by unfold vp_in; decide) dL_count_11 (fun H locs hP hDJ hS => ?_)
    refine lv_goto (tgt := 19) hx hb dL_count_12 (by decide) ?_
    refine lv_iconst (v := (0 : Int32)) hx hb dL_count_19 (by decide) ?_
    refine vx_ret ?_
    refine W.widen (k := 2) (n := 12) (by omega) (by omega) ?_
    exact W.iret hx hb hr (fun t ht hW => ⟨by rw [hv]; rfl, by rw [ht, hv]; exact hP, hS.F ht⟩) hS.2.2 dL_count_20 hlocks
set_option maxHeartbeats 4000000 in
theorem c_L_find (l : Launch) (g : et_G) (sz jq : Nat) (z : Nat → Int64) (V : va_W) (x : Nat) (fs : List Value) (he : V[0]? = some (x, .inr (4, fs))) (a0 a1 a2 a3 : Int32) (M : Nat × Int32) (hM : M.1 = 0 ∨ M.1 = 1 ∨ M.1 = 2) (fr lo : Nat) (hfr : fr ≤ 7) (hlo : lo ≤ 200) (hm : vx_Met l yX4_find (Cond.code yX4_find cX4_find 7 (some (.int)) :: W0) ({ frames := fr, cells := 2, slots := 12, locals := lo } : Room) (et_PcN g sz V [.ref x, .int a0, .int a1, .int a2, .int a3] (et_TH (va_A V sz))) (et_QT M (va_A V sz)) (et_XT M (va_A V sz)) 2 12 (va_A V sz)) : vx_Met l yL_find (Cond.codeWith yL_find cL_find 7 (some (.int)) [(0, 14, 17, 13), (0, 14, 21, 23)] :: W0) ({ frames := 8, cells := 2, slots := 12, locals := 226 } : Room) (et_PcN g sz ((jq, .inl (gJ g, 1, .inr (.inl z))) :: V) [.ref x, .int a0, .int a1, .int a2, .int a3, .ref jq] (et_TL (va_A ((jq, .inl (gJ g, 1, .inr (.inl z))) :: V) sz))) (et_QL g jq (va_A ((jq, .inl (gJ g, 1, .inr (.inl z))) :: V) sz) (if M.1 = 0 then (0 : Int32) else if M.1 = 1 then 1 else 2) (if M.1 = 0 then vp_updL z 0 M.2.toInt64 else z)) et_noX 2 12 (va_A ((jq, .inl (gJ g, 1, .inr (.inl z))) :: V) sz) := by
  refine et_startL (by decide) rfl (Nat.le_of_ble_eq_true rfl) ?_
  intro p e s m args below meth c hx hb hr hts0 hown hlocks hml htab hsz hP hC hX hD hS hA ls hl
  subst hsz
  have hts : ∀ w ∈ W0, w.before args s = true := fun w h => hts0 w (List.mem_cons_of_mem _ h)
  have hown : s.vm.findClass RL = some m.cls := hown
  have hl : lv_has ls 7 [(0, .ref x), (1, .int a0), (2, .int a1), (3, .int a2), (4, .int a3), (5, .ref jq)] := hl
  refine lv_aload hx hb dL_find_0 (lv_at hl 5 rfl) ?_
  refine lv_iconst (v := (0 : Int32)) hx hb dL_find_2 (by decide) ?_
  refine lv_aload_n hx hb dL_find_3 rfl (lv_at hl 0 rfl) ?_
  refine lv_iload_n hx hb dL_find_4 rfl (lv_at hl 1 rfl) ?_
  refine lv_iload_n hx hb dL_find_5 rfl (lv_at hl 2 rfl) ?_
  refine lv_iload_n hx hb dL_find_6 rfl (lv_at hl 3 rfl) ?_
  refine lv_iload hx hb dL_find_7 (lv_at hl 4 rfl) ?_
  have hFc := et_freeJ hD hS hA
  refine et_callTJ (vx_runV (As := [.int a0, .int a1, .int a2, .int a3]) (rest := [.int (0 : Int32), .ref jq]) ⟨hx, hb, hml, hown, hts⟩ hm (cwV 4 hts (W0_gV w_577 w_578 w_579 w_76 w_580) rfl rfl rfl (by decide +kernel) ⟨Nat.succ_le_succ hfr, Nat.add_le_add_left hlo (8 + (7 + 11))⟩) (et_preVJ hP hC hD et_TH.blind (fun U hU hW => hX.1.at hS (fun q h => hFc q h) U hU hW) (ci := 4) (q0 := 0) rfl he) rfl rfl hl.1 rfl (lv_room (Nat.le_of_ble_eq_true rfl)) dL_find_9 ⟨Nat.le_of_ble_eq_true rfl, Nat.le_of_ble_eq_true rfl⟩) hP hD hS (fun q h => hFc q h) (fun ek E ce q9 H locs hk0 hkE hkM hP hS hce hcv hcl => ?_) (fun v hv H locs hP hS => ?_)
  ·
    rw [hkM] at hM
    rcases hM with h9 | h9 | h9
    · exact absurd h9 hk0
    · cases h9
      cases hkE
      refine vx_catch (own := RL) (name := "java/lang/IllegalArgumentException") hown [] ⟨0, 14, 17, 13⟩ [⟨0, 14, 21, 23⟩] (htab.trans rfl) (fun z h => by cases h) (by decide) (by decide) (hts _ w_377) (va_Nw.use rfl hX.2.1) hce hcv hcl ?_
      refine lv_astore (lv' := [(6, .ref q9), (0, .ref x), (1, .int a0), (2, .int a1), (3, .int a2), (4, .int a3), (5, .ref jq)]) hx hb dL_find_17 hl (by decide) rfl (fun ls hl => ?_)
      refine lv_iconst (v := (1 : Int32)) hx hb dL_find_19 (by decide) ?_
      refine vx_ret ?_
      refine W.widen (k := 2) (n := 12) (by omega) (by omega) ?_
      exact W.iret hx hb hr (fun t ht hW => ⟨by rw [hkM]; rfl, by rw [ht, hkM]; exact hP, hS.F ht⟩) hS.2.2 dL_find_20 hlocks
    · cases h9
      cases hkE
      refine vx_catch (own := RL) (name := "java/lang/IndexOutOfBoundsException") hown [⟨0, 14, 17, 13⟩] ⟨0, 14, 21, 23⟩ [] (htab.trans rfl) (fun z h => by
          rw [List.mem_singleton.mp h]
          exact Or.inr ⟨by decide, _, hts _ w_377, hX.2.2.2.2⟩) (by decide) (by decide) (hts _ w_576) (va_Nw.use rfl hX.2.2.1) hce hcv hcl ?_
      refine lv_astore (lv' := [(6, .ref q9), (0, .ref x), (1, .int a0), (2, .int a1), (3, .int a2), (4, .int a3), (5, .ref jq)]) hx hb dL_find_21 hl (by decide) rfl (fun ls hl => ?_)
      refine lv_iconst (v := (2 : Int32)) hx hb dL_find_23 (by decide) ?_
      refine vx_ret ?_
      refine W.widen (k := 2) (n := 12) (by omega) (by omega) ?_
      exact W.iret hx hb hr (fun t ht hW => ⟨by rw [hkM]; rfl, by rw [ht, hkM]; exact hP, hS.F ht⟩) hS.2.2 dL_find_24 hlocks
  ·
    refine lv_i2l (v := v.toInt64) hx hb dL_find_12 rfl ?_
    have hDJ : va_D (va_A ((jq, .inl (gJ g, 1, .inr (.inl z))) :: V) s.heap.size) [(jq, .inl (gJ g, 1, .inr (.inl z)))] := hD.sub [0] (by decide) rfl
    refine va_last (D := gD g) hx hb hC.1 hP hDJ hS 0 1 rfl rfl (by unfold vp_in; decide) dL_find_13 (fun H locs hP hDJ hS => ?_)
    refine lv_goto (tgt := 25) hx hb dL_find_14 (by decide) ?_
    refine lv_iconst (v := (0 : Int32)) hx hb dL_find_25 (by decide) ?_
    refine vx_ret ?_
    refine W.widen (k := 2) (n := 12) (by omega) (by omega) ?_
    exact W.iret hx hb hr (fun t ht hW => ⟨by rw [hv]; rfl, by rw [ht, hv]; exact hP, hS.F ht⟩) hS.2.2 dL_find_26 hlocks
set_option maxHeartbeats 4000000 in
theorem c_L_longest (l : Launch) (g : et_G) (sz jq : Nat) (z : Nat → Int64) (V : va_W) (x : Nat) (fs : List Value) (he : V[0]? = some (x, .inr (4, fs))) (a0 : Int32) (M : Nat × Int32) (hM : M.1 = 0 ∨ M.1 = 1) (fr lo : Nat) (hfr : fr ≤ 7) (hlo : lo ≤ 200) (hm : vx_Met l yX4_longest (Cond.code yX4_longest cX4_longest 3 (some (.int)) :: W0) ({ frames := fr, cells := 2, slots := 12, locals := lo } : Room) (et_PcN g sz V [.ref x, .int a0] (et_TH (va_A V sz))) (et_QT M (va_A V sz)) (et_XT M (va_A V sz)) 2 12 (va_A V sz)) : vx_Met l yL_longest (Cond.codeWith yL_longest cL_longest 4 (some (.int)) [(0, 9, 12, 13)] :: W0) ({ frames := 8, cells := 2, slots := 12, locals := 222 } : Room) (et_PcN g sz ((jq, .inl (gJ g, 1, .inr (.inl z))) :: V) [.ref x, .int a0, .ref jq] (et_TL (va_A ((jq, .inl (gJ g, 1, .inr (.inl z))) :: V) sz))) (et_QL g jq (va_A ((jq, .inl (gJ g, 1, .inr (.inl z))) :: V) sz) (if M.1 = 0 then (0 : Int32) else 1) (if M.1 = 0 then vp_updL z 0 M.2.toInt64 else z)) et_noX 2 12 (va_A ((jq, .inl (gJ g, 1, .inr (.inl z))) :: V) sz) := by
  refine et_startL (by decide) rfl (Nat.le_of_ble_eq_true rfl) ?_
  intro p e s m args below meth c hx hb hr hts0 hown hlocks hml htab hsz hP hC hX hD hS hA ls hl
  subst hsz
  have hts : ∀ w ∈ W0, w.before args s = true := fun w h => hts0 w (List.mem_cons_of_mem _ h)
  have hown : s.vm.findClass RL = some m.cls := hown
  have hl : lv_has ls 4 [(0, .ref x), (1, .int a0), (2, .ref jq)] := hl
  refine lv_aload_n hx hb dL_longest_0 rfl (lv_at hl 2 rfl) ?_
  refine lv_iconst (v := (0 : Int32)) hx hb dL_longest_1 (by decide) ?_
  refine lv_aload_n hx hb dL_longest_2 rfl (lv_at hl 0 rfl) ?_
  refine lv_iload_n hx hb dL_longest_3 rfl (lv_at hl 1 rfl) ?_
  have hFc := et_freeJ hD hS hA
  refine et_callTJ (vx_runV (As := [.int a0]) (rest := [.int (0 : Int32), .ref jq]) ⟨hx, hb, hml, hown, hts⟩ hm (cwV 1 hts (W0_gV w_611 w_612 w_613 w_76 w_614) rfl rfl rfl (by decide +kernel) ⟨Nat.succ_le_succ hfr, Nat.add_le_add_left hlo (8 + (3 + 11))⟩) (et_preVJ hP hC hD et_TH.blind (fun U hU hW => hX.1.at hS (fun q h => hFc q h) U hU hW) (ci := 4) (q0 := 0) rfl he) rfl rfl hl.1 rfl (lv_room (Nat.le_of_ble_eq_true rfl)) dL_longest_4 ⟨Nat.le_of_ble_eq_true rfl, Nat.le_of_ble_eq_true rfl⟩) hP hD hS (fun q h => hFc q h) (fun ek E ce q9 H locs hk0 hkE hkM hP hS hce hcv hcl => ?_) (fun v hv H locs hP hS => ?_)
  ·
    rw [hkM] at hM
    rcases hM with h9 | h9
    · exact absurd h9 hk0
    cases h9
    cases hkE
    refine vx_catch (own := RL) (name := "java/lang/IllegalArgumentException") hown [] ⟨0, 9, 12, 13⟩ [] (htab.trans rfl) (fun z h => by cases h) (by decide) (by decide) (hts _ w_377) (va_Nw.use rfl hX.2.1) hce hcv hcl ?_
    refine lv_astore_n (lv' := [(3, .ref q9), (0, .ref x), (1, .int a0), (2, .ref jq)]) hx hb dL_longest_12 rfl hl (by decide) rfl (fun ls hl => ?_)
    refine lv_iconst (v := (1 : Int32)) hx hb dL_longest_13 (by decide) ?_
    refine vx_ret ?_
    refine W.widen (k := 2) (n := 12) (by omega) (by omega) ?_
    exact W.iret hx hb hr (fun t ht hW => ⟨by rw [hkM]; rfl, by rw [ht, hkM]; exact hP, hS.F ht⟩) hS.2.2 dL_longest_14 hlocks
  ·
    refine lv_i2l (v := v.toInt64) hx hb dL_longest_7 rfl ?_
    have hDJ : va_D (va_A ((jq, .inl (gJ g, 1, .inr (.inl z))) :: V) s.heap.size) [(jq, .inl (gJ g, 1, .inr (.inl z)))] := hD.sub [0] (by decide) rfl
    refine va_last (D := gD g) hx hb hC.1 hP hDJ hS 0 1 rfl rfl (by unfold vp_in; decide) dL_longest_8 (fun H locs hP hDJ hS => ?_)
    refine lv_goto (tgt := 15) hx hb dL_longest_9 (by decide) ?_
    refine lv_iconst (v := (0 : Int32)) hx hb dL_longest_15 (by decide) ?_
    refine vx_ret ?_
    refine W.widen (k := 2) (n := 12) (by omega) (by omega) ?_
    exact W.iret hx hb hr (fun t ht hW => ⟨by rw [hv]; rfl, by rw [ht, hv]; exact hP, hS.F ht⟩) hS.2.2 dL_longest_16 hlocks
set_option maxHeartbeats 4000000 in
theorem c_L_about (l : Launch) (g : et_G) (sz jq : Nat) (z : Nat → Int64) (V : va_W) (x : Nat) (fs : List Value) (he : V[0]? = some (x, .inr (4, fs))) (a0 : Int32) (M : Nat × Int32) (hM : M.1 = 3) (fr lo : Nat) (hfr : fr ≤ 7) (hlo : lo ≤ 200) (hm : vx_Met l yX4_about (Cond.code yX4_about cX4_about 2 (some (.int)) :: W0) ({ frames := fr, cells := 2, slots := 12, locals := lo } : Room) (et_PcN g sz V [.ref x, .int a0] (et_TH (va_A V sz))) (et_QT M (va_A V sz)) (et_XT M (va_A V sz)) 2 12 (va_A V sz)) : vx_Met l yL_about (Cond.codeWith yL_about cL_about 4 (some (.int)) [(0, 9, 12, 32), (0, 9, 15, 23)] :: W0) ({ frames := 8, cells := 2, slots := 12, locals := 221 } : Room) (et_PcN g sz ((jq, .inl (gJ g, 1, .inr (.inl z))) :: V) [.ref x, .int a0, .ref jq] (et_TL (va_A ((jq, .inl (gJ g, 1, .inr (.inl z))) :: V) sz))) (et_QL g jq (va_A ((jq, .inl (gJ g, 1, .inr (.inl z))) :: V) sz) (1 : Int32) z) et_noX 2 12 (va_A ((jq, .inl (gJ g, 1, .inr (.inl z))) :: V) sz) := by
  refine et_startL (by decide) rfl (Nat.le_of_ble_eq_true rfl) ?_
  intro p e s m args below meth c hx hb hr hts0 hown hlocks hml htab hsz hP hC hX hD hS hA ls hl
  subst hsz
  have hts : ∀ w ∈ W0, w.before args s = true := fun w h => hts0 w (List.mem_cons_of_mem _ h)
  have hown : s.vm.findClass RL = some m.cls := hown
  have hl : lv_has ls 4 [(0, .ref x), (1, .int a0), (2, .ref jq)] := hl
  refine lv_aload_n hx hb dL_about_0 rfl (lv_at hl 2 rfl) ?_
  refine lv_iconst (v := (0 : Int32)) hx hb dL_about_1 (by decide) ?_
  refine lv_aload_n hx hb dL_about_2 rfl (lv_at hl 0 rfl) ?_
  refine lv_iload_n hx hb dL_about_3 rfl (lv_at hl 1 rfl) ?_
  have hFc := et_freeJ hD hS hA
  refine et_callTJ (vx_runV (As := [.int a0]) (rest := [.int (0 : Int32), .ref jq]) ⟨hx, hb, hml, hown, hts⟩ hm (cwV 1 hts (W0_gV w_620 w_621 w_622 w_76 w_623) rfl rfl rfl (by decide +kernel) ⟨Nat.succ_le_succ hfr, Nat.add_le_add_left hlo (8 + (2 + 11))⟩) (et_preVJ hP hC hD et_TH.blind (fun U hU hW => hX.1.at hS (fun q h => hFc q h) U hU hW) (ci := 4) (q0 := 0) rfl he) rfl rfl hl.1 rfl (lv_room (Nat.le_of_ble_eq_true rfl)) dL_about_4 ⟨Nat.le_of_ble_eq_true rfl, Nat.le_of_ble_eq_true rfl⟩) hP hD hS (fun q h => hFc q h) (fun ek E ce q9 H locs hk0 hkE hkM hP hS hce hcv hcl => ?_) (fun v hv H locs hP hS => ?_)
  ·
    rw [hkM] at hM
    cases hM
    cases hkE
    refine vx_catch (own := RL) (name := "java/lang/IllegalStateException") hown [] ⟨0, 9, 12, 32⟩ [⟨0, 9, 15, 23⟩] (htab.trans rfl) (fun z h => by cases h) (by decide) (by decide) (hts _ w_619) (va_Nw.use rfl hX.2.2.2.1) hce hcv hcl ?_
    refine lv_astore_n (lv' := [(3, .ref q9), (0, .ref x), (1, .int a0), (2, .ref jq)]) hx hb dL_about_12 rfl hl (by decide) rfl (fun ls hl => ?_)
    refine lv_iconst (v := (1 : Int32)) hx hb dL_about_13 (by decide) ?_
    refine vx_ret ?_
    refine W.widen (k := 2) (n := 12) (by omega) (by omega) ?_
    exact W.iret hx hb hr (fun t ht hW => ⟨rfl, by rw [ht]; exact hP, hS.F ht⟩) hS.2.2 dL_about_14 hlocks
  ·
    rw [hv] at hM
    exact absurd hM (by decide : ¬ (0 : Nat) = 3)
set_option maxHeartbeats 4000000 in
theorem c_L_left (l : Launch) (g : et_G) (sz jq : Nat) (z : Nat → Int64) (V : va_W) (x : Nat) (fs : List Value) (he : V[0]? = some (x, .inr (4, fs))) (M : Nat × Int32) (hM : M.1 = 3) (fr lo : Nat) (hfr : fr ≤ 7) (hlo : lo ≤ 200) (hm : vx_Met l yX4_left (Cond.code yX4_left cX4_left 1 (some (.int)) :: W0) ({ frames := fr, cells := 2, slots := 12, locals := lo } : Room) (et_PcN g sz V [.ref x] (et_TH (va_A V sz))) (et_QT M (va_A V sz)) (et_XT M (va_A V sz)) 2 12 (va_A V sz)) : vx_Met l yL_left (Cond.codeWith yL_left cL_left 3 (some (.int)) [(0, 8, 11, 32)] :: W0) ({ frames := 8, cells := 2, slots := 12, locals := 220 } : Room) (et_PcN g sz ((jq, .inl (gJ g, 1, .inr (.inl z))) :: V) [.ref x, .ref jq] (et_TL (va_A ((jq, .inl (gJ g, 1, .inr (.inl z))) :: V) sz))) (et_QL g jq (va_A ((jq, .inl (gJ g, 1, .inr (.inl z))) :: V) sz) (1 : Int32) z) et_noX 2 12 (va_A ((jq, .inl (gJ g, 1, .inr (.inl z))) :: V) sz) := by
  refine et_startL (by decide) rfl (Nat.le_of_ble_eq_true rfl) ?_
  intro p e s m args below meth c hx hb hr hts0 hown hlocks hml htab hsz hP hC hX hD hS hA ls hl
  subst hsz
  have hts : ∀ w ∈ W0, w.before args s = true := fun w h => hts0 w (List.mem_cons_of_mem _ h)
  have hown : s.vm.findClass RL = some m.cls := hown
  have hl : lv_has ls 3 [(0, .ref x), (1, .ref jq)] := hl
  refine lv_aload_n hx hb dL_left_0 rfl (lv_at hl 1 rfl) ?_
  refine lv_iconst (v := (0 : Int32)) hx hb dL_left_1 (by decide) ?_
  refine lv_aload_n hx hb dL_left_2 rfl (lv_at hl 0 rfl) ?_
  have hFc := et_freeJ hD hS hA
  refine et_callTJ (vx_runV (As := []) (rest := [.int (0 : Int32), .ref jq]) ⟨hx, hb, hml, hown, hts⟩ hm (cwV 0 hts (W0_gV w_650 w_651 w_652 w_76 w_653) rfl rfl rfl (by decide +kernel) ⟨Nat.succ_le_succ hfr, Nat.add_le_add_left hlo (8 + (1 + 11))⟩) (et_preVJ hP hC hD et_TH.blind (fun U hU hW => hX.1.at hS (fun q h => hFc q h) U hU hW) (ci := 4) (q0 := 0) rfl he) rfl rfl hl.1 rfl (lv_room (Nat.le_of_ble_eq_true rfl)) dL_left_3 ⟨Nat.le_of_ble_eq_true rfl, Nat.le_of_ble_eq_true rfl⟩) hP hD hS (fun q h => hFc q h) (fun ek E ce q9 H locs hk0 hkE hkM hP hS hce hcv hcl => ?_) (fun v hv H locs hP hS => ?_)
  ·
    rw [hkM] at hM
    cases hM
    cases hkE
    refine vx_catch (own := RL) (name := "java/lang/IllegalStateException") hown [] ⟨0, 8, 11, 32⟩ [] (htab.trans rfl) (fun z h => by cases h) (by decide) (by decide) (hts _ w_619) (va_Nw.use rfl hX.2.2.2.1) hce hcv hcl ?_
    refine lv_astore_n (lv' := [(2, .ref q9), (0, .ref x), (1, .ref jq)]) hx hb dL_left_11 rfl hl (by decide) rfl (fun ls hl => ?_)
    refine lv_iconst (v := (1 : Int32)) hx hb dL_left_12 (by decide) ?_
    refine vx_ret ?_
    refine W.widen (k := 2) (n := 12) (by omega) (by omega) ?_
    exact W.iret hx hb hr (fun t ht hW => ⟨rfl, by rw [ht]; exact hP, hS.F ht⟩) hS.2.2 dL_left_13 hlocks
  ·
    rw [hv] at hM
    exact absurd hM (by decide : ¬ (0 : Nat) = 3)
set_option maxHeartbeats 4000000 in
theorem c_L_moves (l : Launch) (g : et_G) (sz jq : Nat) (z : Nat → Int64) (V : va_W) (x : Nat) (fs : List Value) (he : V[0]? = some (x, .inr (4, fs))) (M : Nat × Int32) (hM : M.1 = 3) (fr lo : Nat) (hfr : fr ≤ 7) (hlo : lo ≤ 200) (hm : vx_Met l yX4_moves (Cond.code yX4_moves cX4_moves 1 (some (.int)) :: W0) ({ frames := fr, cells := 2, slots := 12, locals := lo } : Room) (et_PcN g sz V [.ref x] (et_TH (va_A V sz))) (et_QT M (va_A V sz)) (et_XT M (va_A V sz)) 2 12 (va_A V sz)) : vx_Met l yL_moves (Cond.codeWith yL_moves cL_moves 3 (some (.int)) [(0, 8, 11, 32)] :: W0) ({ frames := 8, cells := 2, slots := 12, locals := 220 } : Room) (et_PcN g sz ((jq, .inl (gJ g, 1, .inr (.inl z))) :: V) [.ref x, .ref jq] (et_TL (va_A ((jq, .inl (gJ g, 1, .inr (.inl z))) :: V) sz))) (et_QL g jq (va_A ((jq, .inl (gJ g, 1, .inr (.inl z))) :: V) sz) (1 : Int32) z) et_noX 2 12 (va_A ((jq, .inl (gJ g, 1, .inr (.inl z))) :: V) sz) := by
  refine et_startL (by decide) rfl (Nat.le_of_ble_eq_true rfl) ?_
  intro p e s m args below meth c hx hb hr hts0 hown hlocks hml htab hsz hP hC hX hD hS hA ls hl
  subst hsz
  have hts : ∀ w ∈ W0, w.before args s = true := fun w h => hts0 w (List.mem_cons_of_mem _ h)
  have hown : s.vm.findClass RL = some m.cls := hown
  have hl : lv_has ls 3 [(0, .ref x), (1, .ref jq)] := hl
  refine lv_aload_n hx hb dL_moves_0 rfl (lv_at hl 1 rfl) ?_
  refine lv_iconst (v := (0 : Int32)) hx hb dL_moves_1 (by decide) ?_
  refine lv_aload_n hx hb dL_moves_2 rfl (lv_at hl 0 rfl) ?_
  have hFc := et_freeJ hD hS hA
  refine et_callTJ (vx_runV (As := []) (rest := [.int (0 : Int32), .ref jq]) ⟨hx, hb, hml, hown, hts⟩ hm (cwV 0 hts (W0_gV w_657 w_658 w_659 w_76 w_660) rfl rfl rfl (by decide +kernel) ⟨Nat.succ_le_succ hfr, Nat.add_le_add_left hlo (8 + (1 + 11))⟩) (et_preVJ hP hC hD et_TH.blind (fun U hU hW => hX.1.at hS (fun q h => hFc q h) U hU hW) (ci := 4) (q0 := 0) rfl he) rfl rfl hl.1 rfl (lv_room (Nat.le_of_ble_eq_true rfl)) dL_moves_3 ⟨Nat.le_of_ble_eq_true rfl, Nat.le_of_ble_eq_true rfl⟩) hP hD hS (fun q h => hFc q h) (fun ek E ce q9 H locs hk0 hkE hkM hP hS hce hcv hcl => ?_) (fun v hv H locs hP hS => ?_)
  ·
    rw [hkM] at hM
    cases hM
    cases hkE
    refine vx_catch (own := RL) (name := "java/lang/IllegalStateException") hown [] ⟨0, 8, 11, 32⟩ [] (htab.trans rfl) (fun z h => by cases h) (by decide) (by decide) (hts _ w_619) (va_Nw.use rfl hX.2.2.2.1) hce hcv hcl ?_
    refine lv_astore_n (lv' := [(2, .ref q9), (0, .ref x), (1, .ref jq)]) hx hb dL_moves_11 rfl hl (by decide) rfl (fun ls hl => ?_)
    refine lv_iconst (v := (1 : Int32)) hx hb dL_moves_12 (by decide) ?_
    refine vx_ret ?_
    refine W.widen (k := 2) (n := 12) (by omega) (by omega) ?_
    exact W.iret hx hb hr (fun t ht hW => ⟨rfl, by rw [ht]; exact hP, hS.F ht⟩) hS.2.2 dL_moves_13 hlocks
  ·
    rw [hv] at hM
    exact absurd hM (by decide : ¬ (0 : Nat) = 3)
set_option maxHeartbeats 4000000 in
theorem c_L_move (l : Launch) (g : et_G) (sz jq : Nat) (z : Nat → Int64) (V : va_W) (x : Nat) (fs : List Value) (he : V[0]? = some (x, .inr (4, fs))) (a0 : Int32) (M : Nat × Int32) (hM : M.1 = 3) (fr lo : Nat) (hfr : fr ≤ 7) (hlo : lo ≤ 200) (hm : vx_Met l yX4_move (Cond.code yX4_move cX4_move 2 (some (.int)) :: W0) ({ frames := fr, cells := 2, slots := 12, locals := lo } : Room) (et_PcN g sz V [.ref x, .int a0] (et_TH (va_A V sz))) (et_QT M (va_A V sz)) (et_XT M (va_A V sz)) 2 12 (va_A V sz)) : vx_Met l yL_move (Cond.codeWith yL_move cL_move 4 (some (.int)) [(0, 9, 12, 32), (0, 9, 15, 23)] :: W0) ({ frames := 8, cells := 2, slots := 12, locals := 221 } : Room) (et_PcN g sz ((jq, .inl (gJ g, 1, .inr (.inl z))) :: V) [.ref x, .int a0, .ref jq] (et_TL (va_A ((jq, .inl (gJ g, 1, .inr (.inl z))) :: V) sz))) (et_QL g jq (va_A ((jq, .inl (gJ g, 1, .inr (.inl z))) :: V) sz) (1 : Int32) z) et_noX 2 12 (va_A ((jq, .inl (gJ g, 1, .inr (.inl z))) :: V) sz) := by
  refine et_startL (by decide) rfl (Nat.le_of_ble_eq_true rfl) ?_
  intro p e s m args below meth c hx hb hr hts0 hown hlocks hml htab hsz hP hC hX hD hS hA ls hl
  subst hsz
  have hts : ∀ w ∈ W0, w.before args s = true := fun w h => hts0 w (List.mem_cons_of_mem _ h)
  have hown : s.vm.findClass RL = some m.cls := hown
  have hl : lv_has ls 4 [(0, .ref x), (1, .int a0), (2, .ref jq)] := hl
  refine lv_aload_n hx hb dL_move_0 rfl (lv_at hl 2 rfl) ?_
  refine lv_iconst (v := (0 : Int32)) hx hb dL_move_1 (by decide) ?_
  refine lv_aload_n hx hb dL_move_2 rfl (lv_at hl 0 rfl) ?_
  refine lv_iload_n hx hb dL_move_3 rfl (lv_at hl 1 rfl) ?_
  have hFc := et_freeJ hD hS hA
  refine et_callTJ (vx_runV (As := [.int a0]) (rest := [.int (0 : Int32), .ref jq]) ⟨hx, hb, hml, hown, hts⟩ hm (cwV 1 hts (W0_gV w_664 w_665 w_666 w_76 w_667) rfl rfl rfl (by decide +kernel) ⟨Nat.succ_le_succ hfr, Nat.add_le_add_left hlo (8 + (2 + 11))⟩) (et_preVJ hP hC hD et_TH.blind (fun U hU hW => hX.1.at hS (fun q h => hFc q h) U hU hW) (ci := 4) (q0 := 0) rfl he) rfl rfl hl.1 rfl (lv_room (Nat.le_of_ble_eq_true rfl)) dL_move_4 ⟨Nat.le_of_ble_eq_true rfl, Nat.le_of_ble_eq_true rfl⟩) hP hD hS (fun q h => hFc q h) (fun ek E ce q9 H locs hk0 hkE hkM hP hS hce hcv hcl => ?_) (fun v hv H locs hP hS => ?_)
  ·
    rw [hkM] at hM
    cases hM
    cases hkE
    refine vx_catch (own := RL) (name := "java/lang/IllegalStateException") hown [] ⟨0, 9, 12, 32⟩ [⟨0, 9, 15, 23⟩] (htab.trans rfl) (fun z h => by cases h) (by decide) (by decide) (hts _ w_619) (va_Nw.use rfl hX.2.2.2.1) hce hcv hcl ?_
    refine lv_astore_n (lv' := [(3, .ref q9), (0, .ref x), (1, .int a0), (2, .ref jq)]) hx hb dL_move_12 rfl hl (by decide) rfl (fun ls hl => ?_)
    refine lv_iconst (v := (1 : Int32)) hx hb dL_move_13 (by decide) ?_
    refine vx_ret ?_
    refine W.widen (k := 2) (n := 12) (by omega) (by omega) ?_
    exact W.iret hx hb hr (fun t ht hW => ⟨rfl, by rw [ht]; exact hP, hS.F ht⟩) hS.2.2 dL_move_14 hlocks
  ·
    rw [hv] at hM
    exact absurd hM (by decide : ¬ (0 : Nat) = 3)
set_option maxHeartbeats 4000000 in
theorem c_L_best (l : Launch) (g : et_G) (sz jq : Nat) (z : Nat → Int64) (V : va_W) (x : Nat) (fs : List Value) (he : V[0]? = some (x, .inr (4, fs))) (M : Nat × Int32) (hM : M.1 = 3) (fr lo : Nat) (hfr : fr ≤ 7) (hlo : lo ≤ 200) (hm : vx_Met l yX4_best (Cond.code yX4_best cX4_best 1 (some (.int)) :: W0) ({ frames := fr, cells := 2, slots := 12, locals := lo } : Room) (et_PcN g sz V [.ref x] (et_TH (va_A V sz))) (et_QT M (va_A V sz)) (et_XT M (va_A V sz)) 2 12 (va_A V sz)) : vx_Met l yL_best (Cond.codeWith yL_best cL_best 3 (some (.int)) [(0, 8, 11, 32)] :: W0) ({ frames := 8, cells := 2, slots := 12, locals := 220 } : Room) (et_PcN g sz ((jq, .inl (gJ g, 1, .inr (.inl z))) :: V) [.ref x, .ref jq] (et_TL (va_A ((jq, .inl (gJ g, 1, .inr (.inl z))) :: V) sz))) (et_QL g jq (va_A ((jq, .inl (gJ g, 1, .inr (.inl z))) :: V) sz) (1 : Int32) z) et_noX 2 12 (va_A ((jq, .inl (gJ g, 1, .inr (.inl z))) :: V) sz) := by
  refine et_startL (by decide) rfl (Nat.le_of_ble_eq_true rfl) ?_
  intro p e s m args below meth c hx hb hr hts0 hown hlocks hml htab hsz hP hC hX hD hS hA ls hl
  subst hsz
  have hts : ∀ w ∈ W0, w.before args s = true := fun w h => hts0 w (List.mem_cons_of_mem _ h)
  have hown : s.vm.findClass RL = some m.cls := hown
  have hl : lv_has ls 3 [(0, .ref x), (1, .ref jq)] := hl
  refine lv_aload_n hx hb dL_best_0 rfl (lv_at hl 1 rfl) ?_
  refine lv_iconst (v := (0 : Int32)) hx hb dL_best_1 (by decide) ?_
  refine lv_aload_n hx hb dL_best_2 rfl (lv_at hl 0 rfl) ?_
  have hFc := et_freeJ hD hS hA
  refine et_callTJ (vx_runV (As := []) (rest := [.int (0 : Int32), .ref jq]) ⟨hx, hb, hml, hown, hts⟩ hm (cwV 0 hts (W0_gV w_676 w_677 w_678 w_76 w_679) rfl rfl rfl (by decide +kernel) ⟨Nat.succ_le_succ hfr, Nat.add_le_add_left hlo (8 + (1 + 11))⟩) (et_preVJ hP hC hD et_TH.blind (fun U hU hW => hX.1.at hS (fun q h => hFc q h) U hU hW) (ci := 4) (q0 := 0) rfl he) rfl rfl hl.1 rfl (lv_room (Nat.le_of_ble_eq_true rfl)) dL_best_3 ⟨Nat.le_of_ble_eq_true rfl, Nat.le_of_ble_eq_true rfl⟩) hP hD hS (fun q h => hFc q h) (fun ek E ce q9 H locs hk0 hkE hkM hP hS hce hcv hcl => ?_) (fun v hv H locs hP hS => ?_)
  ·
    rw [hkM] at hM
    cases hM
    cases hkE
    refine vx_catch (own := RL) (name := "java/lang/IllegalStateException") hown [] ⟨0, 8, 11, 32⟩ [] (htab.trans rfl) (fun z h => by cases h) (by decide) (by decide) (hts _ w_619) (va_Nw.use rfl hX.2.2.2.1) hce hcv hcl ?_
    refine lv_astore_n (lv' := [(2, .ref q9), (0, .ref x), (1, .ref jq)]) hx hb dL_best_11 rfl hl (by decide) rfl (fun ls hl => ?_)
    refine lv_iconst (v := (1 : Int32)) hx hb dL_best_12 (by decide) ?_
    refine vx_ret ?_
    refine W.widen (k := 2) (n := 12) (by omega) (by omega) ?_
    exact W.iret hx hb hr (fun t ht hW => ⟨rfl, by rw [ht]; exact hP, hS.F ht⟩) hS.2.2 dL_best_13 hlocks
  ·
    rw [hv] at hM
    exact absurd hM (by decide : ¬ (0 : Nat) = 3)
set_option maxHeartbeats 4000000 in
theorem c_L_play (l : Launch) (g : et_G) (sz jq : Nat) (z : Nat → Int64) (V : va_W) (x : Nat) (fs : List Value) (he : V[0]? = some (x, .inr (4, fs))) (a0 : Int32) (M : Nat × Int32) (hM : M.1 = 3) (fr lo : Nat) (hfr : fr ≤ 7) (hlo : lo ≤ 200) (hm : vx_Met l yX4_play (Cond.code yX4_play cX4_play 2 (some (.int)) :: W0) ({ frames := fr, cells := 2, slots := 12, locals := lo } : Room) (et_PcN g sz V [.ref x, .int a0] (et_TH (va_A V sz))) (et_QT M (va_A V sz)) (et_XT M (va_A V sz)) 2 12 (va_A V sz)) : vx_Met l yL_play (Cond.codeWith yL_play cL_play 4 (some (.int)) [(0, 9, 12, 32), (0, 9, 15, 13)] :: W0) ({ frames := 8, cells := 2, slots := 12, locals := 221 } : Room) (et_PcN g sz ((jq, .inl (gJ g, 1, .inr (.inl z))) :: V) [.ref x, .int a0, .ref jq] (et_TL (va_A ((jq, .inl (gJ g, 1, .inr (.inl z))) :: V) sz))) (et_QL g jq (va_A ((jq, .inl (gJ g, 1, .inr (.inl z))) :: V) sz) (1 : Int32) z) et_noX 2 12 (va_A ((jq, .inl (gJ g, 1, .inr (.inl z))) :: V) sz) := by
  refine et_startL (by decide) rfl (Nat.le_of_ble_eq_true rfl) ?_
  intro p e s m args below meth c hx hb hr hts0 hown hlocks hml htab hsz hP hC hX hD hS hA ls hl
  subst hsz
  have hts : ∀ w ∈ W0, w.before args s = true := fun w h => hts0 w (List.mem_cons_of_mem _ h)
  have hown : s.vm.findClass RL = some m.cls := hown
  have hl : lv_has ls 4 [(0, .ref x), (1, .int a0), (2, .ref jq)] := hl
  refine lv_aload_n hx hb dL_play_0 rfl (lv_at hl 2 rfl) ?_
  refine lv_iconst (v := (0 : Int32)) hx hb dL_play_1 (by decide) ?_
  refine lv_aload_n hx hb dL_play_2 rfl (lv_at hl 0 rfl) ?_
  refine lv_iload_n hx hb dL_play_3 rfl (lv_at hl 1 rfl) ?_
  have hFc := et_freeJ hD hS hA
  refine et_callTJ (vx_runV (As := [.int a0]) (rest := [.int (0 : Int32), .ref jq]) ⟨hx, hb, hml, hown, hts⟩ hm (cwV 1 hts (W0_gV w_704 w_705 w_706 w_76 w_707) rfl rfl rfl (by decide +kernel) ⟨Nat.succ_le_succ hfr, Nat.add_le_add_left hlo (8 + (2 + 11))⟩) (et_preVJ hP hC hD et_TH.blind (fun U hU hW => hX.1.at hS (fun q h => hFc q h) U hU hW) (ci := 4) (q0 := 0) rfl he) rfl rfl hl.1 rfl (lv_room (Nat.le_of_ble_eq_true rfl)) dL_play_4 ⟨Nat.le_of_ble_eq_true rfl, Nat.le_of_ble_eq_true rfl⟩) hP hD hS (fun q h => hFc q h) (fun ek E ce q9 H locs hk0 hkE hkM hP hS hce hcv hcl => ?_) (fun v hv H locs hP hS => ?_)
  ·
    rw [hkM] at hM
    cases hM
    cases hkE
    refine vx_catch (own := RL) (name := "java/lang/IllegalStateException") hown [] ⟨0, 9, 12, 32⟩ [⟨0, 9, 15, 13⟩] (htab.trans rfl) (fun z h => by cases h) (by decide) (by decide) (hts _ w_619) (va_Nw.use rfl hX.2.2.2.1) hce hcv hcl ?_
    refine lv_astore_n (lv' := [(3, .ref q9), (0, .ref x), (1, .int a0), (2, .ref jq)]) hx hb dL_play_12 rfl hl (by decide) rfl (fun ls hl => ?_)
    refine lv_iconst (v := (1 : Int32)) hx hb dL_play_13 (by decide) ?_
    refine vx_ret ?_
    refine W.widen (k := 2) (n := 12) (by omega) (by omega) ?_
    exact W.iret hx hb hr (fun t ht hW => ⟨rfl, by rw [ht]; exact hP, hS.F ht⟩) hS.2.2 dL_play_14 hlocks
  ·
    rw [hv] at hM
    exact absurd hM (by decide : ¬ (0 : Nat) = 3)
set_option maxHeartbeats 4000000 in
theorem c_L_run (l : Launch) (g : et_G) (sz jq : Nat) (z : Nat → Int64) (V : va_W) (x : Nat) (fs : List Value) (he : V[0]? = some (x, .inr (4, fs))) (a0 : Int32) (M : Nat × Int32) (hM : M.1 = 3) (fr lo : Nat) (hfr : fr ≤ 7) (hlo : lo ≤ 200) (hm : vx_Met l yX4_run (Cond.code yX4_run cX4_run 3 (some (.int)) :: W0) ({ frames := fr, cells := 2, slots := 12, locals := lo } : Room) (et_PcN g sz V [.ref x, .int a0] (et_TH (va_A V sz))) (et_QT M (va_A V sz)) (et_XT M (va_A V sz)) 2 12 (va_A V sz)) : vx_Met l yL_run (Cond.codeWith yL_run cL_run 4 (some (.int)) [(0, 9, 12, 32), (0, 9, 15, 13)] :: W0) ({ frames := 8, cells := 2, slots := 12, locals := 222 } : Room) (et_PcN g sz ((jq, .inl (gJ g, 1, .inr (.inl z))) :: V) [.ref x, .int a0, .ref jq] (et_TL (va_A ((jq, .inl (gJ g, 1, .inr (.inl z))) :: V) sz))) (et_QL g jq (va_A ((jq, .inl (gJ g, 1, .inr (.inl z))) :: V) sz) (1 : Int32) z) et_noX 2 12 (va_A ((jq, .inl (gJ g, 1, .inr (.inl z))) :: V) sz) := by
  refine et_startL (by decide) rfl (Nat.le_of_ble_eq_true rfl) ?_
  intro p e s m args below meth c hx hb hr hts0 hown hlocks hml htab hsz hP hC hX hD hS hA ls hl
  subst hsz
  have hts : ∀ w ∈ W0, w.before args s = true := fun w h => hts0 w (List.mem_cons_of_mem _ h)
  have hown : s.vm.findClass RL = some m.cls := hown
  have hl : lv_has ls 4 [(0, .ref x), (1, .int a0), (2, .ref jq)] := hl
  refine lv_aload_n hx hb dL_run_0 rfl (lv_at hl 2 rfl) ?_
  refine lv_iconst (v := (0 : Int32)) hx hb dL_run_1 (by decide) ?_
  refine lv_aload_n hx hb dL_run_2 rfl (lv_at hl 0 rfl) ?_
  refine lv_iload_n hx hb dL_run_3 rfl (lv_at hl 1 rfl) ?_
  have hFc := et_freeJ hD hS hA
  refine et_callTJ (vx_runV (As := [.int a0]) (rest := [.int (0 : Int32), .ref jq]) ⟨hx, hb, hml, hown, hts⟩ hm (cwV 1 hts (W0_gV w_721 w_722 w_723 w_76 w_724) rfl rfl rfl (by decide +kernel) ⟨Nat.succ_le_succ hfr, Nat.add_le_add_left hlo (8 + (3 + 11))⟩) (et_preVJ hP hC hD et_TH.blind (fun U hU hW => hX.1.at hS (fun q h => hFc q h) U hU hW) (ci := 4) (q0 := 0) rfl he) rfl rfl hl.1 rfl (lv_room (Nat.le_of_ble_eq_true rfl)) dL_run_4 ⟨Nat.le_of_ble_eq_true rfl, Nat.le_of_ble_eq_true rfl⟩) hP hD hS (fun q h => hFc q h) (fun ek E ce q9 H locs hk0 hkE hkM hP hS hce hcv hcl => ?_) (fun v hv H locs hP hS => ?_)
  ·
    rw [hkM] at hM
    cases hM
    cases hkE
    refine vx_catch (own := RL) (name := "java/lang/IllegalStateException") hown [] ⟨0, 9, 12, 32⟩ [⟨0, 9, 15, 13⟩] (htab.trans rfl) (fun z h => by cases h) (by decide) (by decide) (hts _ w_619) (va_Nw.use rfl hX.2.2.2.1) hce hcv hcl ?_
    refine lv_astore_n (lv' := [(3, .ref q9), (0, .ref x), (1, .int a0), (2, .ref jq)]) hx hb dL_run_12 rfl hl (by decide) rfl (fun ls hl => ?_)
    refine lv_iconst (v := (1 : Int32)) hx hb dL_run_13 (by decide) ?_
    refine vx_ret ?_
    refine W.widen (k := 2) (n := 12) (by omega) (by omega) ?_
    exact W.iret hx hb hr (fun t ht hW => ⟨rfl, by rw [ht]; exact hP, hS.F ht⟩) hS.2.2 dL_run_14 hlocks
  ·
    rw [hv] at hM
    exact absurd hM (by decide : ¬ (0 : Nat) = 3)
