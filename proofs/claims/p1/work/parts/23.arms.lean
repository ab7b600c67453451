theorem w_269 : (.methodLink RL 65 yX4_size : Cond) ∈ W0 := W0_of 269 (by decide +kernel) (by decide +kernel)
theorem w_270 : (.instanceMethod yX4_size : Cond) ∈ W0 := W0_of 270 (by decide +kernel) (by decide +kernel)
theorem w_271 : (.selects RX4 yX4_size yX4_size : Cond) ∈ W0 := W0_of 271 (by decide +kernel) (by decide +kernel)
theorem w_272 : (.code yX4_size cX4_size 2 (some (.int)) : Cond) ∈ W0 := W0_of 272 (by decide +kernel) (by decide +kernel)
theorem w_273 : (.methodLink RL 89 yX4_set : Cond) ∈ W0 := W0_of 273 (by decide +kernel) (by decide +kernel)
theorem w_274 : (.instanceMethod yX4_set : Cond) ∈ W0 := W0_of 274 (by decide +kernel) (by decide +kernel)
theorem w_275 : (.selects RX4 yX4_set yX4_set : Cond) ∈ W0 := W0_of 275 (by decide +kernel) (by decide +kernel)
theorem w_276 : (.code yX4_set cX4_set 6 (some (.boolean)) : Cond) ∈ W0 := W0_of 276 (by decide +kernel) (by decide +kernel)
theorem w_374 : (.methodLink RL 70 yL_distance : Cond) ∈ W0 := W0_of 374 (by decide +kernel) (by decide +kernel)
theorem w_375 : (.static yL_distance : Cond) ∈ W0 := W0_of 375 (by decide +kernel) (by decide +kernel)
theorem w_376 : (.codeWith yL_distance cL_distance 8 (some (.int)) [((0 : Nat), (16 : Nat), (19 : Nat), (13 : Nat))] : Cond) ∈ W0 := W0_of 376 (by decide +kernel) (by decide +kernel)
theorem w_551 : (.methodLink RL 77 yL_count : Cond) ∈ W0 := W0_of 551 (by decide +kernel) (by decide +kernel)
theorem w_552 : (.static yL_count : Cond) ∈ W0 := W0_of 552 (by decide +kernel) (by decide +kernel)
theorem w_553 : (.codeWith yL_count cL_count 6 (some (.int)) [((0 : Nat), (12 : Nat), (15 : Nat), (13 : Nat))] : Cond) ∈ W0 := W0_of 553 (by decide +kernel) (by decide +kernel)
theorem w_573 : (.methodLink RL 81 yL_find : Cond) ∈ W0 := W0_of 573 (by decide +kernel) (by decide +kernel)
theorem w_574 : (.static yL_find : Cond) ∈ W0 := W0_of 574 (by decide +kernel) (by decide +kernel)
theorem w_575 : (.codeWith yL_find cL_find 7 (some (.int)) [((0 : Nat), (14 : Nat), (17 : Nat), (13 : Nat)), ((0 : Nat), (14 : Nat), (21 : Nat), (23 : Nat))] : Cond) ∈ W0 := W0_of 575 (by decide +kernel) (by decide +kernel)
theorem w_608 : (.methodLink RL 85 yL_longest : Cond) ∈ W0 := W0_of 608 (by decide +kernel) (by decide +kernel)
theorem w_609 : (.static yL_longest : Cond) ∈ W0 := W0_of 609 (by decide +kernel) (by decide +kernel)
theorem w_610 : (.codeWith yL_longest cL_longest 4 (some (.int)) [((0 : Nat), (9 : Nat), (12 : Nat), (13 : Nat))] : Cond) ∈ W0 := W0_of 610 (by decide +kernel) (by decide +kernel)
theorem w_616 : (.methodLink RL 94 yL_about : Cond) ∈ W0 := W0_of 616 (by decide +kernel) (by decide +kernel)
theorem w_617 : (.static yL_about : Cond) ∈ W0 := W0_of 617 (by decide +kernel) (by decide +kernel)
theorem w_618 : (.codeWith yL_about cL_about 4 (some (.int)) [((0 : Nat), (9 : Nat), (12 : Nat), (32 : Nat)), ((0 : Nat), (9 : Nat), (15 : Nat), (23 : Nat))] : Cond) ∈ W0 := W0_of 618 (by decide +kernel) (by decide +kernel)
theorem w_647 : (.methodLink RL 97 yL_left : Cond) ∈ W0 := W0_of 647 (by decide +kernel) (by decide +kernel)
theorem w_648 : (.static yL_left : Cond) ∈ W0 := W0_of 648 (by decide +kernel) (by decide +kernel)
theorem w_649 : (.codeWith yL_left cL_left 3 (some (.int)) [((0 : Nat), (8 : Nat), (11 : Nat), (32 : Nat))] : Cond) ∈ W0 := W0_of 649 (by decide +kernel) (by decide +kernel)
theorem w_654 : (.methodLink RL 101 yL_moves : Cond) ∈ W0 := W0_of 654 (by decide +kernel) (by decide +kernel)
theorem w_655 : (.static yL_moves : Cond) ∈ W0 := W0_of 655 (by decide +kernel) (by decide +kernel)
theorem w_656 : (.codeWith yL_moves cL_moves 3 (some (.int)) [((0 : Nat), (8 : Nat), (11 : Nat), (32 : Nat))] : Cond) ∈ W0 := W0_of 656 (by decide +kernel) (by decide +kernel)
theorem w_661 : (.methodLink RL 104 yL_move : Cond) ∈ W0 := W0_of 661 (by decide +kernel) (by decide +kernel)
theorem w_662 : (.static yL_move : Cond) ∈ W0 := W0_of 662 (by decide +kernel) (by decide +kernel)
theorem w_663 : (.codeWith yL_move cL_move 4 (some (.int)) [((0 : Nat), (9 : Nat), (12 : Nat), (32 : Nat)), ((0 : Nat), (9 : Nat), (15 : Nat), (23 : Nat))] : Cond) ∈ W0 := W0_of 663 (by decide +kernel) (by decide +kernel)
theorem w_673 : (.methodLink RL 107 yL_best : Cond) ∈ W0 := W0_of 673 (by decide +kernel) (by decide +kernel)
theorem w_674 : (.static yL_best : Cond) ∈ W0 := W0_of 674 (by decide +kernel) (by decide +kernel)
theorem w_675 : (.codeWith yL_best cL_best 3 (some (.int)) [((0 : Nat), (8 : Nat), (11 : Nat), (32 : Nat))] : Cond) ∈ W0 := W0_of 675 (by decide +kernel) (by decide +kernel)
theorem w_701 : (.methodLink RL 110 yL_play : Cond) ∈ W0 := W0_of 701 (by decide +kernel) (by decide +kernel)
theorem w_702 : (.static yL_play : Cond) ∈ W0 := W0_of 702 (by decide +kernel) (by decide +kernel)
theorem w_703 : (.codeWith yL_play cL_play 4 (some (.int)) [((0 : Nat), (9 : Nat), (12 : Nat), (32 : Nat)), ((0 : Nat), (9 : Nat), (15 : Nat), (13 : Nat))] : Cond) ∈ W0 := W0_of 703 (by decide +kernel) (by decide +kernel)
theorem w_718 : (.methodLink RL 113 yL_run : Cond) ∈ W0 := W0_of 718 (by decide +kernel) (by decide +kernel)
theorem w_719 : (.static yL_run : Cond) ∈ W0 := W0_of 719 (by decide +kernel) (by decide +kernel)
theorem w_720 : (.codeWith yL_run cL_run 4 (some (.int)) [((0 : Nat), (9 : Nat), (12 : Nat), (32 : Nat)), ((0 : Nat), (9 : Nat), (15 : Nat), (13 : Nat))] : Cond) ∈ W0 := W0_of 720 (by decide +kernel) (by decide +kernel)
theorem w_777 : (.methodLink RL 74 yX5_thrown : Cond) ∈ W0 := W0_of 777 (by decide +kernel) (by decide +kernel)
theorem w_778 : (.instanceMethod yX5_thrown : Cond) ∈ W0 := W0_of 778 (by decide +kernel) (by decide +kernel)
theorem w_779 : (.selects RX5 yX5_thrown yX5_thrown : Cond) ∈ W0 := W0_of 779 (by decide +kernel) (by decide +kernel)
theorem w_780 : (.code yX5_thrown cX5_thrown 1 (some (.int)) : Cond) ∈ W0 := W0_of 780 (by decide +kernel) (by decide +kernel)
theorem w_781 : (.methodLink RL 69 yX5_size : Cond) ∈ W0 := W0_of 781 (by decide +kernel) (by decide +kernel)
theorem w_782 : (.instanceMethod yX5_size : Cond) ∈ W0 := W0_of 782 (by decide +kernel) (by decide +kernel)
theorem w_783 : (.selects RX5 yX5_size yX5_size : Cond) ∈ W0 := W0_of 783 (by decide +kernel) (by decide +kernel)
theorem w_784 : (.code yX5_size cX5_size 2 (some (.int)) : Cond) ∈ W0 := W0_of 784 (by decide +kernel) (by decide +kernel)
theorem w_785 : (.methodLink RL 73 yX5_distance : Cond) ∈ W0 := W0_of 785 (by decide +kernel) (by decide +kernel)
theorem w_786 : (.instanceMethod yX5_distance : Cond) ∈ W0 := W0_of 786 (by decide +kernel) (by decide +kernel)
theorem w_787 : (.selects RX5 yX5_distance yX5_distance : Cond) ∈ W0 := W0_of 787 (by decide +kernel) (by decide +kernel)
theorem w_788 : (.code yX5_distance cX5_distance 6 (some (.int)) : Cond) ∈ W0 := W0_of 788 (by decide +kernel) (by decide +kernel)
theorem w_870 : (.methodLink RL 80 yX5_count : Cond) ∈ W0 := W0_of 870 (by decide +kernel) (by decide +kernel)
theorem w_871 : (.instanceMethod yX5_count : Cond) ∈ W0 := W0_of 871 (by decide +kernel) (by decide +kernel)
theorem w_872 : (.selects RX5 yX5_count yX5_count : Cond) ∈ W0 := W0_of 872 (by decide +kernel) (by decide +kernel)
theorem w_873 : (.code yX5_count cX5_count 6 (some (.int)) : Cond) ∈ W0 := W0_of 873 (by decide +kernel) (by decide +kernel)
theorem w_878 : (.methodLink RL 84 yX5_find : Cond) ∈ W0 := W0_of 878 (by decide +kernel) (by decide +kernel)
theorem w_879 : (.instanceMethod yX5_find : Cond) ∈ W0 := W0_of 879 (by decide +kernel) (by decide +kernel)
theorem w_880 : (.selects RX5 yX5_find yX5_find : Cond) ∈ W0 := W0_of 880 (by decide +kernel) (by decide +kernel)
theorem w_881 : (.code yX5_find cX5_find 7 (some (.int)) : Cond) ∈ W0 := W0_of 881 (by decide +kernel) (by decide +kernel)
theorem w_882 : (.methodLink RL 88 yX5_longest : Cond) ∈ W0 := W0_of 882 (by decide +kernel) (by decide +kernel)
theorem w_883 : (.instanceMethod yX5_longest : Cond) ∈ W0 := W0_of 883 (by decide +kernel) (by decide +kernel)
theorem w_884 : (.selects RX5 yX5_longest yX5_longest : Cond) ∈ W0 := W0_of 884 (by decide +kernel) (by decide +kernel)
theorem w_885 : (.code yX5_longest cX5_longest 2 (some (.int)) : Cond) ∈ W0 := W0_of 885 (by decide +kernel) (by decide +kernel)
theorem w_886 : (.methodLink RL 93 yX5_set : Cond) ∈ W0 := W0_of 886 (by decide +kernel) (by decide +kernel)
theorem w_887 : (.instanceMethod yX5_set : Cond) ∈ W0 := W0_of 887 (by decide +kernel) (by decide +kernel)
theorem w_888 : (.selects RX5 yX5_set yX5_set : Cond) ∈ W0 := W0_of 888 (by decide +kernel) (by decide +kernel)
theorem w_889 : (.code yX5_set cX5_set 6 (some (.boolean)) : Cond) ∈ W0 := W0_of 889 (by decide +kernel) (by decide +kernel)
theorem w_890 : (.methodLink RL 96 yX5_about : Cond) ∈ W0 := W0_of 890 (by decide +kernel) (by decide +kernel)
theorem w_891 : (.instanceMethod yX5_about : Cond) ∈ W0 := W0_of 891 (by decide +kernel) (by decide +kernel)
theorem w_892 : (.selects RX5 yX5_about yX5_about : Cond) ∈ W0 := W0_of 892 (by decide +kernel) (by decide +kernel)
theorem w_893 : (.code yX5_about cX5_about 2 (some (.int)) : Cond) ∈ W0 := W0_of 893 (by decide +kernel) (by decide +kernel)
theorem w_894 : (.methodLink RL 100 yX5_left : Cond) ∈ W0 := W0_of 894 (by decide +kernel) (by decide +kernel)
theorem w_895 : (.instanceMethod yX5_left : Cond) ∈ W0 := W0_of 895 (by decide +kernel) (by decide +kernel)
theorem w_896 : (.selects RX5 yX5_left yX5_left : Cond) ∈ W0 := W0_of 896 (by decide +kernel) (by decide +kernel)
theorem w_897 : (.code yX5_left cX5_left 1 (some (.int)) : Cond) ∈ W0 := W0_of 897 (by decide +kernel) (by decide +kernel)
theorem w_898 : (.methodLink RL 103 yX5_moves : Cond) ∈ W0 := W0_of 898 (by decide +kernel) (by decide +kernel)
theorem w_899 : (.instanceMethod yX5_moves : Cond) ∈ W0 := W0_of 899 (by decide +kernel) (by decide +kernel)
theorem w_900 : (.selects RX5 yX5_moves yX5_moves : Cond) ∈ W0 := W0_of 900 (by decide +kernel) (by decide +kernel)
theorem w_901 : (.code yX5_moves cX5_moves 1 (some (.int)) : Cond) ∈ W0 := W0_of 901 (by decide +kernel) (by decide +kernel)
theorem w_918 : (.methodLink RL 106 yX5_move : Cond) ∈ W0 := W0_of 918 (by decide +kernel) (by decide +kernel)
theorem w_919 : (.instanceMethod yX5_move : Cond) ∈ W0 := W0_of 919 (by decide +kernel) (by decide +kernel)
theorem w_920 : (.selects RX5 yX5_move yX5_move : Cond) ∈ W0 := W0_of 920 (by decide +kernel) (by decide +kernel)
theorem w_921 : (.code yX5_move cX5_move 2 (some (.int)) : Cond) ∈ W0 := W0_of 921 (by decide +kernel) (by decide +kernel)
theorem w_922 : (.methodLink RL 109 yX5_best : Cond) ∈ W0 := W0_of 922 (by decide +kernel) (by decide +kernel)
theorem w_923 : (.instanceMethod yX5_best : Cond) ∈ W0 := W0_of 923 (by decide +kernel) (by decide +kernel)
theorem w_924 : (.selects RX5 yX5_best yX5_best : Cond) ∈ W0 := W0_of 924 (by decide +kernel) (by decide +kernel)
theorem w_925 : (.code yX5_best cX5_best 1 (some (.int)) : Cond) ∈ W0 := W0_of 925 (by decide +kernel) (by decide +kernel)
theorem w_934 : (.methodLink RL 112 yX5_play : Cond) ∈ W0 := W0_of 934 (by decide +kernel) (by decide +kernel)
theorem w_935 : (.instanceMethod yX5_play : Cond) ∈ W0 := W0_of 935 (by decide +kernel) (by decide +kernel)
theorem w_936 : (.selects RX5 yX5_play yX5_play : Cond) ∈ W0 := W0_of 936 (by decide +kernel) (by decide +kernel)
theorem w_937 : (.code yX5_play cX5_play 4 (some (.int)) : Cond) ∈ W0 := W0_of 937 (by decide +kernel) (by decide +kernel)
theorem w_942 : (.methodLink RL 115 yX5_run : Cond) ∈ W0 := W0_of 942 (by decide +kernel) (by decide +kernel)
theorem w_943 : (.instanceMethod yX5_run : Cond) ∈ W0 := W0_of 943 (by decide +kernel) (by decide +kernel)
theorem w_944 : (.selects RX5 yX5_run yX5_run : Cond) ∈ W0 := W0_of 944 (by decide +kernel) (by decide +kernel)
theorem w_945 : (.code yX5_run cX5_run 3 (some (.int)) : Cond) ∈ W0 := W0_of 945 (by decide +kernel) (by decide +kernel)
section EtLd
variable {p : Program} {l : Launch} {e : Env} {R : Room} {s : State} {m : MethodId} {args : Array Value} {below : List Frame} {meth : Method} {c : Code} {H : Heap} {locs : List Loc} {cells slots : Nat} {Q : State → Prop} {ls : Array Slot} {b L : Nat} {xs : Nat → Int32} {A : Nat → Prop} {lv : List (Nat × Value)} {rest : List Value}
/-- an int of the script -/
theorem et_ld (hx : p.tables.exec = Jvm.exec) (hb : c.code = code) (hXs : va_X b L xs s s.heap) (hbl : b < s.heap.size) (hbA : ¬ A b) (hS : va_S A s.heap H locs) (hl : lv_has ls 7 lv) (k4 k0 : Nat) (h4 : lv[k4]? = some (4, .int (2 : Int32))) (h0 : lv[k0]? = some (0, .ref b)) (hL : L = 8) {pc j : Nat} {n : Int} {v : Int32} (hv : Int32.ofInt n = v) (hin : vp_in (2 + v) 8) (hj : (2 + v : Int32).toNatClampNeg = j) (d0 : decode code pc = .ok (.aload_n 0, 1)) (d1 : decode code (pc + 1) = .ok (.iload 4, 2)) (d2 : decode code (pc + 3) = .ok (.iconst n, 1)) (d3 : decode code (pc + 4) = .ok (.iadd, 1)) (d4 : decode code (pc + 5) = .ok (.iaload, 1))
    (kk : W p l e R s m args below meth c H locs cells slots Q (F0 m (pc + 6) ls (.int (xs j) :: rest))) : W p l e R s m args below meth c H locs cells slots Q (F0 m pc ls rest) := by
  refine lv_aload_n hx hb d0 rfl (lv_at hl k0 h0) ?_
  refine lv_iload hx hb d1 (lv_at hl k4 h4) ?_
  refine lv_iconst (v := v) hx hb d2 hv ?_
  refine lv_iadd hx hb d3 ?_
  refine va_sld hx hb hXs hbl hbA hS (by subst hL; exact hin) d4 ?_
  subst hj
  exact kk
/-- an int of the script as a truth -/
theorem et_bool {x : Int32} (hx : p.tables.exec = Jvm.exec) (hb : c.code = code) {pc : Nat} (d0 : decode code pc = .ok (.ifCond .eq 7, 3)) (d1 : decode code (pc + 3) = .ok (.iconst 1, 1)) (d2 : decode code (pc + 4) = .ok (.goto 4, 3)) (d3 : decode code (pc + 7) = .ok (.iconst 0, 1)) (h7 : (pc : Int) + 7 = ((pc + 7 : Nat) : Int)) (h8 : ((pc + 4 : Nat) : Int) + 4 = ((pc + 8 : Nat) : Int))
    (kk : W p l e R s m args below meth c H locs cells slots Q (F0 m (pc + 8) ls (.int (zI (decide (x ≠ 0))) :: rest))) : W p l e R s m args below meth c H locs cells slots Q (F0 m pc ls (.int x :: rest)) := by
  refine lv_if_eq (tgt := pc + 7) hx hb d0 h7 (fun h => ?_) (fun h => ?_)
  · refine lv_iconst (v := (0 : Int32)) hx hb d3 (by decide) ?_
    rw [h] at kk
    exact kk
  · refine lv_iconst (v := (1 : Int32)) hx hb d1 (by decide) ?_
    refine lv_goto (tgt := pc + 8) hx hb d2 h8 ?_
    rw [decide_eq_true h] at kk
    exact kk
end EtLd
theorem et_isC (is : List Nat) {V : va_W} {a0 a1 a2 a3 a4 j : Nat × va_E} : (is.map (· + 6)).map (fun i => (a0 :: a1 :: a2 :: a3 :: a4 :: j :: V)[i]?) = is.map (fun i => V[i]?) := by
  rw [List.map_map]; rfl
theorem et_isF (is : List Nat) {V : va_W} {a0 a1 a2 a3 a4 j : Nat × va_E} : (is.map (· + 6)).filterMap (fun i => (a0 :: a1 :: a2 :: a3 :: a4 :: j :: V)[i]?) = is.filterMap (fun i => V[i]?) := by
  rw [List.filterMap_map]; rfl
theorem et_isAll : ∀ V : va_W, (List.range V.length).map (fun i => V[i]?) = V.map some := by
  intro V
  apply List.ext_getElem?
  intro i
  rw [List.getElem?_map, List.getElem?_map]
  by_cases h : i < V.length
  · rw [List.getElem?_range h, List.getElem?_eq_getElem h]; simp
  · rw [List.getElem?_eq_none (by simpa using h), List.getElem?_eq_none (by omega)]; rfl
theorem et_isJ {V : va_W} {a0 a1 a2 a3 a4 j : Nat × va_E} : (5 :: (List.range V.length).map (· + 6)).map (fun i => (a0 :: a1 :: a2 :: a3 :: a4 :: j :: V)[i]?) = (j :: V).map some := by
  rw [List.map_cons, et_isC, et_isAll]; rfl
theorem et_isJn (V : va_W) : va_nd (5 :: (List.range V.length).map (· + 6)) = true := by
  have h : ∀ (is : List Nat), is.Nodup → va_nd is = true := by
    intro is
    induction is with
    | nil => intro _; rfl
    | cons a t ih => intro h; rw [List.nodup_cons] at h; simp only [va_nd, Bool.and_eq_true, decide_eq_true_eq]; exact ⟨h.1, ih h.2⟩
  apply h
  rw [List.nodup_cons]
  refine ⟨fun h => ?_, ?_⟩
  · obtain ⟨a, -, h2⟩ := List.mem_map.mp h; simp at h2
  · exact List.pairwise_map.mpr (List.Pairwise.imp (fun h e => h (by omega)) List.nodup_range)
theorem et_dis6 (is : List Nat) : ∀ i ∈ ([0, 1, 2, 3, 4] : List Nat), i ∉ is.map (· + 6) := by
  intro i hi h
  obtain ⟨a, -, h2⟩ := List.mem_map.mp h
  simp at hi
  omega
theorem et_dis65 (is : List Nat) : ∀ i ∈ ([0, 1, 2, 3, 4] : List Nat), i ∉ 5 :: is.map (· + 6) := by
  intro i hi h
  rcases List.mem_cons.mp h with h | h
  · simp at hi; omega
  · exact et_dis6 is i hi h
theorem et_dis6j (is : List Nat) : ∀ i ∈ ([0, 1, 2, 3, 4, 5] : List Nat), i ∉ is.map (· + 6) := by
  intro i hi h
  obtain ⟨a, -, h2⟩ := List.mem_map.mp h
  simp at hi
  omega
section EtCallF
variable {p : Program} {l : Launch} {e : Env} {R : Room} {s : State} {m : MethodId} {args : Array Value} {below : List Frame} {meth : Method} {c : Code} {H : Heap} {locs : List Loc} {cells slots : Nat} {Q : State → Prop} {pc : Nat} {ls : Array Slot} {rest st0 : List Value} {a : Array Value} {g : et_G} {ws wc wc' wr : va_W} {A : Nat → Prop} {H0 : Heap}
/-- a call whose world is not needed afterwards -/
theorem et_callF {v : Value} (hr : va_Run p l e R s m args below meth c H locs cells slots 0 0 (F0 m pc ls st0) rest (et_QW g wc wc' (some v) a) (et_ad wc)) (hP : va_P (gD g) vwCl ws H) (hD : va_D A ws) (hS : va_S A H0 H locs) (isC isR : List Nat) (hC : isC.map (fun i => ws[i]?) = wc.map some) (hR : isR.map (fun i => ws[i]?) = wr.map some) (hn : va_nd isR = true) (hdis : ∀ i ∈ isR, i ∉ isC)
    (kk : ∀ (H1 : Heap) (locs1 : List Loc), va_P (gD g) vwCl wr H1 → va_D A wr → va_S A H0 H1 locs1 → W p l e R s m args below meth c H1 locs1 cells slots Q (F0 m (pc + 3) ls (v :: rest))) : W p l e R s m args below meth c H locs cells slots Q (F0 m pc ls st0) := by
  intro T hT X
  obtain ⟨v', st₀, t, T', L, h0, X', hL, e1, e2, ⟨hv, hP1, hF⟩, st⟩ := hr T hT X
  cases hv
  obtain ⟨hz, hk⟩ := hF
  rw [h0] at hz hk
  obtain ⟨t2, a1, b1⟩ := kk T'.heap (locs ++ L) (fun k q hq => by
      obtain ⟨i, hi1, hi2⟩ := et_of_map2 hR hq
      have h3 := hP i q hi2
      refine h3.kept ?_
      rw [e1]
      refine hk q.1 h3.lt (fun hc => ?_)
      obtain ⟨j, ee, hj⟩ := et_ad.get hc
      obtain ⟨i2, h4, h5⟩ := et_of_map2 hC hj
      have := hD.1 i i2 q (q.1, ee) hi2 h5 rfl
      subst this
      exact hdis _ (List.mem_of_getElem? hi1) (List.mem_of_getElem? h4)) (hD.sub isR hn hR)
    ⟨Nat.le_trans hS.1 (by rw [e1]; exact hz), fun q h1 h2 => by rw [e1, hk q (Nat.lt_of_lt_of_le h1 hS.1) (fun z => h2 (et_ad.sub hD hC z))]; exact hS.2.1 q h1 h2, fun q hq => by
      rcases List.mem_append.mp hq with h | h
      · exact hS.2.2 q h
      · exact et_ad.sub hD hC (hL q h)⟩ T' rfl X'
  exact ⟨t2, st t2 a1, b1⟩
end EtCallF
section EtArms
variable {p : Program} {l : Launch} {e : Env} {s : State} {m : MethodId} {below : List Frame} {meth : Method} {c : Code} {H : Heap} {locs : List Loc} {Q : State → Prop} {ls : Array Slot} {b L : Nat} {xs : Nat → Int32} {A : Nat → Prop} {g : et_G}

set_option maxHeartbeats 4000000 in
theorem et_arm_distance (hA : ∀ q : Nat, s.heap.size ≤ q → A q) (hx : p.tables.exec = Jvm.exec) (hb : c.code = code) (hr : meth.sig.returnType = ret) (hlocks : meth.locks = false) (hml : c.maxLocals = 7) (hown : s.vm.findClass RL = some m.cls) (hts : ∀ w ∈ W0, w.before #[Value.ref b] s = true) (hC : et_C g s) (hX : et_TL A s) (hXs : va_X b L xs s s.heap) (hbl : b < s.heap.size) (hbA : ¬ A b) (hL : L = 8) (V : va_W) (x md jq q1 q2 q3 q4 : Nat) (fs f5 g5 : List Value) (e1 e2 e3 e4 e1n e2n e3n e4n : va_E) (he : V[0]? = some (x, .inr (4, fs))) (M : Nat × Int32) (hM : M.1 = 0 ∨ M.1 = 1) (fr lo : Nat) (hfr : fr ≤ 7) (hlo : lo ≤ 200) (hm : ∀ sz : Nat, vx_Met l yX4_distance (Cond.code yX4_distance cX4_distance 6 (some (.int)) :: W0) ({ frames := fr, cells := 2, slots := 12, locals := lo } : Room) (et_PcN g sz V [.ref x, .int (xs 3), .int (xs 4), .int (xs 5), .int (xs 6), .int (xs 7)] (et_TH (va_A V sz))) (et_QT M (va_A V sz)) (et_XT M (va_A V sz)) 2 12 (va_A V sz))
    (fr5 lo5 : Nat) (hf5 : fr5 ≤ 12) (hl5 : lo5 ≤ 500) (a t : Int32) (hm5 : Met l yX5_distance (Cond.code yX5_distance cX5_distance 6 (some (.int)) :: W0) ({ frames := fr5, cells := 0, slots := 0, locals := lo5 } : Room) (et_PcW g ([(md, .inr (5, f5)), (q1, e1), (q2, e2), (q3, e3), (q4, e4)]) (.ref md :: [.int (xs 3), .int (xs 4), .int (xs 5), .int (xs 6), .int (xs 7)])) (et_QW g ([(md, .inr (5, f5)), (q1, e1), (q2, e2), (q3, e3), (q4, e4)]) ([(md, .inr (5, g5)), (q1, e1n), (q2, e2n), (q3, e3n), (q4, e4n)]) (some (.int a))) 0 0 (et_ad ([(md, .inr (5, f5)), (q1, e1), (q2, e2), (q3, e3), (q4, e4)])))
    (hmt : Met l yX5_thrown (Cond.code yX5_thrown cX5_thrown 1 (some (.int)) :: W0) ({ frames := 0, cells := 0, slots := 0, locals := 0 } : Room) (et_Pc g ([(md, .inr (5, g5)), (q1, e1n), (q2, e2n), (q3, e3n), (q4, e4n)]) [.ref md]) (et_QP (some (.int t))) 0 0 et_no)
    (hpu : t = (if M.1 = 0 then (0 : Int32) else 1) ∧ ((if M.1 = 0 then (0 : Int32) else 1) = 0 → ((if M.1 = 0 then vp_updL (fun _ => 0) 0 M.2.toInt64 else (fun _ => 0)) : Nat → Int64) 0 = a.toInt64))
    (hP : va_P (gD g) vwCl ((md, .inr (5, f5)) :: (q1, e1) :: (q2, e2) :: (q3, e3) :: (q4, e4) :: (jq, .inl (gJ g, 1, .inr (.inl (fun _ => 0)))) :: V) H) (hD : va_D A ((md, .inr (5, f5)) :: (q1, e1) :: (q2, e2) :: (q3, e3) :: (q4, e4) :: (jq, .inl (gJ g, 1, .inr (.inl (fun _ => 0)))) :: V)) (hS : va_S A s.heap H locs) (hl : lv_has ls 7 [(4, .int (2 : Int32)), (3, .ref jq), (2, .ref md), (1, .ref x), (0, .ref b)])
    (kk : ∀ (H : Heap) (locs : List Loc) (ls : Array Slot), va_S A s.heap H locs → W p l e room_1 s m #[Value.ref b] below meth c H locs 42 656692 Q (F0 m 936 ls [])) : W p l e room_1 s m #[Value.ref b] below meth c H locs 40 656680 Q (F0 m 169 ls []) := by
  refine lv_aload_n hx hb dL_law_169 rfl (lv_at hl 3 rfl) ?_
  refine et_ld (v := (1 : Int32)) (j := 3) hx hb hXs hbl hbA hS hl 0 4 rfl rfl hL (by decide) (by unfold vp_in; decide) (by decide) dL_law_170 dL_law_171 dL_law_173 dL_law_174 dL_law_175 ?_
  refine et_ld (v := (2 : Int32)) (j := 4) hx hb hXs hbl hbA hS hl 0 4 rfl rfl hL (by decide) (by unfold vp_in; decide) (by decide) dL_law_176 dL_law_177 dL_law_179 dL_law_180 dL_law_181 ?_
  refine et_ld (v := (3 : Int32)) (j := 5) hx hb hXs hbl hbA hS hl 0 4 rfl rfl hL (by decide) (by unfold vp_in; decide) (by decide) dL_law_182 dL_law_183 dL_law_185 dL_law_186 dL_law_187 ?_
  refine et_ld (v := (4 : Int32)) (j := 6) hx hb hXs hbl hbA hS hl 0 4 rfl rfl hL (by decide) (by unfold vp_in; decide) (by decide) dL_law_188 dL_law_189 dL_law_191 dL_law_192 dL_law_193 ?_
  refine et_ld (v := (5 : Int32)) (j := 7) hx hb hXs hbl hbA hS hl 0 4 rfl rfl hL (by decide) (by unfold vp_in; decide) (by decide) dL_law_194 dL_law_195 dL_law_197 dL_law_198 dL_law_199 ?_
  refine lv_aload_n hx hb dL_law_200 rfl (lv_at hl 1 rfl) ?_
  have hF : ∀ q, va_A ((jq, .inl (gJ g, 1, .inr (.inl (fun _ => 0)))) :: V) H.size q → A q := fun q h => by
    rcases h with ⟨k, ee, h⟩ | h
    · exact hD.2 (k + 5) (q, ee) h
    · exact hA q (Nat.le_trans hS.1 h)
  refine et_callL (vx_runSX (As := [.ref x, .int (xs 3), .int (xs 4), .int (xs 5), .int (xs 6), .int (xs 7), .ref jq]) (rest := []) ⟨hx, hb, hml, hown, hts⟩ (c_L_distance l g H.size jq (fun _ => 0) V x fs he (xs 3) (xs 4) (xs 5) (xs 6) (xs 7) M hM fr lo hfr hlo (hm H.size)) (vx_cwSW 7 hts (W0_gS w_374 w_375 w_75 w_376) rfl rfl rfl (by decide +kernel) ⟨Nat.le_of_ble_eq_true rfl, Nat.le_of_ble_eq_true rfl⟩) (et_preSN hP hC hD (5 :: (List.range V.length).map (· + 6)) (et_isJn V) et_isJ et_TL.blind (fun U hU hW => hX.at hS hF U hU hW)) rfl rfl hl.1 rfl (lv_room (Nat.le_of_ble_eq_true rfl)) dL_law_201 ⟨Nat.le_of_ble_eq_true rfl, Nat.le_of_ble_eq_true rfl⟩) hP hD hS (5 :: (List.range V.length).map (· + 6)) [0, 1, 2, 3, 4] et_isJ (wr := [(md, .inr (5, f5)), (q1, e1), (q2, e2), (q3, e3), (q4, e4)]) rfl (by decide) (et_dis65 _) hF rfl (fun H locs hP hD hS => ?_)
  refine lv_istore (lv' := [(5, .int (if M.1 = 0 then (0 : Int32) else 1)), (4, .int (2 : Int32)), (3, .ref jq), (2, .ref md), (1, .ref x), (0, .ref b)]) hx hb dL_law_204 hl (by decide) rfl (fun ls hl => ?_)
  refine lv_aload_n hx hb dL_law_206 rfl (lv_at hl 3 rfl) ?_
  refine et_ld (v := (1 : Int32)) (j := 3) hx hb hXs hbl hbA hS hl 1 5 rfl rfl hL (by decide) (by unfold vp_in; decide) (by decide) dL_law_207 dL_law_208 dL_law_210 dL_law_211 dL_law_212 ?_
  refine et_ld (v := (2 : Int32)) (j := 4) hx hb hXs hbl hbA hS hl 1 5 rfl rfl hL (by decide) (by unfold vp_in; decide) (by decide) dL_law_213 dL_law_214 dL_law_216 dL_law_217 dL_law_218 ?_
  refine et_ld (v := (3 : Int32)) (j := 5) hx hb hXs hbl hbA hS hl 1 5 rfl rfl hL (by decide) (by unfold vp_in; decide) (by decide) dL_law_219 dL_law_220 dL_law_222 dL_law_223 dL_law_224 ?_
  refine et_ld (v := (4 : Int32)) (j := 6) hx hb hXs hbl hbA hS hl 1 5 rfl rfl hL (by decide) (by unfold vp_in; decide) (by decide) dL_law_225 dL_law_226 dL_law_228 dL_law_229 dL_law_230 ?_
  refine et_ld (v := (5 : Int32)) (j := 7) hx hb hXs hbl hbA hS hl 1 5 rfl rfl hL (by decide) (by unfold vp_in; decide) (by decide) dL_law_231 dL_law_232 dL_law_234 dL_law_235 dL_law_236 ?_
  refine et_callW1 (v := .int a) (va_runV (As := [.int (xs 3), .int (xs 4), .int (xs 5), .int (xs 6), .int (xs 7)]) (rest := []) ⟨hx, hb, hml, hown, hts⟩ hm5 (cwV 5 hts (W0_gV w_785 w_786 w_787 w_82 w_788) rfl rfl rfl (by decide +kernel) ⟨Nat.succ_le_succ (Nat.le_trans hf5 (Nat.le_of_ble_eq_true rfl)), Nat.le_trans (Nat.add_le_add_left hl5 _) (Nat.le_of_ble_eq_true rfl)⟩) (et_preVW hP hC hD [0, 1, 2, 3, 4] (by decide) rfl (ci := 5) (q0 := 0) rfl rfl) rfl rfl hl.1 rfl (lv_room (Nat.le_of_ble_eq_true rfl)) dL_law_237 ⟨Nat.le_of_ble_eq_true rfl, Nat.le_of_ble_eq_true rfl⟩) hP hD hS [0, 1, 2, 3, 4] [5] 6 rfl [md, q1, q2, q3, q4] rfl rfl (ws' := [(md, .inr (5, g5)), (q1, e1n), (q2, e2n), (q3, e3n), (q4, e4n), (jq, .inl (gJ g, 1, .inr (.inl (if M.1 = 0 then vp_updL (fun _ => 0) 0 M.2.toInt64 else (fun _ => 0)))))]) rfl [(jq, .inl (gJ g, 1, .inr (.inl (if M.1 = 0 then vp_updL (fun _ => 0) 0 M.2.toInt64 else (fun _ => 0)))))] rfl rfl rfl (by decide) (fun H locs hP hD hS => ?_)
  refine lv_istore (lv' := [(6, .int a), (5, .int (if M.1 = 0 then (0 : Int32) else 1)), (4, .int (2 : Int32)), (3, .ref jq), (2, .ref md), (1, .ref x), (0, .ref b)]) hx hb dL_law_240 hl (by decide) rfl (fun ls hl => ?_)
  refine lv_aload_n hx hb dL_law_242 rfl (lv_at hl 4 rfl) ?_
  refine et_callP1 (v := .int t) (va_runV (As := []) (rest := []) ⟨hx, hb, hml, hown, hts⟩ hmt (cwV 0 hts (W0_gV w_777 w_778 w_779 w_82 w_780) rfl rfl rfl (by decide +kernel) ⟨Nat.le_of_ble_eq_true rfl, Nat.le_of_ble_eq_true rfl⟩) (et_preV hP hC [0, 1, 2, 3, 4] rfl (ci := 5) (q0 := 0) rfl rfl) rfl rfl hl.1 rfl (lv_room (Nat.le_of_ble_eq_true rfl)) dL_law_243 ⟨Nat.le_of_ble_eq_true rfl, Nat.le_of_ble_eq_true rfl⟩) ?_
  refine lv_iload hx hb dL_law_246 (lv_at hl 1 rfl) ?_
  refine lv_icmp_eq (tgt := 253) hx hb dL_law_248 (by decide) (fun _ => ?_) (fun h => absurd hpu.1 h)
  refine lv_iload hx hb dL_law_253 (lv_at hl 1 rfl) ?_
  have hend : ∀ (ls : Array Slot), lv_has ls 7 [(6, .int a), (5, .int (if M.1 = 0 then (0 : Int32) else 1)), (4, .int (2 : Int32)), (3, .ref jq), (2, .ref md), (1, .ref x), (0, .ref b)] → W p l e room_1 s m #[Value.ref b] below meth c H locs (40 + 2) (656680 + 12) Q (F0 m 930 ls []) := fun ls hl => et_lawBack hx hb hXs hbl hbA hS hl 2 6 rfl [(4, .int (8 : Int32)), (6, .int a), (5, .int (if M.1 = 0 then (0 : Int32) else 1)), (3, .ref jq), (2, .ref md), (1, .ref x), (0, .ref b)] rfl rfl hL (fun ls => kk H locs ls hS)
  refine lv_if_ne (tgt := 270) hx hb dL_law_255 (by decide) (fun _ => lv_goto (tgt := 930) hx hb dL_law_270 (by decide) (hend ls hl)) (fun h0 => ?_)
  refine lv_aload_n hx hb dL_law_258 rfl (lv_at hl 3 rfl) ?_
  refine lv_iconst (v := (0 : Int32)) hx hb dL_law_259 (by decide) ?_
  refine va_lald (D := gD g) hx hb hC.1 hP 5 1 rfl rfl (by unfold vp_in; decide) dL_law_260 ?_
  refine lv_iload hx hb dL_law_261 (lv_at hl 0 rfl) ?_
  refine lv_i2l (v := a.toInt64) hx hb dL_law_263 rfl ?_
  refine W.lcmp hx hb dL_law_264 ?_
  refine lv_if_eq (tgt := 270) hx hb dL_law_265 (by decide) (fun _ => lv_goto (tgt := 930) hx hb dL_law_270 (by decide) (hend ls hl)) (fun h => absurd ((lg_cmp_eq _ _).mpr (hpu.2 h0)) h)
set_option maxHeartbeats 4000000 in
theorem et_arm_count (hA : ∀ q : Nat, s.heap.size ≤ q → A q) (hx : p.tables.exec = Jvm.exec) (hb : c.code = code) (hr : meth.sig.returnType = ret) (hlocks : meth.locks = false) (hml : c.maxLocals = 7) (hown : s.vm.findClass RL = some m.cls) (hts : ∀ w ∈ W0, w.before #[Value.ref b] s = true) (hC : et_C g s) (hX : et_TL A s) (hXs : va_X b L xs s s.heap) (hbl : b < s.heap.size) (hbA : ¬ A b) (hL : L = 8) (V : va_W) (x md jq q1 q2 q3 q4 : Nat) (fs f5 g5 : List Value) (e1 e2 e3 e4 e1n e2n e3n e4n : va_E) (he : V[0]? = some (x, .inr (4, fs))) (M : Nat × Int32) (hM : M.1 = 0 ∨ M.1 = 1) (fr lo : Nat) (hfr : fr ≤ 7) (hlo : lo ≤ 200) (hm : ∀ sz : Nat, vx_Met l yX4_count (Cond.code yX4_count cX4_count 5 (some (.int)) :: W0) ({ frames := fr, cells := 2, slots := 12, locals := lo } : Room) (et_PcN g sz V [.ref x, .int (xs 3), .int (xs 4), .int (xs 5)] (et_TH (va_A V sz))) (et_QT M (va_A V sz)) (et_XT M (va_A V sz)) 2 12 (va_A V sz))
    (fr5 lo5 : Nat) (hf5 : fr5 ≤ 12) (hl5 : lo5 ≤ 500) (a t : Int32) (hm5 : Met l yX5_count (Cond.code yX5_count cX5_count 6 (some (.int)) :: W0) ({ frames := fr5, cells := 0, slots := 0, locals := lo5 } : Room) (et_PcW g ([(md, .inr (5, f5)), (q1, e1), (q2, e2), (q3, e3), (q4, e4)]) (.ref md :: [.int (xs 3), .int (xs 4), .int (xs 5)])) (et_QW g ([(md, .inr (5, f5)), (q1, e1), (q2, e2), (q3, e3), (q4, e4)]) ([(md, .inr (5, g5)), (q1, e1n), (q2, e2n), (q3, e3n), (q4, e4n)]) (some (.int a))) 0 0 (et_ad ([(md, .inr (5, f5)), (q1, e1), (q2, e2), (q3, e3), (q4, e4)])))
    (hmt : Met l yX5_thrown (Cond.code yX5_thrown cX5_thrown 1 (some (.int)) :: W0) ({ frames := 0, cells := 0, slots := 0, locals := 0 } : Room) (et_Pc g ([(md, .inr (5, g5)), (q1, e1n), (q2, e2n), (q3, e3n), (q4, e4n)]) [.ref md]) (et_QP (some (.int t))) 0 0 et_no)
    (hpu : t = (if M.1 = 0 then (0 : Int32) else 1) ∧ ((if M.1 = 0 then (0 : Int32) else 1) = 0 → ((if M.1 = 0 then vp_updL (fun _ => 0) 0 M.2.toInt64 else (fun _ => 0)) : Nat → Int64) 0 = a.toInt64))
    (hP : va_P (gD g) vwCl ((md, .inr (5, f5)) :: (q1, e1) :: (q2, e2) :: (q3, e3) :: (q4, e4) :: (jq, .inl (gJ g, 1, .inr (.inl (fun _ => 0)))) :: V) H) (hD : va_D A ((md, .inr (5, f5)) :: (q1, e1) :: (q2, e2) :: (q3, e3) :: (q4, e4) :: (jq, .inl (gJ g, 1, .inr (.inl (fun _ => 0)))) :: V)) (hS : va_S A s.heap H locs) (hl : lv_has ls 7 [(4, .int (2 : Int32)), (3, .ref jq), (2, .ref md), (1, .ref x), (0, .ref b)])
    (kk : ∀ (H : Heap) (locs : List Loc) (ls : Array Slot), va_S A s.heap H locs → W p l e room_1 s m #[Value.ref b] below meth c H locs 42 656692 Q (F0 m 936 ls [])) : W p l e room_1 s m #[Value.ref b] below meth c H locs 40 656680 Q (F0 m 273 ls []) := by
  refine lv_aload_n hx hb dL_law_273 rfl (lv_at hl 3 rfl) ?_
  refine et_ld (v := (1 : Int32)) (j := 3) hx hb hXs hbl hbA hS hl 0 4 rfl rfl hL (by decide) (by unfold vp_in; decide) (by decide) dL_law_274 dL_law_275 dL_law_277 dL_law_278 dL_law_279 ?_
  refine et_ld (v := (2 : Int32)) (j := 4) hx hb hXs hbl hbA hS hl 0 4 rfl rfl hL (by decide) (by unfold vp_in; decide) (by decide) dL_law_280 dL_law_281 dL_law_283 dL_law_284 dL_law_285 ?_
  refine et_ld (v := (3 : Int32)) (j := 5) hx hb hXs hbl hbA hS hl 0 4 rfl rfl hL (by decide) (by unfold vp_in; decide) (by decide) dL_law_286 dL_law_287 dL_law_289 dL_law_290 dL_law_291 ?_
  refine lv_aload_n hx hb dL_law_292 rfl (lv_at hl 1 rfl) ?_
  have hF : ∀ q, va_A ((jq, .inl (gJ g, 1, .inr (.inl (fun _ => 0)))) :: V) H.size q → A q := fun q h => by
    rcases h with ⟨k, ee, h⟩ | h
    · exact hD.2 (k + 5) (q, ee) h
    · exact hA q (Nat.le_trans hS.1 h)
  refine et_callL (vx_runSX (As := [.ref x, .int (xs 3), .int (xs 4), .int (xs 5), .ref jq]) (rest := []) ⟨hx, hb, hml, hown, hts⟩ (c_L_count l g H.size jq (fun _ => 0) V x fs he (xs 3) (xs 4) (xs 5) M hM fr lo hfr hlo (hm H.size)) (vx_cwSW 5 hts (W0_gS w_551 w_552 w_75 w_553) rfl rfl rfl (by decide +kernel) ⟨Nat.le_of_ble_eq_true rfl, Nat.le_of_ble_eq_true rfl⟩) (et_preSN hP hC hD (5 :: (List.range V.length).map (· + 6)) (et_isJn V) et_isJ et_TL.blind (fun U hU hW => hX.at hS hF U hU hW)) rfl rfl hl.1 rfl (lv_room (Nat.le_of_ble_eq_true rfl)) dL_law_293 ⟨Nat.le_of_ble_eq_true rfl, Nat.le_of_ble_eq_true rfl⟩) hP hD hS (5 :: (List.range V.length).map (· + 6)) [0, 1, 2, 3, 4] et_isJ (wr := [(md, .inr (5, f5)), (q1, e1), (q2, e2), (q3, e3), (q4, e4)]) rfl (by decide) (et_dis65 _) hF rfl (fun H locs hP hD hS => ?_)
  refine lv_istore (lv' := [(5, .int (if M.1 = 0 then (0 : Int32) else 1)), (4, .int (2 : Int32)), (3, .ref jq), (2, .ref md), (1, .ref x), (0, .ref b)]) hx hb dL_law_296 hl (by decide) rfl (fun ls hl => ?_)
  refine lv_aload_n hx hb dL_law_298 rfl (lv_at hl 3 rfl) ?_
  refine et_ld (v := (1 : Int32)) (j := 3) hx hb hXs hbl hbA hS hl 1 5 rfl rfl hL (by decide) (by unfold vp_in; decide) (by decide) dL_law_299 dL_law_300 dL_law_302 dL_law_303 dL_law_304 ?_
  refine et_ld (v := (2 : Int32)) (j := 4) hx hb hXs hbl hbA hS hl 1 5 rfl rfl hL (by decide) (by unfold vp_in; decide) (by decide) dL_law_305 dL_law_306 dL_law_308 dL_law_309 dL_law_310 ?_
  refine et_ld (v := (3 : Int32)) (j := 5) hx hb hXs hbl hbA hS hl 1 5 rfl rfl hL (by decide) (by unfold vp_in; decide) (by decide) dL_law_311 dL_law_312 dL_law_314 dL_law_315 dL_law_316 ?_
  refine et_callW1 (v := .int a) (va_runV (As := [.int (xs 3), .int (xs 4), .int (xs 5)]) (rest := []) ⟨hx, hb, hml, hown, hts⟩ hm5 (cwV 3 hts (W0_gV w_870 w_871 w_872 w_82 w_873) rfl rfl rfl (by decide +kernel) ⟨Nat.succ_le_succ (Nat.le_trans hf5 (Nat.le_of_ble_eq_true rfl)), Nat.le_trans (Nat.add_le_add_left hl5 _) (Nat.le_of_ble_eq_true rfl)⟩) (et_preVW hP hC hD [0, 1, 2, 3, 4] (by decide) rfl (ci := 5) (q0 := 0) rfl rfl) rfl rfl hl.1 rfl (lv_room (Nat.le_of_ble_eq_true rfl)) dL_law_317 ⟨Nat.le_of_ble_eq_true rfl, Nat.le_of_ble_eq_true rfl⟩) hP hD hS [0, 1, 2, 3, 4] [5] 6 rfl [md, q1, q2, q3, q4] rfl rfl (ws' := [(md, .inr (5, g5)), (q1, e1n), (q2, e2n), (q3, e3n), (q4, e4n), (jq, .inl (gJ g, 1, .inr (.inl (if M.1 = 0 then vp_updL (fun _ => 0) 0 M.2.toInt64 else (fun _ => 0)))))]) rfl [(jq, .inl (gJ g, 1, .inr (.inl (if M.1 = 0 then vp_updL (fun _ => 0) 0 M.2.toInt64 else (fun _ => 0)))))] rfl rfl rfl (by decide) (fun H locs hP hD hS => ?_)
  refine lv_istore (lv' := [(6, .int a), (5, .int (if M.1 = 0 then (0 : Int32) else 1)), (4, .int (2 : Int32)), (3, .ref jq), (2, .ref md), (1, .ref x), (0, .ref b)]) hx hb dL_law_320 hl (by decide) rfl (fun ls hl => ?_)
  refine lv_aload_n hx hb dL_law_322 rfl (lv_at hl 4 rfl) ?_
  refine et_callP1 (v := .int t) (va_runV (As := []) (rest := []) ⟨hx, hb, hml, hown, hts⟩ hmt (cwV 0 hts (W0_gV w_777 w_778 w_779 w_82 w_780) rfl rfl rfl (by decide +kernel) ⟨Nat.le_of_ble_eq_true rfl, Nat.le_of_ble_eq_true rfl⟩) (et_preV hP hC [0, 1, 2, 3, 4] rfl (ci := 5) (q0 := 0) rfl rfl) rfl rfl hl.1 rfl (lv_room (Nat.le_of_ble_eq_true rfl)) dL_law_323 ⟨Nat.le_of_ble_eq_true rfl, Nat.le_of_ble_eq_true rfl⟩) ?_
  refine lv_iload hx hb dL_law_326 (lv_at hl 1 rfl) ?_
  refine lv_icmp_eq (tgt := 333) hx hb dL_law_328 (by decide) (fun _ => ?_) (fun h => absurd hpu.1 h)
  refine lv_iload hx hb dL_law_333 (lv_at hl 1 rfl) ?_
  have hend : ∀ (ls : Array Slot), lv_has ls 7 [(6, .int a), (5, .int (if M.1 = 0 then (0 : Int32) else 1)), (4, .int (2 : Int32)), (3, .ref jq), (2, .ref md), (1, .ref x), (0, .ref b)] → W p l e room_1 s m #[Value.ref b] below meth c H locs (40 + 2) (656680 + 12) Q (F0 m 930 ls []) := fun ls hl => et_lawBack hx hb hXs hbl hbA hS hl 2 6 rfl [(4, .int (8 : Int32)), (6, .int a), (5, .int (if M.1 = 0 then (0 : Int32) else 1)), (3, .ref jq), (2, .ref md), (1, .ref x), (0, .ref b)] rfl rfl hL (fun ls => kk H locs ls hS)
  refine lv_if_ne (tgt := 350) hx hb dL_law_335 (by decide) (fun _ => lv_goto (tgt := 930) hx hb dL_law_350 (by decide) (hend ls hl)) (fun h0 => ?_)
  refine lv_aload_n hx hb dL_law_338 rfl (lv_at hl 3 rfl) ?_
  refine lv_iconst (v := (0 : Int32)) hx hb dL_law_339 (by decide) ?_
  refine va_lald (D := gD g) hx hb hC.1 hP 5 1 rfl rfl (by unfold vp_in; decide) dL_law_340 ?_
  refine lv_iload hx hb dL_law_341 (lv_at hl 0 rfl) ?_
  refine lv_i2l (v := a.toInt64) hx hb dL_law_343 rfl ?_
  refine W.lcmp hx hb dL_law_344 ?_
  refine lv_if_eq (tgt := 350) hx hb dL_law_345 (by decide) (fun _ => lv_goto (tgt := 930) hx hb dL_law_350 (by decide) (hend ls hl)) (fun h => absurd ((lg_cmp_eq _ _).mpr (hpu.2 h0)) h)
set_option maxHeartbeats 4000000 in
theorem et_arm_find (hA : ∀ q : Nat, s.heap.size ≤ q → A q) (hx : p.tables.exec = Jvm.exec) (hb : c.code = code) (hr : meth.sig.returnType = ret) (hlocks : meth.locks = false) (hml : c.maxLocals = 7) (hown : s.vm.findClass RL = some m.cls) (hts : ∀ w ∈ W0, w.before #[Value.ref b] s = true) (hC : et_C g s) (hX : et_TL A s) (hXs : va_X b L xs s s.heap) (hbl : b < s.heap.size) (hbA : ¬ A b) (hL : L = 8) (V : va_W) (x md jq q1 q2 q3 q4 : Nat) (fs f5 g5 : List Value) (e1 e2 e3 e4 e1n e2n e3n e4n : va_E) (he : V[0]? = some (x, .inr (4, fs))) (M : Nat × Int32) (hM : M.1 = 0 ∨ M.1 = 1 ∨ M.1 = 2) (fr lo : Nat) (hfr : fr ≤ 7) (hlo : lo ≤ 200) (hm : ∀ sz : Nat, vx_Met l yX4_find (Cond.code yX4_find cX4_find 7 (some (.int)) :: W0) ({ frames := fr, cells := 2, slots := 12, locals := lo } : Room) (et_PcN g sz V [.ref x, .int (xs 3), .int (xs 4), .int (xs 5), .int (xs 6)] (et_TH (va_A V sz))) (et_QT M (va_A V sz)) (et_XT M (va_A V sz)) 2 12 (va_A V sz))
    (fr5 lo5 : Nat) (hf5 : fr5 ≤ 12) (hl5 : lo5 ≤ 500) (a t : Int32) (hm5 : Met l yX5_find (Cond.code yX5_find cX5_find 7 (some (.int)) :: W0) ({ frames := fr5, cells := 0, slots := 0, locals := lo5 } : Room) (et_PcW g ([(md, .inr (5, f5)), (q1, e1), (q2, e2), (q3, e3), (q4, e4)]) (.ref md :: [.int (xs 3), .int (xs 4), .int (xs 5), .int (xs 6)])) (et_QW g ([(md, .inr (5, f5)), (q1, e1), (q2, e2), (q3, e3), (q4, e4)]) ([(md, .inr (5, g5)), (q1, e1n), (q2, e2n), (q3, e3n), (q4, e4n)]) (some (.int a))) 0 0 (et_ad ([(md, .inr (5, f5)), (q1, e1), (q2, e2), (q3, e3), (q4, e4)])))
    (hmt : Met l yX5_thrown (Cond.code yX5_thrown cX5_thrown 1 (some (.int)) :: W0) ({ frames := 0, cells := 0, slots := 0, locals := 0 } : Room) (et_Pc g ([(md, .inr (5, g5)), (q1, e1n), (q2, e2n), (q3, e3n), (q4, e4n)]) [.ref md]) (et_QP (some (.int t))) 0 0 et_no)
    (hpu : t = (if M.1 = 0 then (0 : Int32) else if M.1 = 1 then 1 else 2) ∧ ((if M.1 = 0 then (0 : Int32) else if M.1 = 1 then 1 else 2) = 0 → ((if M.1 = 0 then vp_updL (fun _ => 0) 0 M.2.toInt64 else (fun _ => 0)) : Nat → Int64) 0 = a.toInt64))
    (hP : va_P (gD g) vwCl ((md, .inr (5, f5)) :: (q1, e1) :: (q2, e2) :: (q3, e3) :: (q4, e4) :: (jq, .inl (gJ g, 1, .inr (.inl (fun _ => 0)))) :: V) H) (hD : va_D A ((md, .inr (5, f5)) :: (q1, e1) :: (q2, e2) :: (q3, e3) :: (q4, e4) :: (jq, .inl (gJ g, 1, .inr (.inl (fun _ => 0)))) :: V)) (hS : va_S A s.heap H locs) (hl : lv_has ls 7 [(4, .int (2 : Int32)), (3, .ref jq), (2, .ref md), (1, .ref x), (0, .ref b)])
    (kk : ∀ (H : Heap) (locs : List Loc) (ls : Array Slot), va_S A s.heap H locs → W p l e room_1 s m #[Value.ref b] below meth c H locs 42 656692 Q (F0 m 936 ls [])) : W p l e room_1 s m #[Value.ref b] below meth c H locs 40 656680 Q (F0 m 353 ls []) := by
  refine lv_aload_n hx hb dL_law_353 rfl (lv_at hl 3 rfl) ?_
  refine et_ld (v := (1 : Int32)) (j := 3) hx hb hXs hbl hbA hS hl 0 4 rfl rfl hL (by decide) (by unfold vp_in; decide) (by decide) dL_law_354 dL_law_355 dL_law_357 dL_law_358 dL_law_359 ?_
  refine et_ld (v := (2 : Int32)) (j := 4) hx hb hXs hbl hbA hS hl 0 4 rfl rfl hL (by decide) (by unfold vp_in; decide) (by decide) dL_law_360 dL_law_361 dL_law_363 dL_law_364 dL_law_365 ?_
  refine et_ld (v := (3 : Int32)) (j := 5) hx hb hXs hbl hbA hS hl 0 4 rfl rfl hL (by decide) (by unfold vp_in; decide) (by decide) dL_law_366 dL_law_367 dL_law_369 dL_law_370 dL_law_371 ?_
  refine et_ld (v := (4 : Int32)) (j := 6) hx hb hXs hbl hbA hS hl 0 4 rfl rfl hL (by decide) (by unfold vp_in; decide) (by decide) dL_law_372 dL_law_373 dL_law_375 dL_law_376 dL_law_377 ?_
  refine lv_aload_n hx hb dL_law_378 rfl (lv_at hl 1 rfl) ?_
  have hF : ∀ q, va_A ((jq, .inl (gJ g, 1, .inr (.inl (fun _ => 0)))) :: V) H.size q → A q := fun q h => by
    rcases h with ⟨k, ee, h⟩ | h
    · exact hD.2 (k + 5) (q, ee) h
    · exact hA q (Nat.le_trans hS.1 h)
  refine et_callL (vx_runSX (As := [.ref x, .int (xs 3), .int (xs 4), .int (xs 5), .int (xs 6), .ref jq]) (rest := []) ⟨hx, hb, hml, hown, hts⟩ (c_L_find l g H.size jq (fun _ => 0) V x fs he (xs 3) (xs 4) (xs 5) (xs 6) M hM fr lo hfr hlo (hm H.size)) (vx_cwSW 6 hts (W0_gS w_573 w_574 w_75 w_575) rfl rfl rfl (by decide +kernel) ⟨Nat.le_of_ble_eq_true rfl, Nat.le_of_ble_eq_true rfl⟩) (et_preSN hP hC hD (5 :: (List.range V.length).map (· + 6)) (et_isJn V) et_isJ et_TL.blind (fun U hU hW => hX.at hS hF U hU hW)) rfl rfl hl.1 rfl (lv_room (Nat.le_of_ble_eq_true rfl)) dL_law_379 ⟨Nat.le_of_ble_eq_true rfl, Nat.le_of_ble_eq_true rfl⟩) hP hD hS (5 :: (List.range V.length).map (· + 6)) [0, 1, 2, 3, 4] et_isJ (wr := [(md, .inr (5, f5)), (q1, e1), (q2, e2), (q3, e3), (q4, e4)]) rfl (by decide) (et_dis65 _) hF rfl (fun H locs hP hD hS => ?_)
  refine lv_istore (lv' := [(5, .int (if M.1 = 0 then (0 : Int32) else if M.1 = 1 then 1 else 2)), (4, .int (2 : Int32)), (3, .ref jq), (2, .ref md), (1, .ref x), (0, .ref b)]) hx hb dL_law_382 hl (by decide) rfl (fun ls hl => ?_)
  refine lv_aload_n hx hb dL_law_384 rfl (lv_at hl 3 rfl) ?_
  refine et_ld (v := (1 : Int32)) (j := 3) hx hb hXs hbl hbA hS hl 1 5 rfl rfl hL (by decide) (by unfold vp_in; decide) (by decide) dL_law_385 dL_law_386 dL_law_388 dL_law_389 dL_law_390 ?_
  refine et_ld (v := (2 : Int32)) (j := 4) hx hb hXs hbl hbA hS hl 1 5 rfl rfl hL (by decide) (by unfold vp_in; decide) (by decide) dL_law_391 dL_law_392 dL_law_394 dL_law_395 dL_law_396 ?_
  refine et_ld (v := (3 : Int32)) (j := 5) hx hb hXs hbl hbA hS hl 1 5 rfl rfl hL (by decide) (by unfold vp_in; decide) (by decide) dL_law_397 dL_law_398 dL_law_400 dL_law_401 dL_law_402 ?_
  refine et_ld (v := (4 : Int32)) (j := 6) hx hb hXs hbl hbA hS hl 1 5 rfl rfl hL (by decide) (by unfold vp_in; decide) (by decide) dL_law_403 dL_law_404 dL_law_406 dL_law_407 dL_law_408 ?_
  refine et_callW1 (v := .int a) (va_runV (As := [.int (xs 3), .int (xs 4), .int (xs 5), .int (xs 6)]) (rest := []) ⟨hx, hb, hml, hown, hts⟩ hm5 (cwV 4 hts (W0_gV w_878 w_879 w_880 w_82 w_881) rfl rfl rfl (by decide +kernel) ⟨Nat.succ_le_succ (Nat.le_trans hf5 (Nat.le_of_ble_eq_true rfl)), Nat.le_trans (Nat.add_le_add_left hl5 _) (Nat.le_of_ble_eq_true rfl)⟩) (et_preVW hP hC hD [0, 1, 2, 3, 4] (by decide) rfl (ci := 5) (q0 := 0) rfl rfl) rfl rfl hl.1 rfl (lv_room (Nat.le_of_ble_eq_true rfl)) dL_law_409 ⟨Nat.le_of_ble_eq_true rfl, Nat.le_of_ble_eq_true rfl⟩) hP hD hS [0, 1, 2, 3, 4] [5] 6 rfl [md, q1, q2, q3, q4] rfl rfl (ws' := [(md, .inr (5, g5)), (q1, e1n), (q2, e2n), (q3, e3n), (q4, e4n), (jq, .inl (gJ g, 1, .inr (.inl (if M.1 = 0 then vp_updL (fun _ => 0) 0 M.2.toInt64 else (fun _ => 0)))))]) rfl [(jq, .inl (gJ g, 1, .inr (.inl (if M.1 = 0 then vp_updL (fun _ => 0) 0 M.2.toInt64 else (fun _ => 0)))))] rfl rfl rfl (by decide) (fun H locs hP hD hS => ?_)
  refine lv_istore (lv' := [(6, .int a), (5, .int (if M.1 = 0 then (0 : Int32) else if M.1 = 1 then 1 else 2)), (4, .int (2 : Int32)), (3, .ref jq), (2, .ref md), (1, .ref x), (0, .ref b)]) hx hb dL_law_412 hl (by decide) rfl (fun ls hl => ?_)
  refine lv_aload_n hx hb dL_law_414 rfl (lv_at hl 4 rfl) ?_
  refine et_callP1 (v := .int t) (va_runV (As := []) (rest := []) ⟨hx, hb, hml, hown, hts⟩ hmt (cwV 0 hts (W0_gV w_777 w_778 w_779 w_82 w_780) rfl rfl rfl (by decide +kernel) ⟨Nat.le_of_ble_eq_true rfl, Nat.le_of_ble_eq_true rfl⟩) (et_preV hP hC [0, 1, 2, 3, 4] rfl (ci := 5) (q0 := 0) rfl rfl) rfl rfl hl.1 rfl (lv_room (Nat.le_of_ble_eq_true rfl)) dL_law_415 ⟨Nat.le_of_ble_eq_true rfl, Nat.le_of_ble_eq_true rfl⟩) ?_
  refine lv_iload hx hb dL_law_418 (lv_at hl 1 rfl) ?_
  refine lv_icmp_eq (tgt := 425) hx hb dL_law_420 (by decide) (fun _ => ?_) (fun h => absurd hpu.1 h)
  refine lv_iload hx hb dL_law_425 (lv_at hl 1 rfl) ?_
  have hend : ∀ (ls : Array Slot), lv_has ls 7 [(6, .int a), (5, .int (if M.1 = 0 then (0 : Int32) else if M.1 = 1 then 1 else 2)), (4, .int (2 : Int32)), (3, .ref jq), (2, .ref md), (1, .ref x), (0, .ref b)] → W p l e room_1 s m #[Value.ref b] below meth c H locs (40 + 2) (656680 + 12) Q (F0 m 930 ls []) := fun ls hl => et_lawBack hx hb hXs hbl hbA hS hl 2 6 rfl [(4, .int (8 : Int32)), (6, .int a), (5, .int (if M.1 = 0 then (0 : Int32) else if M.1 = 1 then 1 else 2)), (3, .ref jq), (2, .ref md), (1, .ref x), (0, .ref b)] rfl rfl hL (fun ls => kk H locs ls hS)
  refine lv_if_ne (tgt := 442) hx hb dL_law_427 (by decide) (fun _ => lv_goto (tgt := 930) hx hb dL_law_442 (by decide) (hend ls hl)) (fun h0 => ?_)
  refine lv_aload_n hx hb dL_law_430 rfl (lv_at hl 3 rfl) ?_
  refine lv_iconst (v := (0 : Int32)) hx hb dL_law_431 (by decide) ?_
  refine va_lald (D := gD g) hx hb hC.1 hP 5 1 rfl rfl (by unfold vp_in; decide) dL_law_432 ?_
  refine lv_iload hx hb dL_law_433 (lv_at hl 0 rfl) ?_
  refine lv_i2l (v := a.toInt64) hx hb dL_law_435 rfl ?_
  refine W.lcmp hx hb dL_law_436 ?_
  refine lv_if_eq (tgt := 442) hx hb dL_law_437 (by decide) (fun _ => lv_goto (tgt := 930) hx hb dL_law_442 (by decide) (hend ls hl)) (fun h => absurd ((lg_cmp_eq _ _).mpr (hpu.2 h0)) h)
set_option maxHeartbeats 4000000 in
theorem et_arm_longest (hA : ∀ q : Nat, s.heap.size ≤ q → A q) (hx : p.tables.exec = Jvm.exec) (hb : c.code = code) (hr : meth.sig.returnType = ret) (hlocks : meth.locks = false) (hml : c.maxLocals = 7) (hown : s.vm.findClass RL = some m.cls) (hts : ∀ w ∈ W0, w.before #[Value.ref b] s = true) (hC : et_C g s) (hX : et_TL A s) (hXs : va_X b L xs s s.heap) (hbl : b < s.heap.size) (hbA : ¬ A b) (hL : L = 8) (V : va_W) (x md jq q1 q2 q3 q4 : Nat) (fs f5 g5 : List Value) (e1 e2 e3 e4 e1n e2n e3n e4n : va_E) (he : V[0]? = some (x, .inr (4, fs))) (M : Nat × Int32) (hM : M.1 = 0 ∨ M.1 = 1) (fr lo : Nat) (hfr : fr ≤ 7) (hlo : lo ≤ 200) (hm : ∀ sz : Nat, vx_Met l yX4_longest (Cond.code yX4_longest cX4_longest 3 (some (.int)) :: W0) ({ frames := fr, cells := 2, slots := 12, locals := lo } : Room) (et_PcN g sz V [.ref x, .int (xs 3)] (et_TH (va_A V sz))) (et_QT M (va_A V sz)) (et_XT M (va_A V sz)) 2 12 (va_A V sz))
    (fr5 lo5 : Nat) (hf5 : fr5 ≤ 12) (hl5 : lo5 ≤ 500) (a t : Int32) (hm5 : Met l yX5_longest (Cond.code yX5_longest cX5_longest 2 (some (.int)) :: W0) ({ frames := fr5, cells := 0, slots := 0, locals := lo5 } : Room) (et_PcW g ([(md, .inr (5, f5)), (q1, e1), (q2, e2), (q3, e3), (q4, e4)]) (.ref md :: [.int (xs 3)])) (et_QW g ([(md, .inr (5, f5)), (q1, e1), (q2, e2), (q3, e3), (q4, e4)]) ([(md, .inr (5, g5)), (q1, e1n), (q2, e2n), (q3, e3n), (q4, e4n)]) (some (.int a))) 0 0 (et_ad ([(md, .inr (5, f5)), (q1, e1), (q2, e2), (q3, e3), (q4, e4)])))
    (hmt : Met l yX5_thrown (Cond.code yX5_thrown cX5_thrown 1 (some (.int)) :: W0) ({ frames := 0, cells := 0, slots := 0, locals := 0 } : Room) (et_Pc g ([(md, .inr (5, g5)), (q1, e1n), (q2, e2n), (q3, e3n), (q4, e4n)]) [.ref md]) (et_QP (some (.int t))) 0 0 et_no)
    (hpu : t = (if M.1 = 0 then (0 : Int32) else 1) ∧ ((if M.1 = 0 then (0 : Int32) else 1) = 0 → ((if M.1 = 0 then vp_updL (fun _ => 0) 0 M.2.toInt64 else (fun _ => 0)) : Nat → Int64) 0 = a.toInt64))
    (hP : va_P (gD g) vwCl ((md, .inr (5, f5)) :: (q1, e1) :: (q2, e2) :: (q3, e3) :: (q4, e4) :: (jq, .inl (gJ g, 1, .inr (.inl (fun _ => 0)))) :: V) H) (hD : va_D A ((md, .inr (5, f5)) :: (q1, e1) :: (q2, e2) :: (q3, e3) :: (q4, e4) :: (jq, .inl (gJ g, 1, .inr (.inl (fun _ => 0)))) :: V)) (hS : va_S A s.heap H locs) (hl : lv_has ls 7 [(4, .int (2 : Int32)), (3, .ref jq), (2, .ref md), (1, .ref x), (0, .ref b)])
    (kk : ∀ (H : Heap) (locs : List Loc) (ls : Array Slot), va_S A s.heap H locs → W p l e room_1 s m #[Value.ref b] below meth c H locs 42 656692 Q (F0 m 936 ls [])) : W p l e room_1 s m #[Value.ref b] below meth c H locs 40 656680 Q (F0 m 445 ls []) := by
  refine lv_aload_n hx hb dL_law_445 rfl (lv_at hl 3 rfl) ?_
  refine et_ld (v := (1 : Int32)) (j := 3) hx hb hXs hbl hbA hS hl 0 4 rfl rfl hL (by decide) (by unfold vp_in; decide) (by decide) dL_law_446 dL_law_447 dL_law_449 dL_law_450 dL_law_451 ?_
  refine lv_aload_n hx hb dL_law_452 rfl (lv_at hl 1 rfl) ?_
  have hF : ∀ q, va_A ((jq, .inl (gJ g, 1, .inr (.inl (fun _ => 0)))) :: V) H.size q → A q := fun q h => by
    rcases h with ⟨k, ee, h⟩ | h
    · exact hD.2 (k + 5) (q, ee) h
    · exact hA q (Nat.le_trans hS.1 h)
  refine et_callL (vx_runSX (As := [.ref x, .int (xs 3), .ref jq]) (rest := []) ⟨hx, hb, hml, hown, hts⟩ (c_L_longest l g H.size jq (fun _ => 0) V x fs he (xs 3) M hM fr lo hfr hlo (hm H.size)) (vx_cwSW 3 hts (W0_gS w_608 w_609 w_75 w_610) rfl rfl rfl (by decide +kernel) ⟨Nat.le_of_ble_eq_true rfl, Nat.le_of_ble_eq_true rfl⟩) (et_preSN hP hC hD (5 :: (List.range V.length).map (· + 6)) (et_isJn V) et_isJ et_TL.blind (fun U hU hW => hX.at hS hF U hU hW)) rfl rfl hl.1 rfl (lv_room (Nat.le_of_ble_eq_true rfl)) dL_law_453 ⟨Nat.le_of_ble_eq_true rfl, Nat.le_of_ble_eq_true rfl⟩) hP hD hS (5 :: (List.range V.length).map (· + 6)) [0, 1, 2, 3, 4] et_isJ (wr := [(md, .inr (5, f5)), (q1, e1), (q2, e2), (q3, e3), (q4, e4)]) rfl (by decide) (et_dis65 _) hF rfl (fun H locs hP hD hS => ?_)
  refine lv_istore (lv' := [(5, .int (if M.1 = 0 then (0 : Int32) else 1)), (4, .int (2 : Int32)), (3, .ref jq), (2, .ref md), (1, .ref x), (0, .ref b)]) hx hb dL_law_456 hl (by decide) rfl (fun ls hl => ?_)
  refine lv_aload_n hx hb dL_law_458 rfl (lv_at hl 3 rfl) ?_
  refine et_ld (v := (1 : Int32)) (j := 3) hx hb hXs hbl hbA hS hl 1 5 rfl rfl hL (by decide) (by unfold vp_in; decide) (by decide) dL_law_459 dL_law_460 dL_law_462 dL_law_463 dL_law_464 ?_
  refine et_callW1 (v := .int a) (va_runV (As := [.int (xs 3)]) (rest := []) ⟨hx, hb, hml, hown, hts⟩ hm5 (cwV 1 hts (W0_gV w_882 w_883 w_884 w_82 w_885) rfl rfl rfl (by decide +kernel) ⟨Nat.succ_le_succ (Nat.le_trans hf5 (Nat.le_of_ble_eq_true rfl)), Nat.le_trans (Nat.add_le_add_left hl5 _) (Nat.le_of_ble_eq_true rfl)⟩) (et_preVW hP hC hD [0, 1, 2, 3, 4] (by decide) rfl (ci := 5) (q0 := 0) rfl rfl) rfl rfl hl.1 rfl (lv_room (Nat.le_of_ble_eq_true rfl)) dL_law_465 ⟨Nat.le_of_ble_eq_true rfl, Nat.le_of_ble_eq_true rfl⟩) hP hD hS [0, 1, 2, 3, 4] [5] 6 rfl [md, q1, q2, q3, q4] rfl rfl (ws' := [(md, .inr (5, g5)), (q1, e1n), (q2, e2n), (q3, e3n), (q4, e4n), (jq, .inl (gJ g, 1, .inr (.inl (if M.1 = 0 then vp_updL (fun _ => 0) 0 M.2.toInt64 else (fun _ => 0)))))]) rfl [(jq, .inl (gJ g, 1, .inr (.inl (if M.1 = 0 then vp_updL (fun _ => 0) 0 M.2.toInt64 else (fun _ => 0)))))] rfl rfl rfl (by decide) (fun H locs hP hD hS => ?_)
  refine lv_istore (lv' := [(6, .int a), (5, .int (if M.1 = 0 then (0 : Int32) else 1)), (4, .int (2 : Int32)), (3, .ref jq), (2, .ref md), (1, .ref x), (0, .ref b)]) hx hb dL_law_468 hl (by decide) rfl (fun ls hl => ?_)
  refine lv_aload_n hx hb dL_law_470 rfl (lv_at hl 4 rfl) ?_
  refine et_callP1 (v := .int t) (va_runV (As := []) (rest := []) ⟨hx, hb, hml, hown, hts⟩ hmt (cwV 0 hts (W0_gV w_777 w_778 w_779 w_82 w_780) rfl rfl rfl (by decide +kernel) ⟨Nat.le_of_ble_eq_true rfl, Nat.le_of_ble_eq_true rfl⟩) (et_preV hP hC [0, 1, 2, 3, 4] rfl (ci := 5) (q0 := 0) rfl rfl) rfl rfl hl.1 rfl (lv_room (Nat.le_of_ble_eq_true rfl)) dL_law_471 ⟨Nat.le_of_ble_eq_true rfl, Nat.le_of_ble_eq_true rfl⟩) ?_
  refine lv_iload hx hb dL_law_474 (lv_at hl 1 rfl) ?_
  refine lv_icmp_eq (tgt := 481) hx hb dL_law_476 (by decide) (fun _ => ?_) (fun h => absurd hpu.1 h)
  refine lv_iload hx hb dL_law_481 (lv_at hl 1 rfl) ?_
  have hend : ∀ (ls : Array Slot), lv_has ls 7 [(6, .int a), (5, .int (if M.1 = 0 then (0 : Int32) else 1)), (4, .int (2 : Int32)), (3, .ref jq), (2, .ref md), (1, .ref x), (0, .ref b)] → W p l e room_1 s m #[Value.ref b] below meth c H locs (40 + 2) (656680 + 12) Q (F0 m 930 ls []) := fun ls hl => et_lawBack hx hb hXs hbl hbA hS hl 2 6 rfl [(4, .int (8 : Int32)), (6, .int a), (5, .int (if M.1 = 0 then (0 : Int32) else 1)), (3, .ref jq), (2, .ref md), (1, .ref x), (0, .ref b)] rfl rfl hL (fun ls => kk H locs ls hS)
  refine lv_if_ne (tgt := 498) hx hb dL_law_483 (by decide) (fun _ => lv_goto (tgt := 930) hx hb dL_law_498 (by decide) (hend ls hl)) (fun h0 => ?_)
  refine lv_aload_n hx hb dL_law_486 rfl (lv_at hl 3 rfl) ?_
  refine lv_iconst (v := (0 : Int32)) hx hb dL_law_487 (by decide) ?_
  refine va_lald (D := gD g) hx hb hC.1 hP 5 1 rfl rfl (by unfold vp_in; decide) dL_law_488 ?_
  refine lv_iload hx hb dL_law_489 (lv_at hl 0 rfl) ?_
  refine lv_i2l (v := a.toInt64) hx hb dL_law_491 rfl ?_
  refine W.lcmp hx hb dL_law_492 ?_
  refine lv_if_eq (tgt := 498) hx hb dL_law_493 (by decide) (fun _ => lv_goto (tgt := 930) hx hb dL_law_498 (by decide) (hend ls hl)) (fun h => absurd ((lg_cmp_eq _ _).mpr (hpu.2 h0)) h)
set_option maxHeartbeats 4000000 in
theorem et_arm_about (hA : ∀ q : Nat, s.heap.size ≤ q → A q) (hx : p.tables.exec = Jvm.exec) (hb : c.code = code) (hr : meth.sig.returnType = ret) (hlocks : meth.locks = false) (hml : c.maxLocals = 7) (hown : s.vm.findClass RL = some m.cls) (hts : ∀ w ∈ W0, w.before #[Value.ref b] s = true) (hC : et_C g s) (hX : et_TL A s) (hXs : va_X b L xs s s.heap) (hbl : b < s.heap.size) (hbA : ¬ A b) (hL : L = 8) (V : va_W) (x md jq q1 q2 q3 q4 : Nat) (fs f5 g5 : List Value) (e1 e2 e3 e4 e1n e2n e3n e4n : va_E) (he : V[0]? = some (x, .inr (4, fs))) (M : Nat × Int32) (hM : M.1 = 3) (fr lo : Nat) (hfr : fr ≤ 7) (hlo : lo ≤ 200) (hm : ∀ sz : Nat, vx_Met l yX4_about (Cond.code yX4_about cX4_about 2 (some (.int)) :: W0) ({ frames := fr, cells := 2, slots := 12, locals := lo } : Room) (et_PcN g sz V [.ref x, .int (xs 3)] (et_TH (va_A V sz))) (et_QT M (va_A V sz)) (et_XT M (va_A V sz)) 2 12 (va_A V sz))
    (fr5 lo5 : Nat) (hf5 : fr5 ≤ 12) (hl5 : lo5 ≤ 500) (a t : Int32) (hm5 : Met l yX5_about (Cond.code yX5_about cX5_about 2 (some (.int)) :: W0) ({ frames := fr5, cells := 0, slots := 0, locals := lo5 } : Room) (et_PcW g ([(md, .inr (5, f5)), (q1, e1), (q2, e2), (q3, e3), (q4, e4)]) (.ref md :: [.int (xs 3)])) (et_QW g ([(md, .inr (5, f5)), (q1, e1), (q2, e2), (q3, e3), (q4, e4)]) ([(md, .inr (5, g5)), (q1, e1n), (q2, e2n), (q3, e3n), (q4, e4n)]) (some (.int a))) 0 0 (et_ad ([(md, .inr (5, f5)), (q1, e1), (q2, e2), (q3, e3), (q4, e4)])))
    (hmt : Met l yX5_thrown (Cond.code yX5_thrown cX5_thrown 1 (some (.int)) :: W0) ({ frames := 0, cells := 0, slots := 0, locals := 0 } : Room) (et_Pc g ([(md, .inr (5, g5)), (q1, e1n), (q2, e2n), (q3, e3n), (q4, e4n)]) [.ref md]) (et_QP (some (.int t))) 0 0 et_no)
    (hpu : t = (1 : Int32) ∧ ((1 : Int32) = 0 → ((fun _ => 0) : Nat → Int64) 0 = a.toInt64))
    (hP : va_P (gD g) vwCl ((md, .inr (5, f5)) :: (q1, e1) :: (q2, e2) :: (q3, e3) :: (q4, e4) :: (jq, .inl (gJ g, 1, .inr (.inl (fun _ => 0)))) :: V) H) (hD : va_D A ((md, .inr (5, f5)) :: (q1, e1) :: (q2, e2) :: (q3, e3) :: (q4, e4) :: (jq, .inl (gJ g, 1, .inr (.inl (fun _ => 0)))) :: V)) (hS : va_S A s.heap H locs) (hl : lv_has ls 7 [(4, .int (2 : Int32)), (3, .ref jq), (2, .ref md), (1, .ref x), (0, .ref b)])
    (kk : ∀ (H : Heap) (locs : List Loc) (ls : Array Slot), va_S A s.heap H locs → W p l e room_1 s m #[Value.ref b] below meth c H locs 42 656692 Q (F0 m 936 ls [])) : W p l e room_1 s m #[Value.ref b] below meth c H locs 40 656680 Q (F0 m 574 ls []) := by
  refine lv_aload_n hx hb dL_law_574 rfl (lv_at hl 3 rfl) ?_
  refine et_ld (v := (1 : Int32)) (j := 3) hx hb hXs hbl hbA hS hl 0 4 rfl rfl hL (by decide) (by unfold vp_in; decide) (by decide) dL_law_575 dL_law_576 dL_law_578 dL_law_579 dL_law_580 ?_
  refine lv_aload_n hx hb dL_law_581 rfl (lv_at hl 1 rfl) ?_
  have hF : ∀ q, va_A ((jq, .inl (gJ g, 1, .inr (.inl (fun _ => 0)))) :: V) H.size q → A q := fun q h => by
    rcases h with ⟨k, ee, h⟩ | h
    · exact hD.2 (k + 5) (q, ee) h
    · exact hA q (Nat.le_trans hS.1 h)
  refine et_callL (vx_runSX (As := [.ref x, .int (xs 3), .ref jq]) (rest := []) ⟨hx, hb, hml, hown, hts⟩ (c_L_about l g H.size jq (fun _ => 0) V x fs he (xs 3) M hM fr lo hfr hlo (hm H.size)) (vx_cwSW 3 hts (W0_gS w_616 w_617 w_75 w_618) rfl rfl rfl (by decide +kernel) ⟨Nat.le_of_ble_eq_true rfl, Nat.le_of_ble_eq_true rfl⟩) (et_preSN hP hC hD (5 :: (List.range V.length).map (· + 6)) (et_isJn V) et_isJ et_TL.blind (fun U hU hW => hX.at hS hF U hU hW)) rfl rfl hl.1 rfl (lv_room (Nat.le_of_ble_eq_true rfl)) dL_law_582 ⟨Nat.le_of_ble_eq_true rfl, Nat.le_of_ble_eq_true rfl⟩) hP hD hS (5 :: (List.range V.length).map (· + 6)) [0, 1, 2, 3, 4] et_isJ (wr := [(md, .inr (5, f5)), (q1, e1), (q2, e2), (q3, e3), (q4, e4)]) rfl (by decide) (et_dis65 _) hF rfl (fun H locs hP hD hS => ?_)
  refine lv_istore (lv' := [(5, .int (1 : Int32)), (4, .int (2 : Int32)), (3, .ref jq), (2, .ref md), (1, .ref x), (0, .ref b)]) hx hb dL_law_585 hl (by decide) rfl (fun ls hl => ?_)
  refine lv_aload_n hx hb dL_law_587 rfl (lv_at hl 3 rfl) ?_
  refine et_ld (v := (1 : Int32)) (j := 3) hx hb hXs hbl hbA hS hl 1 5 rfl rfl hL (by decide) (by unfold vp_in; decide) (by decide) dL_law_588 dL_law_589 dL_law_591 dL_law_592 dL_law_593 ?_
  refine et_callW1 (v := .int a) (va_runV (As := [.int (xs 3)]) (rest := []) ⟨hx, hb, hml, hown, hts⟩ hm5 (cwV 1 hts (W0_gV w_890 w_891 w_892 w_82 w_893) rfl rfl rfl (by decide +kernel) ⟨Nat.succ_le_succ (Nat.le_trans hf5 (Nat.le_of_ble_eq_true rfl)), Nat.le_trans (Nat.add_le_add_left hl5 _) (Nat.le_of_ble_eq_true rfl)⟩) (et_preVW hP hC hD [0, 1, 2, 3, 4] (by decide) rfl (ci := 5) (q0 := 0) rfl rfl) rfl rfl hl.1 rfl (lv_room (Nat.le_of_ble_eq_true rfl)) dL_law_594 ⟨Nat.le_of_ble_eq_true rfl, Nat.le_of_ble_eq_true rfl⟩) hP hD hS [0, 1, 2, 3, 4] [5] 6 rfl [md, q1, q2, q3, q4] rfl rfl (ws' := [(md, .inr (5, g5)), (q1, e1n), (q2, e2n), (q3, e3n), (q4, e4n), (jq, .inl (gJ g, 1, .inr (.inl (fun _ => 0))))]) rfl [(jq, .inl (gJ g, 1, .inr (.inl (fun _ => 0))))] rfl rfl rfl (by decide) (fun H locs hP hD hS => ?_)
  refine lv_istore (lv' := [(6, .int a), (5, .int (1 : Int32)), (4, .int (2 : Int32)), (3, .ref jq), (2, .ref md), (1, .ref x), (0, .ref b)]) hx hb dL_law_597 hl (by decide) rfl (fun ls hl => ?_)
  refine lv_aload_n hx hb dL_law_599 rfl (lv_at hl 4 rfl) ?_
  refine et_callP1 (v := .int t) (va_runV (As := []) (rest := []) ⟨hx, hb, hml, hown, hts⟩ hmt (cwV 0 hts (W0_gV w_777 w_778 w_779 w_82 w_780) rfl rfl rfl (by decide +kernel) ⟨Nat.le_of_ble_eq_true rfl, Nat.le_of_ble_eq_true rfl⟩) (et_preV hP hC [0, 1, 2, 3, 4] rfl (ci := 5) (q0 := 0) rfl rfl) rfl rfl hl.1 rfl (lv_room (Nat.le_of_ble_eq_true rfl)) dL_law_600 ⟨Nat.le_of_ble_eq_true rfl, Nat.le_of_ble_eq_true rfl⟩) ?_
  refine lv_iload hx hb dL_law_603 (lv_at hl 1 rfl) ?_
  refine lv_icmp_eq (tgt := 610) hx hb dL_law_605 (by decide) (fun _ => ?_) (fun h => absurd hpu.1 h)
  refine lv_iload hx hb dL_law_610 (lv_at hl 1 rfl) ?_
  have hend : ∀ (ls : Array Slot), lv_has ls 7 [(6, .int a), (5, .int (1 : Int32)), (4, .int (2 : Int32)), (3, .ref jq), (2, .ref md), (1, .ref x), (0, .ref b)] → W p l e room_1 s m #[Value.ref b] below meth c H locs (40 + 2) (656680 + 12) Q (F0 m 930 ls []) := fun ls hl => et_lawBack hx hb hXs hbl hbA hS hl 2 6 rfl [(4, .int (8 : Int32)), (6, .int a), (5, .int (1 : Int32)), (3, .ref jq), (2, .ref md), (1, .ref x), (0, .ref b)] rfl rfl hL (fun ls => kk H locs ls hS)
  refine lv_if_ne (tgt := 627) hx hb dL_law_612 (by decide) (fun _ => lv_goto (tgt := 930) hx hb dL_law_627 (by decide) (hend ls hl)) (fun h0 => ?_)
  exact absurd h0 (by decide)
set_option maxHeartbeats 4000000 in
theorem et_arm_left (hA : ∀ q : Nat, s.heap.size ≤ q → A q) (hx : p.tables.exec = Jvm.exec) (hb : c.code = code) (hr : meth.sig.returnType = ret) (hlocks : meth.locks = false) (hml : c.maxLocals = 7) (hown : s.vm.findClass RL = some m.cls) (hts : ∀ w ∈ W0, w.before #[Value.ref b] s = true) (hC : et_C g s) (hX : et_TL A s) (hXs : va_X b L xs s s.heap) (hbl : b < s.heap.size) (hbA : ¬ A b) (hL : L = 8) (V : va_W) (x md jq q1 q2 q3 q4 : Nat) (fs f5 g5 : List Value) (e1 e2 e3 e4 e1n e2n e3n e4n : va_E) (he : V[0]? = some (x, .inr (4, fs))) (M : Nat × Int32) (hM : M.1 = 3) (fr lo : Nat) (hfr : fr ≤ 7) (hlo : lo ≤ 200) (hm : ∀ sz : Nat, vx_Met l yX4_left (Cond.code yX4_left cX4_left 1 (some (.int)) :: W0) ({ frames := fr, cells := 2, slots := 12, locals := lo } : Room) (et_PcN g sz V [.ref x] (et_TH (va_A V sz))) (et_QT M (va_A V sz)) (et_XT M (va_A V sz)) 2 12 (va_A V sz))
    (fr5 lo5 : Nat) (hf5 : fr5 ≤ 12) (hl5 : lo5 ≤ 500) (a t : Int32) (hm5 : Met l yX5_left (Cond.code yX5_left cX5_left 1 (some (.int)) :: W0) ({ frames := fr5, cells := 0, slots := 0, locals := lo5 } : Room) (et_PcW g ([(md, .inr (5, f5)), (q1, e1), (q2, e2), (q3, e3), (q4, e4)]) (.ref md :: [])) (et_QW g ([(md, .inr (5, f5)), (q1, e1), (q2, e2), (q3, e3), (q4, e4)]) ([(md, .inr (5, g5)), (q1, e1n), (q2, e2n), (q3, e3n), (q4, e4n)]) (some (.int a))) 0 0 (et_ad ([(md, .inr (5, f5)), (q1, e1), (q2, e2), (q3, e3), (q4, e4)])))
    (hmt : Met l yX5_thrown (Cond.code yX5_thrown cX5_thrown 1 (some (.int)) :: W0) ({ frames := 0, cells := 0, slots := 0, locals := 0 } : Room) (et_Pc g ([(md, .inr (5, g5)), (q1, e1n), (q2, e2n), (q3, e3n), (q4, e4n)]) [.ref md]) (et_QP (some (.int t))) 0 0 et_no)
    (hpu : t = (1 : Int32) ∧ ((1 : Int32) = 0 → ((fun _ => 0) : Nat → Int64) 0 = a.toInt64))
    (hP : va_P (gD g) vwCl ((md, .inr (5, f5)) :: (q1, e1) :: (q2, e2) :: (q3, e3) :: (q4, e4) :: (jq, .inl (gJ g, 1, .inr (.inl (fun _ => 0)))) :: V) H) (hD : va_D A ((md, .inr (5, f5)) :: (q1, e1) :: (q2, e2) :: (q3, e3) :: (q4, e4) :: (jq, .inl (gJ g, 1, .inr (.inl (fun _ => 0)))) :: V)) (hS : va_S A s.heap H locs) (hl : lv_has ls 7 [(4, .int (2 : Int32)), (3, .ref jq), (2, .ref md), (1, .ref x), (0, .ref b)])
    (kk : ∀ (H : Heap) (locs : List Loc) (ls : Array Slot), va_S A s.heap H locs → W p l e room_1 s m #[Value.ref b] below meth c H locs 42 656692 Q (F0 m 936 ls [])) : W p l e room_1 s m #[Value.ref b] below meth c H locs 40 656680 Q (F0 m 630 ls []) := by
  refine lv_aload_n hx hb dL_law_630 rfl (lv_at hl 3 rfl) ?_
  refine lv_aload_n hx hb dL_law_631 rfl (lv_at hl 1 rfl) ?_
  have hF : ∀ q, va_A ((jq, .inl (gJ g, 1, .inr (.inl (fun _ => 0)))) :: V) H.size q → A q := fun q h => by
    rcases h with ⟨k, ee, h⟩ | h
    · exact hD.2 (k + 5) (q, ee) h
    · exact hA q (Nat.le_trans hS.1 h)
  refine et_callL (vx_runSX (As := [.ref x, .ref jq]) (rest := []) ⟨hx, hb, hml, hown, hts⟩ (c_L_left l g H.size jq (fun _ => 0) V x fs he  M hM fr lo hfr hlo (hm H.size)) (vx_cwSW 2 hts (W0_gS w_647 w_648 w_75 w_649) rfl rfl rfl (by decide +kernel) ⟨Nat.le_of_ble_eq_true rfl, Nat.le_of_ble_eq_true rfl⟩) (et_preSN hP hC hD (5 :: (List.range V.length).map (· + 6)) (et_isJn V) et_isJ et_TL.blind (fun U hU hW => hX.at hS hF U hU hW)) rfl rfl hl.1 rfl (lv_room (Nat.le_of_ble_eq_true rfl)) dL_law_632 ⟨Nat.le_of_ble_eq_true rfl, Nat.le_of_ble_eq_true rfl⟩) hP hD hS (5 :: (List.range V.length).map (· + 6)) [0, 1, 2, 3, 4] et_isJ (wr := [(md, .inr (5, f5)), (q1, e1), (q2, e2), (q3, e3), (q4, e4)]) rfl (by decide) (et_dis65 _) hF rfl (fun H locs hP hD hS => ?_)
  refine lv_istore (lv' := [(5, .int (1 : Int32)), (4, .int (2 : Int32)), (3, .ref jq), (2, .ref md), (1, .ref x), (0, .ref b)]) hx hb dL_law_635 hl (by decide) rfl (fun ls hl => ?_)
  refine lv_aload_n hx hb dL_law_637 rfl (lv_at hl 3 rfl) ?_
  refine et_callW1 (v := .int a) (va_runV (As := []) (rest := []) ⟨hx, hb, hml, hown, hts⟩ hm5 (cwV 0 hts (W0_gV w_894 w_895 w_896 w_82 w_897) rfl rfl rfl (by decide +kernel) ⟨Nat.succ_le_succ (Nat.le_trans hf5 (Nat.le_of_ble_eq_true rfl)), Nat.le_trans (Nat.add_le_add_left hl5 _) (Nat.le_of_ble_eq_true rfl)⟩) (et_preVW hP hC hD [0, 1, 2, 3, 4] (by decide) rfl (ci := 5) (q0 := 0) rfl rfl) rfl rfl hl.1 rfl (lv_room (Nat.le_of_ble_eq_true rfl)) dL_law_638 ⟨Nat.le_of_ble_eq_true rfl, Nat.le_of_ble_eq_true rfl⟩) hP hD hS [0, 1, 2, 3, 4] [5] 6 rfl [md, q1, q2, q3, q4] rfl rfl (ws' := [(md, .inr (5, g5)), (q1, e1n), (q2, e2n), (q3, e3n), (q4, e4n), (jq, .inl (gJ g, 1, .inr (.inl (fun _ => 0))))]) rfl [(jq, .inl (gJ g, 1, .inr (.inl (fun _ => 0))))] rfl rfl rfl (by decide) (fun H locs hP hD hS => ?_)
  refine lv_istore (lv' := [(6, .int a), (5, .int (1 : Int32)), (4, .int (2 : Int32)), (3, .ref jq), (2, .ref md), (1, .ref x), (0, .ref b)]) hx hb dL_law_641 hl (by decide) rfl (fun ls hl => ?_)
  refine lv_aload_n hx hb dL_law_643 rfl (lv_at hl 4 rfl) ?_
  refine et_callP1 (v := .int t) (va_runV (As := []) (rest := []) ⟨hx, hb, hml, hown, hts⟩ hmt (cwV 0 hts (W0_gV w_777 w_778 w_779 w_82 w_780) rfl rfl rfl (by decide +kernel) ⟨Nat.le_of_ble_eq_true rfl, Nat.le_of_ble_eq_true rfl⟩) (et_preV hP hC [0, 1, 2, 3, 4] rfl (ci := 5) (q0 := 0) rfl rfl) rfl rfl hl.1 rfl (lv_room (Nat.le_of_ble_eq_true rfl)) dL_law_644 ⟨Nat.le_of_ble_eq_true rfl, Nat.le_of_ble_eq_true rfl⟩) ?_
  refine lv_iload hx hb dL_law_647 (lv_at hl 1 rfl) ?_
  refine lv_icmp_eq (tgt := 654) hx hb dL_law_649 (by decide) (fun _ => ?_) (fun h => absurd hpu.1 h)
  refine lv_iload hx hb dL_law_654 (lv_at hl 1 rfl) ?_
  have hend : ∀ (ls : Array Slot), lv_has ls 7 [(6, .int a), (5, .int (1 : Int32)), (4, .int (2 : Int32)), (3, .ref jq), (2, .ref md), (1, .ref x), (0, .ref b)] → W p l e room_1 s m #[Value.ref b] below meth c H locs (40 + 2) (656680 + 12) Q (F0 m 930 ls []) := fun ls hl => et_lawBack hx hb hXs hbl hbA hS hl 2 6 rfl [(4, .int (8 : Int32)), (6, .int a), (5, .int (1 : Int32)), (3, .ref jq), (2, .ref md), (1, .ref x), (0, .ref b)] rfl rfl hL (fun ls => kk H locs ls hS)
  refine lv_if_ne (tgt := 671) hx hb dL_law_656 (by decide) (fun _ => lv_goto (tgt := 930) hx hb dL_law_671 (by decide) (hend ls hl)) (fun h0 => ?_)
  exact absurd h0 (by decide)
set_option maxHeartbeats 4000000 in
theorem et_arm_moves (hA : ∀ q : Nat, s.heap.size ≤ q → A q) (hx : p.tables.exec = Jvm.exec) (hb : c.code = code) (hr : meth.sig.returnType = ret) (hlocks : meth.locks = false) (hml : c.maxLocals = 7) (hown : s.vm.findClass RL = some m.cls) (hts : ∀ w ∈ W0, w.before #[Value.ref b] s = true) (hC : et_C g s) (hX : et_TL A s) (hXs : va_X b L xs s s.heap) (hbl : b < s.heap.size) (hbA : ¬ A b) (hL : L = 8) (V : va_W) (x md jq q1 q2 q3 q4 : Nat) (fs f5 g5 : List Value) (e1 e2 e3 e4 e1n e2n e3n e4n : va_E) (he : V[0]? = some (x, .inr (4, fs))) (M : Nat × Int32) (hM : M.1 = 3) (fr lo : Nat) (hfr : fr ≤ 7) (hlo : lo ≤ 200) (hm : ∀ sz : Nat, vx_Met l yX4_moves (Cond.code yX4_moves cX4_moves 1 (some (.int)) :: W0) ({ frames := fr, cells := 2, slots := 12, locals := lo } : Room) (et_PcN g sz V [.ref x] (et_TH (va_A V sz))) (et_QT M (va_A V sz)) (et_XT M (va_A V sz)) 2 12 (va_A V sz))
    (fr5 lo5 : Nat) (hf5 : fr5 ≤ 12) (hl5 : lo5 ≤ 500) (a t : Int32) (hm5 : Met l yX5_moves (Cond.code yX5_moves cX5_moves 1 (some (.int)) :: W0) ({ frames := fr5, cells := 0, slots := 0, locals := lo5 } : Room) (et_PcW g ([(md, .inr (5, f5)), (q1, e1), (q2, e2), (q3, e3), (q4, e4)]) (.ref md :: [])) (et_QW g ([(md, .inr (5, f5)), (q1, e1), (q2, e2), (q3, e3), (q4, e4)]) ([(md, .inr (5, g5)), (q1, e1n), (q2, e2n), (q3, e3n), (q4, e4n)]) (some (.int a))) 0 0 (et_ad ([(md, .inr (5, f5)), (q1, e1), (q2, e2), (q3, e3), (q4, e4)])))
    (hmt : Met l yX5_thrown (Cond.code yX5_thrown cX5_thrown 1 (some (.int)) :: W0) ({ frames := 0, cells := 0, slots := 0, locals := 0 } : Room) (et_Pc g ([(md, .inr (5, g5)), (q1, e1n), (q2, e2n), (q3, e3n), (q4, e4n)]) [.ref md]) (et_QP (some (.int t))) 0 0 et_no)
    (hpu : t = (1 : Int32) ∧ ((1 : Int32) = 0 → ((fun _ => 0) : Nat → Int64) 0 = a.toInt64))
    (hP : va_P (gD g) vwCl ((md, .inr (5, f5)) :: (q1, e1) :: (q2, e2) :: (q3, e3) :: (q4, e4) :: (jq, .inl (gJ g, 1, .inr (.inl (fun _ => 0)))) :: V) H) (hD : va_D A ((md, .inr (5, f5)) :: (q1, e1) :: (q2, e2) :: (q3, e3) :: (q4, e4) :: (jq, .inl (gJ g, 1, .inr (.inl (fun _ => 0)))) :: V)) (hS : va_S A s.heap H locs) (hl : lv_has ls 7 [(4, .int (2 : Int32)), (3, .ref jq), (2, .ref md), (1, .ref x), (0, .ref b)])
    (kk : ∀ (H : Heap) (locs : List Loc) (ls : Array Slot), va_S A s.heap H locs → W p l e room_1 s m #[Value.ref b] below meth c H locs 42 656692 Q (F0 m 936 ls [])) : W p l e room_1 s m #[Value.ref b] below meth c H locs 40 656680 Q (F0 m 674 ls []) := by
  refine lv_aload_n hx hb dL_law_674 rfl (lv_at hl 3 rfl) ?_
  refine lv_aload_n hx hb dL_law_675 rfl (lv_at hl 1 rfl) ?_
  have hF : ∀ q, va_A ((jq, .inl (gJ g, 1, .inr (.inl (fun _ => 0)))) :: V) H.size q → A q := fun q h => by
    rcases h with ⟨k, ee, h⟩ | h
    · exact hD.2 (k + 5) (q, ee) h
    · exact hA q (Nat.le_trans hS.1 h)
  refine et_callL (vx_runSX (As := [.ref x, .ref jq]) (rest := []) ⟨hx, hb, hml, hown, hts⟩ (c_L_moves l g H.size jq (fun _ => 0) V x fs he  M hM fr lo hfr hlo (hm H.size)) (vx_cwSW 2 hts (W0_gS w_654 w_655 w_75 w_656) rfl rfl rfl (by decide +kernel) ⟨Nat.le_of_ble_eq_true rfl, Nat.le_of_ble_eq_true rfl⟩) (et_preSN hP hC hD (5 :: (List.range V.length).map (· + 6)) (et_isJn V) et_isJ et_TL.blind (fun U hU hW => hX.at hS hF U hU hW)) rfl rfl hl.1 rfl (lv_room (Nat.le_of_ble_eq_true rfl)) dL_law_676 ⟨Nat.le_of_ble_eq_true rfl, Nat.le_of_ble_eq_true rfl⟩) hP hD hS (5 :: (List.range V.length).map (· + 6)) [0, 1, 2, 3, 4] et_isJ (wr := [(md, .inr (5, f5)), (q1, e1), (q2, e2), (q3, e3), (q4, e4)]) rfl (by decide) (et_dis65 _) hF rfl (fun H locs hP hD hS => ?_)
  refine lv_istore (lv' := [(5, .int (1 : Int32)), (4, .int (2 : Int32)), (3, .ref jq), (2, .ref md), (1, .ref x), (0, .ref b)]) hx hb dL_law_679 hl (by decide) rfl (fun ls hl => ?_)
  refine lv_aload_n hx hb dL_law_681 rfl (lv_at hl 3 rfl) ?_
  refine et_callW1 (v := .int a) (va_runV (As := []) (rest := []) ⟨hx, hb, hml, hown, hts⟩ hm5 (cwV 0 hts (W0_gV w_898 w_899 w_900 w_82 w_901) rfl rfl rfl (by decide +kernel) ⟨Nat.succ_le_succ (Nat.le_trans hf5 (Nat.le_of_ble_eq_true rfl)), Nat.le_trans (Nat.add_le_add_left hl5 _) (Nat.le_of_ble_eq_true rfl)⟩) (et_preVW hP hC hD [0, 1, 2, 3, 4] (by decide) rfl (ci := 5) (q0 := 0) rfl rfl) rfl rfl hl.1 rfl (lv_room (Nat.le_of_ble_eq_true rfl)) dL_law_682 ⟨Nat.le_of_ble_eq_true rfl, Nat.le_of_ble_eq_true rfl⟩) hP hD hS [0, 1, 2, 3, 4] [5] 6 rfl [md, q1, q2, q3, q4] rfl rfl (ws' := [(md, .inr (5, g5)), (q1, e1n), (q2, e2n), (q3, e3n), (q4, e4n), (jq, .inl (gJ g, 1, .inr (.inl (fun _ => 0))))]) rfl [(jq, .inl (gJ g, 1, .inr (.inl (fun _ => 0))))] rfl rfl rfl (by decide) (fun H locs hP hD hS => ?_)
  refine lv_istore (lv' := [(6, .int a), (5, .int (1 : Int32)), (4, .int (2 : Int32)), (3, .ref jq), (2, .ref md), (1, .ref x), (0, .ref b)]) hx hb dL_law_685 hl (by decide) rfl (fun ls hl => ?_)
  refine lv_aload_n hx hb dL_law_687 rfl (lv_at hl 4 rfl) ?_
  refine et_callP1 (v := .int t) (va_runV (As := []) (rest := []) ⟨hx, hb, hml, hown, hts⟩ hmt (cwV 0 hts (W0_gV w_777 w_778 w_779 w_82 w_780) rfl rfl rfl (by decide +kernel) ⟨Nat.le_of_ble_eq_true rfl, Nat.le_of_ble_eq_true rfl⟩) (et_preV hP hC [0, 1, 2, 3, 4] rfl (ci := 5) (q0 := 0) rfl rfl) rfl rfl hl.1 rfl (lv_room (Nat.le_of_ble_eq_true rfl)) dL_law_688 ⟨Nat.le_of_ble_eq_true rfl, Nat.le_of_ble_eq_true rfl⟩) ?_
  refine lv_iload hx hb dL_law_691 (lv_at hl 1 rfl) ?_
  refine lv_icmp_eq (tgt := 698) hx hb dL_law_693 (by decide) (fun _ => ?_) (fun h => absurd hpu.1 h)
  refine lv_iload hx hb dL_law_698 (lv_at hl 1 rfl) ?_
  have hend : ∀ (ls : Array Slot), lv_has ls 7 [(6, .int a), (5, .int (1 : Int32)), (4, .int (2 : Int32)), (3, .ref jq), (2, .ref md), (1, .ref x), (0, .ref b)] → W p l e room_1 s m #[Value.ref b] below meth c H locs (40 + 2) (656680 + 12) Q (F0 m 930 ls []) := fun ls hl => et_lawBack hx hb hXs hbl hbA hS hl 2 6 rfl [(4, .int (8 : Int32)), (6, .int a), (5, .int (1 : Int32)), (3, .ref jq), (2, .ref md), (1, .ref x), (0, .ref b)] rfl rfl hL (fun ls => kk H locs ls hS)
  refine lv_if_ne (tgt := 715) hx hb dL_law_700 (by decide) (fun _ => lv_goto (tgt := 930) hx hb dL_law_715 (by decide) (hend ls hl)) (fun h0 => ?_)
  exact absurd h0 (by decide)
set_option maxHeartbeats 4000000 in
theorem et_arm_move (hA : ∀ q : Nat, s.heap.size ≤ q → A q) (hx : p.tables.exec = Jvm.exec) (hb : c.code = code) (hr : meth.sig.returnType = ret) (hlocks : meth.locks = false) (hml : c.maxLocals = 7) (hown : s.vm.findClass RL = some m.cls) (hts : ∀ w ∈ W0, w.before #[Value.ref b] s = true) (hC : et_C g s) (hX : et_TL A s) (hXs : va_X b L xs s s.heap) (hbl : b < s.heap.size) (hbA : ¬ A b) (hL : L = 8) (V : va_W) (x md jq q1 q2 q3 q4 : Nat) (fs f5 g5 : List Value) (e1 e2 e3 e4 e1n e2n e3n e4n : va_E) (he : V[0]? = some (x, .inr (4, fs))) (M : Nat × Int32) (hM : M.1 = 3) (fr lo : Nat) (hfr : fr ≤ 7) (hlo : lo ≤ 200) (hm : ∀ sz : Nat, vx_Met l yX4_move (Cond.code yX4_move cX4_move 2 (some (.int)) :: W0) ({ frames := fr, cells := 2, slots := 12, locals := lo } : Room) (et_PcN g sz V [.ref x, .int (xs 3)] (et_TH (va_A V sz))) (et_QT M (va_A V sz)) (et_XT M (va_A V sz)) 2 12 (va_A V sz))
    (fr5 lo5 : Nat) (hf5 : fr5 ≤ 12) (hl5 : lo5 ≤ 500) (a t : Int32) (hm5 : Met l yX5_move (Cond.code yX5_move cX5_move 2 (some (.int)) :: W0) ({ frames := fr5, cells := 0, slots := 0, locals := lo5 } : Room) (et_PcW g ([(md, .inr (5, f5)), (q1, e1), (q2, e2), (q3, e3), (q4, e4)]) (.ref md :: [.int (xs 3)])) (et_QW g ([(md, .inr (5, f5)), (q1, e1), (q2, e2), (q3, e3), (q4, e4)]) ([(md, .inr (5, g5)), (q1, e1n), (q2, e2n), (q3, e3n), (q4, e4n)]) (some (.int a))) 0 0 (et_ad ([(md, .inr (5, f5)), (q1, e1), (q2, e2), (q3, e3), (q4, e4)])))
    (hmt : Met l yX5_thrown (Cond.code yX5_thrown cX5_thrown 1 (some (.int)) :: W0) ({ frames := 0, cells := 0, slots := 0, locals := 0 } : Room) (et_Pc g ([(md, .inr (5, g5)), (q1, e1n), (q2, e2n), (q3, e3n), (q4, e4n)]) [.ref md]) (et_QP (some (.int t))) 0 0 et_no)
    (hpu : t = (1 : Int32) ∧ ((1 : Int32) = 0 → ((fun _ => 0) : Nat → Int64) 0 = a.toInt64))
    (hP : va_P (gD g) vwCl ((md, .inr (5, f5)) :: (q1, e1) :: (q2, e2) :: (q3, e3) :: (q4, e4) :: (jq, .inl (gJ g, 1, .inr (.inl (fun _ => 0)))) :: V) H) (hD : va_D A ((md, .inr (5, f5)) :: (q1, e1) :: (q2, e2) :: (q3, e3) :: (q4, e4) :: (jq, .inl (gJ g, 1, .inr (.inl (fun _ => 0)))) :: V)) (hS : va_S A s.heap H locs) (hl : lv_has ls 7 [(4, .int (2 : Int32)), (3, .ref jq), (2, .ref md), (1, .ref x), (0, .ref b)])
    (kk : ∀ (H : Heap) (locs : List Loc) (ls : Array Slot), va_S A s.heap H locs → W p l e room_1 s m #[Value.ref b] below meth c H locs 42 656692 Q (F0 m 936 ls [])) : W p l e room_1 s m #[Value.ref b] below meth c H locs 40 656680 Q (F0 m 718 ls []) := by
  refine lv_aload_n hx hb dL_law_718 rfl (lv_at hl 3 rfl) ?_
  refine et_ld (v := (1 : Int32)) (j := 3) hx hb hXs hbl hbA hS hl 0 4 rfl rfl hL (by decide) (by unfold vp_in; decide) (by decide) dL_law_719 dL_law_720 dL_law_722 dL_law_723 dL_law_724 ?_
  refine lv_aload_n hx hb dL_law_725 rfl (lv_at hl 1 rfl) ?_
  have hF : ∀ q, va_A ((jq, .inl (gJ g, 1, .inr (.inl (fun _ => 0)))) :: V) H.size q → A q := fun q h => by
    rcases h with ⟨k, ee, h⟩ | h
    · exact hD.2 (k + 5) (q, ee) h
    · exact hA q (Nat.le_trans hS.1 h)
  refine et_callL (vx_runSX (As := [.ref x, .int (xs 3), .ref jq]) (rest := []) ⟨hx, hb, hml, hown, hts⟩ (c_L_move l g H.size jq (fun _ => 0) V x fs he (xs 3) M hM fr lo hfr hlo (hm H.size)) (vx_cwSW 3 hts (W0_gS w_661 w_662 w_75 w_663) rfl rfl rfl (by decide +kernel) ⟨Nat.le_of_ble_eq_true rfl, Nat.le_of_ble_eq_true rfl⟩) (et_preSN hP hC hD (5 :: (List.range V.length).map (· + 6)) (et_isJn V) et_isJ et_TL.blind (fun U hU hW => hX.at hS hF U hU hW)) rfl rfl hl.1 rfl (lv_room (Nat.le_of_ble_eq_true rfl)) dL_law_726 ⟨Nat.le_of_ble_eq_true rfl, Nat.le_of_ble_eq_true rfl⟩) hP hD hS (5 :: (List.range V.length).map (· + 6)) [0, 1, 2, 3, 4] et_isJ (wr := [(md, .inr (5, f5)), (q1, e1), (q2, e2), (q3, e3), (q4, e4)]) rfl (by decide) (et_dis65 _) hF rfl (fun H locs hP hD hS => ?_)
  refine lv_istore (lv' := [(5, .int (1 : Int32)), (4, .int (2 : Int32)), (3, .ref jq), (2, .ref md), (1, .ref x), (0, .ref b)]) hx hb dL_law_729 hl (by decide) rfl (fun ls hl => ?_)
  refine lv_aload_n hx hb dL_law_731 rfl (lv_at hl 3 rfl) ?_
  refine et_ld (v := (1 : Int32)) (j := 3) hx hb hXs hbl hbA hS hl 1 5 rfl rfl hL (by decide) (by unfold vp_in; decide) (by decide) dL_law_732 dL_law_733 dL_law_735 dL_law_736 dL_law_737 ?_
  refine et_callW1 (v := .int a) (va_runV (As := [.int (xs 3)]) (rest := []) ⟨hx, hb, hml, hown, hts⟩ hm5 (cwV 1 hts (W0_gV w_918 w_919 w_920 w_82 w_921) rfl rfl rfl (by decide +kernel) ⟨Nat.succ_le_succ (Nat.le_trans hf5 (Nat.le_of_ble_eq_true rfl)), Nat.le_trans (Nat.add_le_add_left hl5 _) (Nat.le_of_ble_eq_true rfl)⟩) (et_preVW hP hC hD [0, 1, 2, 3, 4] (by decide) rfl (ci := 5) (q0 := 0) rfl rfl) rfl rfl hl.1 rfl (lv_room (Nat.le_of_ble_eq_true rfl)) dL_law_738 ⟨Nat.le_of_ble_eq_true rfl, Nat.le_of_ble_eq_true rfl⟩) hP hD hS [0, 1, 2, 3, 4] [5] 6 rfl [md, q1, q2, q3, q4] rfl rfl (ws' := [(md, .inr (5, g5)), (q1, e1n), (q2, e2n), (q3, e3n), (q4, e4n), (jq, .inl (gJ g, 1, .inr (.inl (fun _ => 0))))]) rfl [(jq, .inl (gJ g, 1, .inr (.inl (fun _ => 0))))] rfl rfl rfl (by decide) (fun H locs hP hD hS => ?_)
  refine lv_istore (lv' := [(6, .int a), (5, .int (1 : Int32)), (4, .int (2 : Int32)), (3, .ref jq), (2, .ref md), (1, .ref x), (0, .ref b)]) hx hb dL_law_741 hl (by decide) rfl (fun ls hl => ?_)
  refine lv_aload_n hx hb dL_law_743 rfl (lv_at hl 4 rfl) ?_
  refine et_callP1 (v := .int t) (va_runV (As := []) (rest := []) ⟨hx, hb, hml, hown, hts⟩ hmt (cwV 0 hts (W0_gV w_777 w_778 w_779 w_82 w_780) rfl rfl rfl (by decide +kernel) ⟨Nat.le_of_ble_eq_true rfl, Nat.le_of_ble_eq_true rfl⟩) (et_preV hP hC [0, 1, 2, 3, 4] rfl (ci := 5) (q0 := 0) rfl rfl) rfl rfl hl.1 rfl (lv_room (Nat.le_of_ble_eq_true rfl)) dL_law_744 ⟨Nat.le_of_ble_eq_true rfl, Nat.le_of_ble_eq_true rfl⟩) ?_
  refine lv_iload hx hb dL_law_747 (lv_at hl 1 rfl) ?_
  refine lv_icmp_eq (tgt := 754) hx hb dL_law_749 (by decide) (fun _ => ?_) (fun h => absurd hpu.1 h)
  refine lv_iload hx hb dL_law_754 (lv_at hl 1 rfl) ?_
  have hend : ∀ (ls : Array Slot), lv_has ls 7 [(6, .int a), (5, .int (1 : Int32)), (4, .int (2 : Int32)), (3, .ref jq), (2, .ref md), (1, .ref x), (0, .ref b)] → W p l e room_1 s m #[Value.ref b] below meth c H locs (40 + 2) (656680 + 12) Q (F0 m 930 ls []) := fun ls hl => et_lawBack hx hb hXs hbl hbA hS hl 2 6 rfl [(4, .int (8 : Int32)), (6, .int a), (5, .int (1 : Int32)), (3, .ref jq), (2, .ref md), (1, .ref x), (0, .ref b)] rfl rfl hL (fun ls => kk H locs ls hS)
  refine lv_if_ne (tgt := 771) hx hb dL_law_756 (by decide) (fun _ => lv_goto (tgt := 930) hx hb dL_law_771 (by decide) (hend ls hl)) (fun h0 => ?_)
  exact absurd h0 (by decide)
set_option maxHeartbeats 4000000 in
theorem et_arm_best (hA : ∀ q : Nat, s.heap.size ≤ q → A q) (hx : p.tables.exec = Jvm.exec) (hb : c.code = code) (hr : meth.sig.returnType = ret) (hlocks : meth.locks = false) (hml : c.maxLocals = 7) (hown : s.vm.findClass RL = some m.cls) (hts : ∀ w ∈ W0, w.before #[Value.ref b] s = true) (hC : et_C g s) (hX : et_TL A s) (hXs : va_X b L xs s s.heap) (hbl : b < s.heap.size) (hbA : ¬ A b) (hL : L = 8) (V : va_W) (x md jq q1 q2 q3 q4 : Nat) (fs f5 g5 : List Value) (e1 e2 e3 e4 e1n e2n e3n e4n : va_E) (he : V[0]? = some (x, .inr (4, fs))) (M : Nat × Int32) (hM : M.1 = 3) (fr lo : Nat) (hfr : fr ≤ 7) (hlo : lo ≤ 200) (hm : ∀ sz : Nat, vx_Met l yX4_best (Cond.code yX4_best cX4_best 1 (some (.int)) :: W0) ({ frames := fr, cells := 2, slots := 12, locals := lo } : Room) (et_PcN g sz V [.ref x] (et_TH (va_A V sz))) (et_QT M (va_A V sz)) (et_XT M (va_A V sz)) 2 12 (va_A V sz))
    (fr5 lo5 : Nat) (hf5 : fr5 ≤ 12) (hl5 : lo5 ≤ 500) (a t : Int32) (hm5 : Met l yX5_best (Cond.code yX5_best cX5_best 1 (some (.int)) :: W0) ({ frames := fr5, cells := 0, slots := 0, locals := lo5 } : Room) (et_PcW g ([(md, .inr (5, f5)), (q1, e1), (q2, e2), (q3, e3), (q4, e4)]) (.ref md :: [])) (et_QW g ([(md, .inr (5, f5)), (q1, e1), (q2, e2), (q3, e3), (q4, e4)]) ([(md, .inr (5, g5)), (q1, e1n), (q2, e2n), (q3, e3n), (q4, e4n)]) (some (.int a))) 0 0 (et_ad ([(md, .inr (5, f5)), (q1, e1), (q2, e2), (q3, e3), (q4, e4)])))
    (hmt : Met l yX5_thrown (Cond.code yX5_thrown cX5_thrown 1 (some (.int)) :: W0) ({ frames := 0, cells := 0, slots := 0, locals := 0 } : Room) (et_Pc g ([(md, .inr (5, g5)), (q1, e1n), (q2, e2n), (q3, e3n), (q4, e4n)]) [.ref md]) (et_QP (some (.int t))) 0 0 et_no)
    (hpu : t = (1 : Int32) ∧ ((1 : Int32) = 0 → ((fun _ => 0) : Nat → Int64) 0 = a.toInt64))
    (hP : va_P (gD g) vwCl ((md, .inr (5, f5)) :: (q1, e1) :: (q2, e2) :: (q3, e3) :: (q4, e4) :: (jq, .inl (gJ g, 1, .inr (.inl (fun _ => 0)))) :: V) H) (hD : va_D A ((md, .inr (5, f5)) :: (q1, e1) :: (q2, e2) :: (q3, e3) :: (q4, e4) :: (jq, .inl (gJ g, 1, .inr (.inl (fun _ => 0)))) :: V)) (hS : va_S A s.heap H locs) (hl : lv_has ls 7 [(4, .int (2 : Int32)), (3, .ref jq), (2, .ref md), (1, .ref x), (0, .ref b)])
    (kk : ∀ (H : Heap) (locs : List Loc) (ls : Array Slot), va_S A s.heap H locs → W p l e room_1 s m #[Value.ref b] below meth c H locs 42 656692 Q (F0 m 936 ls [])) : W p l e room_1 s m #[Value.ref b] below meth c H locs 40 656680 Q (F0 m 774 ls []) := by
  refine lv_aload_n hx hb dL_law_774 rfl (lv_at hl 3 rfl) ?_
  refine lv_aload_n hx hb dL_law_775 rfl (lv_at hl 1 rfl) ?_
  have hF : ∀ q, va_A ((jq, .inl (gJ g, 1, .inr (.inl (fun _ => 0)))) :: V) H.size q → A q := fun q h => by
    rcases h with ⟨k, ee, h⟩ | h
    · exact hD.2 (k + 5) (q, ee) h
    · exact hA q (Nat.le_trans hS.1 h)
  refine et_callL (vx_runSX (As := [.ref x, .ref jq]) (rest := []) ⟨hx, hb, hml, hown, hts⟩ (c_L_best l g H.size jq (fun _ => 0) V x fs he  M hM fr lo hfr hlo (hm H.size)) (vx_cwSW 2 hts (W0_gS w_673 w_674 w_75 w_675) rfl rfl rfl (by decide +kernel) ⟨Nat.le_of_ble_eq_true rfl, Nat.le_of_ble_eq_true rfl⟩) (et_preSN hP hC hD (5 :: (List.range V.length).map (· + 6)) (et_isJn V) et_isJ et_TL.blind (fun U hU hW => hX.at hS hF U hU hW)) rfl rfl hl.1 rfl (lv_room (Nat.le_of_ble_eq_true rfl)) dL_law_776 ⟨Nat.le_of_ble_eq_true rfl, Nat.le_of_ble_eq_true rfl⟩) hP hD hS (5 :: (List.range V.length).map (· + 6)) [0, 1, 2, 3, 4] et_isJ (wr := [(md, .inr (5, f5)), (q1, e1), (q2, e2), (q3, e3), (q4, e4)]) rfl (by decide) (et_dis65 _) hF rfl (fun H locs hP hD hS => ?_)
  refine lv_istore (lv' := [(5, .int (1 : Int32)), (4, .int (2 : Int32)), (3, .ref jq), (2, .ref md), (1, .ref x), (0, .ref b)]) hx hb dL_law_779 hl (by decide) rfl (fun ls hl => ?_)
  refine lv_aload_n hx hb dL_law_781 rfl (lv_at hl 3 rfl) ?_
  refine et_callW1 (v := .int a) (va_runV (As := []) (rest := []) ⟨hx, hb, hml, hown, hts⟩ hm5 (cwV 0 hts (W0_gV w_922 w_923 w_924 w_82 w_925) rfl rfl rfl (by decide +kernel) ⟨Nat.succ_le_succ (Nat.le_trans hf5 (Nat.le_of_ble_eq_true rfl)), Nat.le_trans (Nat.add_le_add_left hl5 _) (Nat.le_of_ble_eq_true rfl)⟩) (et_preVW hP hC hD [0, 1, 2, 3, 4] (by decide) rfl (ci := 5) (q0 := 0) rfl rfl) rfl rfl hl.1 rfl (lv_room (Nat.le_of_ble_eq_true rfl)) dL_law_782 ⟨Nat.le_of_ble_eq_true rfl, Nat.le_of_ble_eq_true rfl⟩) hP hD hS [0, 1, 2, 3, 4] [5] 6 rfl [md, q1, q2, q3, q4] rfl rfl (ws' := [(md, .inr (5, g5)), (q1, e1n), (q2, e2n), (q3, e3n), (q4, e4n), (jq, .inl (gJ g, 1, .inr (.inl (fun _ => 0))))]) rfl [(jq, .inl (gJ g, 1, .inr (.inl (fun _ => 0))))] rfl rfl rfl (by decide) (fun H locs hP hD hS => ?_)
  refine lv_istore (lv' := [(6, .int a), (5, .int (1 : Int32)), (4, .int (2 : Int32)), (3, .ref jq), (2, .ref md), (1, .ref x), (0, .ref b)]) hx hb dL_law_785 hl (by decide) rfl (fun ls hl => ?_)
  refine lv_aload_n hx hb dL_law_787 rfl (lv_at hl 4 rfl) ?_
  refine et_callP1 (v := .int t) (va_runV (As := []) (rest := []) ⟨hx, hb, hml, hown, hts⟩ hmt (cwV 0 hts (W0_gV w_777 w_778 w_779 w_82 w_780) rfl rfl rfl (by decide +kernel) ⟨Nat.le_of_ble_eq_true rfl, Nat.le_of_ble_eq_true rfl⟩) (et_preV hP hC [0, 1, 2, 3, 4] rfl (ci := 5) (q0 := 0) rfl rfl) rfl rfl hl.1 rfl (lv_room (Nat.le_of_ble_eq_true rfl)) dL_law_788 ⟨Nat.le_of_ble_eq_true rfl, Nat.le_of_ble_eq_true rfl⟩) ?_
  refine lv_iload hx hb dL_law_791 (lv_at hl 1 rfl) ?_
  refine lv_icmp_eq (tgt := 798) hx hb dL_law_793 (by decide) (fun _ => ?_) (fun h => absurd hpu.1 h)
  refine lv_iload hx hb dL_law_798 (lv_at hl 1 rfl) ?_
  have hend : ∀ (ls : Array Slot), lv_has ls 7 [(6, .int a), (5, .int (1 : Int32)), (4, .int (2 : Int32)), (3, .ref jq), (2, .ref md), (1, .ref x), (0, .ref b)] → W p l e room_1 s m #[Value.ref b] below meth c H locs (40 + 2) (656680 + 12) Q (F0 m 930 ls []) := fun ls hl => et_lawBack hx hb hXs hbl hbA hS hl 2 6 rfl [(4, .int (8 : Int32)), (6, .int a), (5, .int (1 : Int32)), (3, .ref jq), (2, .ref md), (1, .ref x), (0, .ref b)] rfl rfl hL (fun ls => kk H locs ls hS)
  refine lv_if_ne (tgt := 815) hx hb dL_law_800 (by decide) (fun _ => lv_goto (tgt := 930) hx hb dL_law_815 (by decide) (hend ls hl)) (fun h0 => ?_)
  exact absurd h0 (by decide)
set_option maxHeartbeats 4000000 in
theorem et_arm_play (hA : ∀ q : Nat, s.heap.size ≤ q → A q) (hx : p.tables.exec = Jvm.exec) (hb : c.code = code) (hr : meth.sig.returnType = ret) (hlocks : meth.locks = false) (hml : c.maxLocals = 7) (hown : s.vm.findClass RL = some m.cls) (hts : ∀ w ∈ W0, w.before #[Value.ref b] s = true) (hC : et_C g s) (hX : et_TL A s) (hXs : va_X b L xs s s.heap) (hbl : b < s.heap.size) (hbA : ¬ A b) (hL : L = 8) (V : va_W) (x md jq q1 q2 q3 q4 : Nat) (fs f5 g5 : List Value) (e1 e2 e3 e4 e1n e2n e3n e4n : va_E) (he : V[0]? = some (x, .inr (4, fs))) (M : Nat × Int32) (hM : M.1 = 3) (fr lo : Nat) (hfr : fr ≤ 7) (hlo : lo ≤ 200) (hm : ∀ sz : Nat, vx_Met l yX4_play (Cond.code yX4_play cX4_play 2 (some (.int)) :: W0) ({ frames := fr, cells := 2, slots := 12, locals := lo } : Room) (et_PcN g sz V [.ref x, .int (xs 3)] (et_TH (va_A V sz))) (et_QT M (va_A V sz)) (et_XT M (va_A V sz)) 2 12 (va_A V sz))
    (fr5 lo5 : Nat) (hf5 : fr5 ≤ 12) (hl5 : lo5 ≤ 500) (a t : Int32) (hm5 : Met l yX5_play (Cond.code yX5_play cX5_play 4 (some (.int)) :: W0) ({ frames := fr5, cells := 0, slots := 0, locals := lo5 } : Room) (et_PcW g ([(md, .inr (5, f5)), (q1, e1), (q2, e2), (q3, e3), (q4, e4)]) (.ref md :: [.int (xs 3)])) (et_QW g ([(md, .inr (5, f5)), (q1, e1), (q2, e2), (q3, e3), (q4, e4)]) ([(md, .inr (5, g5)), (q1, e1n), (q2, e2n), (q3, e3n), (q4, e4n)]) (some (.int a))) 0 0 (et_ad ([(md, .inr (5, f5)), (q1, e1), (q2, e2), (q3, e3), (q4, e4)])))
    (hmt : Met l yX5_thrown (Cond.code yX5_thrown cX5_thrown 1 (some (.int)) :: W0) ({ frames := 0, cells := 0, slots := 0, locals := 0 } : Room) (et_Pc g ([(md, .inr (5, g5)), (q1, e1n), (q2, e2n), (q3, e3n), (q4, e4n)]) [.ref md]) (et_QP (some (.int t))) 0 0 et_no)
    (hpu : t = (1 : Int32) ∧ ((1 : Int32) = 0 → ((fun _ => 0) : Nat → Int64) 0 = a.toInt64))
    (hP : va_P (gD g) vwCl ((md, .inr (5, f5)) :: (q1, e1) :: (q2, e2) :: (q3, e3) :: (q4, e4) :: (jq, .inl (gJ g, 1, .inr (.inl (fun _ => 0)))) :: V) H) (hD : va_D A ((md, .inr (5, f5)) :: (q1, e1) :: (q2, e2) :: (q3, e3) :: (q4, e4) :: (jq, .inl (gJ g, 1, .inr (.inl (fun _ => 0)))) :: V)) (hS : va_S A s.heap H locs) (hl : lv_has ls 7 [(4, .int (2 : Int32)), (3, .ref jq), (2, .ref md), (1, .ref x), (0, .ref b)])
    (kk : ∀ (H : Heap) (locs : List Loc) (ls : Array Slot), va_S A s.heap H locs → W p l e room_1 s m #[Value.ref b] below meth c H locs 42 656692 Q (F0 m 936 ls [])) : W p l e room_1 s m #[Value.ref b] below meth c H locs 40 656680 Q (F0 m 818 ls []) := by
  refine lv_aload_n hx hb dL_law_818 rfl (lv_at hl 3 rfl) ?_
  refine et_ld (v := (1 : Int32)) (j := 3) hx hb hXs hbl hbA hS hl 0 4 rfl rfl hL (by decide) (by unfold vp_in; decide) (by decide) dL_law_819 dL_law_820 dL_law_822 dL_law_823 dL_law_824 ?_
  refine lv_aload_n hx hb dL_law_825 rfl (lv_at hl 1 rfl) ?_
  have hF : ∀ q, va_A ((jq, .inl (gJ g, 1, .inr (.inl (fun _ => 0)))) :: V) H.size q → A q := fun q h => by
    rcases h with ⟨k, ee, h⟩ | h
    · exact hD.2 (k + 5) (q, ee) h
    · exact hA q (Nat.le_trans hS.1 h)
  refine et_callL (vx_runSX (As := [.ref x, .int (xs 3), .ref jq]) (rest := []) ⟨hx, hb, hml, hown, hts⟩ (c_L_play l g H.size jq (fun _ => 0) V x fs he (xs 3) M hM fr lo hfr hlo (hm H.size)) (vx_cwSW 3 hts (W0_gS w_701 w_702 w_75 w_703) rfl rfl rfl (by decide +kernel) ⟨Nat.le_of_ble_eq_true rfl, Nat.le_of_ble_eq_true rfl⟩) (et_preSN hP hC hD (5 :: (List.range V.length).map (· + 6)) (et_isJn V) et_isJ et_TL.blind (fun U hU hW => hX.at hS hF U hU hW)) rfl rfl hl.1 rfl (lv_room (Nat.le_of_ble_eq_true rfl)) dL_law_826 ⟨Nat.le_of_ble_eq_true rfl, Nat.le_of_ble_eq_true rfl⟩) hP hD hS (5 :: (List.range V.length).map (· + 6)) [0, 1, 2, 3, 4] et_isJ (wr := [(md, .inr (5, f5)), (q1, e1), (q2, e2), (q3, e3), (q4, e4)]) rfl (by decide) (et_dis65 _) hF rfl (fun H locs hP hD hS => ?_)
  refine lv_istore (lv' := [(5, .int (1 : Int32)), (4, .int (2 : Int32)), (3, .ref jq), (2, .ref md), (1, .ref x), (0, .ref b)]) hx hb dL_law_829 hl (by decide) rfl (fun ls hl => ?_)
  refine lv_aload_n hx hb dL_law_831 rfl (lv_at hl 3 rfl) ?_
  refine et_ld (v := (1 : Int32)) (j := 3) hx hb hXs hbl hbA hS hl 1 5 rfl rfl hL (by decide) (by unfold vp_in; decide) (by decide) dL_law_832 dL_law_833 dL_law_835 dL_law_836 dL_law_837 ?_
  refine et_callW1 (v := .int a) (va_runV (As := [.int (xs 3)]) (rest := []) ⟨hx, hb, hml, hown, hts⟩ hm5 (cwV 1 hts (W0_gV w_934 w_935 w_936 w_82 w_937) rfl rfl rfl (by decide +kernel) ⟨Nat.succ_le_succ (Nat.le_trans hf5 (Nat.le_of_ble_eq_true rfl)), Nat.le_trans (Nat.add_le_add_left hl5 _) (Nat.le_of_ble_eq_true rfl)⟩) (et_preVW hP hC hD [0, 1, 2, 3, 4] (by decide) rfl (ci := 5) (q0 := 0) rfl rfl) rfl rfl hl.1 rfl (lv_room (Nat.le_of_ble_eq_true rfl)) dL_law_838 ⟨Nat.le_of_ble_eq_true rfl, Nat.le_of_ble_eq_true rfl⟩) hP hD hS [0, 1, 2, 3, 4] [5] 6 rfl [md, q1, q2, q3, q4] rfl rfl (ws' := [(md, .inr (5, g5)), (q1, e1n), (q2, e2n), (q3, e3n), (q4, e4n), (jq, .inl (gJ g, 1, .inr (.inl (fun _ => 0))))]) rfl [(jq, .inl (gJ g, 1, .inr (.inl (fun _ => 0))))] rfl rfl rfl (by decide) (fun H locs hP hD hS => ?_)
  refine lv_istore (lv' := [(6, .int a), (5, .int (1 : Int32)), (4, .int (2 : Int32)), (3, .ref jq), (2, .ref md), (1, .ref x), (0, .ref b)]) hx hb dL_law_841 hl (by decide) rfl (fun ls hl => ?_)
  refine lv_aload_n hx hb dL_law_843 rfl (lv_at hl 4 rfl) ?_
  refine et_callP1 (v := .int t) (va_runV (As := []) (rest := []) ⟨hx, hb, hml, hown, hts⟩ hmt (cwV 0 hts (W0_gV w_777 w_778 w_779 w_82 w_780) rfl rfl rfl (by decide +kernel) ⟨Nat.le_of_ble_eq_true rfl, Nat.le_of_ble_eq_true rfl⟩) (et_preV hP hC [0, 1, 2, 3, 4] rfl (ci := 5) (q0 := 0) rfl rfl) rfl rfl hl.1 rfl (lv_room (Nat.le_of_ble_eq_true rfl)) dL_law_844 ⟨Nat.le_of_ble_eq_true rfl, Nat.le_of_ble_eq_true rfl⟩) ?_
  refine lv_iload hx hb dL_law_847 (lv_at hl 1 rfl) ?_
  refine lv_icmp_eq (tgt := 854) hx hb dL_law_849 (by decide) (fun _ => ?_) (fun h => absurd hpu.1 h)
  refine lv_iload hx hb dL_law_854 (lv_at hl 1 rfl) ?_
  have hend : ∀ (ls : Array Slot), lv_has ls 7 [(6, .int a), (5, .int (1 : Int32)), (4, .int (2 : Int32)), (3, .ref jq), (2, .ref md), (1, .ref x), (0, .ref b)] → W p l e room_1 s m #[Value.ref b] below meth c H locs (40 + 2) (656680 + 12) Q (F0 m 930 ls []) := fun ls hl => et_lawBack hx hb hXs hbl hbA hS hl 2 6 rfl [(4, .int (8 : Int32)), (6, .int a), (5, .int (1 : Int32)), (3, .ref jq), (2, .ref md), (1, .ref x), (0, .ref b)] rfl rfl hL (fun ls => kk H locs ls hS)
  refine lv_if_ne (tgt := 871) hx hb dL_law_856 (by decide) (fun _ => lv_goto (tgt := 930) hx hb dL_law_871 (by decide) (hend ls hl)) (fun h0 => ?_)
  exact absurd h0 (by decide)
set_option maxHeartbeats 4000000 in
theorem et_arm_run (hA : ∀ q : Nat, s.heap.size ≤ q → A q) (hx : p.tables.exec = Jvm.exec) (hb : c.code = code) (hr : meth.sig.returnType = ret) (hlocks : meth.locks = false) (hml : c.maxLocals = 7) (hown : s.vm.findClass RL = some m.cls) (hts : ∀ w ∈ W0, w.before #[Value.ref b] s = true) (hC : et_C g s) (hX : et_TL A s) (hXs : va_X b L xs s s.heap) (hbl : b < s.heap.size) (hbA : ¬ A b) (hL : L = 8) (V : va_W) (x md jq q1 q2 q3 q4 : Nat) (fs f5 g5 : List Value) (e1 e2 e3 e4 e1n e2n e3n e4n : va_E) (he : V[0]? = some (x, .inr (4, fs))) (M : Nat × Int32) (hM : M.1 = 3) (fr lo : Nat) (hfr : fr ≤ 7) (hlo : lo ≤ 200) (hm : ∀ sz : Nat, vx_Met l yX4_run (Cond.code yX4_run cX4_run 3 (some (.int)) :: W0) ({ frames := fr, cells := 2, slots := 12, locals := lo } : Room) (et_PcN g sz V [.ref x, .int (xs 3)] (et_TH (va_A V sz))) (et_QT M (va_A V sz)) (et_XT M (va_A V sz)) 2 12 (va_A V sz))
    (fr5 lo5 : Nat) (hf5 : fr5 ≤ 12) (hl5 : lo5 ≤ 500) (a t : Int32) (hm5 : Met l yX5_run (Cond.code yX5_run cX5_run 3 (some (.int)) :: W0) ({ frames := fr5, cells := 0, slots := 0, locals := lo5 } : Room) (et_PcW g ([(md, .inr (5, f5)), (q1, e1), (q2, e2), (q3, e3), (q4, e4)]) (.ref md :: [.int (xs 3)])) (et_QW g ([(md, .inr (5, f5)), (q1, e1), (q2, e2), (q3, e3), (q4, e4)]) ([(md, .inr (5, g5)), (q1, e1n), (q2, e2n), (q3, e3n), (q4, e4n)]) (some (.int a))) 0 0 (et_ad ([(md, .inr (5, f5)), (q1, e1), (q2, e2), (q3, e3), (q4, e4)])))
    (hmt : Met l yX5_thrown (Cond.code yX5_thrown cX5_thrown 1 (some (.int)) :: W0) ({ frames := 0, cells := 0, slots := 0, locals := 0 } : Room) (et_Pc g ([(md, .inr (5, g5)), (q1, e1n), (q2, e2n), (q3, e3n), (q4, e4n)]) [.ref md]) (et_QP (some (.int t))) 0 0 et_no)
    (hpu : t = (1 : Int32) ∧ ((1 : Int32) = 0 → ((fun _ => 0) : Nat → Int64) 0 = a.toInt64))
    (hP : va_P (gD g) vwCl ((md, .inr (5, f5)) :: (q1, e1) :: (q2, e2) :: (q3, e3) :: (q4, e4) :: (jq, .inl (gJ g, 1, .inr (.inl (fun _ => 0)))) :: V) H) (hD : va_D A ((md, .inr (5, f5)) :: (q1, e1) :: (q2, e2) :: (q3, e3) :: (q4, e4) :: (jq, .inl (gJ g, 1, .inr (.inl (fun _ => 0)))) :: V)) (hS : va_S A s.heap H locs) (hl : lv_has ls 7 [(4, .int (2 : Int32)), (3, .ref jq), (2, .ref md), (1, .ref x), (0, .ref b)])
    (kk : ∀ (H : Heap) (locs : List Loc) (ls : Array Slot), va_S A s.heap H locs → W p l e room_1 s m #[Value.ref b] below meth c H locs 42 656692 Q (F0 m 936 ls [])) : W p l e room_1 s m #[Value.ref b] below meth c H locs 40 656680 Q (F0 m 874 ls []) := by
  refine lv_aload_n hx hb dL_law_874 rfl (lv_at hl 3 rfl) ?_
  refine et_ld (v := (1 : Int32)) (j := 3) hx hb hXs hbl hbA hS hl 0 4 rfl rfl hL (by decide) (by unfold vp_in; decide) (by decide) dL_law_875 dL_law_876 dL_law_878 dL_law_879 dL_law_880 ?_
  refine lv_aload_n hx hb dL_law_881 rfl (lv_at hl 1 rfl) ?_
  have hF : ∀ q, va_A ((jq, .inl (gJ g, 1, .inr (.inl (fun _ => 0)))) :: V) H.size q → A q := fun q h => by
    rcases h with ⟨k, ee, h⟩ | h
    · exact hD.2 (k + 5) (q, ee) h
    · exact hA q (Nat.le_trans hS.1 h)
  refine et_callL (vx_runSX (As := [.ref x, .int (xs 3), .ref jq]) (rest := []) ⟨hx, hb, hml, hown, hts⟩ (c_L_run l g H.size jq (fun _ => 0) V x fs he (xs 3) M hM fr lo hfr hlo (hm H.size)) (vx_cwSW 3 hts (W0_gS w_718 w_719 w_75 w_720) rfl rfl rfl (by decide +kernel) ⟨Nat.le_of_ble_eq_true rfl, Nat.le_of_ble_eq_true rfl⟩) (et_preSN hP hC hD (5 :: (List.range V.length).map (· + 6)) (et_isJn V) et_isJ et_TL.blind (fun U hU hW => hX.at hS hF U hU hW)) rfl rfl hl.1 rfl (lv_room (Nat.le_of_ble_eq_true rfl)) dL_law_882 ⟨Nat.le_of_ble_eq_true rfl, Nat.le_of_ble_eq_true rfl⟩) hP hD hS (5 :: (List.range V.length).map (· + 6)) [0, 1, 2, 3, 4] et_isJ (wr := [(md, .inr (5, f5)), (q1, e1), (q2, e2), (q3, e3), (q4, e4)]) rfl (by decide) (et_dis65 _) hF rfl (fun H locs hP hD hS => ?_)
  refine lv_istore (lv' := [(5, .int (1 : Int32)), (4, .int (2 : Int32)), (3, .ref jq), (2, .ref md), (1, .ref x), (0, .ref b)]) hx hb dL_law_885 hl (by decide) rfl (fun ls hl => ?_)
  refine lv_aload_n hx hb dL_law_887 rfl (lv_at hl 3 rfl) ?_
  refine et_ld (v := (1 : Int32)) (j := 3) hx hb hXs hbl hbA hS hl 1 5 rfl rfl hL (by decide) (by unfold vp_in; decide) (by decide) dL_law_888 dL_law_889 dL_law_891 dL_law_892 dL_law_893 ?_
  refine et_callW1 (v := .int a) (va_runV (As := [.int (xs 3)]) (rest := []) ⟨hx, hb, hml, hown, hts⟩ hm5 (cwV 1 hts (W0_gV w_942 w_943 w_944 w_82 w_945) rfl rfl rfl (by decide +kernel) ⟨Nat.succ_le_succ (Nat.le_trans hf5 (Nat.le_of_ble_eq_true rfl)), Nat.le_trans (Nat.add_le_add_left hl5 _) (Nat.le_of_ble_eq_true rfl)⟩) (et_preVW hP hC hD [0, 1, 2, 3, 4] (by decide) rfl (ci := 5) (q0 := 0) rfl rfl) rfl rfl hl.1 rfl (lv_room (Nat.le_of_ble_eq_true rfl)) dL_law_894 ⟨Nat.le_of_ble_eq_true rfl, Nat.le_of_ble_eq_true rfl⟩) hP hD hS [0, 1, 2, 3, 4] [5] 6 rfl [md, q1, q2, q3, q4] rfl rfl (ws' := [(md, .inr (5, g5)), (q1, e1n), (q2, e2n), (q3, e3n), (q4, e4n), (jq, .inl (gJ g, 1, .inr (.inl (fun _ => 0))))]) rfl [(jq, .inl (gJ g, 1, .inr (.inl (fun _ => 0))))] rfl rfl rfl (by decide) (fun H locs hP hD hS => ?_)
  refine lv_istore (lv' := [(6, .int a), (5, .int (1 : Int32)), (4, .int (2 : Int32)), (3, .ref jq), (2, .ref md), (1, .ref x), (0, .ref b)]) hx hb dL_law_897 hl (by decide) rfl (fun ls hl => ?_)
  refine lv_aload_n hx hb dL_law_899 rfl (lv_at hl 4 rfl) ?_
  refine et_callP1 (v := .int t) (va_runV (As := []) (rest := []) ⟨hx, hb, hml, hown, hts⟩ hmt (cwV 0 hts (W0_gV w_777 w_778 w_779 w_82 w_780) rfl rfl rfl (by decide +kernel) ⟨Nat.le_of_ble_eq_true rfl, Nat.le_of_ble_eq_true rfl⟩) (et_preV hP hC [0, 1, 2, 3, 4] rfl (ci := 5) (q0 := 0) rfl rfl) rfl rfl hl.1 rfl (lv_room (Nat.le_of_ble_eq_true rfl)) dL_law_900 ⟨Nat.le_of_ble_eq_true rfl, Nat.le_of_ble_eq_true rfl⟩) ?_
  refine lv_iload hx hb dL_law_903 (lv_at hl 1 rfl) ?_
  refine lv_icmp_eq (tgt := 910) hx hb dL_law_905 (by decide) (fun _ => ?_) (fun h => absurd hpu.1 h)
  refine lv_iload hx hb dL_law_910 (lv_at hl 1 rfl) ?_
  have hend : ∀ (ls : Array Slot), lv_has ls 7 [(6, .int a), (5, .int (1 : Int32)), (4, .int (2 : Int32)), (3, .ref jq), (2, .ref md), (1, .ref x), (0, .ref b)] → W p l e room_1 s m #[Value.ref b] below meth c H locs (40 + 2) (656680 + 12) Q (F0 m 930 ls []) := fun ls hl => et_lawBack hx hb hXs hbl hbA hS hl 2 6 rfl [(4, .int (8 : Int32)), (6, .int a), (5, .int (1 : Int32)), (3, .ref jq), (2, .ref md), (1, .ref x), (0, .ref b)] rfl rfl hL (fun ls => kk H locs ls hS)
  refine lv_if_ne (tgt := 927) hx hb dL_law_912 (by decide) (fun _ => lv_goto (tgt := 930) hx hb dL_law_927 (by decide) (hend ls hl)) (fun h0 => ?_)
  exact absurd h0 (by decide)
set_option maxHeartbeats 4000000 in
theorem et_arm_size (hA : ∀ q : Nat, s.heap.size ≤ q → A q) (hx : p.tables.exec = Jvm.exec) (hb : c.code = code) (hr : meth.sig.returnType = ret) (hlocks : meth.locks = false) (hml : c.maxLocals = 7) (hown : s.vm.findClass RL = some m.cls) (hts : ∀ w ∈ W0, w.before #[Value.ref b] s = true) (hC : et_C g s) (hX : et_TL A s) (hXs : va_X b L xs s s.heap) (hbl : b < s.heap.size) (hbA : ¬ A b) (hL : L = 8) (V Vz : va_W) (isV : List Nat) (hV : isV.filterMap (fun i => V[i]?) = Vz) (x md jq q1 q2 q3 q4 : Nat) (fs f5 g5 : List Value) (e1 e2 e3 e4 e1n e2n e3n e4n : va_E) (he : V[0]? = some (x, .inr (4, fs))) (a4 a : Int32) (hm : Met l yX4_size (Cond.code yX4_size cX4_size 2 (some (.int)) :: W0) ({ frames := 0, cells := 0, slots := 0, locals := 0 } : Room) (et_Pc g Vz [.ref x, .int (zI (decide (xs 3 ≠ 0)))]) (et_QP (some (.int a4))) 0 0 et_no)
    (hm5 : Met l yX5_size (Cond.code yX5_size cX5_size 2 (some (.int)) :: W0) ({ frames := 0, cells := 0, slots := 0, locals := 0 } : Room) (et_PcW g ([(md, .inr (5, f5)), (q1, e1), (q2, e2), (q3, e3), (q4, e4)]) [.ref md, .int (zI (decide (xs 3 ≠ 0)))]) (et_QW g ([(md, .inr (5, f5)), (q1, e1), (q2, e2), (q3, e3), (q4, e4)]) ([(md, .inr (5, g5)), (q1, e1n), (q2, e2n), (q3, e3n), (q4, e4n)]) (some (.int a))) 0 0 (et_ad ([(md, .inr (5, f5)), (q1, e1), (q2, e2), (q3, e3), (q4, e4)])))
    (hpu : a4 = a)
    (hP : va_P (gD g) vwCl ((md, .inr (5, f5)) :: (q1, e1) :: (q2, e2) :: (q3, e3) :: (q4, e4) :: (jq, .inl (gJ g, 1, .inr (.inl (fun _ => 0)))) :: V) H) (hD : va_D A ((md, .inr (5, f5)) :: (q1, e1) :: (q2, e2) :: (q3, e3) :: (q4, e4) :: (jq, .inl (gJ g, 1, .inr (.inl (fun _ => 0)))) :: V)) (hS : va_S A s.heap H locs) (hl : lv_has ls 7 [(4, .int (2 : Int32)), (3, .ref jq), (2, .ref md), (1, .ref x), (0, .ref b)])
    (kk : ∀ (H : Heap) (locs : List Loc) (ls : Array Slot), va_S A s.heap H locs → W p l e room_1 s m #[Value.ref b] below meth c H locs 42 656692 Q (F0 m 936 ls [])) : W p l e room_1 s m #[Value.ref b] below meth c H locs 40 656680 Q (F0 m 128 ls []) := by
  refine lv_aload_n hx hb dL_law_128 rfl (lv_at hl 3 rfl) ?_
  refine et_ld (v := (1 : Int32)) (j := 3) hx hb hXs hbl hbA hS hl 0 4 rfl rfl hL (by decide) (by unfold vp_in; decide) (by decide) dL_law_129 dL_law_130 dL_law_132 dL_law_133 dL_law_134 ?_
  refine et_bool (x := xs 3) (rest := [.ref x]) hx hb dL_law_135 dL_law_138 dL_law_139 dL_law_142 (by decide) (by decide) ?_
  refine et_callP1 (v := .int a4) (va_runV (As := [.int (zI (decide (xs 3 ≠ 0)))]) (rest := []) ⟨hx, hb, hml, hown, hts⟩ hm (cwV 1 hts (W0_gV w_269 w_270 w_271 w_76 w_272) rfl rfl rfl (by decide +kernel) ⟨Nat.le_of_ble_eq_true rfl, Nat.le_of_ble_eq_true rfl⟩) (et_preV hP hC (isV.map (· + 6)) ((et_isF isV).trans hV) (ci := 4) (q0 := 6) rfl he) rfl rfl hl.1 rfl (lv_room (Nat.le_of_ble_eq_true rfl)) dL_law_143 ⟨Nat.le_of_ble_eq_true rfl, Nat.le_of_ble_eq_true rfl⟩) ?_
  refine lv_aload_n hx hb dL_law_146 rfl (lv_at hl 2 rfl) ?_
  refine et_ld (v := (1 : Int32)) (j := 3) hx hb hXs hbl hbA hS hl 0 4 rfl rfl hL (by decide) (by unfold vp_in; decide) (by decide) dL_law_147 dL_law_148 dL_law_150 dL_law_151 dL_law_152 ?_
  refine et_bool (x := xs 3) (rest := [.ref md, .int a4]) hx hb dL_law_153 dL_law_156 dL_law_157 dL_law_160 (by decide) (by decide) ?_
  refine et_callF (v := .int a) (va_runV (As := [.int (zI (decide (xs 3 ≠ 0)))]) (rest := [.int a4]) ⟨hx, hb, hml, hown, hts⟩ hm5 (cwV 1 hts (W0_gV w_781 w_782 w_783 w_82 w_784) rfl rfl rfl (by decide +kernel) ⟨Nat.le_of_ble_eq_true rfl, Nat.le_of_ble_eq_true rfl⟩) (et_preVW hP hC hD [0, 1, 2, 3, 4] (by decide) rfl (ci := 5) (q0 := 0) rfl rfl) rfl rfl hl.1 rfl (lv_room (Nat.le_of_ble_eq_true rfl)) dL_law_161 ⟨Nat.le_of_ble_eq_true rfl, Nat.le_of_ble_eq_true rfl⟩) hP hD hS [0, 1, 2, 3, 4] [5] rfl (wr := [(jq, .inl (gJ g, 1, .inr (.inl (fun _ => 0))))]) rfl (by decide) (by decide) (fun H locs hP hD hS => ?_)
  refine lv_icmp_eq (tgt := 930) hx hb dL_law_164 (by decide) (fun _ => ?_) (fun h => absurd hpu h)
  refine W.widen (k := 42) (n := 656692) (by omega) (by omega) ?_
  exact et_lawBack hx hb hXs hbl hbA hS hl 0 4 rfl [(4, .int (8 : Int32)), (3, .ref jq), (2, .ref md), (1, .ref x), (0, .ref b)] rfl rfl hL (fun ls => kk H locs ls hS)
set_option maxHeartbeats 4000000 in
theorem et_arm_set (hA : ∀ q : Nat, s.heap.size ≤ q → A q) (hx : p.tables.exec = Jvm.exec) (hb : c.code = code) (hr : meth.sig.returnType = ret) (hlocks : meth.locks = false) (hml : c.maxLocals = 7) (hown : s.vm.findClass RL = some m.cls) (hts : ∀ w ∈ W0, w.before #[Value.ref b] s = true) (hC : et_C g s) (hX : et_TL A s) (hXs : va_X b L xs s s.heap) (hbl : b < s.heap.size) (hbA : ¬ A b) (hL : L = 8) (V Vs Vsn : va_W) (isV : List Nat) (hV : isV.map (fun i => V[i]?) = Vs.map some) (hVn : va_nd (isV.map (· + 6)) = true) (x md jq q1 q2 q3 q4 : Nat) (fs f5 g5 : List Value) (e1 e2 e3 e4 e1n e2n e3n e4n : va_E) (he : V[0]? = some (x, .inr (4, fs))) (a4 a : Bool) (fr lo : Nat) (hfr : fr ≤ 7) (hlo : lo ≤ 200) (hm : Met l yX4_set (Cond.code yX4_set cX4_set 6 (some (.boolean)) :: W0) ({ frames := fr, cells := 0, slots := 0, locals := lo } : Room) (et_PcW g Vs (.ref x :: [.int (xs 3), .int (xs 4), .int (xs 5), .int (xs 6), .int (xs 7)])) (et_QW g Vs Vsn (some (.int (zI a4)))) 0 0 (et_ad Vs))
    (fr5 lo5 : Nat) (hf5 : fr5 ≤ 12) (hl5 : lo5 ≤ 500) (hm5 : Met l yX5_set (Cond.code yX5_set cX5_set 6 (some (.boolean)) :: W0) ({ frames := fr5, cells := 0, slots := 0, locals := lo5 } : Room) (et_PcW g ([(md, .inr (5, f5)), (q1, e1), (q2, e2), (q3, e3), (q4, e4)]) (.ref md :: [.int (xs 3), .int (xs 4), .int (xs 5), .int (xs 6), .int (xs 7)])) (et_QW g ([(md, .inr (5, f5)), (q1, e1), (q2, e2), (q3, e3), (q4, e4)]) ([(md, .inr (5, g5)), (q1, e1n), (q2, e2n), (q3, e3n), (q4, e4n)]) (some (.int (zI a)))) 0 0 (et_ad ([(md, .inr (5, f5)), (q1, e1), (q2, e2), (q3, e3), (q4, e4)])))
    (hpu : a4 = a)
    (hP : va_P (gD g) vwCl ((md, .inr (5, f5)) :: (q1, e1) :: (q2, e2) :: (q3, e3) :: (q4, e4) :: (jq, .inl (gJ g, 1, .inr (.inl (fun _ => 0)))) :: V) H) (hD : va_D A ((md, .inr (5, f5)) :: (q1, e1) :: (q2, e2) :: (q3, e3) :: (q4, e4) :: (jq, .inl (gJ g, 1, .inr (.inl (fun _ => 0)))) :: V)) (hS : va_S A s.heap H locs) (hl : lv_has ls 7 [(4, .int (2 : Int32)), (3, .ref jq), (2, .ref md), (1, .ref x), (0, .ref b)])
    (kk : ∀ (H : Heap) (locs : List Loc) (ls : Array Slot), va_S A s.heap H locs → W p l e room_1 s m #[Value.ref b] below meth c H locs 42 656692 Q (F0 m 936 ls [])) : W p l e room_1 s m #[Value.ref b] below meth c H locs 40 656680 Q (F0 m 501 ls []) := by
  refine lv_aload_n hx hb dL_law_501 rfl (lv_at hl 3 rfl) ?_
  refine et_ld (v := (1 : Int32)) (j := 3) hx hb hXs hbl hbA hS hl 0 4 rfl rfl hL (by decide) (by unfold vp_in; decide) (by decide) dL_law_502 dL_law_503 dL_law_505 dL_law_506 dL_law_507 ?_
  refine et_ld (v := (2 : Int32)) (j := 4) hx hb hXs hbl hbA hS hl 0 4 rfl rfl hL (by decide) (by unfold vp_in; decide) (by decide) dL_law_508 dL_law_509 dL_law_511 dL_law_512 dL_law_513 ?_
  refine et_ld (v := (3 : Int32)) (j := 5) hx hb hXs hbl hbA hS hl 0 4 rfl rfl hL (by decide) (by unfold vp_in; decide) (by decide) dL_law_514 dL_law_515 dL_law_517 dL_law_518 dL_law_519 ?_
  refine et_ld (v := (4 : Int32)) (j := 6) hx hb hXs hbl hbA hS hl 0 4 rfl rfl hL (by decide) (by unfold vp_in; decide) (by decide) dL_law_520 dL_law_521 dL_law_523 dL_law_524 dL_law_525 ?_
  refine et_ld (v := (5 : Int32)) (j := 7) hx hb hXs hbl hbA hS hl 0 4 rfl rfl hL (by decide) (by unfold vp_in; decide) (by decide) dL_law_526 dL_law_527 dL_law_529 dL_law_530 dL_law_531 ?_
  refine et_callF (v := .int (zI a4)) (va_runV (As := [.int (xs 3), .int (xs 4), .int (xs 5), .int (xs 6), .int (xs 7)]) (rest := []) ⟨hx, hb, hml, hown, hts⟩ hm (cwV 5 hts (W0_gV w_273 w_274 w_275 w_76 w_276) rfl rfl rfl (by decide +kernel) ⟨Nat.succ_le_succ (Nat.le_trans hfr (Nat.le_of_ble_eq_true rfl)), Nat.le_trans (Nat.add_le_add_left hlo _) (Nat.le_of_ble_eq_true rfl)⟩) (et_preVW hP hC hD (isV.map (· + 6)) hVn ((et_isC isV).trans hV) (ci := 4) (q0 := 6) rfl he) rfl rfl hl.1 rfl (lv_room (Nat.le_of_ble_eq_true rfl)) dL_law_532 ⟨Nat.le_of_ble_eq_true rfl, Nat.le_of_ble_eq_true rfl⟩) hP hD hS (isV.map (· + 6)) [0, 1, 2, 3, 4, 5] ((et_isC isV).trans hV) (wr := [(md, .inr (5, f5)), (q1, e1), (q2, e2), (q3, e3), (q4, e4), (jq, .inl (gJ g, 1, .inr (.inl (fun _ => 0))))]) rfl (by decide) (et_dis6j isV) (fun H locs hP hD hS => ?_)
  refine lv_aload_n hx hb dL_law_535 rfl (lv_at hl 2 rfl) ?_
  refine et_ld (v := (1 : Int32)) (j := 3) hx hb hXs hbl hbA hS hl 0 4 rfl rfl hL (by decide) (by unfold vp_in; decide) (by decide) dL_law_536 dL_law_537 dL_law_539 dL_law_540 dL_law_541 ?_
  refine et_ld (v := (2 : Int32)) (j := 4) hx hb hXs hbl hbA hS hl 0 4 rfl rfl hL (by decide) (by unfold vp_in; decide) (by decide) dL_law_542 dL_law_543 dL_law_545 dL_law_546 dL_law_547 ?_
  refine et_ld (v := (3 : Int32)) (j := 5) hx hb hXs hbl hbA hS hl 0 4 rfl rfl hL (by decide) (by unfold vp_in; decide) (by decide) dL_law_548 dL_law_549 dL_law_551 dL_law_552 dL_law_553 ?_
  refine et_ld (v := (4 : Int32)) (j := 6) hx hb hXs hbl hbA hS hl 0 4 rfl rfl hL (by decide) (by unfold vp_in; decide) (by decide) dL_law_554 dL_law_555 dL_law_557 dL_law_558 dL_law_559 ?_
  refine et_ld (v := (5 : Int32)) (j := 7) hx hb hXs hbl hbA hS hl 0 4 rfl rfl hL (by decide) (by unfold vp_in; decide) (by decide) dL_law_560 dL_law_561 dL_law_563 dL_law_564 dL_law_565 ?_
  refine et_callF (v := .int (zI a)) (va_runV (As := [.int (xs 3), .int (xs 4), .int (xs 5), .int (xs 6), .int (xs 7)]) (rest := [.int (zI a4)]) ⟨hx, hb, hml, hown, hts⟩ hm5 (cwV 5 hts (W0_gV w_886 w_887 w_888 w_82 w_889) rfl rfl rfl (by decide +kernel) ⟨Nat.succ_le_succ (Nat.le_trans hf5 (Nat.le_of_ble_eq_true rfl)), Nat.le_trans (Nat.add_le_add_left hl5 _) (Nat.le_of_ble_eq_true rfl)⟩) (et_preVW hP hC hD [0, 1, 2, 3, 4] (by decide) rfl (ci := 5) (q0 := 0) rfl rfl) rfl rfl hl.1 rfl (lv_room (Nat.le_of_ble_eq_true rfl)) dL_law_566 ⟨Nat.le_of_ble_eq_true rfl, Nat.le_of_ble_eq_true rfl⟩) hP hD hS [0, 1, 2, 3, 4] [5] rfl (wr := [(jq, .inl (gJ g, 1, .inr (.inl (fun _ => 0))))]) rfl (by decide) (by decide) (fun H locs hP hD hS => ?_)
  refine lv_icmp_eq (tgt := 930) hx hb dL_law_569 (by decide) (fun _ => ?_) (fun h => absurd (congrArg zI hpu) h)
  refine W.widen (k := 42) (n := 656692) (by omega) (by omega) ?_
  exact et_lawBack hx hb hXs hbl hbA hS hl 0 4 rfl [(4, .int (8 : Int32)), (3, .ref jq), (2, .ref md), (1, .ref x), (0, .ref b)] rfl rfl hL (fun ls => kk H locs ls hS)
end EtArms
