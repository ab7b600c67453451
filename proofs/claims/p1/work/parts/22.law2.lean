section EtCallL
variable {p : Program} {l : Launch} {e : Env} {R : Room} {s : State} {m : MethodId} {args : Array Value} {below : List Frame} {meth : Method} {c : Code} {H : Heap} {locs : List Loc} {cells slots mc ms : Nat} {Q : State → Prop} {pc : Nat} {ls : Array Slot} {rest st0 : List Value} {a : Array Value} {g : et_G} {ws wc wr : va_W} {A : Nat → Prop} {H0 : Heap}
/-- a call of a helper of the law: what is left is the kept places and the result's array -/
theorem et_callL {jq : Nat} {e0 : va_E} {cd : Int32} {z : Nat → Int64} (hr : vx_Run p l e R s m args below meth c H locs cells slots mc ms (F0 m pc ls st0) rest (et_QL g jq (va_A wc H.size) cd z a) et_noX (va_A wc H.size)) (hP : va_P (gD g) vwCl ws H) (hD : va_D A ws) (hS : va_S A H0 H locs) (isC isR : List Nat) (hC : isC.map (fun i => ws[i]?) = wc.map some) (hR : isR.map (fun i => ws[i]?) = wr.map some) (hn : va_nd isR = true) (hdis : ∀ i ∈ isR, i ∉ isC) (hF : ∀ q, va_A wc H.size q → A q) (hj : wc[0]? = some (jq, e0))
    (kk : ∀ (H1 : Heap) (locs1 : List Loc), va_P (gD g) vwCl (wr ++ [(jq, .inl (gJ g, 1, .inr (.inl z)))]) H1 → va_D A (wr ++ [(jq, .inl (gJ g, 1, .inr (.inl z)))]) → va_S A H0 H1 locs1 → W p l e R s m args below meth c H1 locs1 (cells + mc) (slots + ms) Q (F0 m (pc + 3) ls (.int cd :: rest))) : W p l e R s m args below meth c H locs cells slots Q (F0 m pc ls st0) := by
  intro T hT X
  rcases hr T hT X with ⟨v', st₀, t, T', L, h0, X', hL, e1, e2, ⟨hv, hP1, hz, hk⟩, st⟩ | ⟨q, st₀, t, T', L, E, ce, h0, X', hL, e1, e2, hno, -⟩
  · cases hv
    rw [h0] at hz hk
    have hD1 : va_D (va_A wc H.size) [(jq, (.inl (gJ g, 1, .inr (.inl z)) : va_E))] := ⟨fun i k p1 q1 hi hk1 _ => by
      have h1 := (List.getElem?_eq_some_iff.mp hi).1
      have h2 := (List.getElem?_eq_some_iff.mp hk1).1
      simp at h1 h2
      omega, fun k q hk1 => by
      have h1 := (List.getElem?_eq_some_iff.mp hk1).1
      simp at h1
      subst h1
      cases hk1
      exact Or.inl ⟨0, e0, hj⟩⟩
    obtain ⟨hP2, hD2⟩ := va_join (wr := wr) (w1 := [(jq, .inl (gJ g, 1, .inr (.inl z)))]) hP hD isC isR hC hR hn hdis (H1 := T'.heap) (fun q h1 h2 => by rw [e1]; exact hk q h1 h2) hF (by rw [e1]; exact hP1) hD1
    obtain ⟨t2, a1, b1⟩ := kk T'.heap (locs ++ L) hP2 hD2
      ⟨Nat.le_trans hS.1 (by rw [e1]; exact hz), fun q h1 h2 => by rw [e1, hk q (Nat.lt_of_lt_of_le h1 hS.1) (fun z => h2 (hF q z))]; exact hS.2.1 q h1 h2, fun q hq => by
        rcases List.mem_append.mp hq with h | h
        · exact hS.2.2 q h
        · exact hF _ (hL q h)⟩ T' rfl X'
    exact ⟨t2, st t2 a1, b1⟩
  · exact hno.elim
end EtCallL
section EtLawHead
variable {p : Program} {l : Launch} {e : Env} {R : Room} {s : State} {m : MethodId} {args : Array Value} {below : List Frame} {meth : Method} {c : Code} {H : Heap} {locs : List Loc} {cells slots : Nat} {Q : State → Prop} {ls : Array Slot} {b L : Nat} {xs : Nat → Int32} {A : Nat → Prop} {i : Int32} {lv : List (Nat × Value)}
/-- the law's loop's head -/
theorem et_lawHead (hx : p.tables.exec = Jvm.exec) (hb : c.code = code) (hXs : va_X b L xs s s.heap) (hbl : b < s.heap.size) (hbA : ¬ A b) (hS : va_S A s.heap H locs) (hl : lv_has ls 7 lv) (k4 k0 : Nat) (h4 : lv[k4]? = some (4, .int i)) (h0 : lv[k0]? = some (0, .ref b))
    (k1 : Int32.ofNat L - 6 < i → W p l e R s m args below meth c H locs cells slots Q (F0 m 936 ls [])) (k2 : ¬ Int32.ofNat L - 6 < i → W p l e R s m args below meth c H locs cells slots Q (F0 m 53 ls [])) : W p l e R s m args below meth c H locs cells slots Q (F0 m 43 ls []) := by
  refine lv_iload hx hb dL_law_43 (lv_at hl k4 h4) ?_
  refine lv_aload_n hx hb dL_law_45 rfl (lv_at hl k0 h0) ?_
  refine va_slen hx hb hXs hbl hbA hS dL_law_46 ?_
  refine lv_bipush (v := (6 : Int32)) hx hb dL_law_47 (by decide) ?_
  refine lv_isub hx hb dL_law_49 ?_
  exact lv_icmp_gt (tgt := 936) hx hb dL_law_50 (by decide) k1 k2
theorem et_law8 : ∀ L ≤ 8, ¬ Int32.ofNat L - 6 < (2 : Int32) → L = 8 := by decide
/-- which of the law's arms -/
theorem et_lawOp (hx : p.tables.exec = Jvm.exec) (hb : c.code = code) (hXs : va_X b L xs s s.heap) (hbl : b < s.heap.size) (hbA : ¬ A b) (hS : va_S A s.heap H locs) (hl : lv_has ls 7 lv) (k4 k0 : Nat) (h4 : lv[k4]? = some (4, .int (2 : Int32))) (h0 : lv[k0]? = some (0, .ref b)) (hL : L = 8)
    (kk : W p l e R s m args below meth c H locs cells slots Q (F0 m 60 ls [.int (xs 2 &&& 15)])) : W p l e R s m args below meth c H locs cells slots Q (F0 m 53 ls []) := by
  refine lv_aload_n hx hb dL_law_53 rfl (lv_at hl k0 h0) ?_
  refine lv_iload hx hb dL_law_54 (lv_at hl k4 h4) ?_
  refine va_sld hx hb hXs hbl hbA hS (by subst hL; unfold vp_in; decide) dL_law_56 ?_
  refine lv_bipush (v := (15 : Int32)) hx hb dL_law_57 (by decide) ?_
  exact lv_iand hx hb dL_law_59 kk
/-- behind an arm: the next place is beyond the script -/
theorem et_lawBack (hx : p.tables.exec = Jvm.exec) (hb : c.code = code) (hXs : va_X b L xs s s.heap) (hbl : b < s.heap.size) (hbA : ¬ A b) (hS : va_S A s.heap H locs) (hl : lv_has ls 7 lv) (k4 k0 : Nat) (h4 : lv[k4]? = some (4, .int (2 : Int32))) (lv' : List (Nat × Value)) (hlv : (4, Value.int (8 : Int32)) :: lv.filter (fun q => !(q.1 == 4) && !(q.1 + 1 == 4 && q.2.category == 2)) = lv') (h0 : lv'[k0]? = some (0, .ref b)) (hL : L = 8)
    (k1 : ∀ ls : Array Slot, W p l e R s m args below meth c H locs cells slots Q (F0 m 936 ls [])) : W p l e R s m args below meth c H locs cells slots Q (F0 m 930 ls []) := by
  refine lv_iinc (v := (8 : Int32)) (lv' := lv') hx hb dL_law_930 hl h4 (by decide) (by decide) hlv (fun ls hl => ?_)
  refine lv_goto (tgt := 43) hx hb dL_law_933 (by decide) ?_
  exact et_lawHead hx hb hXs hbl hbA hS hl 0 k0 (by rw [← hlv]; rfl) h0 (fun _ => k1 ls) (fun h => absurd (by subst hL; decide) h)
end EtLawHead
