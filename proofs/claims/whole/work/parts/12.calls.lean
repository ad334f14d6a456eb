section AWC
variable {C : CX} {own : String} {cc : ByteArray} {nL : Nat} {ret : Option FieldType} {R : Room} {M : MX} {Z : State → Prop} {cells slots pc : Nat} {L : List (Option Value)} {st : List Value} {F : MM} {G : GG}
/-- the answers -/
theorem aw_iret {rm : Room} {Q : OUT → MM → GG → Prop} {v : Int32} (hM : MOk C own cc nL (some .int) R M) (hd : decode cc pc = .ok (.ireturn, 1)) (hc : cells ≤ rm.cells) (hs : slots ≤ rm.slots) (hq : Q (.inl (some (.int v))) F G) : AW C nL (ZM C rm Q M) M cells slots pc L [.int v] F G := by
  obtain ⟨p, e, R', s, m, args, below, meth, c⟩ := M
  obtain ⟨rfl, hx, hb, hml, hown, hts, hr, hlk, hK⟩ := hM
  intro H locs ls hH hS hl
  refine W.widen hc hs ?_
  exact vx_ret (W.iret (v := v) hx hb hr (fun t ht hW => ⟨some (.int v), F, G, rfl, hq, by rw [ht]; exact hH, hS.F ht⟩) hS.2.2 hd hlk)
theorem aw_zret {rm : Room} {Q : OUT → MM → GG → Prop} {v : Int32} (hM : MOk C own cc nL (some .boolean) R M) (hd : decode cc pc = .ok (.ireturn, 1)) (hv : v &&& 1 = v) (hc : cells ≤ rm.cells) (hs : slots ≤ rm.slots) (hq : Q (.inl (some (.int v))) F G) : AW C nL (ZM C rm Q M) M cells slots pc L [.int v] F G := by
  obtain ⟨p, e, R', s, m, args, below, meth, c⟩ := M
  obtain ⟨rfl, hx, hb, hml, hown, hts, hr, hlk, hK⟩ := hM
  intro H locs ls hH hS hl
  refine W.widen hc hs ?_
  exact vx_ret (W.zret (v := v) (ty := .boolean) hx hb hr (by show Value.int (v &&& 1) = _; rw [hv]) (fun t ht hW => ⟨some (.int v), F, G, rfl, hq, by rw [ht]; exact hH, hS.F ht⟩) hS.2.2 hd hlk)
theorem aw_lret {rm : Room} {Q : OUT → MM → GG → Prop} {v : Int64} (hM : MOk C own cc nL (some .long) R M) (hd : decode cc pc = .ok (.lreturn, 1)) (hc : cells ≤ rm.cells) (hs : slots ≤ rm.slots) (hq : Q (.inl (some (.long v))) F G) : AW C nL (ZM C rm Q M) M cells slots pc L [.long v] F G := by
  obtain ⟨p, e, R', s, m, args, below, meth, c⟩ := M
  obtain ⟨rfl, hx, hb, hml, hown, hts, hr, hlk, hK⟩ := hM
  intro H locs ls hH hS hl
  refine W.widen hc hs ?_
  exact vx_ret (W.lret (v := v) hx hb hr (fun t ht hW => ⟨some (.long v), F, G, rfl, hq, by rw [ht]; exact hH, hS.F ht⟩) hS.2.2 hd hlk)
theorem aw_vret {rm : Room} {Q : OUT → MM → GG → Prop} (hM : MOk C own cc nL none R M) (hd : decode cc pc = .ok (.return_, 1)) (hc : cells ≤ rm.cells) (hs : slots ≤ rm.slots) (hq : Q (.inl none) F G) : AW C nL (ZM C rm Q M) M cells slots pc L [] F G := by
  obtain ⟨p, e, R', s, m, args, below, meth, c⟩ := M
  obtain ⟨rfl, hx, hb, hml, hown, hts, hr, hlk, hK⟩ := hM
  intro H locs ls hH hS hl
  refine W.widen hc hs ?_
  exact vx_ret (W.vret hx hb hr (fun t ht hW => ⟨none, F, G, rfl, hq, by rw [ht]; exact hH, hS.F ht⟩) hS.2.2 hd hlk)
/-- thrown on to the caller -/
theorem ax_out {rm : Room} {Q : OUT → MM → GG → Prop} {E : String} (hM : MOk C own cc nL ret R M) (hT : MNoT M) (hc : cells ≤ rm.cells) (hs : slots ≤ rm.slots) (hq : Q (.inr E) F G) : AX C nL (ZM C rm Q M) E M cells slots pc L F G := by
  obtain ⟨p, e, R', s, m, args, below, meth, c⟩ := M
  obtain ⟨rfl, hx, hb, hml, hown, hts, hr, hlk, hK⟩ := hM
  intro H locs ls rest ce q hH hS hl hce hcv hcl
  exact vx_out (fun x hx9 => absurd (hT x hx9) id) hlk hce hcv hcl (fun t ht _ => ⟨F, G, hq, by rw [ht]; exact hH, hS.F ht⟩) hS.2.2 hc hs
/-- what is behind a call -/
theorem aw_ofRun {mc ms : Nat} {a : Array Value} {Q : OUT → MM → GG → Prop} {st0 : List Value}
    (p : Program) (e : Env) (s : State) (m : MethodId) (args : Array Value) (below : List Frame) (meth : Method) (c : Code) (H : Heap) (locs : List Loc) (ls : Array Slot) (hS : va_S (fun q => C.2.1 ≤ q) s.heap H locs) (hl : lvR C.2.2.1 ls nL L)
    (hr : vx_Run p C.1 e R s m args below meth c H locs cells slots mc ms (F0 m pc ls st0) (st.map (rv_ C.2.2.1)) (QcO C Q a) (XCO C Q) (fun q => C.2.1 ≤ q))
    (hret : ∀ r F' G', Q (.inl r) F' G' → AW C nL Z (p, e, R, s, m, args, below, meth, c) (cells + mc) (slots + ms) (pc + 3) L (r.toList ++ st) F' G')
    (hthr : ∀ E F' G', Q (.inr E) F' G' → AX C nL Z E (p, e, R, s, m, args, below, meth, c) (cells + mc) (slots + ms) pc L F' G') :
    W p C.1 e R s m args below meth c H locs cells slots Z (F0 m pc ls st0) := by
  intro T hT X
  rcases hr T hT X with ⟨v, st₀, t, T', L1, h0, X', hL1, e1, e2, ⟨r, F', G', hv, hq, hH', hF⟩, stp⟩ | ⟨q, st₀, t, T', L1, E, ce, h0, X', hL1, e1, e2, ⟨F', G', hq, hH', hF⟩, hce, hcv, hcl, stp⟩
  · obtain ⟨k1, k2, k3⟩ := vx_keep h0 e1 hS (A1 := fun q => C.2.1 ≤ q) (fun q _ h => h) (fun q h => h) hL1 hF
    cases hv
    obtain ⟨t2, a1, b1⟩ := hret r F' G' hq T'.heap (locs ++ L1) ls (by rw [e1]; exact hH') k3 hl T' rfl X'
    refine ⟨t2, stp t2 ?_, b1⟩
    have e9 : (r.map (rv_ C.2.2.1)).toList ++ st.map (rv_ C.2.2.1) = (r.toList ++ st).map (rv_ C.2.2.1) := by cases r <;> rfl
    rw [e9]
    exact a1
  · obtain ⟨k1, k2, k3⟩ := vx_keep h0 e1 hS (A1 := fun q => C.2.1 ≤ q) (fun q _ h => h) (fun q h => h) hL1 hF
    obtain ⟨t2, a1, b1⟩ := hthr E F' G' hq T'.heap (locs ++ L1) ls (st.map (rv_ C.2.2.1)) ce q (by rw [e1]; exact hH') k3 hl (by rw [e1]; exact hce) hcv hcl T' rfl X'
    exact ⟨t2, stp.trans a1, b1⟩
theorem am_blind {y : MethodName} {av : List Value} : FrameBlind (va_Pc (av.map (rv_ C.2.2.1)) (fun U => XK C U ∧ XH C F G U.heap)) := by
  intro a U g mk h
  obtain ⟨h1, h2, h3⟩ := h
  exact ⟨h1, XK.moved (U := U.calling g mk a) (H := U.heap) (locs := []) h2 va_S.rf rfl (State.WarmedH.refl U), h3⟩
/-- the words of a call: of an instance method by its name, of a static one -/
def CWV (own : String) (index : Nat) (y : MethodName) (bytes : ByteArray) (maxL : Nat) (rt : Option FieldType) : Prop := GW (.methodLink own index y) ∧ GW (.instanceMethod y) ∧ GW (.selects y.cls y y) ∧ GW (.initialized y.cls) ∧ GW (.code y bytes maxL rt) ∧ y.cls ≠ "java/lang/invoke/MethodHandle" ∧ y.cls ≠ "java/lang/invoke/VarHandle"
def CWS (own : String) (index : Nat) (y : MethodName) (bytes : ByteArray) (maxL : Nat) (rt : Option FieldType) : Prop := GW (.methodLink own index y) ∧ GW (.static y) ∧ GW (.initialized y.cls) ∧ GW (.code y bytes maxL rt) ∧ y.cls ≠ "java/lang/invoke/MethodHandle" ∧ y.cls ≠ "java/lang/invoke/VarHandle"
theorem wsO_ok {s : State} {args : Array Value} {y : MethodName} {bytes : ByteArray} {maxL : Nat} {rt : Option FieldType} (hts : ∀ w, GW w → w.before args s = true) (hc : GW (.code y bytes maxL rt)) : ∀ w ∈ wsO y bytes maxL rt, ∀ (a' : Array Value) (U : State), s.WarmedH U.vm → w.before a' U = true := by
  intro w hw a' U hW
  have hg : GW w := by
    rcases List.mem_cons.mp hw with h | h
    · rw [h]; exact hc
    · exact List.mem_filter.mp h
  exact word_at hW (good_of_word hg.2) (hts w hg)
theorem cat_map (ρ : Nat → Nat) (st : List Value) : ((st.map (rv_ ρ)).map fun v => v.category) = st.map fun v => v.category := by
  rw [List.map_map, show ((fun v : Value => v.category) ∘ rv_ ρ) = (fun v => v.category) from funext (rv_cat _)]
theorem aw_callV {index b n0 ci n : Nat} {rs : List Nat} {y : MethodName} {bytes : ByteArray} {maxL : Nat} {rt : Option FieldType} {rm : Room} {As st0 : List Value} {q : vw_C} {Q : OUT → MM → GG → Prop} (hM : MOk C own cc nL ret R M) (hA : AM C y bytes maxL rt rm (.ref b :: As) F G Q) (cw : CWV own index y bytes maxL rt)
    (hs : sk_list[b]? = some (ci, n0, rs)) (hq : vwCl[ci]? = some q) (hqc : q.1 = y.cls) (hn : (parseMethodDescriptor y.desc).map (fun d => d.parameters.length) = some n) (hAs : As.length = n) (hst : As.reverse ++ .ref b :: st = st0) (hR : rm.frames + 1 ≤ R.frames ∧ 8 + (maxL + 11) + rm.locals ≤ R.locals) (hw : (st.map fun v => v.category).sum ≤ 8) (hf : cells + rm.cells ≤ R.cells ∧ slots + rm.slots ≤ R.slots) (hd : decode cc pc = .ok (.invokevirtual index, 3))
    (hret : ∀ r F' G', Q (.inl r) F' G' → AW C nL Z M (cells + rm.cells) (slots + rm.slots) (pc + 3) L (r.toList ++ st) F' G')
    (hthr : ∀ E F' G', Q (.inr E) F' G' → AX C nL Z E M (cells + rm.cells) (slots + rm.slots) pc L F' G') : AW C nL Z M cells slots pc L st0 F G := by
  subst hst
  obtain ⟨p, e, R', s, m, args, below, meth, c⟩ := M
  obtain ⟨rfl, hx, hb, hml, hown, hts, hr9, hlk, hK⟩ := hM
  obtain ⟨c1, c2, c3, c4, c5, c6, c7⟩ := cw
  intro H locs ls hH hS hl
  have hci : ci < 8 := (List.getElem?_eq_some_iff.mp hq).1
  have hat := wld_at (aC := C.2.2.2.1) (ρ := C.2.2.1) (F := F) (G := G) hs
  rw [sk_obj hci] at hat
  have hlen : ∀ sig, parseMethodDescriptor y.desc = some sig → n = sig.parameters.length := fun sig h => by
    rw [h] at hn; exact (Option.some.inj hn).symm
  refine aw_ofRun (Q := Q) (mc := rm.cells) (ms := rm.slots) (a := (Value.ref (C.2.2.1 b) :: As.map (rv_ C.2.2.1)).toArray) p e s m args below meth c H locs ls hS hl ?_ hret hthr
  refine vx_runV (Ts := lw_tbl.filter goodWord) (C := y.cls) (As := As.map (rv_ C.2.2.1)) (b := C.2.2.1 b) (rest := st.map (rv_ C.2.2.1)) ⟨hx, hb, hml, hown, gw_hts hts⟩ hA
    ⟨⟨rfl, rfl, hR.1, hR.2, wsO_ok hts c5, List.mem_cons_self, hts _ c5, hts _ c4, ⟨c6, c7⟩, hlen, hts _ c1⟩, hts _ c2, hts _ c3⟩
    ⟨am_blind (y := y), by rw [← hqc]; exact va_recv hK.1 hH.1 (q0 := b) hq hat, fun U hU hW => ⟨rfl, hK.moved hS hU hW, by rw [hU]; exact hH⟩⟩ rfl (by rw [List.length_map]; exact hAs) hl.1 ?_ (lv_room (by rw [cat_map]; exact hw)) hd hf
  show ((As.reverse ++ Value.ref b :: st).map (rv_ C.2.2.1)) = _
  rw [List.map_append, List.map_reverse]
  rfl
theorem aw_callS {index n : Nat} {y : MethodName} {bytes : ByteArray} {maxL : Nat} {rt : Option FieldType} {rm : Room} {As st0 : List Value} {Q : OUT → MM → GG → Prop} (hM : MOk C own cc nL ret R M) (hA : AM C y bytes maxL rt rm As F G Q) (cw : CWS own index y bytes maxL rt)
    (hn : (parseMethodDescriptor y.desc).map (fun d => d.parameters.length) = some n) (hAs : As.length = n) (hst : As.reverse ++ st = st0) (hR : rm.frames + 1 ≤ R.frames ∧ 8 + (maxL + 11) + rm.locals ≤ R.locals) (hw : (st.map fun v => v.category).sum ≤ 8) (hf : cells + rm.cells ≤ R.cells ∧ slots + rm.slots ≤ R.slots) (hd : decode cc pc = .ok (.invokestatic index, 3))
    (hret : ∀ r F' G', Q (.inl r) F' G' → AW C nL Z M (cells + rm.cells) (slots + rm.slots) (pc + 3) L (r.toList ++ st) F' G')
    (hthr : ∀ E F' G', Q (.inr E) F' G' → AX C nL Z E M (cells + rm.cells) (slots + rm.slots) pc L F' G') : AW C nL Z M cells slots pc L st0 F G := by
  subst hst
  obtain ⟨p, e, R', s, m, args, below, meth, c⟩ := M
  obtain ⟨rfl, hx, hb, hml, hown, hts, hr9, hlk, hK⟩ := hM
  obtain ⟨c1, c2, c4, c5, c6, c7⟩ := cw
  intro H locs ls hH hS hl
  have hlen : ∀ sig, parseMethodDescriptor y.desc = some sig → n = sig.parameters.length := fun sig h => by
    rw [h] at hn; exact (Option.some.inj hn).symm
  refine aw_ofRun (Q := Q) (mc := rm.cells) (ms := rm.slots) (a := (As.map (rv_ C.2.2.1)).toArray) p e s m args below meth c H locs ls hS hl ?_ hret hthr
  refine vx_runS (Ts := lw_tbl.filter goodWord) (As := As.map (rv_ C.2.2.1)) (rest := st.map (rv_ C.2.2.1)) ⟨hx, hb, hml, hown, gw_hts hts⟩ hA
    ⟨⟨rfl, rfl, hR.1, hR.2, wsO_ok hts c5, List.mem_cons_self, hts _ c5, hts _ c4, ⟨c6, c7⟩, hlen, hts _ c1⟩, hts _ c2⟩
    ⟨am_blind (y := y), fun U hU hW => ⟨rfl, hK.moved hS hU hW, by rw [hU]; exact hH⟩⟩ rfl (by rw [List.length_map]; exact hAs) hl.1 ?_ (lv_room (by rw [cat_map]; exact hw)) hd hf
  show ((As.reverse ++ st).map (rv_ C.2.2.1)) = _
  rw [List.map_append, List.map_reverse]
/-- 'throw new E(text)' where nothing catches it -/
def ex_up : List String := ["java/lang/RuntimeException", "java/lang/Exception"]
def THR (own : String) (ik is ic : Nat) (cls text : String) : Prop := (own = RX8 ∧ (is, text) ∈ st_list) ∧ Bundle.fit cls = true ∧ GW (.classLink own ik cls) ∧ GW (.initialized cls) ∧ (∀ w ∈ vx_atS own ic cls ex_up, GW w ∨ w ∈ bw_list) ∧ ∀ w ∈ Cond.classLink own ik cls :: Cond.initialized cls :: vx_atS own ic cls ex_up, vx_ot w = true
theorem thr_words {args : Array Value} {s : State} {own cls text : String} {ik is ic : Nat} (h : THR own ik is ic cls text) (hts : ∀ w, GW w → w.before args s = true) (hbw : ∀ w ∈ bw_list, va_Nw w s) : ∀ w ∈ vx_atS own ic cls ex_up, w.before args s = true := by
  intro w hw
  rcases h.2.2.2.2.1 w hw with h1 | h1
  · exact hts w h1
  · refine va_Nw.use ?_ (hbw w h1)
    rcases List.mem_append.mp h1 with h1 | h1
    · simp only [List.mem_cons, List.not_mem_nil, or_false] at h1
      rcases h1 with rfl | rfl | rfl <;> rfl
    · obtain ⟨x, -, rfl⟩ := List.mem_map.mp h1
      rfl
theorem aw_throwS {rm : Room} {Q : OUT → MM → GG → Prop} {ik is ic : Nat} {cls text : String} (hM : MOk C own cc nL ret R M) (hT : MNoT M) (h : THR own ik is ic cls text)
    (d0 : decode cc pc = .ok (.new ik, 3)) (d3 : decode cc (pc + 3) = .ok (.dup, 1)) (d4 : decode cc (pc + 4) = .ok (.ldc is, 2)) (d6 : decode cc (pc + 6) = .ok (.invokespecial ic, 3)) (d9 : decode cc (pc + 9) = .ok (.athrow, 1))
    (hRf : 5 < R.frames) (hRl : (st.map fun v => v.category).sum + 82 ≤ R.locals) (hRc : cells + 1 ≤ R.cells) (hRs : slots + 6 ≤ R.slots) (hc : cells + 1 ≤ rm.cells) (hs : slots + 6 ≤ rm.slots) (hq : Q (.inr cls) F G) : AW C nL (ZM C rm Q M) M cells slots pc L st F G := by
  obtain ⟨p, e, R', s, m, args, below, meth, c⟩ := M
  obtain ⟨rfl, hx, hb, hml, hown, hts, hr, hlk, hK⟩ := hM
  have hat := thr_words h hts hK.2.2.2.2.2.1
  obtain ⟨⟨rfl, h1⟩, h2, h3, h4, -, h6⟩ := h
  obtain ⟨k1, k2, k3, k4, k5, k6, k7, k8, k9⟩ := hK
  obtain ⟨sa, hstr⟩ := k5 _ h1
  intro H locs ls hH hS hl
  refine vx_throwS (text := text) (names := ex_up) (sa := sa) hx hb k8 hown h2 (by decide +kernel) (hts _ h3) (hts _ h4) hstr hat h6 k3 k4 hS (hl.1.trans hml.symm) d0 d3 d4 d6 d9 (fun x hx9 => absurd (hT x hx9) id) hRf (by rw [cat_map]; exact hRl) hRc hRs hlk (fun t hal hz hk => ?_) hS.2.2 hc hs
  refine ⟨F, G, hq, ⟨hH.1.kept (fun k q hq9 => hk _ ((hH.1 k q hq9).lt)), hH.2⟩, ⟨Nat.le_trans hS.1 hz, fun q9 hq1 hq2 => ?_⟩⟩
  rw [hk q9 (Nat.lt_of_lt_of_le hq1 hS.1)]
  exact hS.2.1 q9 hq1 hq2
theorem aw_throwSW {rm : Room} {Q : OUT → MM → GG → Prop} {ik is ic : Nat} {cls text : String} (hM : MOk C own cc nL ret R M) (hT : MNoT M) (h : THR own ik is ic cls text)
    (d0 : decode cc pc = .ok (.new ik, 3)) (d3 : decode cc (pc + 3) = .ok (.dup, 1)) (d4 : decode cc (pc + 4) = .ok (.ldc_w is, 3)) (d7 : decode cc (pc + 7) = .ok (.invokespecial ic, 3)) (d10 : decode cc (pc + 10) = .ok (.athrow, 1))
    (hRf : 5 < R.frames) (hRl : (st.map fun v => v.category).sum + 82 ≤ R.locals) (hRc : cells + 1 ≤ R.cells) (hRs : slots + 6 ≤ R.slots) (hc : cells + 1 ≤ rm.cells) (hs : slots + 6 ≤ rm.slots) (hq : Q (.inr cls) F G) : AW C nL (ZM C rm Q M) M cells slots pc L st F G := by
  obtain ⟨p, e, R', s, m, args, below, meth, c⟩ := M
  obtain ⟨rfl, hx, hb, hml, hown, hts, hr, hlk, hK⟩ := hM
  have hat := thr_words h hts hK.2.2.2.2.2.1
  obtain ⟨⟨rfl, h1⟩, h2, h3, h4, -, h6⟩ := h
  obtain ⟨k1, k2, k3, k4, k5, k6, k7, k8, k9⟩ := hK
  obtain ⟨sa, hstr⟩ := k5 _ h1
  intro H locs ls hH hS hl
  refine vx_throwSW (text := text) (names := ex_up) (sa := sa) hx hb k8 hown h2 (by decide +kernel) (hts _ h3) (hts _ h4) hstr hat h6 k3 k4 hS (hl.1.trans hml.symm) d0 d3 d4 d7 d10 (fun x hx9 => absurd (hT x hx9) id) hRf (by rw [cat_map]; exact hRl) hRc hRs hlk (fun t hal hz hk => ?_) hS.2.2 hc hs
  refine ⟨F, G, hq, ⟨hH.1.kept (fun k q hq9 => hk _ ((hH.1 k q hq9).lt)), hH.2⟩, ⟨Nat.le_trans hS.1 hz, fun q9 hq1 hq2 => ?_⟩⟩
  rw [hk q9 (Nat.lt_of_lt_of_le hq1 hS.1)]
  exact hS.2.1 q9 hq1 hq2
/-- fewer known locals -/
theorem aw_weak {L' : List (Option Value)} (h : AW C nL Z M cells slots pc L' st F G) (hs : ∀ (i : Nat) (v : Value), L'[i]? = some (some v) → L[i]? = some (some v)) : AW C nL Z M cells slots pc L st F G := by
  obtain ⟨p, e, R', s, m, args, below, meth, c⟩ := M
  intro H locs ls hH hS hl
  exact h H locs ls hH hS (hl.sub hs)
theorem aw_widen {k n : Nat} (h1 : cells ≤ k) (h2 : slots ≤ n) (h : AW C nL Z M k n pc L st F G) : AW C nL Z M cells slots pc L st F G := by
  obtain ⟨p, e, R', s, m, args, below, meth, c⟩ := M
  intro H locs ls hH hS hl
  exact W.widen h1 h2 (h H locs ls hH hS hl)
end AWC
