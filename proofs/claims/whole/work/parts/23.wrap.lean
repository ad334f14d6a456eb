/-! ===== methods with an exception table: the law's own helpers ===== -/
def wsW (y : MethodName) (cc : ByteArray) (nL : Nat) (ret : Option FieldType) (hh : List (Nat × Nat × Nat × Nat)) : List Cond := .codeWith y cc nL ret hh :: lw_tbl.filter goodWord
def AMW (C : CX) (y : MethodName) (cc : ByteArray) (nL : Nat) (ret : Option FieldType) (hh : List (Nat × Nat × Nat × Nat)) (rm : Room) (av : List Value) (F : MM) (G : GG) (Q : OUT → MM → GG → Prop) : Prop :=
  vx_Met C.1 y (wsW y cc nL ret hh) rm (va_Pc (av.map (rv_ C.2.2.1)) (fun U => XK C U ∧ XH C F G U.heap)) (QcO C Q) (XCO C Q) rm.cells rm.slots (fun q => C.2.1 ≤ q)
def MTb (hh : List (Nat × Nat × Nat × Nat)) : MX → Prop
  | (p, e, R', s, m, args, below, meth, c) => c.exceptionTable.toList = tableOf hh
theorem lg_len (ρ : Nat → Nat) : ∀ vs : List Value, (lg_sl (vs.map (rv_ ρ))).length = (lg_sl vs).length := by
  intro vs
  induction vs with
  | nil => rfl
  | cons v vs ih =>
    unfold lg_sl at ih ⊢
    rw [List.map_cons, List.flatMap_cons, List.flatMap_cons, List.length_append, List.length_append, ih, rv_cat]
    by_cases hc : v.category = 2
    · rw [if_pos hc, if_pos hc]; rfl
    · rw [if_neg hc, if_neg hc]; rfl
theorem amw_of {C : CX} {y : MethodName} {cc : ByteArray} {nL : Nat} {ret : Option FieldType} {hh : List (Nat × Nat × Nat × Nat)} {rm : Room} {av : List Value} {F : MM} {G : GG} {Q : OUT → MM → GG → Prop} {L : List (Option Value)}
    (hy : plainName y.cls = true) (hsz : (lg_sl av).length ≤ nL) (hL : lv_ent av ++ List.replicate (nL - (lv_ent av).length) none = L)
    (body : ∀ M : MX, MOk C y.cls cc nL ret rm M → MTb hh M → AW C nL (ZM C rm Q M) M 0 0 0 L [] F G) : AMW C y cc nL ret hh rm av F G Q := by
  refine vx_ofWH (cc := cc) (maxL := nL) (ret := ret) (hh := hh) hy rfl ?_
  intro p e s m args below meth c s₁ B hml hv
  obtain ⟨rfl, hK, hH⟩ := hv
  have hts := atoms_spec (ws := wsW y cc nL ret hh) B.pre
  have hown : s.vm.findClass y.cls = some m.cls := findClass_of_methodNamed B.named
  have ht : c.exceptionTable.toList = tableOf hh := vx_table (x := y) B (hts _ List.mem_cons_self)
  have hl := lv_entry (av.map (rv_ C.2.2.1)) (n := nL) (by rw [lg_len]; exact hsz)
  rw [lg_entry_eq]
  generalize (lg_sl (av.map (rv_ C.2.2.1)) ++ List.replicate (nL - (lg_sl (av.map (rv_ C.2.2.1))).length) Slot.unset).toArray = ls at hl ⊢
  exact body (p, e, (headSpec (wsW y cc nL ret hh) rm).room, s, m, (av.map (rv_ C.2.2.1)).toArray, below, meth, c) ⟨rfl, B.exec, B.bytes, hml, hown, fun w hw => hts w (List.mem_cons_of_mem _ (gw_filter hw)), B.returns, B.notSynchronized, hK⟩ ht
    s.heap [] ls hH va_S.rf (lvR_entry hl hL)
def CWW (own : String) (index : Nat) (y : MethodName) (bytes : ByteArray) (maxL : Nat) (rt : Option FieldType) (hh : List (Nat × Nat × Nat × Nat)) : Prop := GW (.methodLink own index y) ∧ GW (.static y) ∧ GW (.initialized y.cls) ∧ GW (.codeWith y bytes maxL rt hh) ∧ y.cls ≠ "java/lang/invoke/MethodHandle" ∧ y.cls ≠ "java/lang/invoke/VarHandle"
theorem wsW_ok {s : State} {args : Array Value} {y : MethodName} {bytes : ByteArray} {maxL : Nat} {rt : Option FieldType} {hh : List (Nat × Nat × Nat × Nat)} (hts : ∀ w, GW w → w.before args s = true) (hc : GW (.codeWith y bytes maxL rt hh)) : ∀ w ∈ wsW y bytes maxL rt hh, ∀ (a' : Array Value) (U : State), s.WarmedH U.vm → w.before a' U = true := by
  intro w hw a' U hW
  have hg : GW w := by
    rcases List.mem_cons.mp hw with h | h
    · rw [h]; exact hc
    · exact List.mem_filter.mp h
  exact word_at hW (good_of_word hg.2) (hts w hg)
section AWW
variable {C : CX} {own : String} {cc : ByteArray} {nL : Nat} {ret : Option FieldType} {R : Room} {M : MX} {Z : State → Prop} {cells slots pc : Nat} {L : List (Option Value)} {st : List Value} {F : MM} {G : GG}
theorem aw_csW {index n : Nat} {y : MethodName} {bytes : ByteArray} {maxL : Nat} {rt : Option FieldType} {hh : List (Nat × Nat × Nat × Nat)} {rm : Room} {As st0 : List Value} {F' : MM} {G' : GG} {vo : Option Value} {c2 s2 : Nat} (hM : MOk C own cc nL ret R M) (hA : AMW C y bytes maxL rt hh rm As F G (fun o F9 G9 => o = .inl vo ∧ F9 = F' ∧ G9 = G')) (cw : CWW own index y bytes maxL rt hh)
    (hn : (parseMethodDescriptor y.desc).map (fun d => d.parameters.length) = some n) (hAs : As.length = n) (hst : As.reverse ++ st = st0) (hR : rm.frames + 1 ≤ R.frames ∧ 8 + (maxL + 11) + rm.locals ≤ R.locals) (hw : (st.map fun v => v.category).sum ≤ 8) (hf : cells + rm.cells ≤ R.cells ∧ slots + rm.slots ≤ R.slots) (hd : decode cc pc = .ok (.invokestatic index, 3))
    (e1 : cells + rm.cells = c2) (e2 : slots + rm.slots = s2) (h : AW C nL Z M c2 s2 (pc + 3) L (vo.toList ++ st) F' G') : AW C nL Z M cells slots pc L st0 F G := by
  subst hst; subst e1; subst e2
  obtain ⟨p, e, R', s, m, args, below, meth, c⟩ := M
  obtain ⟨rfl, hx, hb, hml, hown, hts, hr9, hlk, hK⟩ := hM
  obtain ⟨c1, c2, c4, c5, c6, c7⟩ := cw
  intro H locs ls hH hS hl
  have hlen : ∀ sig, parseMethodDescriptor y.desc = some sig → n = sig.parameters.length := fun sig h => by
    rw [h] at hn; exact (Option.some.inj hn).symm
  refine aw_ofRun (Q := fun o F9 G9 => o = .inl vo ∧ F9 = F' ∧ G9 = G') (mc := rm.cells) (ms := rm.slots) (a := (As.map (rv_ C.2.2.1)).toArray) p e s m args below meth c H locs ls hS hl ?_ (fun r F9 G9 q9 => by obtain ⟨q1, q2, q3⟩ := q9; cases q1; subst q2; subst q3; exact h) (fun E9 F9 G9 q9 => nomatch q9.1)
  refine vx_runSX (Ts := lw_tbl.filter goodWord) (As := As.map (rv_ C.2.2.1)) (rest := st.map (rv_ C.2.2.1)) ⟨hx, hb, hml, hown, gw_hts hts⟩ hA
    ⟨⟨rfl, rfl, hR.1, hR.2, wsW_ok hts c5, List.mem_cons_self⟩, hts _ c5, hts _ c4, ⟨c6, c7⟩, hlen, hts _ c1, hts _ c2⟩
    ⟨am_blind (y := y), fun U hU hW => ⟨rfl, hK.moved hS hU hW, by rw [hU]; exact hH⟩⟩ rfl (by rw [List.length_map]; exact hAs) hl.1 ?_ (lv_room (by rw [cat_map]; exact hw)) hd hf
  show ((As.reverse ++ st).map (rv_ C.2.2.1)) = _
  rw [List.map_append, List.map_reverse]
/-- caught by the row x: the handler keeps it in a local, and answers a number -/
theorem ax_catch {rm : Room} {Q : OUT → MM → GG → Prop} {E : String} {hh : List (Nat × Nat × Nat × Nat)} {v : Int32} (pre : List ExceptionTableEntry) (x : ExceptionTableEntry) (suf : List ExceptionTableEntry) (hM : MOk C own cc nL (some .int) R M) (hT : MTb hh M) (hsp : tableOf hh = pre ++ x :: suf)
    (hpass : ∀ z ∈ pre, z.catchType ≠ 0 ∧ ∃ nm : String, GW (.classLink own z.catchType nm) ∧ (E, nm) ∈ nc_list) (hx9 : covers x pc = true) (h0 : x.catchType ≠ 0) (hcl9 : GW (.classLink own x.catchType E)) (hbw : Cond.castable E E ∈ bw_list)
    (hd : (∃ (k : Fin 4) (j : Int), (k : Nat) < nL ∧ decode cc x.handlerPc = .ok (.astore_n k, 1) ∧ decode cc (x.handlerPc + 1) = .ok (.iconst j, 1) ∧ Int32.ofInt j = v ∧ decode cc (x.handlerPc + 1 + 1) = .ok (.ireturn, 1)) ∨ (∃ (i : Nat) (j : Int), i < nL ∧ decode cc x.handlerPc = .ok (.astore i, 2) ∧ decode cc (x.handlerPc + 2) = .ok (.iconst j, 1) ∧ Int32.ofInt j = v ∧ decode cc (x.handlerPc + 2 + 1) = .ok (.ireturn, 1)))
    (hc : cells ≤ rm.cells) (hs : slots ≤ rm.slots) (hq : Q (.inl (some (.int v))) F G) : AX C nL (ZM C rm Q M) E M cells slots pc L F G := by
  obtain ⟨p, e, R', s, m, args, below, meth, c⟩ := M
  obtain ⟨rfl, hx, hb, hml, hown, hts, hr, hlk, hK⟩ := hM
  obtain ⟨k1, k2, k3, k4, k5, k6, k7, k8, k9⟩ := hK
  intro H locs ls rest ce q hH hS hl hce hcv hcl
  refine vx_catch (own := own) (name := E) (E := E) hown pre x suf (Eq.trans hT hsp) (fun z hz => ?_) hx9 h0 (hts _ hcl9) (va_Nw.use rfl (k6 _ hbw)) hce hcv hcl ?_
  · obtain ⟨z0, nm, z1, z2⟩ := hpass z hz
    exact Or.inr ⟨z0, nm, hts _ z1, k9 _ z2⟩
  · have fin : ∀ (pc2 : Nat) (ls2 : Array Slot) (j : Int), decode cc pc2 = .ok (.iconst j, 1) → Int32.ofInt j = v → decode cc (pc2 + 1) = .ok (.ireturn, 1) → W p C.1 e R' s m args below meth c H locs cells slots (ZM C rm Q (p, e, R', s, m, args, below, meth, c)) (F0 m pc2 ls2 []) := by
      intro pc2 ls2 j d2 hj d3
      refine lv_iconst (v := v) hx hb d2 hj ?_
      refine W.widen hc hs ?_
      exact vx_ret (W.iret (v := v) hx hb hr (fun t ht hW => ⟨some (.int v), F, G, rfl, hq, by rw [ht]; exact hH, hS.F ht⟩) hS.2.2 d3 hlk)
    rcases hd with ⟨k, j, hk, d1, d2, hj, d3⟩ | ⟨i, j, hk, d1, d2, hj, d3⟩
    · exact lv_astore_n hx hb d1 rfl hl.has hk rfl (fun ls2 _ => fin _ ls2 j d2 hj d3)
    · exact lv_astore hx hb d1 hl.has hk rfl (fun ls2 _ => fin _ ls2 j d2 hj d3)
end AWW
def wci : List String → Int32 → String → Option Int32
  | [], _, _ => none
  | e :: r, k, E => if E = e then some k else wci r (k + 1) E
def wcd {α : Type} (Es : List String) : α ⊕ String → Option Int32
  | .inl _ => some 0
  | .inr E => wci Es 1 E
def gupI (G : GG) : Int32 ⊕ String → GG
  | .inl v => vp_updL G 0 v.toInt64
  | .inr _ => G
def gupZ (G : GG) : Int32 ⊕ String → GG
  | .inl v => vp_updL G 0 (if v = 0 then 0 else 1)
  | .inr _ => G
def rmL_about : Room := { frames := 7, cells := 1, slots := 6, locals := 103 }
def hhL_about : List (Nat × Nat × Nat × Nat) := [(0, 9, 12, 13)]
set_option maxRecDepth 20000 in
theorem k_L_about {C : CX} {F : MM} {G : GG} {p0 : Int32} {r : (Int32 ⊕ String)} {k : Int32} (h : s_X8_about F p0 = some r) (hk : wcd [ex_iae] r = some k) : AMW C yL_about cL_about 4 (some .int) hhL_about rmL_about [.ref 0, .int p0, .ref 180] F G (fun o F9 G9 => o = .inl (some (.int k)) ∧ F9 = F ∧ G9 = gupI G r) := by
  refine amw_of (L := [some (.ref 0), some (.int p0), some (.ref 180), none]) (by decide) (Nat.le_of_ble_eq_true rfl) rfl (fun M hM hT => ?_)
  have hM : MOk C RL cL_about 4 (some .int) rmL_about M := hM
  obtain ⟨Q, hQ⟩ : ∃ Q : OUT → MM → GG → Prop, Q = (fun o F9 G9 => o = .inl (some (.int k)) ∧ F9 = F ∧ G9 = gupI G r) := ⟨_, rfl⟩
  have hq : Q (.inl (some (.int k))) (F) (gupI G r) := by rw [hQ]; exact ⟨rfl, rfl, rfl⟩
  rw [← hQ]
  clear hQ
  refine aw_aload_n (pc := 0) (i := 2) (x := 180) hM dL_about_0 rfl rfl ?_
  refine aw_iconst (pc := 1) (v := 0) hM dL_about_1 (by decide) ?_
  refine aw_aload_n (pc := 2) (i := 0) (x := 0) hM dL_about_2 rfl rfl ?_
  refine aw_iload_n (pc := 3) (i := 1) (x := p0) hM dL_about_3 rfl rfl ?_
  match r, h, hk, hq with
  | .inl v, h, hk, hq =>
    obtain rfl := Option.some.inj hk
    refine aw_cv1 (pc := 4) (n := 1) (As := [.int p0]) (st := [.int 0, .ref 180]) (b := 0) (vo := some (.int v)) (c2 := 1) (s2 := 6) hM (k_X8_about h) rfl cw_L_21 sk_0 rfl rfl (by decide +kernel) rfl rfl ⟨(Nat.le_of_ble_eq_true rfl), (Nat.le_of_ble_eq_true rfl)⟩ (Nat.le_of_ble_eq_true rfl) ⟨(Nat.le_of_ble_eq_true rfl), (Nat.le_of_ble_eq_true rfl)⟩ dL_about_4 rfl rfl ?_
    refine aw_i2l (pc := 7) hM dL_about_7 ?_
    refine aw_last (pc := 8) hM sk_180 (by decide) dL_about_8 ?_
    refine aw_goto (pc := 9) (tgt := 15) hM dL_about_9 (by decide) ?_
    refine aw_iconst (pc := 15) (v := 0) hM dL_about_15 (by decide) ?_
    exact aw_iret (pc := 16) hM dL_about_16 (Nat.le_of_ble_eq_true rfl) (Nat.le_of_ble_eq_true rfl) hq
  | .inr E, h, hk, hq =>
    refine aw_cvX (pc := 4) (n := 1) (As := [.int p0]) (st := [.int 0, .ref 180]) (b := 0) (E := E) hM (k_X8_about h) rfl cw_L_21 sk_0 rfl rfl (by decide +kernel) rfl rfl ⟨(Nat.le_of_ble_eq_true rfl), (Nat.le_of_ble_eq_true rfl)⟩ (Nat.le_of_ble_eq_true rfl) ⟨(Nat.le_of_ble_eq_true rfl), (Nat.le_of_ble_eq_true rfl)⟩ dL_about_4 ?_
    by_cases c0 : E = ex_iae
    · subst c0
      obtain rfl : (1 : Int32) = k := by simpa [wcd, wci, ex_iae, ex_ise, ex_ioo] using hk
      exact ax_catch (hh := hhL_about) (v := 1) [] ⟨0, 9, 12, 13⟩ [] hM hT rfl (fun z hz => nomatch hz) (by decide) (by decide) gw_464 (by decide) (Or.inl ⟨3, 1, by decide, dL_about_12, dL_about_13, by decide, dL_about_14⟩) (Nat.le_of_ble_eq_true rfl) (Nat.le_of_ble_eq_true rfl) hq
    · exact absurd hk (by simp [wcd, wci, c0])
def rmL_ahead : Room := { frames := 8, cells := 3, slots := 18, locals := 136 }
def hhL_ahead : List (Nat × Nat × Nat × Nat) := [(0, 12, 15, 28), (0, 12, 19, 13)]
set_option maxRecDepth 20000 in
theorem k_L_ahead {C : CX} {F : MM} {G : GG} {p0 : Int32} {p1 : Int32} {p2 : Int32} {r : ((Int32 ⊕ String) × MM)} {k : Int32} (h : s_X8_ahead F p0 p1 p2 = some r) (hk : wcd [ex_ioo, ex_iae] r.1 = some k) : AMW C yL_ahead cL_ahead 6 (some .int) hhL_ahead rmL_ahead [.ref 0, .int p0, .int p1, .int p2, .ref 180] F G (fun o F9 G9 => o = .inl (some (.int k)) ∧ F9 = r.2 ∧ G9 = gupI G r.1) := by
  refine amw_of (L := [some (.ref 0), some (.int p0), some (.int p1), some (.int p2), some (.ref 180), none]) (by decide) (Nat.le_of_ble_eq_true rfl) rfl (fun M hM hT => ?_)
  have hM : MOk C RL cL_ahead 6 (some .int) rmL_ahead M := hM
  obtain ⟨Q, hQ⟩ : ∃ Q : OUT → MM → GG → Prop, Q = (fun o F9 G9 => o = .inl (some (.int k)) ∧ F9 = r.2 ∧ G9 = gupI G r.1) := ⟨_, rfl⟩
  have hq : Q (.inl (some (.int k))) (r.2) (gupI G r.1) := by rw [hQ]; exact ⟨rfl, rfl, rfl⟩
  rw [← hQ]
  clear hQ
  refine aw_aload (pc := 0) (i := 4) (x := 180) hM dL_ahead_0  rfl ?_
  refine aw_iconst (pc := 2) (v := 0) hM dL_ahead_2 (by decide) ?_
  refine aw_aload_n (pc := 3) (i := 0) (x := 0) hM dL_ahead_3 rfl rfl ?_
  refine aw_iload_n (pc := 4) (i := 1) (x := p0) hM dL_ahead_4 rfl rfl ?_
  refine aw_iload_n (pc := 5) (i := 2) (x := p1) hM dL_ahead_5 rfl rfl ?_
  refine aw_iload_n (pc := 6) (i := 3) (x := p2) hM dL_ahead_6 rfl rfl ?_
  obtain ⟨r1, Fr⟩ := r
  match r1, h, hk, hq with
  | .inl v, h, hk, hq =>
    obtain rfl := Option.some.inj hk
    refine aw_cv1 (pc := 7) (n := 3) (As := [.int p0, .int p1, .int p2]) (st := [.int 0, .ref 180]) (b := 0) (vo := some (.int v)) (c2 := 3) (s2 := 18) hM (k_X8_ahead h) rfl cw_L_89 sk_0 rfl rfl (by decide +kernel) rfl rfl ⟨(Nat.le_of_ble_eq_true rfl), (Nat.le_of_ble_eq_true rfl)⟩ (Nat.le_of_ble_eq_true rfl) ⟨(Nat.le_of_ble_eq_true rfl), (Nat.le_of_ble_eq_true rfl)⟩ dL_ahead_7 rfl rfl ?_
    refine aw_i2l (pc := 10) hM dL_ahead_10 ?_
    refine aw_last (pc := 11) hM sk_180 (by decide) dL_ahead_11 ?_
    refine aw_goto (pc := 12) (tgt := 23) hM dL_ahead_12 (by decide) ?_
    refine aw_iconst (pc := 23) (v := 0) hM dL_ahead_23 (by decide) ?_
    exact aw_iret (pc := 24) hM dL_ahead_24 (Nat.le_of_ble_eq_true rfl) (Nat.le_of_ble_eq_true rfl) hq
  | .inr E, h, hk, hq =>
    refine aw_cvX (pc := 7) (n := 3) (As := [.int p0, .int p1, .int p2]) (st := [.int 0, .ref 180]) (b := 0) (E := E) hM (k_X8_ahead h) rfl cw_L_89 sk_0 rfl rfl (by decide +kernel) rfl rfl ⟨(Nat.le_of_ble_eq_true rfl), (Nat.le_of_ble_eq_true rfl)⟩ (Nat.le_of_ble_eq_true rfl) ⟨(Nat.le_of_ble_eq_true rfl), (Nat.le_of_ble_eq_true rfl)⟩ dL_ahead_7 ?_
    by_cases c0 : E = ex_ioo
    · subst c0
      obtain rfl : (1 : Int32) = k := by simpa [wcd, wci, ex_iae, ex_ise, ex_ioo] using hk
      exact ax_catch (hh := hhL_ahead) (v := 1) [] ⟨0, 12, 15, 28⟩ [⟨0, 12, 19, 13⟩] hM hT rfl (fun z hz => nomatch hz) (by decide) (by decide) gw_615 (by decide) (Or.inr ⟨5, 1, by decide, dL_ahead_15, dL_ahead_17, by decide, dL_ahead_18⟩) (Nat.le_of_ble_eq_true rfl) (Nat.le_of_ble_eq_true rfl) hq
    by_cases c1 : E = ex_iae
    · subst c1
      obtain rfl : (2 : Int32) = k := by simpa [wcd, wci, ex_iae, ex_ise, ex_ioo] using hk
      exact ax_catch (hh := hhL_ahead) (v := 2) [⟨0, 12, 15, 28⟩] ⟨0, 12, 19, 13⟩ [] hM hT rfl (fun z hz => by simp only [List.mem_cons, List.not_mem_nil, or_false] at hz; rcases hz with rfl <;> first | exact ⟨by decide, ex_ioo, gw_615, by decide⟩) (by decide) (by decide) gw_464 (by decide) (Or.inr ⟨5, 2, by decide, dL_ahead_19, dL_ahead_21, by decide, dL_ahead_22⟩) (Nat.le_of_ble_eq_true rfl) (Nat.le_of_ble_eq_true rfl) hq
    · exact absurd hk (by simp [wcd, wci, c0, c1])
def rmL_append : Room := { frames := 8, cells := 2, slots := 12, locals := 125 }
def hhL_append : List (Nat × Nat × Nat × Nat) := [(0, 9, 12, 13), (0, 9, 15, 15)]
set_option maxRecDepth 20000 in
theorem k_L_append {C : CX} {F : MM} {G : GG} {p0 : Int32} {r : ((Int32 ⊕ String) × MM)} {k : Int32} (h : s_X8_append F p0 = some r) (hk : wcd [ex_iae, ex_ise] r.1 = some k) : AMW C yL_append cL_append 4 (some .int) hhL_append rmL_append [.ref 0, .int p0, .ref 180] F G (fun o F9 G9 => o = .inl (some (.int k)) ∧ F9 = r.2 ∧ G9 = gupI G r.1) := by
  refine amw_of (L := [some (.ref 0), some (.int p0), some (.ref 180), none]) (by decide) (Nat.le_of_ble_eq_true rfl) rfl (fun M hM hT => ?_)
  have hM : MOk C RL cL_append 4 (some .int) rmL_append M := hM
  obtain ⟨Q, hQ⟩ : ∃ Q : OUT → MM → GG → Prop, Q = (fun o F9 G9 => o = .inl (some (.int k)) ∧ F9 = r.2 ∧ G9 = gupI G r.1) := ⟨_, rfl⟩
  have hq : Q (.inl (some (.int k))) (r.2) (gupI G r.1) := by rw [hQ]; exact ⟨rfl, rfl, rfl⟩
  rw [← hQ]
  clear hQ
  refine aw_aload_n (pc := 0) (i := 2) (x := 180) hM dL_append_0 rfl rfl ?_
  refine aw_iconst (pc := 1) (v := 0) hM dL_append_1 (by decide) ?_
  refine aw_aload_n (pc := 2) (i := 0) (x := 0) hM dL_append_2 rfl rfl ?_
  refine aw_iload_n (pc := 3) (i := 1) (x := p0) hM dL_append_3 rfl rfl ?_
  obtain ⟨r1, Fr⟩ := r
  match r1, h, hk, hq with
  | .inl v, h, hk, hq =>
    obtain rfl := Option.some.inj hk
    refine aw_cv1 (pc := 4) (n := 1) (As := [.int p0]) (st := [.int 0, .ref 180]) (b := 0) (vo := some (.int v)) (c2 := 2) (s2 := 12) hM (k_X8_append h) rfl cw_L_7 sk_0 rfl rfl (by decide +kernel) rfl rfl ⟨(Nat.le_of_ble_eq_true rfl), (Nat.le_of_ble_eq_true rfl)⟩ (Nat.le_of_ble_eq_true rfl) ⟨(Nat.le_of_ble_eq_true rfl), (Nat.le_of_ble_eq_true rfl)⟩ dL_append_4 rfl rfl ?_
    refine aw_i2l (pc := 7) hM dL_append_7 ?_
    refine aw_last (pc := 8) hM sk_180 (by decide) dL_append_8 ?_
    refine aw_goto (pc := 9) (tgt := 18) hM dL_append_9 (by decide) ?_
    refine aw_iconst (pc := 18) (v := 0) hM dL_append_18 (by decide) ?_
    exact aw_iret (pc := 19) hM dL_append_19 (Nat.le_of_ble_eq_true rfl) (Nat.le_of_ble_eq_true rfl) hq
  | .inr E, h, hk, hq =>
    refine aw_cvX (pc := 4) (n := 1) (As := [.int p0]) (st := [.int 0, .ref 180]) (b := 0) (E := E) hM (k_X8_append h) rfl cw_L_7 sk_0 rfl rfl (by decide +kernel) rfl rfl ⟨(Nat.le_of_ble_eq_true rfl), (Nat.le_of_ble_eq_true rfl)⟩ (Nat.le_of_ble_eq_true rfl) ⟨(Nat.le_of_ble_eq_true rfl), (Nat.le_of_ble_eq_true rfl)⟩ dL_append_4 ?_
    by_cases c0 : E = ex_iae
    · subst c0
      obtain rfl : (1 : Int32) = k := by simpa [wcd, wci, ex_iae, ex_ise, ex_ioo] using hk
      exact ax_catch (hh := hhL_append) (v := 1) [] ⟨0, 9, 12, 13⟩ [⟨0, 9, 15, 15⟩] hM hT rfl (fun z hz => nomatch hz) (by decide) (by decide) gw_464 (by decide) (Or.inl ⟨3, 1, by decide, dL_append_12, dL_append_13, by decide, dL_append_14⟩) (Nat.le_of_ble_eq_true rfl) (Nat.le_of_ble_eq_true rfl) hq
    by_cases c1 : E = ex_ise
    · subst c1
      obtain rfl : (2 : Int32) = k := by simpa [wcd, wci, ex_iae, ex_ise, ex_ioo] using hk
      exact ax_catch (hh := hhL_append) (v := 2) [⟨0, 9, 12, 13⟩] ⟨0, 9, 15, 15⟩ [] hM hT rfl (fun z hz => by simp only [List.mem_cons, List.not_mem_nil, or_false] at hz; rcases hz with rfl <;> first | exact ⟨by decide, ex_iae, gw_464, by decide⟩) (by decide) (by decide) gw_465 (by decide) (Or.inl ⟨3, 2, by decide, dL_append_15, dL_append_16, by decide, dL_append_17⟩) (Nat.le_of_ble_eq_true rfl) (Nat.le_of_ble_eq_true rfl) hq
    · exact absurd hk (by simp [wcd, wci, c0, c1])
def rmL_approvals : Room := { frames := 8, cells := 2, slots := 12, locals := 126 }
def hhL_approvals : List (Nat × Nat × Nat × Nat) := [(0, 10, 13, 28), (0, 10, 17, 13)]
set_option maxRecDepth 20000 in
theorem k_L_approvals {C : CX} {F : MM} {G : GG} {p0 : Int32} {p1 : Int32} {r : (Int32 ⊕ String)} {k : Int32} (h : s_X8_approvals F p0 p1 = some r) (hk : wcd [ex_ioo, ex_iae] r = some k) : AMW C yL_approvals cL_approvals 5 (some .int) hhL_approvals rmL_approvals [.ref 0, .int p0, .int p1, .ref 180] F G (fun o F9 G9 => o = .inl (some (.int k)) ∧ F9 = F ∧ G9 = gupI G r) := by
  refine amw_of (L := [some (.ref 0), some (.int p0), some (.int p1), some (.ref 180), none]) (by decide) (Nat.le_of_ble_eq_true rfl) rfl (fun M hM hT => ?_)
  have hM : MOk C RL cL_approvals 5 (some .int) rmL_approvals M := hM
  obtain ⟨Q, hQ⟩ : ∃ Q : OUT → MM → GG → Prop, Q = (fun o F9 G9 => o = .inl (some (.int k)) ∧ F9 = F ∧ G9 = gupI G r) := ⟨_, rfl⟩
  have hq : Q (.inl (some (.int k))) (F) (gupI G r) := by rw [hQ]; exact ⟨rfl, rfl, rfl⟩
  rw [← hQ]
  clear hQ
  refine aw_aload_n (pc := 0) (i := 3) (x := 180) hM dL_approvals_0 rfl rfl ?_
  refine aw_iconst (pc := 1) (v := 0) hM dL_approvals_1 (by decide) ?_
  refine aw_aload_n (pc := 2) (i := 0) (x := 0) hM dL_approvals_2 rfl rfl ?_
  refine aw_iload_n (pc := 3) (i := 1) (x := p0) hM dL_approvals_3 rfl rfl ?_
  refine aw_iload_n (pc := 4) (i := 2) (x := p1) hM dL_approvals_4 rfl rfl ?_
  match r, h, hk, hq with
  | .inl v, h, hk, hq =>
    obtain rfl := Option.some.inj hk
    refine aw_cv1 (pc := 5) (n := 2) (As := [.int p0, .int p1]) (st := [.int 0, .ref 180]) (b := 0) (vo := some (.int v)) (c2 := 2) (s2 := 12) hM (k_X8_approvals h) rfl cw_L_37 sk_0 rfl rfl (by decide +kernel) rfl rfl ⟨(Nat.le_of_ble_eq_true rfl), (Nat.le_of_ble_eq_true rfl)⟩ (Nat.le_of_ble_eq_true rfl) ⟨(Nat.le_of_ble_eq_true rfl), (Nat.le_of_ble_eq_true rfl)⟩ dL_approvals_5 rfl rfl ?_
    refine aw_i2l (pc := 8) hM dL_approvals_8 ?_
    refine aw_last (pc := 9) hM sk_180 (by decide) dL_approvals_9 ?_
    refine aw_goto (pc := 10) (tgt := 21) hM dL_approvals_10 (by decide) ?_
    refine aw_iconst (pc := 21) (v := 0) hM dL_approvals_21 (by decide) ?_
    exact aw_iret (pc := 22) hM dL_approvals_22 (Nat.le_of_ble_eq_true rfl) (Nat.le_of_ble_eq_true rfl) hq
  | .inr E, h, hk, hq =>
    refine aw_cvX (pc := 5) (n := 2) (As := [.int p0, .int p1]) (st := [.int 0, .ref 180]) (b := 0) (E := E) hM (k_X8_approvals h) rfl cw_L_37 sk_0 rfl rfl (by decide +kernel) rfl rfl ⟨(Nat.le_of_ble_eq_true rfl), (Nat.le_of_ble_eq_true rfl)⟩ (Nat.le_of_ble_eq_true rfl) ⟨(Nat.le_of_ble_eq_true rfl), (Nat.le_of_ble_eq_true rfl)⟩ dL_approvals_5 ?_
    by_cases c0 : E = ex_ioo
    · subst c0
      obtain rfl : (1 : Int32) = k := by simpa [wcd, wci, ex_iae, ex_ise, ex_ioo] using hk
      exact ax_catch (hh := hhL_approvals) (v := 1) [] ⟨0, 10, 13, 28⟩ [⟨0, 10, 17, 13⟩] hM hT rfl (fun z hz => nomatch hz) (by decide) (by decide) gw_615 (by decide) (Or.inr ⟨4, 1, by decide, dL_approvals_13, dL_approvals_15, by decide, dL_approvals_16⟩) (Nat.le_of_ble_eq_true rfl) (Nat.le_of_ble_eq_true rfl) hq
    by_cases c1 : E = ex_iae
    · subst c1
      obtain rfl : (2 : Int32) = k := by simpa [wcd, wci, ex_iae, ex_ise, ex_ioo] using hk
      exact ax_catch (hh := hhL_approvals) (v := 2) [⟨0, 10, 13, 28⟩] ⟨0, 10, 17, 13⟩ [] hM hT rfl (fun z hz => by simp only [List.mem_cons, List.not_mem_nil, or_false] at hz; rcases hz with rfl <;> first | exact ⟨by decide, ex_ioo, gw_615, by decide⟩) (by decide) (by decide) gw_464 (by decide) (Or.inr ⟨4, 2, by decide, dL_approvals_17, dL_approvals_19, by decide, dL_approvals_20⟩) (Nat.le_of_ble_eq_true rfl) (Nat.le_of_ble_eq_true rfl) hq
    · exact absurd hk (by simp [wcd, wci, c0, c1])
def rmL_approve : Room := { frames := 8, cells := 4, slots := 24, locals := 128 }
def hhL_approve : List (Nat × Nat × Nat × Nat) := [(0, 12, 15, 28), (0, 12, 19, 13), (0, 12, 23, 15)]
set_option maxRecDepth 20000 in
theorem k_L_approve {C : CX} {F : MM} {G : GG} {p0 : Int32} {p1 : Int32} {p2 : Int32} {r : ((Int32 ⊕ String) × MM)} {k : Int32} (h : s_X8_approve F p0 p1 p2 = some r) (hk : wcd [ex_ioo, ex_iae, ex_ise] r.1 = some k) : AMW C yL_approve cL_approve 6 (some .int) hhL_approve rmL_approve [.ref 0, .int p0, .int p1, .int p2, .ref 180] F G (fun o F9 G9 => o = .inl (some (.int k)) ∧ F9 = r.2 ∧ G9 = gupI G r.1) := by
  refine amw_of (L := [some (.ref 0), some (.int p0), some (.int p1), some (.int p2), some (.ref 180), none]) (by decide) (Nat.le_of_ble_eq_true rfl) rfl (fun M hM hT => ?_)
  have hM : MOk C RL cL_approve 6 (some .int) rmL_approve M := hM
  obtain ⟨Q, hQ⟩ : ∃ Q : OUT → MM → GG → Prop, Q = (fun o F9 G9 => o = .inl (some (.int k)) ∧ F9 = r.2 ∧ G9 = gupI G r.1) := ⟨_, rfl⟩
  have hq : Q (.inl (some (.int k))) (r.2) (gupI G r.1) := by rw [hQ]; exact ⟨rfl, rfl, rfl⟩
  rw [← hQ]
  clear hQ
  refine aw_aload (pc := 0) (i := 4) (x := 180) hM dL_approve_0  rfl ?_
  refine aw_iconst (pc := 2) (v := 0) hM dL_approve_2 (by decide) ?_
  refine aw_aload_n (pc := 3) (i := 0) (x := 0) hM dL_approve_3 rfl rfl ?_
  refine aw_iload_n (pc := 4) (i := 1) (x := p0) hM dL_approve_4 rfl rfl ?_
  refine aw_iload_n (pc := 5) (i := 2) (x := p1) hM dL_approve_5 rfl rfl ?_
  refine aw_iload_n (pc := 6) (i := 3) (x := p2) hM dL_approve_6 rfl rfl ?_
  obtain ⟨r1, Fr⟩ := r
  match r1, h, hk, hq with
  | .inl v, h, hk, hq =>
    obtain rfl := Option.some.inj hk
    refine aw_cv1 (pc := 7) (n := 3) (As := [.int p0, .int p1, .int p2]) (st := [.int 0, .ref 180]) (b := 0) (vo := some (.int v)) (c2 := 4) (s2 := 24) hM (k_X8_approve h) rfl cw_L_53 sk_0 rfl rfl (by decide +kernel) rfl rfl ⟨(Nat.le_of_ble_eq_true rfl), (Nat.le_of_ble_eq_true rfl)⟩ (Nat.le_of_ble_eq_true rfl) ⟨(Nat.le_of_ble_eq_true rfl), (Nat.le_of_ble_eq_true rfl)⟩ dL_approve_7 rfl rfl ?_
    refine aw_i2l (pc := 10) hM dL_approve_10 ?_
    refine aw_last (pc := 11) hM sk_180 (by decide) dL_approve_11 ?_
    refine aw_goto (pc := 12) (tgt := 27) hM dL_approve_12 (by decide) ?_
    refine aw_iconst (pc := 27) (v := 0) hM dL_approve_27 (by decide) ?_
    exact aw_iret (pc := 28) hM dL_approve_28 (Nat.le_of_ble_eq_true rfl) (Nat.le_of_ble_eq_true rfl) hq
  | .inr E, h, hk, hq =>
    refine aw_cvX (pc := 7) (n := 3) (As := [.int p0, .int p1, .int p2]) (st := [.int 0, .ref 180]) (b := 0) (E := E) hM (k_X8_approve h) rfl cw_L_53 sk_0 rfl rfl (by decide +kernel) rfl rfl ⟨(Nat.le_of_ble_eq_true rfl), (Nat.le_of_ble_eq_true rfl)⟩ (Nat.le_of_ble_eq_true rfl) ⟨(Nat.le_of_ble_eq_true rfl), (Nat.le_of_ble_eq_true rfl)⟩ dL_approve_7 ?_
    by_cases c0 : E = ex_ioo
    · subst c0
      obtain rfl : (1 : Int32) = k := by simpa [wcd, wci, ex_iae, ex_ise, ex_ioo] using hk
      exact ax_catch (hh := hhL_approve) (v := 1) [] ⟨0, 12, 15, 28⟩ [⟨0, 12, 19, 13⟩, ⟨0, 12, 23, 15⟩] hM hT rfl (fun z hz => nomatch hz) (by decide) (by decide) gw_615 (by decide) (Or.inr ⟨5, 1, by decide, dL_approve_15, dL_approve_17, by decide, dL_approve_18⟩) (Nat.le_of_ble_eq_true rfl) (Nat.le_of_ble_eq_true rfl) hq
    by_cases c1 : E = ex_iae
    · subst c1
      obtain rfl : (2 : Int32) = k := by simpa [wcd, wci, ex_iae, ex_ise, ex_ioo] using hk
      exact ax_catch (hh := hhL_approve) (v := 2) [⟨0, 12, 15, 28⟩] ⟨0, 12, 19, 13⟩ [⟨0, 12, 23, 15⟩] hM hT rfl (fun z hz => by simp only [List.mem_cons, List.not_mem_nil, or_false] at hz; rcases hz with rfl <;> first | exact ⟨by decide, ex_ioo, gw_615, by decide⟩) (by decide) (by decide) gw_464 (by decide) (Or.inr ⟨5, 2, by decide, dL_approve_19, dL_approve_21, by decide, dL_approve_22⟩) (Nat.le_of_ble_eq_true rfl) (Nat.le_of_ble_eq_true rfl) hq
    by_cases c2 : E = ex_ise
    · subst c2
      obtain rfl : (3 : Int32) = k := by simpa [wcd, wci, ex_iae, ex_ise, ex_ioo] using hk
      exact ax_catch (hh := hhL_approve) (v := 3) [⟨0, 12, 15, 28⟩, ⟨0, 12, 19, 13⟩] ⟨0, 12, 23, 15⟩ [] hM hT rfl (fun z hz => by simp only [List.mem_cons, List.not_mem_nil, or_false] at hz; rcases hz with rfl | rfl <;> first | exact ⟨by decide, ex_ioo, gw_615, by decide⟩ | exact ⟨by decide, ex_iae, gw_464, by decide⟩) (by decide) (by decide) gw_465 (by decide) (Or.inr ⟨5, 3, by decide, dL_approve_23, dL_approve_25, by decide, dL_approve_26⟩) (Nat.le_of_ble_eq_true rfl) (Nat.le_of_ble_eq_true rfl) hq
    · exact absurd hk (by simp [wcd, wci, c0, c1, c2])
def rmL_breaks : Room := { frames := 8, cells := 3, slots := 18, locals := 127 }
def hhL_breaks : List (Nat × Nat × Nat × Nat) := [(0, 12, 15, 28), (0, 12, 19, 13)]
set_option maxRecDepth 20000 in
theorem k_L_breaks {C : CX} {F : MM} {G : GG} {p0 : Int32} {p1 : Int32} {p2 : Int32} {r : (Int32 ⊕ String)} {k : Int32} (h : s_X8_breaks F p0 p1 p2 = some r) (hk : wcd [ex_ioo, ex_iae] r = some k) : AMW C yL_breaks cL_breaks 6 (some .int) hhL_breaks rmL_breaks [.ref 0, .int p0, .int p1, .int p2, .ref 180] F G (fun o F9 G9 => o = .inl (some (.int k)) ∧ F9 = F ∧ G9 = gupI G r) := by
  refine amw_of (L := [some (.ref 0), some (.int p0), some (.int p1), some (.int p2), some (.ref 180), none]) (by decide) (Nat.le_of_ble_eq_true rfl) rfl (fun M hM hT => ?_)
  have hM : MOk C RL cL_breaks 6 (some .int) rmL_breaks M := hM
  obtain ⟨Q, hQ⟩ : ∃ Q : OUT → MM → GG → Prop, Q = (fun o F9 G9 => o = .inl (some (.int k)) ∧ F9 = F ∧ G9 = gupI G r) := ⟨_, rfl⟩
  have hq : Q (.inl (some (.int k))) (F) (gupI G r) := by rw [hQ]; exact ⟨rfl, rfl, rfl⟩
  rw [← hQ]
  clear hQ
  refine aw_aload (pc := 0) (i := 4) (x := 180) hM dL_breaks_0  rfl ?_
  refine aw_iconst (pc := 2) (v := 0) hM dL_breaks_2 (by decide) ?_
  refine aw_aload_n (pc := 3) (i := 0) (x := 0) hM dL_breaks_3 rfl rfl ?_
  refine aw_iload_n (pc := 4) (i := 1) (x := p0) hM dL_breaks_4 rfl rfl ?_
  refine aw_iload_n (pc := 5) (i := 2) (x := p1) hM dL_breaks_5 rfl rfl ?_
  refine aw_iload_n (pc := 6) (i := 3) (x := p2) hM dL_breaks_6 rfl rfl ?_
  match r, h, hk, hq with
  | .inl v, h, hk, hq =>
    obtain rfl := Option.some.inj hk
    refine aw_cv1 (pc := 7) (n := 3) (As := [.int p0, .int p1, .int p2]) (st := [.int 0, .ref 180]) (b := 0) (vo := some (.int v)) (c2 := 3) (s2 := 18) hM (k_X8_breaks h) rfl cw_L_80 sk_0 rfl rfl (by decide +kernel) rfl rfl ⟨(Nat.le_of_ble_eq_true rfl), (Nat.le_of_ble_eq_true rfl)⟩ (Nat.le_of_ble_eq_true rfl) ⟨(Nat.le_of_ble_eq_true rfl), (Nat.le_of_ble_eq_true rfl)⟩ dL_breaks_7 rfl rfl ?_
    refine aw_i2l (pc := 10) hM dL_breaks_10 ?_
    refine aw_last (pc := 11) hM sk_180 (by decide) dL_breaks_11 ?_
    refine aw_goto (pc := 12) (tgt := 23) hM dL_breaks_12 (by decide) ?_
    refine aw_iconst (pc := 23) (v := 0) hM dL_breaks_23 (by decide) ?_
    exact aw_iret (pc := 24) hM dL_breaks_24 (Nat.le_of_ble_eq_true rfl) (Nat.le_of_ble_eq_true rfl) hq
  | .inr E, h, hk, hq =>
    refine aw_cvX (pc := 7) (n := 3) (As := [.int p0, .int p1, .int p2]) (st := [.int 0, .ref 180]) (b := 0) (E := E) hM (k_X8_breaks h) rfl cw_L_80 sk_0 rfl rfl (by decide +kernel) rfl rfl ⟨(Nat.le_of_ble_eq_true rfl), (Nat.le_of_ble_eq_true rfl)⟩ (Nat.le_of_ble_eq_true rfl) ⟨(Nat.le_of_ble_eq_true rfl), (Nat.le_of_ble_eq_true rfl)⟩ dL_breaks_7 ?_
    by_cases c0 : E = ex_ioo
    · subst c0
      obtain rfl : (1 : Int32) = k := by simpa [wcd, wci, ex_iae, ex_ise, ex_ioo] using hk
      exact ax_catch (hh := hhL_breaks) (v := 1) [] ⟨0, 12, 15, 28⟩ [⟨0, 12, 19, 13⟩] hM hT rfl (fun z hz => nomatch hz) (by decide) (by decide) gw_615 (by decide) (Or.inr ⟨5, 1, by decide, dL_breaks_15, dL_breaks_17, by decide, dL_breaks_18⟩) (Nat.le_of_ble_eq_true rfl) (Nat.le_of_ble_eq_true rfl) hq
    by_cases c1 : E = ex_iae
    · subst c1
      obtain rfl : (2 : Int32) = k := by simpa [wcd, wci, ex_iae, ex_ise, ex_ioo] using hk
      exact ax_catch (hh := hhL_breaks) (v := 2) [⟨0, 12, 15, 28⟩] ⟨0, 12, 19, 13⟩ [] hM hT rfl (fun z hz => by simp only [List.mem_cons, List.not_mem_nil, or_false] at hz; rcases hz with rfl <;> first | exact ⟨by decide, ex_ioo, gw_615, by decide⟩) (by decide) (by decide) gw_464 (by decide) (Or.inr ⟨5, 2, by decide, dL_breaks_19, dL_breaks_21, by decide, dL_breaks_22⟩) (Nat.le_of_ble_eq_true rfl) (Nat.le_of_ble_eq_true rfl) hq
    · exact absurd hk (by simp [wcd, wci, c0, c1])
def rmL_dismiss : Room := { frames := 8, cells := 1, slots := 6, locals := 125 }
def hhL_dismiss : List (Nat × Nat × Nat × Nat) := [(0, 9, 12, 28)]
set_option maxRecDepth 20000 in
theorem k_L_dismiss {C : CX} {F : MM} {G : GG} {p0 : Int32} {r : ((Int32 ⊕ String) × MM)} {k : Int32} (h : s_X8_dismiss F p0 = some r) (hk : wcd [ex_ioo] r.1 = some k) : AMW C yL_dismiss cL_dismiss 4 (some .int) hhL_dismiss rmL_dismiss [.ref 0, .int p0, .ref 180] F G (fun o F9 G9 => o = .inl (some (.int k)) ∧ F9 = r.2 ∧ G9 = gupI G r.1) := by
  refine amw_of (L := [some (.ref 0), some (.int p0), some (.ref 180), none]) (by decide) (Nat.le_of_ble_eq_true rfl) rfl (fun M hM hT => ?_)
  have hM : MOk C RL cL_dismiss 4 (some .int) rmL_dismiss M := hM
  obtain ⟨Q, hQ⟩ : ∃ Q : OUT → MM → GG → Prop, Q = (fun o F9 G9 => o = .inl (some (.int k)) ∧ F9 = r.2 ∧ G9 = gupI G r.1) := ⟨_, rfl⟩
  have hq : Q (.inl (some (.int k))) (r.2) (gupI G r.1) := by rw [hQ]; exact ⟨rfl, rfl, rfl⟩
  rw [← hQ]
  clear hQ
  refine aw_aload_n (pc := 0) (i := 2) (x := 180) hM dL_dismiss_0 rfl rfl ?_
  refine aw_iconst (pc := 1) (v := 0) hM dL_dismiss_1 (by decide) ?_
  refine aw_aload_n (pc := 2) (i := 0) (x := 0) hM dL_dismiss_2 rfl rfl ?_
  refine aw_iload_n (pc := 3) (i := 1) (x := p0) hM dL_dismiss_3 rfl rfl ?_
  obtain ⟨r1, Fr⟩ := r
  match r1, h, hk, hq with
  | .inl v, h, hk, hq =>
    obtain rfl := Option.some.inj hk
    refine aw_cv1 (pc := 4) (n := 1) (As := [.int p0]) (st := [.int 0, .ref 180]) (b := 0) (vo := some (.int v)) (c2 := 1) (s2 := 6) hM (k_X8_dismiss h) rfl cw_L_56 sk_0 rfl rfl (by decide +kernel) rfl rfl ⟨(Nat.le_of_ble_eq_true rfl), (Nat.le_of_ble_eq_true rfl)⟩ (Nat.le_of_ble_eq_true rfl) ⟨(Nat.le_of_ble_eq_true rfl), (Nat.le_of_ble_eq_true rfl)⟩ dL_dismiss_4 rfl rfl ?_
    refine aw_i2l (pc := 7) hM dL_dismiss_7 ?_
    refine aw_last (pc := 8) hM sk_180 (by decide) dL_dismiss_8 ?_
    refine aw_goto (pc := 9) (tgt := 15) hM dL_dismiss_9 (by decide) ?_
    refine aw_iconst (pc := 15) (v := 0) hM dL_dismiss_15 (by decide) ?_
    exact aw_iret (pc := 16) hM dL_dismiss_16 (Nat.le_of_ble_eq_true rfl) (Nat.le_of_ble_eq_true rfl) hq
  | .inr E, h, hk, hq =>
    refine aw_cvX (pc := 4) (n := 1) (As := [.int p0]) (st := [.int 0, .ref 180]) (b := 0) (E := E) hM (k_X8_dismiss h) rfl cw_L_56 sk_0 rfl rfl (by decide +kernel) rfl rfl ⟨(Nat.le_of_ble_eq_true rfl), (Nat.le_of_ble_eq_true rfl)⟩ (Nat.le_of_ble_eq_true rfl) ⟨(Nat.le_of_ble_eq_true rfl), (Nat.le_of_ble_eq_true rfl)⟩ dL_dismiss_4 ?_
    by_cases c0 : E = ex_ioo
    · subst c0
      obtain rfl : (1 : Int32) = k := by simpa [wcd, wci, ex_iae, ex_ise, ex_ioo] using hk
      exact ax_catch (hh := hhL_dismiss) (v := 1) [] ⟨0, 9, 12, 28⟩ [] hM hT rfl (fun z hz => nomatch hz) (by decide) (by decide) gw_615 (by decide) (Or.inl ⟨3, 1, by decide, dL_dismiss_12, dL_dismiss_13, by decide, dL_dismiss_14⟩) (Nat.le_of_ble_eq_true rfl) (Nat.le_of_ble_eq_true rfl) hq
    · exact absurd hk (by simp [wcd, wci, c0])
def rmL_drift : Room := { frames := 8, cells := 3, slots := 18, locals := 128 }
def hhL_drift : List (Nat × Nat × Nat × Nat) := [(0, 12, 15, 28), (0, 12, 19, 13)]
set_option maxRecDepth 20000 in
theorem k_L_drift {C : CX} {F : MM} {G : GG} {p0 : Int32} {p1 : Int32} {p2 : Int32} {r : ((Int32 ⊕ String) × MM)} {k : Int32} (h : s_X8_drift F p0 p1 p2 = some r) (hk : wcd [ex_ioo, ex_iae] r.1 = some k) : AMW C yL_drift cL_drift 6 (some .int) hhL_drift rmL_drift [.ref 0, .int p0, .int p1, .int p2, .ref 180] F G (fun o F9 G9 => o = .inl (some (.int k)) ∧ F9 = r.2 ∧ G9 = gupI G r.1) := by
  refine amw_of (L := [some (.ref 0), some (.int p0), some (.int p1), some (.int p2), some (.ref 180), none]) (by decide) (Nat.le_of_ble_eq_true rfl) rfl (fun M hM hT => ?_)
  have hM : MOk C RL cL_drift 6 (some .int) rmL_drift M := hM
  obtain ⟨Q, hQ⟩ : ∃ Q : OUT → MM → GG → Prop, Q = (fun o F9 G9 => o = .inl (some (.int k)) ∧ F9 = r.2 ∧ G9 = gupI G r.1) := ⟨_, rfl⟩
  have hq : Q (.inl (some (.int k))) (r.2) (gupI G r.1) := by rw [hQ]; exact ⟨rfl, rfl, rfl⟩
  rw [← hQ]
  clear hQ
  refine aw_aload (pc := 0) (i := 4) (x := 180) hM dL_drift_0  rfl ?_
  refine aw_iconst (pc := 2) (v := 0) hM dL_drift_2 (by decide) ?_
  refine aw_aload_n (pc := 3) (i := 0) (x := 0) hM dL_drift_3 rfl rfl ?_
  refine aw_iload_n (pc := 4) (i := 1) (x := p0) hM dL_drift_4 rfl rfl ?_
  refine aw_iload_n (pc := 5) (i := 2) (x := p1) hM dL_drift_5 rfl rfl ?_
  refine aw_iload_n (pc := 6) (i := 3) (x := p2) hM dL_drift_6 rfl rfl ?_
  obtain ⟨r1, Fr⟩ := r
  match r1, h, hk, hq with
  | .inl v, h, hk, hq =>
    obtain rfl := Option.some.inj hk
    refine aw_cv1 (pc := 7) (n := 3) (As := [.int p0, .int p1, .int p2]) (st := [.int 0, .ref 180]) (b := 0) (vo := some (.int v)) (c2 := 3) (s2 := 18) hM (k_X8_drift h) rfl cw_L_50 sk_0 rfl rfl (by decide +kernel) rfl rfl ⟨(Nat.le_of_ble_eq_true rfl), (Nat.le_of_ble_eq_true rfl)⟩ (Nat.le_of_ble_eq_true rfl) ⟨(Nat.le_of_ble_eq_true rfl), (Nat.le_of_ble_eq_true rfl)⟩ dL_drift_7 rfl rfl ?_
    refine aw_i2l (pc := 10) hM dL_drift_10 ?_
    refine aw_last (pc := 11) hM sk_180 (by decide) dL_drift_11 ?_
    refine aw_goto (pc := 12) (tgt := 23) hM dL_drift_12 (by decide) ?_
    refine aw_iconst (pc := 23) (v := 0) hM dL_drift_23 (by decide) ?_
    exact aw_iret (pc := 24) hM dL_drift_24 (Nat.le_of_ble_eq_true rfl) (Nat.le_of_ble_eq_true rfl) hq
  | .inr E, h, hk, hq =>
    refine aw_cvX (pc := 7) (n := 3) (As := [.int p0, .int p1, .int p2]) (st := [.int 0, .ref 180]) (b := 0) (E := E) hM (k_X8_drift h) rfl cw_L_50 sk_0 rfl rfl (by decide +kernel) rfl rfl ⟨(Nat.le_of_ble_eq_true rfl), (Nat.le_of_ble_eq_true rfl)⟩ (Nat.le_of_ble_eq_true rfl) ⟨(Nat.le_of_ble_eq_true rfl), (Nat.le_of_ble_eq_true rfl)⟩ dL_drift_7 ?_
    by_cases c0 : E = ex_ioo
    · subst c0
      obtain rfl : (1 : Int32) = k := by simpa [wcd, wci, ex_iae, ex_ise, ex_ioo] using hk
      exact ax_catch (hh := hhL_drift) (v := 1) [] ⟨0, 12, 15, 28⟩ [⟨0, 12, 19, 13⟩] hM hT rfl (fun z hz => nomatch hz) (by decide) (by decide) gw_615 (by decide) (Or.inr ⟨5, 1, by decide, dL_drift_15, dL_drift_17, by decide, dL_drift_18⟩) (Nat.le_of_ble_eq_true rfl) (Nat.le_of_ble_eq_true rfl) hq
    by_cases c1 : E = ex_iae
    · subst c1
      obtain rfl : (2 : Int32) = k := by simpa [wcd, wci, ex_iae, ex_ise, ex_ioo] using hk
      exact ax_catch (hh := hhL_drift) (v := 2) [⟨0, 12, 15, 28⟩] ⟨0, 12, 19, 13⟩ [] hM hT rfl (fun z hz => by simp only [List.mem_cons, List.not_mem_nil, or_false] at hz; rcases hz with rfl <;> first | exact ⟨by decide, ex_ioo, gw_615, by decide⟩) (by decide) (by decide) gw_464 (by decide) (Or.inr ⟨5, 2, by decide, dL_drift_19, dL_drift_21, by decide, dL_drift_22⟩) (Nat.le_of_ble_eq_true rfl) (Nat.le_of_ble_eq_true rfl) hq
    · exact absurd hk (by simp [wcd, wci, c0, c1])
def rmL_explains : Room := { frames := 8, cells := 2, slots := 12, locals := 126 }
def hhL_explains : List (Nat × Nat × Nat × Nat) := [(0, 10, 13, 28), (0, 10, 17, 13)]
set_option maxRecDepth 20000 in
theorem k_L_explains {C : CX} {F : MM} {G : GG} {p0 : Int32} {p1 : Int32} {r : (Int32 ⊕ String)} {k : Int32} (h : s_X8_explains F p0 p1 = some r) (hk : wcd [ex_ioo, ex_iae] r = some k) : AMW C yL_explains cL_explains 5 (some .int) hhL_explains rmL_explains [.ref 0, .int p0, .int p1, .ref 180] F G (fun o F9 G9 => o = .inl (some (.int k)) ∧ F9 = F ∧ G9 = gupI G r) := by
  refine amw_of (L := [some (.ref 0), some (.int p0), some (.int p1), some (.ref 180), none]) (by decide) (Nat.le_of_ble_eq_true rfl) rfl (fun M hM hT => ?_)
  have hM : MOk C RL cL_explains 5 (some .int) rmL_explains M := hM
  obtain ⟨Q, hQ⟩ : ∃ Q : OUT → MM → GG → Prop, Q = (fun o F9 G9 => o = .inl (some (.int k)) ∧ F9 = F ∧ G9 = gupI G r) := ⟨_, rfl⟩
  have hq : Q (.inl (some (.int k))) (F) (gupI G r) := by rw [hQ]; exact ⟨rfl, rfl, rfl⟩
  rw [← hQ]
  clear hQ
  refine aw_aload_n (pc := 0) (i := 3) (x := 180) hM dL_explains_0 rfl rfl ?_
  refine aw_iconst (pc := 1) (v := 0) hM dL_explains_1 (by decide) ?_
  refine aw_aload_n (pc := 2) (i := 0) (x := 0) hM dL_explains_2 rfl rfl ?_
  refine aw_iload_n (pc := 3) (i := 1) (x := p0) hM dL_explains_3 rfl rfl ?_
  refine aw_iload_n (pc := 4) (i := 2) (x := p1) hM dL_explains_4 rfl rfl ?_
  match r, h, hk, hq with
  | .inl v, h, hk, hq =>
    obtain rfl := Option.some.inj hk
    refine aw_cv1 (pc := 5) (n := 2) (As := [.int p0, .int p1]) (st := [.int 0, .ref 180]) (b := 0) (vo := some (.int v)) (c2 := 2) (s2 := 12) hM (k_X8_explains h) rfl cw_L_105 sk_0 rfl rfl (by decide +kernel) rfl rfl ⟨(Nat.le_of_ble_eq_true rfl), (Nat.le_of_ble_eq_true rfl)⟩ (Nat.le_of_ble_eq_true rfl) ⟨(Nat.le_of_ble_eq_true rfl), (Nat.le_of_ble_eq_true rfl)⟩ dL_explains_5 rfl rfl ?_
    refine aw_i2l (pc := 8) hM dL_explains_8 ?_
    refine aw_last (pc := 9) hM sk_180 (by decide) dL_explains_9 ?_
    refine aw_goto (pc := 10) (tgt := 21) hM dL_explains_10 (by decide) ?_
    refine aw_iconst (pc := 21) (v := 0) hM dL_explains_21 (by decide) ?_
    exact aw_iret (pc := 22) hM dL_explains_22 (Nat.le_of_ble_eq_true rfl) (Nat.le_of_ble_eq_true rfl) hq
  | .inr E, h, hk, hq =>
    refine aw_cvX (pc := 5) (n := 2) (As := [.int p0, .int p1]) (st := [.int 0, .ref 180]) (b := 0) (E := E) hM (k_X8_explains h) rfl cw_L_105 sk_0 rfl rfl (by decide +kernel) rfl rfl ⟨(Nat.le_of_ble_eq_true rfl), (Nat.le_of_ble_eq_true rfl)⟩ (Nat.le_of_ble_eq_true rfl) ⟨(Nat.le_of_ble_eq_true rfl), (Nat.le_of_ble_eq_true rfl)⟩ dL_explains_5 ?_
    by_cases c0 : E = ex_ioo
    · subst c0
      obtain rfl : (1 : Int32) = k := by simpa [wcd, wci, ex_iae, ex_ise, ex_ioo] using hk
      exact ax_catch (hh := hhL_explains) (v := 1) [] ⟨0, 10, 13, 28⟩ [⟨0, 10, 17, 13⟩] hM hT rfl (fun z hz => nomatch hz) (by decide) (by decide) gw_615 (by decide) (Or.inr ⟨4, 1, by decide, dL_explains_13, dL_explains_15, by decide, dL_explains_16⟩) (Nat.le_of_ble_eq_true rfl) (Nat.le_of_ble_eq_true rfl) hq
    by_cases c1 : E = ex_iae
    · subst c1
      obtain rfl : (2 : Int32) = k := by simpa [wcd, wci, ex_iae, ex_ise, ex_ioo] using hk
      exact ax_catch (hh := hhL_explains) (v := 2) [⟨0, 10, 13, 28⟩] ⟨0, 10, 17, 13⟩ [] hM hT rfl (fun z hz => by simp only [List.mem_cons, List.not_mem_nil, or_false] at hz; rcases hz with rfl <;> first | exact ⟨by decide, ex_ioo, gw_615, by decide⟩) (by decide) (by decide) gw_464 (by decide) (Or.inr ⟨4, 2, by decide, dL_explains_17, dL_explains_19, by decide, dL_explains_20⟩) (Nat.le_of_ble_eq_true rfl) (Nat.le_of_ble_eq_true rfl) hq
    · exact absurd hk (by simp [wcd, wci, c0, c1])
def rmL_fewest : Room := { frames := 8, cells := 1, slots := 6, locals := 124 }
def hhL_fewest : List (Nat × Nat × Nat × Nat) := [(0, 9, 12, 28)]
set_option maxRecDepth 20000 in
theorem k_L_fewest {C : CX} {F : MM} {G : GG} {p0 : Int32} {r : ((Int32 ⊕ String) × MM)} {k : Int32} (h : s_X8_fewest F p0 = some r) (hk : wcd [ex_ioo] r.1 = some k) : AMW C yL_fewest cL_fewest 4 (some .int) hhL_fewest rmL_fewest [.ref 0, .int p0, .ref 180] F G (fun o F9 G9 => o = .inl (some (.int k)) ∧ F9 = r.2 ∧ G9 = gupI G r.1) := by
  refine amw_of (L := [some (.ref 0), some (.int p0), some (.ref 180), none]) (by decide) (Nat.le_of_ble_eq_true rfl) rfl (fun M hM hT => ?_)
  have hM : MOk C RL cL_fewest 4 (some .int) rmL_fewest M := hM
  obtain ⟨Q, hQ⟩ : ∃ Q : OUT → MM → GG → Prop, Q = (fun o F9 G9 => o = .inl (some (.int k)) ∧ F9 = r.2 ∧ G9 = gupI G r.1) := ⟨_, rfl⟩
  have hq : Q (.inl (some (.int k))) (r.2) (gupI G r.1) := by rw [hQ]; exact ⟨rfl, rfl, rfl⟩
  rw [← hQ]
  clear hQ
  refine aw_aload_n (pc := 0) (i := 2) (x := 180) hM dL_fewest_0 rfl rfl ?_
  refine aw_iconst (pc := 1) (v := 0) hM dL_fewest_1 (by decide) ?_
  refine aw_aload_n (pc := 2) (i := 0) (x := 0) hM dL_fewest_2 rfl rfl ?_
  refine aw_iload_n (pc := 3) (i := 1) (x := p0) hM dL_fewest_3 rfl rfl ?_
  obtain ⟨r1, Fr⟩ := r
  match r1, h, hk, hq with
  | .inl v, h, hk, hq =>
    obtain rfl := Option.some.inj hk
    refine aw_cv1 (pc := 4) (n := 1) (As := [.int p0]) (st := [.int 0, .ref 180]) (b := 0) (vo := some (.int v)) (c2 := 1) (s2 := 6) hM (k_X8_fewest h) rfl cw_L_92 sk_0 rfl rfl (by decide +kernel) rfl rfl ⟨(Nat.le_of_ble_eq_true rfl), (Nat.le_of_ble_eq_true rfl)⟩ (Nat.le_of_ble_eq_true rfl) ⟨(Nat.le_of_ble_eq_true rfl), (Nat.le_of_ble_eq_true rfl)⟩ dL_fewest_4 rfl rfl ?_
    refine aw_i2l (pc := 7) hM dL_fewest_7 ?_
    refine aw_last (pc := 8) hM sk_180 (by decide) dL_fewest_8 ?_
    refine aw_goto (pc := 9) (tgt := 15) hM dL_fewest_9 (by decide) ?_
    refine aw_iconst (pc := 15) (v := 0) hM dL_fewest_15 (by decide) ?_
    exact aw_iret (pc := 16) hM dL_fewest_16 (Nat.le_of_ble_eq_true rfl) (Nat.le_of_ble_eq_true rfl) hq
  | .inr E, h, hk, hq =>
    refine aw_cvX (pc := 4) (n := 1) (As := [.int p0]) (st := [.int 0, .ref 180]) (b := 0) (E := E) hM (k_X8_fewest h) rfl cw_L_92 sk_0 rfl rfl (by decide +kernel) rfl rfl ⟨(Nat.le_of_ble_eq_true rfl), (Nat.le_of_ble_eq_true rfl)⟩ (Nat.le_of_ble_eq_true rfl) ⟨(Nat.le_of_ble_eq_true rfl), (Nat.le_of_ble_eq_true rfl)⟩ dL_fewest_4 ?_
    by_cases c0 : E = ex_ioo
    · subst c0
      obtain rfl : (1 : Int32) = k := by simpa [wcd, wci, ex_iae, ex_ise, ex_ioo] using hk
      exact ax_catch (hh := hhL_fewest) (v := 1) [] ⟨0, 9, 12, 28⟩ [] hM hT rfl (fun z hz => nomatch hz) (by decide) (by decide) gw_615 (by decide) (Or.inl ⟨3, 1, by decide, dL_fewest_12, dL_fewest_13, by decide, dL_fewest_14⟩) (Nat.le_of_ble_eq_true rfl) (Nat.le_of_ble_eq_true rfl) hq
    · exact absurd hk (by simp [wcd, wci, c0])
def rmL_holdsUp : Room := { frames := 8, cells := 1, slots := 6, locals := 124 }
def hhL_holdsUp : List (Nat × Nat × Nat × Nat) := [(0, 9, 12, 28)]
set_option maxRecDepth 20000 in
theorem k_L_holdsUp {C : CX} {F : MM} {G : GG} {p0 : Int32} {r : (Int32 ⊕ String)} {k : Int32} (h : s_X8_holdsUp F p0 = some r) (hk : wcd [ex_ioo] r = some k) : AMW C yL_holdsUp cL_holdsUp 4 (some .int) hhL_holdsUp rmL_holdsUp [.ref 0, .int p0, .ref 180] F G (fun o F9 G9 => o = .inl (some (.int k)) ∧ F9 = F ∧ G9 = gupI G r) := by
  refine amw_of (L := [some (.ref 0), some (.int p0), some (.ref 180), none]) (by decide) (Nat.le_of_ble_eq_true rfl) rfl (fun M hM hT => ?_)
  have hM : MOk C RL cL_holdsUp 4 (some .int) rmL_holdsUp M := hM
  obtain ⟨Q, hQ⟩ : ∃ Q : OUT → MM → GG → Prop, Q = (fun o F9 G9 => o = .inl (some (.int k)) ∧ F9 = F ∧ G9 = gupI G r) := ⟨_, rfl⟩
  have hq : Q (.inl (some (.int k))) (F) (gupI G r) := by rw [hQ]; exact ⟨rfl, rfl, rfl⟩
  rw [← hQ]
  clear hQ
  refine aw_aload_n (pc := 0) (i := 2) (x := 180) hM dL_holdsUp_0 rfl rfl ?_
  refine aw_iconst (pc := 1) (v := 0) hM dL_holdsUp_1 (by decide) ?_
  refine aw_aload_n (pc := 2) (i := 0) (x := 0) hM dL_holdsUp_2 rfl rfl ?_
  refine aw_iload_n (pc := 3) (i := 1) (x := p0) hM dL_holdsUp_3 rfl rfl ?_
  match r, h, hk, hq with
  | .inl v, h, hk, hq =>
    obtain rfl := Option.some.inj hk
    refine aw_cv1 (pc := 4) (n := 1) (As := [.int p0]) (st := [.int 0, .ref 180]) (b := 0) (vo := some (.int v)) (c2 := 1) (s2 := 6) hM (k_X8_holdsUp h) rfl cw_L_83 sk_0 rfl rfl (by decide +kernel) rfl rfl ⟨(Nat.le_of_ble_eq_true rfl), (Nat.le_of_ble_eq_true rfl)⟩ (Nat.le_of_ble_eq_true rfl) ⟨(Nat.le_of_ble_eq_true rfl), (Nat.le_of_ble_eq_true rfl)⟩ dL_holdsUp_4 rfl rfl ?_
    refine aw_i2l (pc := 7) hM dL_holdsUp_7 ?_
    refine aw_last (pc := 8) hM sk_180 (by decide) dL_holdsUp_8 ?_
    refine aw_goto (pc := 9) (tgt := 15) hM dL_holdsUp_9 (by decide) ?_
    refine aw_iconst (pc := 15) (v := 0) hM dL_holdsUp_15 (by decide) ?_
    exact aw_iret (pc := 16) hM dL_holdsUp_16 (Nat.le_of_ble_eq_true rfl) (Nat.le_of_ble_eq_true rfl) hq
  | .inr E, h, hk, hq =>
    refine aw_cvX (pc := 4) (n := 1) (As := [.int p0]) (st := [.int 0, .ref 180]) (b := 0) (E := E) hM (k_X8_holdsUp h) rfl cw_L_83 sk_0 rfl rfl (by decide +kernel) rfl rfl ⟨(Nat.le_of_ble_eq_true rfl), (Nat.le_of_ble_eq_true rfl)⟩ (Nat.le_of_ble_eq_true rfl) ⟨(Nat.le_of_ble_eq_true rfl), (Nat.le_of_ble_eq_true rfl)⟩ dL_holdsUp_4 ?_
    by_cases c0 : E = ex_ioo
    · subst c0
      obtain rfl : (1 : Int32) = k := by simpa [wcd, wci, ex_iae, ex_ise, ex_ioo] using hk
      exact ax_catch (hh := hhL_holdsUp) (v := 1) [] ⟨0, 9, 12, 28⟩ [] hM hT rfl (fun z hz => nomatch hz) (by decide) (by decide) gw_615 (by decide) (Or.inl ⟨3, 1, by decide, dL_holdsUp_12, dL_holdsUp_13, by decide, dL_holdsUp_14⟩) (Nat.le_of_ble_eq_true rfl) (Nat.le_of_ble_eq_true rfl) hq
    · exact absurd hk (by simp [wcd, wci, c0])
def rmL_isPossible : Room := { frames := 8, cells := 2, slots := 12, locals := 126 }
def hhL_isPossible : List (Nat × Nat × Nat × Nat) := [(0, 17, 20, 28), (0, 17, 24, 13)]
set_option maxRecDepth 20000 in
theorem k_L_isPossible {C : CX} {F : MM} {G : GG} {p0 : Int32} {p1 : Int32} {r : (Int32 ⊕ String)} {k : Int32} (h : s_X8_isPossible F p0 p1 = some r) (hk : wcd [ex_ioo, ex_iae] r = some k) : AMW C yL_isPossible cL_isPossible 5 (some .int) hhL_isPossible rmL_isPossible [.ref 0, .int p0, .int p1, .ref 180] F G (fun o F9 G9 => o = .inl (some (.int k)) ∧ F9 = F ∧ G9 = gupZ G r) := by
  refine amw_of (L := [some (.ref 0), some (.int p0), some (.int p1), some (.ref 180), none]) (by decide) (Nat.le_of_ble_eq_true rfl) rfl (fun M hM hT => ?_)
  have hM : MOk C RL cL_isPossible 5 (some .int) rmL_isPossible M := hM
  obtain ⟨Q, hQ⟩ : ∃ Q : OUT → MM → GG → Prop, Q = (fun o F9 G9 => o = .inl (some (.int k)) ∧ F9 = F ∧ G9 = gupZ G r) := ⟨_, rfl⟩
  have hq : Q (.inl (some (.int k))) (F) (gupZ G r) := by rw [hQ]; exact ⟨rfl, rfl, rfl⟩
  rw [← hQ]
  clear hQ
  refine aw_aload_n (pc := 0) (i := 3) (x := 180) hM dL_isPossible_0 rfl rfl ?_
  refine aw_iconst (pc := 1) (v := 0) hM dL_isPossible_1 (by decide) ?_
  refine aw_aload_n (pc := 2) (i := 0) (x := 0) hM dL_isPossible_2 rfl rfl ?_
  refine aw_iload_n (pc := 3) (i := 1) (x := p0) hM dL_isPossible_3 rfl rfl ?_
  refine aw_iload_n (pc := 4) (i := 2) (x := p1) hM dL_isPossible_4 rfl rfl ?_
  match r, h, hk, hq with
  | .inl v, h, hk, hq =>
    obtain rfl := Option.some.inj hk
    refine aw_cv1 (pc := 5) (n := 2) (As := [.int p0, .int p1]) (st := [.int 0, .ref 180]) (b := 0) (vo := some (.int v)) (c2 := 2) (s2 := 12) hM (k_X8_isPossible h) rfl cw_L_101 sk_0 rfl rfl (by decide +kernel) rfl rfl ⟨(Nat.le_of_ble_eq_true rfl), (Nat.le_of_ble_eq_true rfl)⟩ (Nat.le_of_ble_eq_true rfl) ⟨(Nat.le_of_ble_eq_true rfl), (Nat.le_of_ble_eq_true rfl)⟩ dL_isPossible_5 rfl rfl ?_
    refine aw_if_eq (pc := 8) (tgt := 15) hM dL_isPossible_8 (by decide) (fun c => ?_) (fun c => ?_)
    · have hq : Q (.inl (some (.int 0))) F (vp_updL G 0 0) := by have q9 : gupZ G (.inl v) = vp_updL G 0 0 := (by show vp_updL G 0 (if v = 0 then 0 else 1) = _; rw [if_pos c]); rw [← q9]; exact hq
      refine aw_lconst (pc := 15) (v := 0) hM dL_isPossible_15 (by decide) ?_
      refine aw_last (pc := 16) hM sk_180 (by decide) dL_isPossible_16 ?_
      refine aw_goto (pc := 17) (tgt := 28) hM dL_isPossible_17 (by decide) ?_
      refine aw_iconst (pc := 28) (v := 0) hM dL_isPossible_28 (by decide) ?_
      exact aw_iret (pc := 29) hM dL_isPossible_29 (Nat.le_of_ble_eq_true rfl) (Nat.le_of_ble_eq_true rfl) hq
    · have hq : Q (.inl (some (.int 0))) F (vp_updL G 0 1) := by have q9 : gupZ G (.inl v) = vp_updL G 0 1 := (by show vp_updL G 0 (if v = 0 then 0 else 1) = _; rw [if_neg c]); rw [← q9]; exact hq
      refine aw_lconst (pc := 11) (v := 1) hM dL_isPossible_11 (by decide) ?_
      refine aw_goto (pc := 12) (tgt := 16) hM dL_isPossible_12 (by decide) ?_
      refine aw_last (pc := 16) hM sk_180 (by decide) dL_isPossible_16 ?_
      refine aw_goto (pc := 17) (tgt := 28) hM dL_isPossible_17 (by decide) ?_
      refine aw_iconst (pc := 28) (v := 0) hM dL_isPossible_28 (by decide) ?_
      exact aw_iret (pc := 29) hM dL_isPossible_29 (Nat.le_of_ble_eq_true rfl) (Nat.le_of_ble_eq_true rfl) hq
  | .inr E, h, hk, hq =>
    refine aw_cvX (pc := 5) (n := 2) (As := [.int p0, .int p1]) (st := [.int 0, .ref 180]) (b := 0) (E := E) hM (k_X8_isPossible h) rfl cw_L_101 sk_0 rfl rfl (by decide +kernel) rfl rfl ⟨(Nat.le_of_ble_eq_true rfl), (Nat.le_of_ble_eq_true rfl)⟩ (Nat.le_of_ble_eq_true rfl) ⟨(Nat.le_of_ble_eq_true rfl), (Nat.le_of_ble_eq_true rfl)⟩ dL_isPossible_5 ?_
    by_cases c0 : E = ex_ioo
    · subst c0
      obtain rfl : (1 : Int32) = k := by simpa [wcd, wci, ex_iae, ex_ise, ex_ioo] using hk
      exact ax_catch (hh := hhL_isPossible) (v := 1) [] ⟨0, 17, 20, 28⟩ [⟨0, 17, 24, 13⟩] hM hT rfl (fun z hz => nomatch hz) (by decide) (by decide) gw_615 (by decide) (Or.inr ⟨4, 1, by decide, dL_isPossible_20, dL_isPossible_22, by decide, dL_isPossible_23⟩) (Nat.le_of_ble_eq_true rfl) (Nat.le_of_ble_eq_true rfl) hq
    by_cases c1 : E = ex_iae
    · subst c1
      obtain rfl : (2 : Int32) = k := by simpa [wcd, wci, ex_iae, ex_ise, ex_ioo] using hk
      exact ax_catch (hh := hhL_isPossible) (v := 2) [⟨0, 17, 20, 28⟩] ⟨0, 17, 24, 13⟩ [] hM hT rfl (fun z hz => by simp only [List.mem_cons, List.not_mem_nil, or_false] at hz; rcases hz with rfl <;> first | exact ⟨by decide, ex_ioo, gw_615, by decide⟩) (by decide) (by decide) gw_464 (by decide) (Or.inr ⟨4, 2, by decide, dL_isPossible_24, dL_isPossible_26, by decide, dL_isPossible_27⟩) (Nat.le_of_ble_eq_true rfl) (Nat.le_of_ble_eq_true rfl) hq
    · exact absurd hk (by simp [wcd, wci, c0, c1])
def rmL_load : Room := { frames := 7, cells := 1, slots := 6, locals := 152 }
def hhL_load : List (Nat × Nat × Nat × Nat) := [(0, 8, 11, 15)]
set_option maxRecDepth 20000 in
theorem k_L_load {C : CX} {F : MM} {G : GG} {r : ((Int32 ⊕ String) × MM)} {k : Int32} (h : s_X8_load F = some r) (hk : wcd [ex_ise] r.1 = some k) : AMW C yL_load cL_load 3 (some .int) hhL_load rmL_load [.ref 0, .ref 180] F G (fun o F9 G9 => o = .inl (some (.int k)) ∧ F9 = r.2 ∧ G9 = gupI G r.1) := by
  refine amw_of (L := [some (.ref 0), some (.ref 180), none]) (by decide) (Nat.le_of_ble_eq_true rfl) rfl (fun M hM hT => ?_)
  have hM : MOk C RL cL_load 3 (some .int) rmL_load M := hM
  obtain ⟨Q, hQ⟩ : ∃ Q : OUT → MM → GG → Prop, Q = (fun o F9 G9 => o = .inl (some (.int k)) ∧ F9 = r.2 ∧ G9 = gupI G r.1) := ⟨_, rfl⟩
  have hq : Q (.inl (some (.int k))) (r.2) (gupI G r.1) := by rw [hQ]; exact ⟨rfl, rfl, rfl⟩
  rw [← hQ]
  clear hQ
  refine aw_aload_n (pc := 0) (i := 1) (x := 180) hM dL_load_0 rfl rfl ?_
  refine aw_iconst (pc := 1) (v := 0) hM dL_load_1 (by decide) ?_
  refine aw_aload_n (pc := 2) (i := 0) (x := 0) hM dL_load_2 rfl rfl ?_
  obtain ⟨r1, Fr⟩ := r
  match r1, h, hk, hq with
  | .inl v, h, hk, hq =>
    obtain rfl := Option.some.inj hk
    refine aw_cv1 (pc := 3) (n := 0) (As := []) (st := [.int 0, .ref 180]) (b := 0) (vo := some (.int v)) (c2 := 1) (s2 := 6) hM (k_X8_load h) rfl cw_L_17 sk_0 rfl rfl (by decide +kernel) rfl rfl ⟨(Nat.le_of_ble_eq_true rfl), (Nat.le_of_ble_eq_true rfl)⟩ (Nat.le_of_ble_eq_true rfl) ⟨(Nat.le_of_ble_eq_true rfl), (Nat.le_of_ble_eq_true rfl)⟩ dL_load_3 rfl rfl ?_
    refine aw_i2l (pc := 6) hM dL_load_6 ?_
    refine aw_last (pc := 7) hM sk_180 (by decide) dL_load_7 ?_
    refine aw_goto (pc := 8) (tgt := 14) hM dL_load_8 (by decide) ?_
    refine aw_iconst (pc := 14) (v := 0) hM dL_load_14 (by decide) ?_
    exact aw_iret (pc := 15) hM dL_load_15 (Nat.le_of_ble_eq_true rfl) (Nat.le_of_ble_eq_true rfl) hq
  | .inr E, h, hk, hq =>
    refine aw_cvX (pc := 3) (n := 0) (As := []) (st := [.int 0, .ref 180]) (b := 0) (E := E) hM (k_X8_load h) rfl cw_L_17 sk_0 rfl rfl (by decide +kernel) rfl rfl ⟨(Nat.le_of_ble_eq_true rfl), (Nat.le_of_ble_eq_true rfl)⟩ (Nat.le_of_ble_eq_true rfl) ⟨(Nat.le_of_ble_eq_true rfl), (Nat.le_of_ble_eq_true rfl)⟩ dL_load_3 ?_
    by_cases c0 : E = ex_ise
    · subst c0
      obtain rfl : (1 : Int32) = k := by simpa [wcd, wci, ex_iae, ex_ise, ex_ioo] using hk
      exact ax_catch (hh := hhL_load) (v := 1) [] ⟨0, 8, 11, 15⟩ [] hM hT rfl (fun z hz => nomatch hz) (by decide) (by decide) gw_465 (by decide) (Or.inl ⟨2, 1, by decide, dL_load_11, dL_load_12, by decide, dL_load_13⟩) (Nat.le_of_ble_eq_true rfl) (Nat.le_of_ble_eq_true rfl) hq
    · exact absurd hk (by simp [wcd, wci, c0])
def rmL_missing : Room := { frames := 8, cells := 1, slots := 6, locals := 124 }
def hhL_missing : List (Nat × Nat × Nat × Nat) := [(0, 9, 12, 28)]
set_option maxRecDepth 20000 in
theorem k_L_missing {C : CX} {F : MM} {G : GG} {p0 : Int32} {r : (Int32 ⊕ String)} {k : Int32} (h : s_X8_missing F p0 = some r) (hk : wcd [ex_ioo] r = some k) : AMW C yL_missing cL_missing 4 (some .int) hhL_missing rmL_missing [.ref 0, .int p0, .ref 180] F G (fun o F9 G9 => o = .inl (some (.int k)) ∧ F9 = F ∧ G9 = gupI G r) := by
  refine amw_of (L := [some (.ref 0), some (.int p0), some (.ref 180), none]) (by decide) (Nat.le_of_ble_eq_true rfl) rfl (fun M hM hT => ?_)
  have hM : MOk C RL cL_missing 4 (some .int) rmL_missing M := hM
  obtain ⟨Q, hQ⟩ : ∃ Q : OUT → MM → GG → Prop, Q = (fun o F9 G9 => o = .inl (some (.int k)) ∧ F9 = F ∧ G9 = gupI G r) := ⟨_, rfl⟩
  have hq : Q (.inl (some (.int k))) (F) (gupI G r) := by rw [hQ]; exact ⟨rfl, rfl, rfl⟩
  rw [← hQ]
  clear hQ
  refine aw_aload_n (pc := 0) (i := 2) (x := 180) hM dL_missing_0 rfl rfl ?_
  refine aw_iconst (pc := 1) (v := 0) hM dL_missing_1 (by decide) ?_
  refine aw_aload_n (pc := 2) (i := 0) (x := 0) hM dL_missing_2 rfl rfl ?_
  refine aw_iload_n (pc := 3) (i := 1) (x := p0) hM dL_missing_3 rfl rfl ?_
  match r, h, hk, hq with
  | .inl v, h, hk, hq =>
    obtain rfl := Option.some.inj hk
    refine aw_cv1 (pc := 4) (n := 1) (As := [.int p0]) (st := [.int 0, .ref 180]) (b := 0) (vo := some (.int v)) (c2 := 1) (s2 := 6) hM (k_X8_missing h) rfl cw_L_86 sk_0 rfl rfl (by decide +kernel) rfl rfl ⟨(Nat.le_of_ble_eq_true rfl), (Nat.le_of_ble_eq_true rfl)⟩ (Nat.le_of_ble_eq_true rfl) ⟨(Nat.le_of_ble_eq_true rfl), (Nat.le_of_ble_eq_true rfl)⟩ dL_missing_4 rfl rfl ?_
    refine aw_i2l (pc := 7) hM dL_missing_7 ?_
    refine aw_last (pc := 8) hM sk_180 (by decide) dL_missing_8 ?_
    refine aw_goto (pc := 9) (tgt := 15) hM dL_missing_9 (by decide) ?_
    refine aw_iconst (pc := 15) (v := 0) hM dL_missing_15 (by decide) ?_
    exact aw_iret (pc := 16) hM dL_missing_16 (Nat.le_of_ble_eq_true rfl) (Nat.le_of_ble_eq_true rfl) hq
  | .inr E, h, hk, hq =>
    refine aw_cvX (pc := 4) (n := 1) (As := [.int p0]) (st := [.int 0, .ref 180]) (b := 0) (E := E) hM (k_X8_missing h) rfl cw_L_86 sk_0 rfl rfl (by decide +kernel) rfl rfl ⟨(Nat.le_of_ble_eq_true rfl), (Nat.le_of_ble_eq_true rfl)⟩ (Nat.le_of_ble_eq_true rfl) ⟨(Nat.le_of_ble_eq_true rfl), (Nat.le_of_ble_eq_true rfl)⟩ dL_missing_4 ?_
    by_cases c0 : E = ex_ioo
    · subst c0
      obtain rfl : (1 : Int32) = k := by simpa [wcd, wci, ex_iae, ex_ise, ex_ioo] using hk
      exact ax_catch (hh := hhL_missing) (v := 1) [] ⟨0, 9, 12, 28⟩ [] hM hT rfl (fun z hz => nomatch hz) (by decide) (by decide) gw_615 (by decide) (Or.inl ⟨3, 1, by decide, dL_missing_12, dL_missing_13, by decide, dL_missing_14⟩) (Nat.le_of_ble_eq_true rfl) (Nat.le_of_ble_eq_true rfl) hq
    · exact absurd hk (by simp [wcd, wci, c0])
def rmL_needed : Room := { frames := 8, cells := 3, slots := 18, locals := 127 }
def hhL_needed : List (Nat × Nat × Nat × Nat) := [(0, 12, 15, 28), (0, 12, 19, 13)]
set_option maxRecDepth 20000 in
theorem k_L_needed {C : CX} {F : MM} {G : GG} {p0 : Int32} {p1 : Int32} {p2 : Int32} {r : (Int32 ⊕ String)} {k : Int32} (h : s_X8_needed F p0 p1 p2 = some r) (hk : wcd [ex_ioo, ex_iae] r = some k) : AMW C yL_needed cL_needed 6 (some .int) hhL_needed rmL_needed [.ref 0, .int p0, .int p1, .int p2, .ref 180] F G (fun o F9 G9 => o = .inl (some (.int k)) ∧ F9 = F ∧ G9 = gupI G r) := by
  refine amw_of (L := [some (.ref 0), some (.int p0), some (.int p1), some (.int p2), some (.ref 180), none]) (by decide) (Nat.le_of_ble_eq_true rfl) rfl (fun M hM hT => ?_)
  have hM : MOk C RL cL_needed 6 (some .int) rmL_needed M := hM
  obtain ⟨Q, hQ⟩ : ∃ Q : OUT → MM → GG → Prop, Q = (fun o F9 G9 => o = .inl (some (.int k)) ∧ F9 = F ∧ G9 = gupI G r) := ⟨_, rfl⟩
  have hq : Q (.inl (some (.int k))) (F) (gupI G r) := by rw [hQ]; exact ⟨rfl, rfl, rfl⟩
  rw [← hQ]
  clear hQ
  refine aw_aload (pc := 0) (i := 4) (x := 180) hM dL_needed_0  rfl ?_
  refine aw_iconst (pc := 2) (v := 0) hM dL_needed_2 (by decide) ?_
  refine aw_aload_n (pc := 3) (i := 0) (x := 0) hM dL_needed_3 rfl rfl ?_
  refine aw_iload_n (pc := 4) (i := 1) (x := p0) hM dL_needed_4 rfl rfl ?_
  refine aw_iload_n (pc := 5) (i := 2) (x := p1) hM dL_needed_5 rfl rfl ?_
  refine aw_iload_n (pc := 6) (i := 3) (x := p2) hM dL_needed_6 rfl rfl ?_
  match r, h, hk, hq with
  | .inl v, h, hk, hq =>
    obtain rfl := Option.some.inj hk
    refine aw_cv1 (pc := 7) (n := 3) (As := [.int p0, .int p1, .int p2]) (st := [.int 0, .ref 180]) (b := 0) (vo := some (.int v)) (c2 := 3) (s2 := 18) hM (k_X8_needed h) rfl cw_L_98 sk_0 rfl rfl (by decide +kernel) rfl rfl ⟨(Nat.le_of_ble_eq_true rfl), (Nat.le_of_ble_eq_true rfl)⟩ (Nat.le_of_ble_eq_true rfl) ⟨(Nat.le_of_ble_eq_true rfl), (Nat.le_of_ble_eq_true rfl)⟩ dL_needed_7 rfl rfl ?_
    refine aw_i2l (pc := 10) hM dL_needed_10 ?_
    refine aw_last (pc := 11) hM sk_180 (by decide) dL_needed_11 ?_
    refine aw_goto (pc := 12) (tgt := 23) hM dL_needed_12 (by decide) ?_
    refine aw_iconst (pc := 23) (v := 0) hM dL_needed_23 (by decide) ?_
    exact aw_iret (pc := 24) hM dL_needed_24 (Nat.le_of_ble_eq_true rfl) (Nat.le_of_ble_eq_true rfl) hq
  | .inr E, h, hk, hq =>
    refine aw_cvX (pc := 7) (n := 3) (As := [.int p0, .int p1, .int p2]) (st := [.int 0, .ref 180]) (b := 0) (E := E) hM (k_X8_needed h) rfl cw_L_98 sk_0 rfl rfl (by decide +kernel) rfl rfl ⟨(Nat.le_of_ble_eq_true rfl), (Nat.le_of_ble_eq_true rfl)⟩ (Nat.le_of_ble_eq_true rfl) ⟨(Nat.le_of_ble_eq_true rfl), (Nat.le_of_ble_eq_true rfl)⟩ dL_needed_7 ?_
    by_cases c0 : E = ex_ioo
    · subst c0
      obtain rfl : (1 : Int32) = k := by simpa [wcd, wci, ex_iae, ex_ise, ex_ioo] using hk
      exact ax_catch (hh := hhL_needed) (v := 1) [] ⟨0, 12, 15, 28⟩ [⟨0, 12, 19, 13⟩] hM hT rfl (fun z hz => nomatch hz) (by decide) (by decide) gw_615 (by decide) (Or.inr ⟨5, 1, by decide, dL_needed_15, dL_needed_17, by decide, dL_needed_18⟩) (Nat.le_of_ble_eq_true rfl) (Nat.le_of_ble_eq_true rfl) hq
    by_cases c1 : E = ex_iae
    · subst c1
      obtain rfl : (2 : Int32) = k := by simpa [wcd, wci, ex_iae, ex_ise, ex_ioo] using hk
      exact ax_catch (hh := hhL_needed) (v := 2) [⟨0, 12, 15, 28⟩] ⟨0, 12, 19, 13⟩ [] hM hT rfl (fun z hz => by simp only [List.mem_cons, List.not_mem_nil, or_false] at hz; rcases hz with rfl <;> first | exact ⟨by decide, ex_ioo, gw_615, by decide⟩) (by decide) (by decide) gw_464 (by decide) (Or.inr ⟨5, 2, by decide, dL_needed_19, dL_needed_21, by decide, dL_needed_22⟩) (Nat.le_of_ble_eq_true rfl) (Nat.le_of_ble_eq_true rfl) hq
    · exact absurd hk (by simp [wcd, wci, c0, c1])
def rmL_next : Room := { frames := 8, cells := 1, slots := 6, locals := 124 }
def hhL_next : List (Nat × Nat × Nat × Nat) := [(0, 9, 12, 28)]
set_option maxRecDepth 20000 in
theorem k_L_next {C : CX} {F : MM} {G : GG} {p0 : Int32} {r : (Int32 ⊕ String)} {k : Int32} (h : s_X8_next F p0 = some r) (hk : wcd [ex_ioo] r = some k) : AMW C yL_next cL_next 4 (some .int) hhL_next rmL_next [.ref 0, .int p0, .ref 180] F G (fun o F9 G9 => o = .inl (some (.int k)) ∧ F9 = F ∧ G9 = gupI G r) := by
  refine amw_of (L := [some (.ref 0), some (.int p0), some (.ref 180), none]) (by decide) (Nat.le_of_ble_eq_true rfl) rfl (fun M hM hT => ?_)
  have hM : MOk C RL cL_next 4 (some .int) rmL_next M := hM
  obtain ⟨Q, hQ⟩ : ∃ Q : OUT → MM → GG → Prop, Q = (fun o F9 G9 => o = .inl (some (.int k)) ∧ F9 = F ∧ G9 = gupI G r) := ⟨_, rfl⟩
  have hq : Q (.inl (some (.int k))) (F) (gupI G r) := by rw [hQ]; exact ⟨rfl, rfl, rfl⟩
  rw [← hQ]
  clear hQ
  refine aw_aload_n (pc := 0) (i := 2) (x := 180) hM dL_next_0 rfl rfl ?_
  refine aw_iconst (pc := 1) (v := 0) hM dL_next_1 (by decide) ?_
  refine aw_aload_n (pc := 2) (i := 0) (x := 0) hM dL_next_2 rfl rfl ?_
  refine aw_iload_n (pc := 3) (i := 1) (x := p0) hM dL_next_3 rfl rfl ?_
  match r, h, hk, hq with
  | .inl v, h, hk, hq =>
    obtain rfl := Option.some.inj hk
    refine aw_cv1 (pc := 4) (n := 1) (As := [.int p0]) (st := [.int 0, .ref 180]) (b := 0) (vo := some (.int v)) (c2 := 1) (s2 := 6) hM (k_X8_next h) rfl cw_L_77 sk_0 rfl rfl (by decide +kernel) rfl rfl ⟨(Nat.le_of_ble_eq_true rfl), (Nat.le_of_ble_eq_true rfl)⟩ (Nat.le_of_ble_eq_true rfl) ⟨(Nat.le_of_ble_eq_true rfl), (Nat.le_of_ble_eq_true rfl)⟩ dL_next_4 rfl rfl ?_
    refine aw_i2l (pc := 7) hM dL_next_7 ?_
    refine aw_last (pc := 8) hM sk_180 (by decide) dL_next_8 ?_
    refine aw_goto (pc := 9) (tgt := 15) hM dL_next_9 (by decide) ?_
    refine aw_iconst (pc := 15) (v := 0) hM dL_next_15 (by decide) ?_
    exact aw_iret (pc := 16) hM dL_next_16 (Nat.le_of_ble_eq_true rfl) (Nat.le_of_ble_eq_true rfl) hq
  | .inr E, h, hk, hq =>
    refine aw_cvX (pc := 4) (n := 1) (As := [.int p0]) (st := [.int 0, .ref 180]) (b := 0) (E := E) hM (k_X8_next h) rfl cw_L_77 sk_0 rfl rfl (by decide +kernel) rfl rfl ⟨(Nat.le_of_ble_eq_true rfl), (Nat.le_of_ble_eq_true rfl)⟩ (Nat.le_of_ble_eq_true rfl) ⟨(Nat.le_of_ble_eq_true rfl), (Nat.le_of_ble_eq_true rfl)⟩ dL_next_4 ?_
    by_cases c0 : E = ex_ioo
    · subst c0
      obtain rfl : (1 : Int32) = k := by simpa [wcd, wci, ex_iae, ex_ise, ex_ioo] using hk
      exact ax_catch (hh := hhL_next) (v := 1) [] ⟨0, 9, 12, 28⟩ [] hM hT rfl (fun z hz => nomatch hz) (by decide) (by decide) gw_615 (by decide) (Or.inl ⟨3, 1, by decide, dL_next_12, dL_next_13, by decide, dL_next_14⟩) (Nat.le_of_ble_eq_true rfl) (Nat.le_of_ble_eq_true rfl) hq
    · exact absurd hk (by simp [wcd, wci, c0])
def rmL_node : Room := { frames := 8, cells := 2, slots := 12, locals := 126 }
def hhL_node : List (Nat × Nat × Nat × Nat) := [(0, 10, 13, 28), (0, 10, 17, 13)]
set_option maxRecDepth 20000 in
theorem k_L_node {C : CX} {F : MM} {G : GG} {p0 : Int32} {p1 : Int32} {r : (Int32 ⊕ String)} {k : Int32} (h : s_X8_node F p0 p1 = some r) (hk : wcd [ex_ioo, ex_iae] r = some k) : AMW C yL_node cL_node 5 (some .int) hhL_node rmL_node [.ref 0, .int p0, .int p1, .ref 180] F G (fun o F9 G9 => o = .inl (some (.int k)) ∧ F9 = F ∧ G9 = gupI G r) := by
  refine amw_of (L := [some (.ref 0), some (.int p0), some (.int p1), some (.ref 180), none]) (by decide) (Nat.le_of_ble_eq_true rfl) rfl (fun M hM hT => ?_)
  have hM : MOk C RL cL_node 5 (some .int) rmL_node M := hM
  obtain ⟨Q, hQ⟩ : ∃ Q : OUT → MM → GG → Prop, Q = (fun o F9 G9 => o = .inl (some (.int k)) ∧ F9 = F ∧ G9 = gupI G r) := ⟨_, rfl⟩
  have hq : Q (.inl (some (.int k))) (F) (gupI G r) := by rw [hQ]; exact ⟨rfl, rfl, rfl⟩
  rw [← hQ]
  clear hQ
  refine aw_aload_n (pc := 0) (i := 3) (x := 180) hM dL_node_0 rfl rfl ?_
  refine aw_iconst (pc := 1) (v := 0) hM dL_node_1 (by decide) ?_
  refine aw_aload_n (pc := 2) (i := 0) (x := 0) hM dL_node_2 rfl rfl ?_
  refine aw_iload_n (pc := 3) (i := 1) (x := p0) hM dL_node_3 rfl rfl ?_
  refine aw_iload_n (pc := 4) (i := 2) (x := p1) hM dL_node_4 rfl rfl ?_
  match r, h, hk, hq with
  | .inl v, h, hk, hq =>
    obtain rfl := Option.some.inj hk
    refine aw_cv1 (pc := 5) (n := 2) (As := [.int p0, .int p1]) (st := [.int 0, .ref 180]) (b := 0) (vo := some (.int v)) (c2 := 2) (s2 := 12) hM (k_X8_node h) rfl cw_L_24 sk_0 rfl rfl (by decide +kernel) rfl rfl ⟨(Nat.le_of_ble_eq_true rfl), (Nat.le_of_ble_eq_true rfl)⟩ (Nat.le_of_ble_eq_true rfl) ⟨(Nat.le_of_ble_eq_true rfl), (Nat.le_of_ble_eq_true rfl)⟩ dL_node_5 rfl rfl ?_
    refine aw_i2l (pc := 8) hM dL_node_8 ?_
    refine aw_last (pc := 9) hM sk_180 (by decide) dL_node_9 ?_
    refine aw_goto (pc := 10) (tgt := 21) hM dL_node_10 (by decide) ?_
    refine aw_iconst (pc := 21) (v := 0) hM dL_node_21 (by decide) ?_
    exact aw_iret (pc := 22) hM dL_node_22 (Nat.le_of_ble_eq_true rfl) (Nat.le_of_ble_eq_true rfl) hq
  | .inr E, h, hk, hq =>
    refine aw_cvX (pc := 5) (n := 2) (As := [.int p0, .int p1]) (st := [.int 0, .ref 180]) (b := 0) (E := E) hM (k_X8_node h) rfl cw_L_24 sk_0 rfl rfl (by decide +kernel) rfl rfl ⟨(Nat.le_of_ble_eq_true rfl), (Nat.le_of_ble_eq_true rfl)⟩ (Nat.le_of_ble_eq_true rfl) ⟨(Nat.le_of_ble_eq_true rfl), (Nat.le_of_ble_eq_true rfl)⟩ dL_node_5 ?_
    by_cases c0 : E = ex_ioo
    · subst c0
      obtain rfl : (1 : Int32) = k := by simpa [wcd, wci, ex_iae, ex_ise, ex_ioo] using hk
      exact ax_catch (hh := hhL_node) (v := 1) [] ⟨0, 10, 13, 28⟩ [⟨0, 10, 17, 13⟩] hM hT rfl (fun z hz => nomatch hz) (by decide) (by decide) gw_615 (by decide) (Or.inr ⟨4, 1, by decide, dL_node_13, dL_node_15, by decide, dL_node_16⟩) (Nat.le_of_ble_eq_true rfl) (Nat.le_of_ble_eq_true rfl) hq
    by_cases c1 : E = ex_iae
    · subst c1
      obtain rfl : (2 : Int32) = k := by simpa [wcd, wci, ex_iae, ex_ise, ex_ioo] using hk
      exact ax_catch (hh := hhL_node) (v := 2) [⟨0, 10, 13, 28⟩] ⟨0, 10, 17, 13⟩ [] hM hT rfl (fun z hz => by simp only [List.mem_cons, List.not_mem_nil, or_false] at hz; rcases hz with rfl <;> first | exact ⟨by decide, ex_ioo, gw_615, by decide⟩) (by decide) (by decide) gw_464 (by decide) (Or.inr ⟨4, 2, by decide, dL_node_17, dL_node_19, by decide, dL_node_20⟩) (Nat.le_of_ble_eq_true rfl) (Nat.le_of_ble_eq_true rfl) hq
    · exact absurd hk (by simp [wcd, wci, c0, c1])
def rmL_pardon : Room := { frames := 8, cells := 2, slots := 12, locals := 125 }
def hhL_pardon : List (Nat × Nat × Nat × Nat) := [(0, 9, 12, 28), (0, 9, 15, 15)]
set_option maxRecDepth 20000 in
theorem k_L_pardon {C : CX} {F : MM} {G : GG} {p0 : Int32} {r : ((Int32 ⊕ String) × MM)} {k : Int32} (h : s_X8_pardon F p0 = some r) (hk : wcd [ex_ioo, ex_ise] r.1 = some k) : AMW C yL_pardon cL_pardon 4 (some .int) hhL_pardon rmL_pardon [.ref 0, .int p0, .ref 180] F G (fun o F9 G9 => o = .inl (some (.int k)) ∧ F9 = r.2 ∧ G9 = gupI G r.1) := by
  refine amw_of (L := [some (.ref 0), some (.int p0), some (.ref 180), none]) (by decide) (Nat.le_of_ble_eq_true rfl) rfl (fun M hM hT => ?_)
  have hM : MOk C RL cL_pardon 4 (some .int) rmL_pardon M := hM
  obtain ⟨Q, hQ⟩ : ∃ Q : OUT → MM → GG → Prop, Q = (fun o F9 G9 => o = .inl (some (.int k)) ∧ F9 = r.2 ∧ G9 = gupI G r.1) := ⟨_, rfl⟩
  have hq : Q (.inl (some (.int k))) (r.2) (gupI G r.1) := by rw [hQ]; exact ⟨rfl, rfl, rfl⟩
  rw [← hQ]
  clear hQ
  refine aw_aload_n (pc := 0) (i := 2) (x := 180) hM dL_pardon_0 rfl rfl ?_
  refine aw_iconst (pc := 1) (v := 0) hM dL_pardon_1 (by decide) ?_
  refine aw_aload_n (pc := 2) (i := 0) (x := 0) hM dL_pardon_2 rfl rfl ?_
  refine aw_iload_n (pc := 3) (i := 1) (x := p0) hM dL_pardon_3 rfl rfl ?_
  obtain ⟨r1, Fr⟩ := r
  match r1, h, hk, hq with
  | .inl v, h, hk, hq =>
    obtain rfl := Option.some.inj hk
    refine aw_cv1 (pc := 4) (n := 1) (As := [.int p0]) (st := [.int 0, .ref 180]) (b := 0) (vo := some (.int v)) (c2 := 2) (s2 := 12) hM (k_X8_pardon h) rfl cw_L_65 sk_0 rfl rfl (by decide +kernel) rfl rfl ⟨(Nat.le_of_ble_eq_true rfl), (Nat.le_of_ble_eq_true rfl)⟩ (Nat.le_of_ble_eq_true rfl) ⟨(Nat.le_of_ble_eq_true rfl), (Nat.le_of_ble_eq_true rfl)⟩ dL_pardon_4 rfl rfl ?_
    refine aw_i2l (pc := 7) hM dL_pardon_7 ?_
    refine aw_last (pc := 8) hM sk_180 (by decide) dL_pardon_8 ?_
    refine aw_goto (pc := 9) (tgt := 18) hM dL_pardon_9 (by decide) ?_
    refine aw_iconst (pc := 18) (v := 0) hM dL_pardon_18 (by decide) ?_
    exact aw_iret (pc := 19) hM dL_pardon_19 (Nat.le_of_ble_eq_true rfl) (Nat.le_of_ble_eq_true rfl) hq
  | .inr E, h, hk, hq =>
    refine aw_cvX (pc := 4) (n := 1) (As := [.int p0]) (st := [.int 0, .ref 180]) (b := 0) (E := E) hM (k_X8_pardon h) rfl cw_L_65 sk_0 rfl rfl (by decide +kernel) rfl rfl ⟨(Nat.le_of_ble_eq_true rfl), (Nat.le_of_ble_eq_true rfl)⟩ (Nat.le_of_ble_eq_true rfl) ⟨(Nat.le_of_ble_eq_true rfl), (Nat.le_of_ble_eq_true rfl)⟩ dL_pardon_4 ?_
    by_cases c0 : E = ex_ioo
    · subst c0
      obtain rfl : (1 : Int32) = k := by simpa [wcd, wci, ex_iae, ex_ise, ex_ioo] using hk
      exact ax_catch (hh := hhL_pardon) (v := 1) [] ⟨0, 9, 12, 28⟩ [⟨0, 9, 15, 15⟩] hM hT rfl (fun z hz => nomatch hz) (by decide) (by decide) gw_615 (by decide) (Or.inl ⟨3, 1, by decide, dL_pardon_12, dL_pardon_13, by decide, dL_pardon_14⟩) (Nat.le_of_ble_eq_true rfl) (Nat.le_of_ble_eq_true rfl) hq
    by_cases c1 : E = ex_ise
    · subst c1
      obtain rfl : (2 : Int32) = k := by simpa [wcd, wci, ex_iae, ex_ise, ex_ioo] using hk
      exact ax_catch (hh := hhL_pardon) (v := 2) [⟨0, 9, 12, 28⟩] ⟨0, 9, 15, 15⟩ [] hM hT rfl (fun z hz => by simp only [List.mem_cons, List.not_mem_nil, or_false] at hz; rcases hz with rfl <;> first | exact ⟨by decide, ex_ioo, gw_615, by decide⟩) (by decide) (by decide) gw_465 (by decide) (Or.inl ⟨3, 2, by decide, dL_pardon_15, dL_pardon_16, by decide, dL_pardon_17⟩) (Nat.le_of_ble_eq_true rfl) (Nat.le_of_ble_eq_true rfl) hq
    · exact absurd hk (by simp [wcd, wci, c0, c1])
def rmL_quorum : Room := { frames := 8, cells := 1, slots := 6, locals := 124 }
def hhL_quorum : List (Nat × Nat × Nat × Nat) := [(0, 9, 12, 28)]
set_option maxRecDepth 20000 in
theorem k_L_quorum {C : CX} {F : MM} {G : GG} {p0 : Int32} {r : (Int32 ⊕ String)} {k : Int32} (h : s_X8_quorum F p0 = some r) (hk : wcd [ex_ioo] r = some k) : AMW C yL_quorum cL_quorum 4 (some .int) hhL_quorum rmL_quorum [.ref 0, .int p0, .ref 180] F G (fun o F9 G9 => o = .inl (some (.int k)) ∧ F9 = F ∧ G9 = gupI G r) := by
  refine amw_of (L := [some (.ref 0), some (.int p0), some (.ref 180), none]) (by decide) (Nat.le_of_ble_eq_true rfl) rfl (fun M hM hT => ?_)
  have hM : MOk C RL cL_quorum 4 (some .int) rmL_quorum M := hM
  obtain ⟨Q, hQ⟩ : ∃ Q : OUT → MM → GG → Prop, Q = (fun o F9 G9 => o = .inl (some (.int k)) ∧ F9 = F ∧ G9 = gupI G r) := ⟨_, rfl⟩
  have hq : Q (.inl (some (.int k))) (F) (gupI G r) := by rw [hQ]; exact ⟨rfl, rfl, rfl⟩
  rw [← hQ]
  clear hQ
  refine aw_aload_n (pc := 0) (i := 2) (x := 180) hM dL_quorum_0 rfl rfl ?_
  refine aw_iconst (pc := 1) (v := 0) hM dL_quorum_1 (by decide) ?_
  refine aw_aload_n (pc := 2) (i := 0) (x := 0) hM dL_quorum_2 rfl rfl ?_
  refine aw_iload_n (pc := 3) (i := 1) (x := p0) hM dL_quorum_3 rfl rfl ?_
  match r, h, hk, hq with
  | .inl v, h, hk, hq =>
    obtain rfl := Option.some.inj hk
    refine aw_cv1 (pc := 4) (n := 1) (As := [.int p0]) (st := [.int 0, .ref 180]) (b := 0) (vo := some (.int v)) (c2 := 1) (s2 := 6) hM (k_X8_quorum h) rfl cw_L_40 sk_0 rfl rfl (by decide +kernel) rfl rfl ⟨(Nat.le_of_ble_eq_true rfl), (Nat.le_of_ble_eq_true rfl)⟩ (Nat.le_of_ble_eq_true rfl) ⟨(Nat.le_of_ble_eq_true rfl), (Nat.le_of_ble_eq_true rfl)⟩ dL_quorum_4 rfl rfl ?_
    refine aw_i2l (pc := 7) hM dL_quorum_7 ?_
    refine aw_last (pc := 8) hM sk_180 (by decide) dL_quorum_8 ?_
    refine aw_goto (pc := 9) (tgt := 15) hM dL_quorum_9 (by decide) ?_
    refine aw_iconst (pc := 15) (v := 0) hM dL_quorum_15 (by decide) ?_
    exact aw_iret (pc := 16) hM dL_quorum_16 (Nat.le_of_ble_eq_true rfl) (Nat.le_of_ble_eq_true rfl) hq
  | .inr E, h, hk, hq =>
    refine aw_cvX (pc := 4) (n := 1) (As := [.int p0]) (st := [.int 0, .ref 180]) (b := 0) (E := E) hM (k_X8_quorum h) rfl cw_L_40 sk_0 rfl rfl (by decide +kernel) rfl rfl ⟨(Nat.le_of_ble_eq_true rfl), (Nat.le_of_ble_eq_true rfl)⟩ (Nat.le_of_ble_eq_true rfl) ⟨(Nat.le_of_ble_eq_true rfl), (Nat.le_of_ble_eq_true rfl)⟩ dL_quorum_4 ?_
    by_cases c0 : E = ex_ioo
    · subst c0
      obtain rfl : (1 : Int32) = k := by simpa [wcd, wci, ex_iae, ex_ise, ex_ioo] using hk
      exact ax_catch (hh := hhL_quorum) (v := 1) [] ⟨0, 9, 12, 28⟩ [] hM hT rfl (fun z hz => nomatch hz) (by decide) (by decide) gw_615 (by decide) (Or.inl ⟨3, 1, by decide, dL_quorum_12, dL_quorum_13, by decide, dL_quorum_14⟩) (Nat.le_of_ble_eq_true rfl) (Nat.le_of_ble_eq_true rfl) hq
    · exact absurd hk (by simp [wcd, wci, c0])
def rmL_ranked : Room := { frames := 8, cells := 1, slots := 6, locals := 125 }
def hhL_ranked : List (Nat × Nat × Nat × Nat) := [(0, 9, 12, 28)]
set_option maxRecDepth 20000 in
theorem k_L_ranked {C : CX} {F : MM} {G : GG} {p0 : Int32} {r : (Int32 ⊕ String)} {k : Int32} (h : s_X8_ranked F p0 = some r) (hk : wcd [ex_ioo] r = some k) : AMW C yL_ranked cL_ranked 4 (some .int) hhL_ranked rmL_ranked [.ref 0, .int p0, .ref 180] F G (fun o F9 G9 => o = .inl (some (.int k)) ∧ F9 = F ∧ G9 = gupI G r) := by
  refine amw_of (L := [some (.ref 0), some (.int p0), some (.ref 180), none]) (by decide) (Nat.le_of_ble_eq_true rfl) rfl (fun M hM hT => ?_)
  have hM : MOk C RL cL_ranked 4 (some .int) rmL_ranked M := hM
  obtain ⟨Q, hQ⟩ : ∃ Q : OUT → MM → GG → Prop, Q = (fun o F9 G9 => o = .inl (some (.int k)) ∧ F9 = F ∧ G9 = gupI G r) := ⟨_, rfl⟩
  have hq : Q (.inl (some (.int k))) (F) (gupI G r) := by rw [hQ]; exact ⟨rfl, rfl, rfl⟩
  rw [← hQ]
  clear hQ
  refine aw_aload_n (pc := 0) (i := 2) (x := 180) hM dL_ranked_0 rfl rfl ?_
  refine aw_iconst (pc := 1) (v := 0) hM dL_ranked_1 (by decide) ?_
  refine aw_aload_n (pc := 2) (i := 0) (x := 0) hM dL_ranked_2 rfl rfl ?_
  refine aw_iload_n (pc := 3) (i := 1) (x := p0) hM dL_ranked_3 rfl rfl ?_
  match r, h, hk, hq with
  | .inl v, h, hk, hq =>
    obtain rfl := Option.some.inj hk
    refine aw_cv1 (pc := 4) (n := 1) (As := [.int p0]) (st := [.int 0, .ref 180]) (b := 0) (vo := some (.int v)) (c2 := 1) (s2 := 6) hM (k_X8_ranked h) rfl cw_L_108 sk_0 rfl rfl (by decide +kernel) rfl rfl ⟨(Nat.le_of_ble_eq_true rfl), (Nat.le_of_ble_eq_true rfl)⟩ (Nat.le_of_ble_eq_true rfl) ⟨(Nat.le_of_ble_eq_true rfl), (Nat.le_of_ble_eq_true rfl)⟩ dL_ranked_4 rfl rfl ?_
    refine aw_i2l (pc := 7) hM dL_ranked_7 ?_
    refine aw_last (pc := 8) hM sk_180 (by decide) dL_ranked_8 ?_
    refine aw_goto (pc := 9) (tgt := 15) hM dL_ranked_9 (by decide) ?_
    refine aw_iconst (pc := 15) (v := 0) hM dL_ranked_15 (by decide) ?_
    exact aw_iret (pc := 16) hM dL_ranked_16 (Nat.le_of_ble_eq_true rfl) (Nat.le_of_ble_eq_true rfl) hq
  | .inr E, h, hk, hq =>
    refine aw_cvX (pc := 4) (n := 1) (As := [.int p0]) (st := [.int 0, .ref 180]) (b := 0) (E := E) hM (k_X8_ranked h) rfl cw_L_108 sk_0 rfl rfl (by decide +kernel) rfl rfl ⟨(Nat.le_of_ble_eq_true rfl), (Nat.le_of_ble_eq_true rfl)⟩ (Nat.le_of_ble_eq_true rfl) ⟨(Nat.le_of_ble_eq_true rfl), (Nat.le_of_ble_eq_true rfl)⟩ dL_ranked_4 ?_
    by_cases c0 : E = ex_ioo
    · subst c0
      obtain rfl : (1 : Int32) = k := by simpa [wcd, wci, ex_iae, ex_ise, ex_ioo] using hk
      exact ax_catch (hh := hhL_ranked) (v := 1) [] ⟨0, 9, 12, 28⟩ [] hM hT rfl (fun z hz => nomatch hz) (by decide) (by decide) gw_615 (by decide) (Or.inl ⟨3, 1, by decide, dL_ranked_12, dL_ranked_13, by decide, dL_ranked_14⟩) (Nat.le_of_ble_eq_true rfl) (Nat.le_of_ble_eq_true rfl) hq
    · exact absurd hk (by simp [wcd, wci, c0])
def rmL_restore : Room := { frames := 8, cells := 2, slots := 12, locals := 123 }
def hhL_restore : List (Nat × Nat × Nat × Nat) := [(0, 9, 12, 28), (0, 9, 15, 15)]
set_option maxRecDepth 20000 in
theorem k_L_restore {C : CX} {F : MM} {G : GG} {p0 : Int32} {r : ((Int32 ⊕ String) × MM)} {k : Int32} (h : s_X8_restore F p0 = some r) (hk : wcd [ex_ioo, ex_ise] r.1 = some k) : AMW C yL_restore cL_restore 4 (some .int) hhL_restore rmL_restore [.ref 0, .int p0, .ref 180] F G (fun o F9 G9 => o = .inl (some (.int k)) ∧ F9 = r.2 ∧ G9 = gupI G r.1) := by
  refine amw_of (L := [some (.ref 0), some (.int p0), some (.ref 180), none]) (by decide) (Nat.le_of_ble_eq_true rfl) rfl (fun M hM hT => ?_)
  have hM : MOk C RL cL_restore 4 (some .int) rmL_restore M := hM
  obtain ⟨Q, hQ⟩ : ∃ Q : OUT → MM → GG → Prop, Q = (fun o F9 G9 => o = .inl (some (.int k)) ∧ F9 = r.2 ∧ G9 = gupI G r.1) := ⟨_, rfl⟩
  have hq : Q (.inl (some (.int k))) (r.2) (gupI G r.1) := by rw [hQ]; exact ⟨rfl, rfl, rfl⟩
  rw [← hQ]
  clear hQ
  refine aw_aload_n (pc := 0) (i := 2) (x := 180) hM dL_restore_0 rfl rfl ?_
  refine aw_iconst (pc := 1) (v := 0) hM dL_restore_1 (by decide) ?_
  refine aw_aload_n (pc := 2) (i := 0) (x := 0) hM dL_restore_2 rfl rfl ?_
  refine aw_iload_n (pc := 3) (i := 1) (x := p0) hM dL_restore_3 rfl rfl ?_
  obtain ⟨r1, Fr⟩ := r
  match r1, h, hk, hq with
  | .inl v, h, hk, hq =>
    obtain rfl := Option.some.inj hk
    refine aw_cv1 (pc := 4) (n := 1) (As := [.int p0]) (st := [.int 0, .ref 180]) (b := 0) (vo := some (.int v)) (c2 := 2) (s2 := 12) hM (k_X8_restore h) rfl cw_L_122 sk_0 rfl rfl (by decide +kernel) rfl rfl ⟨(Nat.le_of_ble_eq_true rfl), (Nat.le_of_ble_eq_true rfl)⟩ (Nat.le_of_ble_eq_true rfl) ⟨(Nat.le_of_ble_eq_true rfl), (Nat.le_of_ble_eq_true rfl)⟩ dL_restore_4 rfl rfl ?_
    refine aw_i2l (pc := 7) hM dL_restore_7 ?_
    refine aw_last (pc := 8) hM sk_180 (by decide) dL_restore_8 ?_
    refine aw_goto (pc := 9) (tgt := 18) hM dL_restore_9 (by decide) ?_
    refine aw_iconst (pc := 18) (v := 0) hM dL_restore_18 (by decide) ?_
    exact aw_iret (pc := 19) hM dL_restore_19 (Nat.le_of_ble_eq_true rfl) (Nat.le_of_ble_eq_true rfl) hq
  | .inr E, h, hk, hq =>
    refine aw_cvX (pc := 4) (n := 1) (As := [.int p0]) (st := [.int 0, .ref 180]) (b := 0) (E := E) hM (k_X8_restore h) rfl cw_L_122 sk_0 rfl rfl (by decide +kernel) rfl rfl ⟨(Nat.le_of_ble_eq_true rfl), (Nat.le_of_ble_eq_true rfl)⟩ (Nat.le_of_ble_eq_true rfl) ⟨(Nat.le_of_ble_eq_true rfl), (Nat.le_of_ble_eq_true rfl)⟩ dL_restore_4 ?_
    by_cases c0 : E = ex_ioo
    · subst c0
      obtain rfl : (1 : Int32) = k := by simpa [wcd, wci, ex_iae, ex_ise, ex_ioo] using hk
      exact ax_catch (hh := hhL_restore) (v := 1) [] ⟨0, 9, 12, 28⟩ [⟨0, 9, 15, 15⟩] hM hT rfl (fun z hz => nomatch hz) (by decide) (by decide) gw_615 (by decide) (Or.inl ⟨3, 1, by decide, dL_restore_12, dL_restore_13, by decide, dL_restore_14⟩) (Nat.le_of_ble_eq_true rfl) (Nat.le_of_ble_eq_true rfl) hq
    by_cases c1 : E = ex_ise
    · subst c1
      obtain rfl : (2 : Int32) = k := by simpa [wcd, wci, ex_iae, ex_ise, ex_ioo] using hk
      exact ax_catch (hh := hhL_restore) (v := 2) [⟨0, 9, 12, 28⟩] ⟨0, 9, 15, 15⟩ [] hM hT rfl (fun z hz => by simp only [List.mem_cons, List.not_mem_nil, or_false] at hz; rcases hz with rfl <;> first | exact ⟨by decide, ex_ioo, gw_615, by decide⟩) (by decide) (by decide) gw_465 (by decide) (Or.inl ⟨3, 2, by decide, dL_restore_15, dL_restore_16, by decide, dL_restore_17⟩) (Nat.le_of_ble_eq_true rfl) (Nat.le_of_ble_eq_true rfl) hq
    · exact absurd hk (by simp [wcd, wci, c0, c1])
def rmL_rule : Room := { frames := 8, cells := 2, slots := 12, locals := 126 }
def hhL_rule : List (Nat × Nat × Nat × Nat) := [(0, 10, 13, 28), (0, 10, 17, 13)]
set_option maxRecDepth 20000 in
theorem k_L_rule {C : CX} {F : MM} {G : GG} {p0 : Int32} {p1 : Int32} {r : (Int32 ⊕ String)} {k : Int32} (h : s_X8_rule F p0 p1 = some r) (hk : wcd [ex_ioo, ex_iae] r = some k) : AMW C yL_rule cL_rule 5 (some .int) hhL_rule rmL_rule [.ref 0, .int p0, .int p1, .ref 180] F G (fun o F9 G9 => o = .inl (some (.int k)) ∧ F9 = F ∧ G9 = gupI G r) := by
  refine amw_of (L := [some (.ref 0), some (.int p0), some (.int p1), some (.ref 180), none]) (by decide) (Nat.le_of_ble_eq_true rfl) rfl (fun M hM hT => ?_)
  have hM : MOk C RL cL_rule 5 (some .int) rmL_rule M := hM
  obtain ⟨Q, hQ⟩ : ∃ Q : OUT → MM → GG → Prop, Q = (fun o F9 G9 => o = .inl (some (.int k)) ∧ F9 = F ∧ G9 = gupI G r) := ⟨_, rfl⟩
  have hq : Q (.inl (some (.int k))) (F) (gupI G r) := by rw [hQ]; exact ⟨rfl, rfl, rfl⟩
  rw [← hQ]
  clear hQ
  refine aw_aload_n (pc := 0) (i := 3) (x := 180) hM dL_rule_0 rfl rfl ?_
  refine aw_iconst (pc := 1) (v := 0) hM dL_rule_1 (by decide) ?_
  refine aw_aload_n (pc := 2) (i := 0) (x := 0) hM dL_rule_2 rfl rfl ?_
  refine aw_iload_n (pc := 3) (i := 1) (x := p0) hM dL_rule_3 rfl rfl ?_
  refine aw_iload_n (pc := 4) (i := 2) (x := p1) hM dL_rule_4 rfl rfl ?_
  match r, h, hk, hq with
  | .inl v, h, hk, hq =>
    obtain rfl := Option.some.inj hk
    refine aw_cv1 (pc := 5) (n := 2) (As := [.int p0, .int p1]) (st := [.int 0, .ref 180]) (b := 0) (vo := some (.int v)) (c2 := 2) (s2 := 12) hM (k_X8_rule h) rfl cw_L_34 sk_0 rfl rfl (by decide +kernel) rfl rfl ⟨(Nat.le_of_ble_eq_true rfl), (Nat.le_of_ble_eq_true rfl)⟩ (Nat.le_of_ble_eq_true rfl) ⟨(Nat.le_of_ble_eq_true rfl), (Nat.le_of_ble_eq_true rfl)⟩ dL_rule_5 rfl rfl ?_
    refine aw_i2l (pc := 8) hM dL_rule_8 ?_
    refine aw_last (pc := 9) hM sk_180 (by decide) dL_rule_9 ?_
    refine aw_goto (pc := 10) (tgt := 21) hM dL_rule_10 (by decide) ?_
    refine aw_iconst (pc := 21) (v := 0) hM dL_rule_21 (by decide) ?_
    exact aw_iret (pc := 22) hM dL_rule_22 (Nat.le_of_ble_eq_true rfl) (Nat.le_of_ble_eq_true rfl) hq
  | .inr E, h, hk, hq =>
    refine aw_cvX (pc := 5) (n := 2) (As := [.int p0, .int p1]) (st := [.int 0, .ref 180]) (b := 0) (E := E) hM (k_X8_rule h) rfl cw_L_34 sk_0 rfl rfl (by decide +kernel) rfl rfl ⟨(Nat.le_of_ble_eq_true rfl), (Nat.le_of_ble_eq_true rfl)⟩ (Nat.le_of_ble_eq_true rfl) ⟨(Nat.le_of_ble_eq_true rfl), (Nat.le_of_ble_eq_true rfl)⟩ dL_rule_5 ?_
    by_cases c0 : E = ex_ioo
    · subst c0
      obtain rfl : (1 : Int32) = k := by simpa [wcd, wci, ex_iae, ex_ise, ex_ioo] using hk
      exact ax_catch (hh := hhL_rule) (v := 1) [] ⟨0, 10, 13, 28⟩ [⟨0, 10, 17, 13⟩] hM hT rfl (fun z hz => nomatch hz) (by decide) (by decide) gw_615 (by decide) (Or.inr ⟨4, 1, by decide, dL_rule_13, dL_rule_15, by decide, dL_rule_16⟩) (Nat.le_of_ble_eq_true rfl) (Nat.le_of_ble_eq_true rfl) hq
    by_cases c1 : E = ex_iae
    · subst c1
      obtain rfl : (2 : Int32) = k := by simpa [wcd, wci, ex_iae, ex_ise, ex_ioo] using hk
      exact ax_catch (hh := hhL_rule) (v := 2) [⟨0, 10, 13, 28⟩] ⟨0, 10, 17, 13⟩ [] hM hT rfl (fun z hz => by simp only [List.mem_cons, List.not_mem_nil, or_false] at hz; rcases hz with rfl <;> first | exact ⟨by decide, ex_ioo, gw_615, by decide⟩) (by decide) (by decide) gw_464 (by decide) (Or.inr ⟨4, 2, by decide, dL_rule_17, dL_rule_19, by decide, dL_rule_20⟩) (Nat.le_of_ble_eq_true rfl) (Nat.le_of_ble_eq_true rfl) hq
    · exact absurd hk (by simp [wcd, wci, c0, c1])
def rmL_runScript : Room := { frames := 8, cells := 2, slots := 12, locals := 164 }
def hhL_runScript : List (Nat × Nat × Nat × Nat) := [(0, 11, 14, 13)]
set_option maxRecDepth 20000 in
theorem k_L_runScript {C : CX} {F : MM} {G : GG} {p0 : Int32} {p1 : Int64} {r : ((Int32 ⊕ String) × MM)} {k : Int32} (h : s_X8_runScript F p0 p1 = some r) (hk : wcd [ex_iae] r.1 = some k) : AMW C yL_runScript cL_runScript 6 (some .int) hhL_runScript rmL_runScript [.ref 0, .int p0, .long p1, .ref 180] F G (fun o F9 G9 => o = .inl (some (.int k)) ∧ F9 = r.2 ∧ G9 = gupI G r.1) := by
  refine amw_of (L := [some (.ref 0), some (.int p0), some (.long p1), none, some (.ref 180), none]) (by decide) (Nat.le_of_ble_eq_true rfl) rfl (fun M hM hT => ?_)
  have hM : MOk C RL cL_runScript 6 (some .int) rmL_runScript M := hM
  obtain ⟨Q, hQ⟩ : ∃ Q : OUT → MM → GG → Prop, Q = (fun o F9 G9 => o = .inl (some (.int k)) ∧ F9 = r.2 ∧ G9 = gupI G r.1) := ⟨_, rfl⟩
  have hq : Q (.inl (some (.int k))) (r.2) (gupI G r.1) := by rw [hQ]; exact ⟨rfl, rfl, rfl⟩
  rw [← hQ]
  clear hQ
  refine aw_aload (pc := 0) (i := 4) (x := 180) hM dL_runScript_0  rfl ?_
  refine aw_iconst (pc := 2) (v := 0) hM dL_runScript_2 (by decide) ?_
  refine aw_aload_n (pc := 3) (i := 0) (x := 0) hM dL_runScript_3 rfl rfl ?_
  refine aw_iload_n (pc := 4) (i := 1) (x := p0) hM dL_runScript_4 rfl rfl ?_
  refine aw_lload_n (pc := 5) (i := 2) (x := p1) hM dL_runScript_5 rfl rfl ?_
  obtain ⟨r1, Fr⟩ := r
  match r1, h, hk, hq with
  | .inl v, h, hk, hq =>
    obtain rfl := Option.some.inj hk
    refine aw_cv1 (pc := 6) (n := 2) (As := [.int p0, .long p1]) (st := [.int 0, .ref 180]) (b := 0) (vo := some (.int v)) (c2 := 2) (s2 := 12) hM (k_X8_runScript h) rfl cw_L_111 sk_0 rfl rfl (by decide +kernel) rfl rfl ⟨(Nat.le_of_ble_eq_true rfl), (Nat.le_of_ble_eq_true rfl)⟩ (Nat.le_of_ble_eq_true rfl) ⟨(Nat.le_of_ble_eq_true rfl), (Nat.le_of_ble_eq_true rfl)⟩ dL_runScript_6 rfl rfl ?_
    refine aw_i2l (pc := 9) hM dL_runScript_9 ?_
    refine aw_last (pc := 10) hM sk_180 (by decide) dL_runScript_10 ?_
    refine aw_goto (pc := 11) (tgt := 18) hM dL_runScript_11 (by decide) ?_
    refine aw_iconst (pc := 18) (v := 0) hM dL_runScript_18 (by decide) ?_
    exact aw_iret (pc := 19) hM dL_runScript_19 (Nat.le_of_ble_eq_true rfl) (Nat.le_of_ble_eq_true rfl) hq
  | .inr E, h, hk, hq =>
    refine aw_cvX (pc := 6) (n := 2) (As := [.int p0, .long p1]) (st := [.int 0, .ref 180]) (b := 0) (E := E) hM (k_X8_runScript h) rfl cw_L_111 sk_0 rfl rfl (by decide +kernel) rfl rfl ⟨(Nat.le_of_ble_eq_true rfl), (Nat.le_of_ble_eq_true rfl)⟩ (Nat.le_of_ble_eq_true rfl) ⟨(Nat.le_of_ble_eq_true rfl), (Nat.le_of_ble_eq_true rfl)⟩ dL_runScript_6 ?_
    by_cases c0 : E = ex_iae
    · subst c0
      obtain rfl : (1 : Int32) = k := by simpa [wcd, wci, ex_iae, ex_ise, ex_ioo] using hk
      exact ax_catch (hh := hhL_runScript) (v := 1) [] ⟨0, 11, 14, 13⟩ [] hM hT rfl (fun z hz => nomatch hz) (by decide) (by decide) gw_464 (by decide) (Or.inr ⟨5, 1, by decide, dL_runScript_14, dL_runScript_16, by decide, dL_runScript_17⟩) (Nat.le_of_ble_eq_true rfl) (Nat.le_of_ble_eq_true rfl) hq
    · exact absurd hk (by simp [wcd, wci, c0])
def rmL_save : Room := { frames := 8, cells := 1, slots := 6, locals := 123 }
def hhL_save : List (Nat × Nat × Nat × Nat) := [(0, 9, 12, 28)]
set_option maxRecDepth 20000 in
theorem k_L_save {C : CX} {F : MM} {G : GG} {p0 : Int32} {r : ((Int32 ⊕ String) × MM)} {k : Int32} (h : s_X8_save F p0 = some r) (hk : wcd [ex_ioo] r.1 = some k) : AMW C yL_save cL_save 4 (some .int) hhL_save rmL_save [.ref 0, .int p0, .ref 180] F G (fun o F9 G9 => o = .inl (some (.int k)) ∧ F9 = r.2 ∧ G9 = gupI G r.1) := by
  refine amw_of (L := [some (.ref 0), some (.int p0), some (.ref 180), none]) (by decide) (Nat.le_of_ble_eq_true rfl) rfl (fun M hM hT => ?_)
  have hM : MOk C RL cL_save 4 (some .int) rmL_save M := hM
  obtain ⟨Q, hQ⟩ : ∃ Q : OUT → MM → GG → Prop, Q = (fun o F9 G9 => o = .inl (some (.int k)) ∧ F9 = r.2 ∧ G9 = gupI G r.1) := ⟨_, rfl⟩
  have hq : Q (.inl (some (.int k))) (r.2) (gupI G r.1) := by rw [hQ]; exact ⟨rfl, rfl, rfl⟩
  rw [← hQ]
  clear hQ
  refine aw_aload_n (pc := 0) (i := 2) (x := 180) hM dL_save_0 rfl rfl ?_
  refine aw_iconst (pc := 1) (v := 0) hM dL_save_1 (by decide) ?_
  refine aw_aload_n (pc := 2) (i := 0) (x := 0) hM dL_save_2 rfl rfl ?_
  refine aw_iload_n (pc := 3) (i := 1) (x := p0) hM dL_save_3 rfl rfl ?_
  obtain ⟨r1, Fr⟩ := r
  match r1, h, hk, hq with
  | .inl v, h, hk, hq =>
    obtain rfl := Option.some.inj hk
    refine aw_cv1 (pc := 4) (n := 1) (As := [.int p0]) (st := [.int 0, .ref 180]) (b := 0) (vo := some (.int v)) (c2 := 1) (s2 := 6) hM (k_X8_save h) rfl cw_L_119 sk_0 rfl rfl (by decide +kernel) rfl rfl ⟨(Nat.le_of_ble_eq_true rfl), (Nat.le_of_ble_eq_true rfl)⟩ (Nat.le_of_ble_eq_true rfl) ⟨(Nat.le_of_ble_eq_true rfl), (Nat.le_of_ble_eq_true rfl)⟩ dL_save_4 rfl rfl ?_
    refine aw_i2l (pc := 7) hM dL_save_7 ?_
    refine aw_last (pc := 8) hM sk_180 (by decide) dL_save_8 ?_
    refine aw_goto (pc := 9) (tgt := 15) hM dL_save_9 (by decide) ?_
    refine aw_iconst (pc := 15) (v := 0) hM dL_save_15 (by decide) ?_
    exact aw_iret (pc := 16) hM dL_save_16 (Nat.le_of_ble_eq_true rfl) (Nat.le_of_ble_eq_true rfl) hq
  | .inr E, h, hk, hq =>
    refine aw_cvX (pc := 4) (n := 1) (As := [.int p0]) (st := [.int 0, .ref 180]) (b := 0) (E := E) hM (k_X8_save h) rfl cw_L_119 sk_0 rfl rfl (by decide +kernel) rfl rfl ⟨(Nat.le_of_ble_eq_true rfl), (Nat.le_of_ble_eq_true rfl)⟩ (Nat.le_of_ble_eq_true rfl) ⟨(Nat.le_of_ble_eq_true rfl), (Nat.le_of_ble_eq_true rfl)⟩ dL_save_4 ?_
    by_cases c0 : E = ex_ioo
    · subst c0
      obtain rfl : (1 : Int32) = k := by simpa [wcd, wci, ex_iae, ex_ise, ex_ioo] using hk
      exact ax_catch (hh := hhL_save) (v := 1) [] ⟨0, 9, 12, 28⟩ [] hM hT rfl (fun z hz => nomatch hz) (by decide) (by decide) gw_615 (by decide) (Or.inl ⟨3, 1, by decide, dL_save_12, dL_save_13, by decide, dL_save_14⟩) (Nat.le_of_ble_eq_true rfl) (Nat.le_of_ble_eq_true rfl) hq
    · exact absurd hk (by simp [wcd, wci, c0])
def rmL_setFaults : Room := { frames := 8, cells := 2, slots := 12, locals := 127 }
def hhL_setFaults : List (Nat × Nat × Nat × Nat) := [(0, 10, 13, 28), (0, 10, 17, 13)]
set_option maxRecDepth 20000 in
theorem k_L_setFaults {C : CX} {F : MM} {G : GG} {p0 : Int32} {p1 : Int32} {r : ((Int32 ⊕ String) × MM)} {k : Int32} (h : s_X8_setFaults F p0 p1 = some r) (hk : wcd [ex_ioo, ex_iae] r.1 = some k) : AMW C yL_setFaults cL_setFaults 5 (some .int) hhL_setFaults rmL_setFaults [.ref 0, .int p0, .int p1, .ref 180] F G (fun o F9 G9 => o = .inl (some (.int k)) ∧ F9 = r.2 ∧ G9 = gupI G r.1) := by
  refine amw_of (L := [some (.ref 0), some (.int p0), some (.int p1), some (.ref 180), none]) (by decide) (Nat.le_of_ble_eq_true rfl) rfl (fun M hM hT => ?_)
  have hM : MOk C RL cL_setFaults 5 (some .int) rmL_setFaults M := hM
  obtain ⟨Q, hQ⟩ : ∃ Q : OUT → MM → GG → Prop, Q = (fun o F9 G9 => o = .inl (some (.int k)) ∧ F9 = r.2 ∧ G9 = gupI G r.1) := ⟨_, rfl⟩
  have hq : Q (.inl (some (.int k))) (r.2) (gupI G r.1) := by rw [hQ]; exact ⟨rfl, rfl, rfl⟩
  rw [← hQ]
  clear hQ
  refine aw_aload_n (pc := 0) (i := 3) (x := 180) hM dL_setFaults_0 rfl rfl ?_
  refine aw_iconst (pc := 1) (v := 0) hM dL_setFaults_1 (by decide) ?_
  refine aw_aload_n (pc := 2) (i := 0) (x := 0) hM dL_setFaults_2 rfl rfl ?_
  refine aw_iload_n (pc := 3) (i := 1) (x := p0) hM dL_setFaults_3 rfl rfl ?_
  refine aw_iload_n (pc := 4) (i := 2) (x := p1) hM dL_setFaults_4 rfl rfl ?_
  obtain ⟨r1, Fr⟩ := r
  match r1, h, hk, hq with
  | .inl v, h, hk, hq =>
    obtain rfl := Option.some.inj hk
    refine aw_cv1 (pc := 5) (n := 2) (As := [.int p0, .int p1]) (st := [.int 0, .ref 180]) (b := 0) (vo := some (.int v)) (c2 := 2) (s2 := 12) hM (k_X8_setFaults h) rfl cw_L_62 sk_0 rfl rfl (by decide +kernel) rfl rfl ⟨(Nat.le_of_ble_eq_true rfl), (Nat.le_of_ble_eq_true rfl)⟩ (Nat.le_of_ble_eq_true rfl) ⟨(Nat.le_of_ble_eq_true rfl), (Nat.le_of_ble_eq_true rfl)⟩ dL_setFaults_5 rfl rfl ?_
    refine aw_i2l (pc := 8) hM dL_setFaults_8 ?_
    refine aw_last (pc := 9) hM sk_180 (by decide) dL_setFaults_9 ?_
    refine aw_goto (pc := 10) (tgt := 21) hM dL_setFaults_10 (by decide) ?_
    refine aw_iconst (pc := 21) (v := 0) hM dL_setFaults_21 (by decide) ?_
    exact aw_iret (pc := 22) hM dL_setFaults_22 (Nat.le_of_ble_eq_true rfl) (Nat.le_of_ble_eq_true rfl) hq
  | .inr E, h, hk, hq =>
    refine aw_cvX (pc := 5) (n := 2) (As := [.int p0, .int p1]) (st := [.int 0, .ref 180]) (b := 0) (E := E) hM (k_X8_setFaults h) rfl cw_L_62 sk_0 rfl rfl (by decide +kernel) rfl rfl ⟨(Nat.le_of_ble_eq_true rfl), (Nat.le_of_ble_eq_true rfl)⟩ (Nat.le_of_ble_eq_true rfl) ⟨(Nat.le_of_ble_eq_true rfl), (Nat.le_of_ble_eq_true rfl)⟩ dL_setFaults_5 ?_
    by_cases c0 : E = ex_ioo
    · subst c0
      obtain rfl : (1 : Int32) = k := by simpa [wcd, wci, ex_iae, ex_ise, ex_ioo] using hk
      exact ax_catch (hh := hhL_setFaults) (v := 1) [] ⟨0, 10, 13, 28⟩ [⟨0, 10, 17, 13⟩] hM hT rfl (fun z hz => nomatch hz) (by decide) (by decide) gw_615 (by decide) (Or.inr ⟨4, 1, by decide, dL_setFaults_13, dL_setFaults_15, by decide, dL_setFaults_16⟩) (Nat.le_of_ble_eq_true rfl) (Nat.le_of_ble_eq_true rfl) hq
    by_cases c1 : E = ex_iae
    · subst c1
      obtain rfl : (2 : Int32) = k := by simpa [wcd, wci, ex_iae, ex_ise, ex_ioo] using hk
      exact ax_catch (hh := hhL_setFaults) (v := 2) [⟨0, 10, 13, 28⟩] ⟨0, 10, 17, 13⟩ [] hM hT rfl (fun z hz => by simp only [List.mem_cons, List.not_mem_nil, or_false] at hz; rcases hz with rfl <;> first | exact ⟨by decide, ex_ioo, gw_615, by decide⟩) (by decide) (by decide) gw_464 (by decide) (Or.inr ⟨4, 2, by decide, dL_setFaults_17, dL_setFaults_19, by decide, dL_setFaults_20⟩) (Nat.le_of_ble_eq_true rfl) (Nat.le_of_ble_eq_true rfl) hq
    · exact absurd hk (by simp [wcd, wci, c0, c1])
def rmL_setQuorum : Room := { frames := 8, cells := 2, slots := 12, locals := 127 }
def hhL_setQuorum : List (Nat × Nat × Nat × Nat) := [(0, 10, 13, 28), (0, 10, 17, 13)]
set_option maxRecDepth 20000 in
theorem k_L_setQuorum {C : CX} {F : MM} {G : GG} {p0 : Int32} {p1 : Int32} {r : ((Int32 ⊕ String) × MM)} {k : Int32} (h : s_X8_setQuorum F p0 p1 = some r) (hk : wcd [ex_ioo, ex_iae] r.1 = some k) : AMW C yL_setQuorum cL_setQuorum 5 (some .int) hhL_setQuorum rmL_setQuorum [.ref 0, .int p0, .int p1, .ref 180] F G (fun o F9 G9 => o = .inl (some (.int k)) ∧ F9 = r.2 ∧ G9 = gupI G r.1) := by
  refine amw_of (L := [some (.ref 0), some (.int p0), some (.int p1), some (.ref 180), none]) (by decide) (Nat.le_of_ble_eq_true rfl) rfl (fun M hM hT => ?_)
  have hM : MOk C RL cL_setQuorum 5 (some .int) rmL_setQuorum M := hM
  obtain ⟨Q, hQ⟩ : ∃ Q : OUT → MM → GG → Prop, Q = (fun o F9 G9 => o = .inl (some (.int k)) ∧ F9 = r.2 ∧ G9 = gupI G r.1) := ⟨_, rfl⟩
  have hq : Q (.inl (some (.int k))) (r.2) (gupI G r.1) := by rw [hQ]; exact ⟨rfl, rfl, rfl⟩
  rw [← hQ]
  clear hQ
  refine aw_aload_n (pc := 0) (i := 3) (x := 180) hM dL_setQuorum_0 rfl rfl ?_
  refine aw_iconst (pc := 1) (v := 0) hM dL_setQuorum_1 (by decide) ?_
  refine aw_aload_n (pc := 2) (i := 0) (x := 0) hM dL_setQuorum_2 rfl rfl ?_
  refine aw_iload_n (pc := 3) (i := 1) (x := p0) hM dL_setQuorum_3 rfl rfl ?_
  refine aw_iload_n (pc := 4) (i := 2) (x := p1) hM dL_setQuorum_4 rfl rfl ?_
  obtain ⟨r1, Fr⟩ := r
  match r1, h, hk, hq with
  | .inl v, h, hk, hq =>
    obtain rfl := Option.some.inj hk
    refine aw_cv1 (pc := 5) (n := 2) (As := [.int p0, .int p1]) (st := [.int 0, .ref 180]) (b := 0) (vo := some (.int v)) (c2 := 2) (s2 := 12) hM (k_X8_setQuorum h) rfl cw_L_59 sk_0 rfl rfl (by decide +kernel) rfl rfl ⟨(Nat.le_of_ble_eq_true rfl), (Nat.le_of_ble_eq_true rfl)⟩ (Nat.le_of_ble_eq_true rfl) ⟨(Nat.le_of_ble_eq_true rfl), (Nat.le_of_ble_eq_true rfl)⟩ dL_setQuorum_5 rfl rfl ?_
    refine aw_i2l (pc := 8) hM dL_setQuorum_8 ?_
    refine aw_last (pc := 9) hM sk_180 (by decide) dL_setQuorum_9 ?_
    refine aw_goto (pc := 10) (tgt := 21) hM dL_setQuorum_10 (by decide) ?_
    refine aw_iconst (pc := 21) (v := 0) hM dL_setQuorum_21 (by decide) ?_
    exact aw_iret (pc := 22) hM dL_setQuorum_22 (Nat.le_of_ble_eq_true rfl) (Nat.le_of_ble_eq_true rfl) hq
  | .inr E, h, hk, hq =>
    refine aw_cvX (pc := 5) (n := 2) (As := [.int p0, .int p1]) (st := [.int 0, .ref 180]) (b := 0) (E := E) hM (k_X8_setQuorum h) rfl cw_L_59 sk_0 rfl rfl (by decide +kernel) rfl rfl ⟨(Nat.le_of_ble_eq_true rfl), (Nat.le_of_ble_eq_true rfl)⟩ (Nat.le_of_ble_eq_true rfl) ⟨(Nat.le_of_ble_eq_true rfl), (Nat.le_of_ble_eq_true rfl)⟩ dL_setQuorum_5 ?_
    by_cases c0 : E = ex_ioo
    · subst c0
      obtain rfl : (1 : Int32) = k := by simpa [wcd, wci, ex_iae, ex_ise, ex_ioo] using hk
      exact ax_catch (hh := hhL_setQuorum) (v := 1) [] ⟨0, 10, 13, 28⟩ [⟨0, 10, 17, 13⟩] hM hT rfl (fun z hz => nomatch hz) (by decide) (by decide) gw_615 (by decide) (Or.inr ⟨4, 1, by decide, dL_setQuorum_13, dL_setQuorum_15, by decide, dL_setQuorum_16⟩) (Nat.le_of_ble_eq_true rfl) (Nat.le_of_ble_eq_true rfl) hq
    by_cases c1 : E = ex_iae
    · subst c1
      obtain rfl : (2 : Int32) = k := by simpa [wcd, wci, ex_iae, ex_ise, ex_ioo] using hk
      exact ax_catch (hh := hhL_setQuorum) (v := 2) [⟨0, 10, 13, 28⟩] ⟨0, 10, 17, 13⟩ [] hM hT rfl (fun z hz => by simp only [List.mem_cons, List.not_mem_nil, or_false] at hz; rcases hz with rfl <;> first | exact ⟨by decide, ex_ioo, gw_615, by decide⟩) (by decide) (by decide) gw_464 (by decide) (Or.inr ⟨4, 2, by decide, dL_setQuorum_17, dL_setQuorum_19, by decide, dL_setQuorum_20⟩) (Nat.le_of_ble_eq_true rfl) (Nat.le_of_ble_eq_true rfl) hq
    · exact absurd hk (by simp [wcd, wci, c0, c1])
def rmL_simulate : Room := { frames := 8, cells := 1, slots := 6, locals := 139 }
def hhL_simulate : List (Nat × Nat × Nat × Nat) := [(0, 11, 14, 13)]
set_option maxRecDepth 20000 in
theorem k_L_simulate {C : CX} {F : MM} {G : GG} {p0 : Int64} {p1 : Int32} {r : ((Int32 ⊕ String) × MM)} {k : Int32} (h : s_X8_simulate F p0 p1 = some r) (hk : wcd [ex_iae] r.1 = some k) : AMW C yL_simulate cL_simulate 6 (some .int) hhL_simulate rmL_simulate [.ref 0, .long p0, .int p1, .ref 180] F G (fun o F9 G9 => o = .inl (some (.int k)) ∧ F9 = r.2 ∧ G9 = gupI G r.1) := by
  refine amw_of (L := [some (.ref 0), some (.long p0), none, some (.int p1), some (.ref 180), none]) (by decide) (Nat.le_of_ble_eq_true rfl) rfl (fun M hM hT => ?_)
  have hM : MOk C RL cL_simulate 6 (some .int) rmL_simulate M := hM
  obtain ⟨Q, hQ⟩ : ∃ Q : OUT → MM → GG → Prop, Q = (fun o F9 G9 => o = .inl (some (.int k)) ∧ F9 = r.2 ∧ G9 = gupI G r.1) := ⟨_, rfl⟩
  have hq : Q (.inl (some (.int k))) (r.2) (gupI G r.1) := by rw [hQ]; exact ⟨rfl, rfl, rfl⟩
  rw [← hQ]
  clear hQ
  refine aw_aload (pc := 0) (i := 4) (x := 180) hM dL_simulate_0  rfl ?_
  refine aw_iconst (pc := 2) (v := 0) hM dL_simulate_2 (by decide) ?_
  refine aw_aload_n (pc := 3) (i := 0) (x := 0) hM dL_simulate_3 rfl rfl ?_
  refine aw_lload_n (pc := 4) (i := 1) (x := p0) hM dL_simulate_4 rfl rfl ?_
  refine aw_iload_n (pc := 5) (i := 3) (x := p1) hM dL_simulate_5 rfl rfl ?_
  obtain ⟨r1, Fr⟩ := r
  match r1, h, hk, hq with
  | .inl v, h, hk, hq =>
    obtain rfl := Option.some.inj hk
    refine aw_cv1 (pc := 6) (n := 2) (As := [.long p0, .int p1]) (st := [.int 0, .ref 180]) (b := 0) (vo := some (.int v)) (c2 := 1) (s2 := 6) hM (k_X8_simulate h) rfl cw_L_115 sk_0 rfl rfl (by decide +kernel) rfl rfl ⟨(Nat.le_of_ble_eq_true rfl), (Nat.le_of_ble_eq_true rfl)⟩ (Nat.le_of_ble_eq_true rfl) ⟨(Nat.le_of_ble_eq_true rfl), (Nat.le_of_ble_eq_true rfl)⟩ dL_simulate_6 rfl rfl ?_
    refine aw_i2l (pc := 9) hM dL_simulate_9 ?_
    refine aw_last (pc := 10) hM sk_180 (by decide) dL_simulate_10 ?_
    refine aw_goto (pc := 11) (tgt := 18) hM dL_simulate_11 (by decide) ?_
    refine aw_iconst (pc := 18) (v := 0) hM dL_simulate_18 (by decide) ?_
    exact aw_iret (pc := 19) hM dL_simulate_19 (Nat.le_of_ble_eq_true rfl) (Nat.le_of_ble_eq_true rfl) hq
  | .inr E, h, hk, hq =>
    refine aw_cvX (pc := 6) (n := 2) (As := [.long p0, .int p1]) (st := [.int 0, .ref 180]) (b := 0) (E := E) hM (k_X8_simulate h) rfl cw_L_115 sk_0 rfl rfl (by decide +kernel) rfl rfl ⟨(Nat.le_of_ble_eq_true rfl), (Nat.le_of_ble_eq_true rfl)⟩ (Nat.le_of_ble_eq_true rfl) ⟨(Nat.le_of_ble_eq_true rfl), (Nat.le_of_ble_eq_true rfl)⟩ dL_simulate_6 ?_
    by_cases c0 : E = ex_iae
    · subst c0
      obtain rfl : (1 : Int32) = k := by simpa [wcd, wci, ex_iae, ex_ise, ex_ioo] using hk
      exact ax_catch (hh := hhL_simulate) (v := 1) [] ⟨0, 11, 14, 13⟩ [] hM hT rfl (fun z hz => nomatch hz) (by decide) (by decide) gw_464 (by decide) (Or.inr ⟨5, 1, by decide, dL_simulate_14, dL_simulate_16, by decide, dL_simulate_17⟩) (Nat.le_of_ble_eq_true rfl) (Nat.le_of_ble_eq_true rfl) hq
    · exact absurd hk (by simp [wcd, wci, c0])
def rmL_state : Room := { frames := 8, cells := 2, slots := 12, locals := 125 }
def hhL_state : List (Nat × Nat × Nat × Nat) := [(0, 10, 13, 28)]
set_option maxRecDepth 20000 in
theorem k_L_state {C : CX} {F : MM} {G : GG} {p0 : Int32} {p1 : Int32} {r : (Int32 ⊕ String)} {k : Int32} (h : s_X8_state F p0 p1 = some r) (hk : wcd [ex_ioo] r = some k) : AMW C yL_state cL_state 5 (some .int) hhL_state rmL_state [.ref 0, .int p0, .int p1, .ref 180] F G (fun o F9 G9 => o = .inl (some (.int k)) ∧ F9 = F ∧ G9 = gupI G r) := by
  refine amw_of (L := [some (.ref 0), some (.int p0), some (.int p1), some (.ref 180), none]) (by decide) (Nat.le_of_ble_eq_true rfl) rfl (fun M hM hT => ?_)
  have hM : MOk C RL cL_state 5 (some .int) rmL_state M := hM
  obtain ⟨Q, hQ⟩ : ∃ Q : OUT → MM → GG → Prop, Q = (fun o F9 G9 => o = .inl (some (.int k)) ∧ F9 = F ∧ G9 = gupI G r) := ⟨_, rfl⟩
  have hq : Q (.inl (some (.int k))) (F) (gupI G r) := by rw [hQ]; exact ⟨rfl, rfl, rfl⟩
  rw [← hQ]
  clear hQ
  refine aw_aload_n (pc := 0) (i := 3) (x := 180) hM dL_state_0 rfl rfl ?_
  refine aw_iconst (pc := 1) (v := 0) hM dL_state_1 (by decide) ?_
  refine aw_aload_n (pc := 2) (i := 0) (x := 0) hM dL_state_2 rfl rfl ?_
  refine aw_iload_n (pc := 3) (i := 1) (x := p0) hM dL_state_3 rfl rfl ?_
  refine aw_iload_n (pc := 4) (i := 2) (x := p1) hM dL_state_4 rfl rfl ?_
  match r, h, hk, hq with
  | .inl v, h, hk, hq =>
    obtain rfl := Option.some.inj hk
    refine aw_cv1 (pc := 5) (n := 2) (As := [.int p0, .int p1]) (st := [.int 0, .ref 180]) (b := 0) (vo := some (.int v)) (c2 := 2) (s2 := 12) hM (k_X8_state h) rfl cw_L_74 sk_0 rfl rfl (by decide +kernel) rfl rfl ⟨(Nat.le_of_ble_eq_true rfl), (Nat.le_of_ble_eq_true rfl)⟩ (Nat.le_of_ble_eq_true rfl) ⟨(Nat.le_of_ble_eq_true rfl), (Nat.le_of_ble_eq_true rfl)⟩ dL_state_5 rfl rfl ?_
    refine aw_i2l (pc := 8) hM dL_state_8 ?_
    refine aw_last (pc := 9) hM sk_180 (by decide) dL_state_9 ?_
    refine aw_goto (pc := 10) (tgt := 17) hM dL_state_10 (by decide) ?_
    refine aw_iconst (pc := 17) (v := 0) hM dL_state_17 (by decide) ?_
    exact aw_iret (pc := 18) hM dL_state_18 (Nat.le_of_ble_eq_true rfl) (Nat.le_of_ble_eq_true rfl) hq
  | .inr E, h, hk, hq =>
    refine aw_cvX (pc := 5) (n := 2) (As := [.int p0, .int p1]) (st := [.int 0, .ref 180]) (b := 0) (E := E) hM (k_X8_state h) rfl cw_L_74 sk_0 rfl rfl (by decide +kernel) rfl rfl ⟨(Nat.le_of_ble_eq_true rfl), (Nat.le_of_ble_eq_true rfl)⟩ (Nat.le_of_ble_eq_true rfl) ⟨(Nat.le_of_ble_eq_true rfl), (Nat.le_of_ble_eq_true rfl)⟩ dL_state_5 ?_
    by_cases c0 : E = ex_ioo
    · subst c0
      obtain rfl : (1 : Int32) = k := by simpa [wcd, wci, ex_iae, ex_ise, ex_ioo] using hk
      exact ax_catch (hh := hhL_state) (v := 1) [] ⟨0, 10, 13, 28⟩ [] hM hT rfl (fun z hz => nomatch hz) (by decide) (by decide) gw_615 (by decide) (Or.inr ⟨4, 1, by decide, dL_state_13, dL_state_15, by decide, dL_state_16⟩) (Nat.le_of_ble_eq_true rfl) (Nat.le_of_ble_eq_true rfl) hq
    · exact absurd hk (by simp [wcd, wci, c0])
def rmL_step : Room := { frames := 8, cells := 2, slots := 12, locals := 125 }
def hhL_step : List (Nat × Nat × Nat × Nat) := [(0, 10, 13, 28), (0, 10, 17, 13)]
set_option maxRecDepth 20000 in
theorem k_L_step {C : CX} {F : MM} {G : GG} {p0 : Int32} {p1 : Int32} {r : ((Int32 ⊕ String) × MM)} {k : Int32} (h : s_X8_step F p0 p1 = some r) (hk : wcd [ex_ioo, ex_iae] r.1 = some k) : AMW C yL_step cL_step 5 (some .int) hhL_step rmL_step [.ref 0, .int p0, .int p1, .ref 180] F G (fun o F9 G9 => o = .inl (some (.int k)) ∧ F9 = r.2 ∧ G9 = gupI G r.1) := by
  refine amw_of (L := [some (.ref 0), some (.int p0), some (.int p1), some (.ref 180), none]) (by decide) (Nat.le_of_ble_eq_true rfl) rfl (fun M hM hT => ?_)
  have hM : MOk C RL cL_step 5 (some .int) rmL_step M := hM
  obtain ⟨Q, hQ⟩ : ∃ Q : OUT → MM → GG → Prop, Q = (fun o F9 G9 => o = .inl (some (.int k)) ∧ F9 = r.2 ∧ G9 = gupI G r.1) := ⟨_, rfl⟩
  have hq : Q (.inl (some (.int k))) (r.2) (gupI G r.1) := by rw [hQ]; exact ⟨rfl, rfl, rfl⟩
  rw [← hQ]
  clear hQ
  refine aw_aload_n (pc := 0) (i := 3) (x := 180) hM dL_step_0 rfl rfl ?_
  refine aw_iconst (pc := 1) (v := 0) hM dL_step_1 (by decide) ?_
  refine aw_aload_n (pc := 2) (i := 0) (x := 0) hM dL_step_2 rfl rfl ?_
  refine aw_iload_n (pc := 3) (i := 1) (x := p0) hM dL_step_3 rfl rfl ?_
  refine aw_iload_n (pc := 4) (i := 2) (x := p1) hM dL_step_4 rfl rfl ?_
  obtain ⟨r1, Fr⟩ := r
  match r1, h, hk, hq with
  | .inl v, h, hk, hq =>
    obtain rfl := Option.some.inj hk
    refine aw_cv1 (pc := 5) (n := 2) (As := [.int p0, .int p1]) (st := [.int 0, .ref 180]) (b := 0) (vo := some (.int v)) (c2 := 2) (s2 := 12) hM (k_X8_step h) rfl cw_L_95 sk_0 rfl rfl (by decide +kernel) rfl rfl ⟨(Nat.le_of_ble_eq_true rfl), (Nat.le_of_ble_eq_true rfl)⟩ (Nat.le_of_ble_eq_true rfl) ⟨(Nat.le_of_ble_eq_true rfl), (Nat.le_of_ble_eq_true rfl)⟩ dL_step_5 rfl rfl ?_
    refine aw_i2l (pc := 8) hM dL_step_8 ?_
    refine aw_last (pc := 9) hM sk_180 (by decide) dL_step_9 ?_
    refine aw_goto (pc := 10) (tgt := 21) hM dL_step_10 (by decide) ?_
    refine aw_iconst (pc := 21) (v := 0) hM dL_step_21 (by decide) ?_
    exact aw_iret (pc := 22) hM dL_step_22 (Nat.le_of_ble_eq_true rfl) (Nat.le_of_ble_eq_true rfl) hq
  | .inr E, h, hk, hq =>
    refine aw_cvX (pc := 5) (n := 2) (As := [.int p0, .int p1]) (st := [.int 0, .ref 180]) (b := 0) (E := E) hM (k_X8_step h) rfl cw_L_95 sk_0 rfl rfl (by decide +kernel) rfl rfl ⟨(Nat.le_of_ble_eq_true rfl), (Nat.le_of_ble_eq_true rfl)⟩ (Nat.le_of_ble_eq_true rfl) ⟨(Nat.le_of_ble_eq_true rfl), (Nat.le_of_ble_eq_true rfl)⟩ dL_step_5 ?_
    by_cases c0 : E = ex_ioo
    · subst c0
      obtain rfl : (1 : Int32) = k := by simpa [wcd, wci, ex_iae, ex_ise, ex_ioo] using hk
      exact ax_catch (hh := hhL_step) (v := 1) [] ⟨0, 10, 13, 28⟩ [⟨0, 10, 17, 13⟩] hM hT rfl (fun z hz => nomatch hz) (by decide) (by decide) gw_615 (by decide) (Or.inr ⟨4, 1, by decide, dL_step_13, dL_step_15, by decide, dL_step_16⟩) (Nat.le_of_ble_eq_true rfl) (Nat.le_of_ble_eq_true rfl) hq
    by_cases c1 : E = ex_iae
    · subst c1
      obtain rfl : (2 : Int32) = k := by simpa [wcd, wci, ex_iae, ex_ise, ex_ioo] using hk
      exact ax_catch (hh := hhL_step) (v := 2) [⟨0, 10, 13, 28⟩] ⟨0, 10, 17, 13⟩ [] hM hT rfl (fun z hz => by simp only [List.mem_cons, List.not_mem_nil, or_false] at hz; rcases hz with rfl <;> first | exact ⟨by decide, ex_ioo, gw_615, by decide⟩) (by decide) (by decide) gw_464 (by decide) (Or.inr ⟨4, 2, by decide, dL_step_17, dL_step_19, by decide, dL_step_20⟩) (Nat.le_of_ble_eq_true rfl) (Nat.le_of_ble_eq_true rfl) hq
    · exact absurd hk (by simp [wcd, wci, c0, c1])
def rmL_tick : Room := { frames := 8, cells := 1, slots := 6, locals := 135 }
def hhL_tick : List (Nat × Nat × Nat × Nat) := [(0, 9, 12, 13)]
set_option maxRecDepth 20000 in
theorem k_L_tick {C : CX} {F : MM} {G : GG} {p0 : Int32} {r : ((Int32 ⊕ String) × MM)} {k : Int32} (h : s_X8_tick F p0 = some r) (hk : wcd [ex_iae] r.1 = some k) : AMW C yL_tick cL_tick 4 (some .int) hhL_tick rmL_tick [.ref 0, .int p0, .ref 180] F G (fun o F9 G9 => o = .inl (some (.int k)) ∧ F9 = r.2 ∧ G9 = gupI G r.1) := by
  refine amw_of (L := [some (.ref 0), some (.int p0), some (.ref 180), none]) (by decide) (Nat.le_of_ble_eq_true rfl) rfl (fun M hM hT => ?_)
  have hM : MOk C RL cL_tick 4 (some .int) rmL_tick M := hM
  obtain ⟨Q, hQ⟩ : ∃ Q : OUT → MM → GG → Prop, Q = (fun o F9 G9 => o = .inl (some (.int k)) ∧ F9 = r.2 ∧ G9 = gupI G r.1) := ⟨_, rfl⟩
  have hq : Q (.inl (some (.int k))) (r.2) (gupI G r.1) := by rw [hQ]; exact ⟨rfl, rfl, rfl⟩
  rw [← hQ]
  clear hQ
  refine aw_aload_n (pc := 0) (i := 2) (x := 180) hM dL_tick_0 rfl rfl ?_
  refine aw_iconst (pc := 1) (v := 0) hM dL_tick_1 (by decide) ?_
  refine aw_aload_n (pc := 2) (i := 0) (x := 0) hM dL_tick_2 rfl rfl ?_
  refine aw_iload_n (pc := 3) (i := 1) (x := p0) hM dL_tick_3 rfl rfl ?_
  obtain ⟨r1, Fr⟩ := r
  match r1, h, hk, hq with
  | .inl v, h, hk, hq =>
    obtain rfl := Option.some.inj hk
    refine aw_cv1 (pc := 4) (n := 1) (As := [.int p0]) (st := [.int 0, .ref 180]) (b := 0) (vo := some (.int v)) (c2 := 1) (s2 := 6) hM (k_X8_tick h) rfl cw_L_68 sk_0 rfl rfl (by decide +kernel) rfl rfl ⟨(Nat.le_of_ble_eq_true rfl), (Nat.le_of_ble_eq_true rfl)⟩ (Nat.le_of_ble_eq_true rfl) ⟨(Nat.le_of_ble_eq_true rfl), (Nat.le_of_ble_eq_true rfl)⟩ dL_tick_4 rfl rfl ?_
    refine aw_i2l (pc := 7) hM dL_tick_7 ?_
    refine aw_last (pc := 8) hM sk_180 (by decide) dL_tick_8 ?_
    refine aw_goto (pc := 9) (tgt := 15) hM dL_tick_9 (by decide) ?_
    refine aw_iconst (pc := 15) (v := 0) hM dL_tick_15 (by decide) ?_
    exact aw_iret (pc := 16) hM dL_tick_16 (Nat.le_of_ble_eq_true rfl) (Nat.le_of_ble_eq_true rfl) hq
  | .inr E, h, hk, hq =>
    refine aw_cvX (pc := 4) (n := 1) (As := [.int p0]) (st := [.int 0, .ref 180]) (b := 0) (E := E) hM (k_X8_tick h) rfl cw_L_68 sk_0 rfl rfl (by decide +kernel) rfl rfl ⟨(Nat.le_of_ble_eq_true rfl), (Nat.le_of_ble_eq_true rfl)⟩ (Nat.le_of_ble_eq_true rfl) ⟨(Nat.le_of_ble_eq_true rfl), (Nat.le_of_ble_eq_true rfl)⟩ dL_tick_4 ?_
    by_cases c0 : E = ex_iae
    · subst c0
      obtain rfl : (1 : Int32) = k := by simpa [wcd, wci, ex_iae, ex_ise, ex_ioo] using hk
      exact ax_catch (hh := hhL_tick) (v := 1) [] ⟨0, 9, 12, 13⟩ [] hM hT rfl (fun z hz => nomatch hz) (by decide) (by decide) gw_464 (by decide) (Or.inl ⟨3, 1, by decide, dL_tick_12, dL_tick_13, by decide, dL_tick_14⟩) (Nat.le_of_ble_eq_true rfl) (Nat.le_of_ble_eq_true rfl) hq
    · exact absurd hk (by simp [wcd, wci, c0])
def rmL_undo : Room := { frames := 7, cells := 1, slots := 6, locals := 102 }
def hhL_undo : List (Nat × Nat × Nat × Nat) := [(0, 8, 11, 15)]
set_option maxRecDepth 20000 in
theorem k_L_undo {C : CX} {F : MM} {G : GG} {r : ((Int32 ⊕ String) × MM)} {k : Int32} (h : s_X8_undo F = some r) (hk : wcd [ex_ise] r.1 = some k) : AMW C yL_undo cL_undo 3 (some .int) hhL_undo rmL_undo [.ref 0, .ref 180] F G (fun o F9 G9 => o = .inl (some (.int k)) ∧ F9 = r.2 ∧ G9 = gupI G r.1) := by
  refine amw_of (L := [some (.ref 0), some (.ref 180), none]) (by decide) (Nat.le_of_ble_eq_true rfl) rfl (fun M hM hT => ?_)
  have hM : MOk C RL cL_undo 3 (some .int) rmL_undo M := hM
  obtain ⟨Q, hQ⟩ : ∃ Q : OUT → MM → GG → Prop, Q = (fun o F9 G9 => o = .inl (some (.int k)) ∧ F9 = r.2 ∧ G9 = gupI G r.1) := ⟨_, rfl⟩
  have hq : Q (.inl (some (.int k))) (r.2) (gupI G r.1) := by rw [hQ]; exact ⟨rfl, rfl, rfl⟩
  rw [← hQ]
  clear hQ
  refine aw_aload_n (pc := 0) (i := 1) (x := 180) hM dL_undo_0 rfl rfl ?_
  refine aw_iconst (pc := 1) (v := 0) hM dL_undo_1 (by decide) ?_
  refine aw_aload_n (pc := 2) (i := 0) (x := 0) hM dL_undo_2 rfl rfl ?_
  obtain ⟨r1, Fr⟩ := r
  match r1, h, hk, hq with
  | .inl v, h, hk, hq =>
    obtain rfl := Option.some.inj hk
    refine aw_cv1 (pc := 3) (n := 0) (As := []) (st := [.int 0, .ref 180]) (b := 0) (vo := some (.int v)) (c2 := 1) (s2 := 6) hM (k_X8_undo h) rfl cw_L_71 sk_0 rfl rfl (by decide +kernel) rfl rfl ⟨(Nat.le_of_ble_eq_true rfl), (Nat.le_of_ble_eq_true rfl)⟩ (Nat.le_of_ble_eq_true rfl) ⟨(Nat.le_of_ble_eq_true rfl), (Nat.le_of_ble_eq_true rfl)⟩ dL_undo_3 rfl rfl ?_
    refine aw_i2l (pc := 6) hM dL_undo_6 ?_
    refine aw_last (pc := 7) hM sk_180 (by decide) dL_undo_7 ?_
    refine aw_goto (pc := 8) (tgt := 14) hM dL_undo_8 (by decide) ?_
    refine aw_iconst (pc := 14) (v := 0) hM dL_undo_14 (by decide) ?_
    exact aw_iret (pc := 15) hM dL_undo_15 (Nat.le_of_ble_eq_true rfl) (Nat.le_of_ble_eq_true rfl) hq
  | .inr E, h, hk, hq =>
    refine aw_cvX (pc := 3) (n := 0) (As := []) (st := [.int 0, .ref 180]) (b := 0) (E := E) hM (k_X8_undo h) rfl cw_L_71 sk_0 rfl rfl (by decide +kernel) rfl rfl ⟨(Nat.le_of_ble_eq_true rfl), (Nat.le_of_ble_eq_true rfl)⟩ (Nat.le_of_ble_eq_true rfl) ⟨(Nat.le_of_ble_eq_true rfl), (Nat.le_of_ble_eq_true rfl)⟩ dL_undo_3 ?_
    by_cases c0 : E = ex_ise
    · subst c0
      obtain rfl : (1 : Int32) = k := by simpa [wcd, wci, ex_iae, ex_ise, ex_ioo] using hk
      exact ax_catch (hh := hhL_undo) (v := 1) [] ⟨0, 8, 11, 15⟩ [] hM hT rfl (fun z hz => nomatch hz) (by decide) (by decide) gw_465 (by decide) (Or.inl ⟨2, 1, by decide, dL_undo_11, dL_undo_12, by decide, dL_undo_13⟩) (Nat.le_of_ble_eq_true rfl) (Nat.le_of_ble_eq_true rfl) hq
    · exact absurd hk (by simp [wcd, wci, c0])
def rmL_version : Room := { frames := 8, cells := 2, slots := 12, locals := 126 }
def hhL_version : List (Nat × Nat × Nat × Nat) := [(0, 12, 15, 28)]
set_option maxRecDepth 20000 in
theorem k_L_version {C : CX} {F : MM} {G : GG} {p0 : Int32} {p1 : Int32} {p2 : Int32} {r : (Int32 ⊕ String)} {k : Int32} (h : s_X8_version F p0 p1 p2 = some r) (hk : wcd [ex_ioo] r = some k) : AMW C yL_version cL_version 6 (some .int) hhL_version rmL_version [.ref 0, .int p0, .int p1, .int p2, .ref 180] F G (fun o F9 G9 => o = .inl (some (.int k)) ∧ F9 = F ∧ G9 = gupI G r) := by
  refine amw_of (L := [some (.ref 0), some (.int p0), some (.int p1), some (.int p2), some (.ref 180), none]) (by decide) (Nat.le_of_ble_eq_true rfl) rfl (fun M hM hT => ?_)
  have hM : MOk C RL cL_version 6 (some .int) rmL_version M := hM
  obtain ⟨Q, hQ⟩ : ∃ Q : OUT → MM → GG → Prop, Q = (fun o F9 G9 => o = .inl (some (.int k)) ∧ F9 = F ∧ G9 = gupI G r) := ⟨_, rfl⟩
  have hq : Q (.inl (some (.int k))) (F) (gupI G r) := by rw [hQ]; exact ⟨rfl, rfl, rfl⟩
  rw [← hQ]
  clear hQ
  refine aw_aload (pc := 0) (i := 4) (x := 180) hM dL_version_0  rfl ?_
  refine aw_iconst (pc := 2) (v := 0) hM dL_version_2 (by decide) ?_
  refine aw_aload_n (pc := 3) (i := 0) (x := 0) hM dL_version_3 rfl rfl ?_
  refine aw_iload_n (pc := 4) (i := 1) (x := p0) hM dL_version_4 rfl rfl ?_
  refine aw_iload_n (pc := 5) (i := 2) (x := p1) hM dL_version_5 rfl rfl ?_
  refine aw_iload_n (pc := 6) (i := 3) (x := p2) hM dL_version_6 rfl rfl ?_
  match r, h, hk, hq with
  | .inl v, h, hk, hq =>
    obtain rfl := Option.some.inj hk
    refine aw_cv1 (pc := 7) (n := 3) (As := [.int p0, .int p1, .int p2]) (st := [.int 0, .ref 180]) (b := 0) (vo := some (.int v)) (c2 := 2) (s2 := 12) hM (k_X8_version h) rfl cw_L_30 sk_0 rfl rfl (by decide +kernel) rfl rfl ⟨(Nat.le_of_ble_eq_true rfl), (Nat.le_of_ble_eq_true rfl)⟩ (Nat.le_of_ble_eq_true rfl) ⟨(Nat.le_of_ble_eq_true rfl), (Nat.le_of_ble_eq_true rfl)⟩ dL_version_7 rfl rfl ?_
    refine aw_i2l (pc := 10) hM dL_version_10 ?_
    refine aw_last (pc := 11) hM sk_180 (by decide) dL_version_11 ?_
    refine aw_goto (pc := 12) (tgt := 19) hM dL_version_12 (by decide) ?_
    refine aw_iconst (pc := 19) (v := 0) hM dL_version_19 (by decide) ?_
    exact aw_iret (pc := 20) hM dL_version_20 (Nat.le_of_ble_eq_true rfl) (Nat.le_of_ble_eq_true rfl) hq
  | .inr E, h, hk, hq =>
    refine aw_cvX (pc := 7) (n := 3) (As := [.int p0, .int p1, .int p2]) (st := [.int 0, .ref 180]) (b := 0) (E := E) hM (k_X8_version h) rfl cw_L_30 sk_0 rfl rfl (by decide +kernel) rfl rfl ⟨(Nat.le_of_ble_eq_true rfl), (Nat.le_of_ble_eq_true rfl)⟩ (Nat.le_of_ble_eq_true rfl) ⟨(Nat.le_of_ble_eq_true rfl), (Nat.le_of_ble_eq_true rfl)⟩ dL_version_7 ?_
    by_cases c0 : E = ex_ioo
    · subst c0
      obtain rfl : (1 : Int32) = k := by simpa [wcd, wci, ex_iae, ex_ise, ex_ioo] using hk
      exact ax_catch (hh := hhL_version) (v := 1) [] ⟨0, 12, 15, 28⟩ [] hM hT rfl (fun z hz => nomatch hz) (by decide) (by decide) gw_615 (by decide) (Or.inr ⟨5, 1, by decide, dL_version_15, dL_version_17, by decide, dL_version_18⟩) (Nat.le_of_ble_eq_true rfl) (Nat.le_of_ble_eq_true rfl) hq
    · exact absurd hk (by simp [wcd, wci, c0])
def rmL_wish : Room := { frames := 8, cells := 3, slots := 18, locals := 128 }
def hhL_wish : List (Nat × Nat × Nat × Nat) := [(0, 12, 15, 28), (0, 12, 19, 13)]
set_option maxRecDepth 20000 in
theorem k_L_wish {C : CX} {F : MM} {G : GG} {p0 : Int32} {p1 : Int32} {p2 : Int32} {r : ((Int32 ⊕ String) × MM)} {k : Int32} (h : s_X8_wish F p0 p1 p2 = some r) (hk : wcd [ex_ioo, ex_iae] r.1 = some k) : AMW C yL_wish cL_wish 6 (some .int) hhL_wish rmL_wish [.ref 0, .int p0, .int p1, .int p2, .ref 180] F G (fun o F9 G9 => o = .inl (some (.int k)) ∧ F9 = r.2 ∧ G9 = gupI G r.1) := by
  refine amw_of (L := [some (.ref 0), some (.int p0), some (.int p1), some (.int p2), some (.ref 180), none]) (by decide) (Nat.le_of_ble_eq_true rfl) rfl (fun M hM hT => ?_)
  have hM : MOk C RL cL_wish 6 (some .int) rmL_wish M := hM
  obtain ⟨Q, hQ⟩ : ∃ Q : OUT → MM → GG → Prop, Q = (fun o F9 G9 => o = .inl (some (.int k)) ∧ F9 = r.2 ∧ G9 = gupI G r.1) := ⟨_, rfl⟩
  have hq : Q (.inl (some (.int k))) (r.2) (gupI G r.1) := by rw [hQ]; exact ⟨rfl, rfl, rfl⟩
  rw [← hQ]
  clear hQ
  refine aw_aload (pc := 0) (i := 4) (x := 180) hM dL_wish_0  rfl ?_
  refine aw_iconst (pc := 2) (v := 0) hM dL_wish_2 (by decide) ?_
  refine aw_aload_n (pc := 3) (i := 0) (x := 0) hM dL_wish_3 rfl rfl ?_
  refine aw_iload_n (pc := 4) (i := 1) (x := p0) hM dL_wish_4 rfl rfl ?_
  refine aw_iload_n (pc := 5) (i := 2) (x := p1) hM dL_wish_5 rfl rfl ?_
  refine aw_iload_n (pc := 6) (i := 3) (x := p2) hM dL_wish_6 rfl rfl ?_
  obtain ⟨r1, Fr⟩ := r
  match r1, h, hk, hq with
  | .inl v, h, hk, hq =>
    obtain rfl := Option.some.inj hk
    refine aw_cv1 (pc := 7) (n := 3) (As := [.int p0, .int p1, .int p2]) (st := [.int 0, .ref 180]) (b := 0) (vo := some (.int v)) (c2 := 3) (s2 := 18) hM (k_X8_wish h) rfl cw_L_43 sk_0 rfl rfl (by decide +kernel) rfl rfl ⟨(Nat.le_of_ble_eq_true rfl), (Nat.le_of_ble_eq_true rfl)⟩ (Nat.le_of_ble_eq_true rfl) ⟨(Nat.le_of_ble_eq_true rfl), (Nat.le_of_ble_eq_true rfl)⟩ dL_wish_7 rfl rfl ?_
    refine aw_i2l (pc := 10) hM dL_wish_10 ?_
    refine aw_last (pc := 11) hM sk_180 (by decide) dL_wish_11 ?_
    refine aw_goto (pc := 12) (tgt := 23) hM dL_wish_12 (by decide) ?_
    refine aw_iconst (pc := 23) (v := 0) hM dL_wish_23 (by decide) ?_
    exact aw_iret (pc := 24) hM dL_wish_24 (Nat.le_of_ble_eq_true rfl) (Nat.le_of_ble_eq_true rfl) hq
  | .inr E, h, hk, hq =>
    refine aw_cvX (pc := 7) (n := 3) (As := [.int p0, .int p1, .int p2]) (st := [.int 0, .ref 180]) (b := 0) (E := E) hM (k_X8_wish h) rfl cw_L_43 sk_0 rfl rfl (by decide +kernel) rfl rfl ⟨(Nat.le_of_ble_eq_true rfl), (Nat.le_of_ble_eq_true rfl)⟩ (Nat.le_of_ble_eq_true rfl) ⟨(Nat.le_of_ble_eq_true rfl), (Nat.le_of_ble_eq_true rfl)⟩ dL_wish_7 ?_
    by_cases c0 : E = ex_ioo
    · subst c0
      obtain rfl : (1 : Int32) = k := by simpa [wcd, wci, ex_iae, ex_ise, ex_ioo] using hk
      exact ax_catch (hh := hhL_wish) (v := 1) [] ⟨0, 12, 15, 28⟩ [⟨0, 12, 19, 13⟩] hM hT rfl (fun z hz => nomatch hz) (by decide) (by decide) gw_615 (by decide) (Or.inr ⟨5, 1, by decide, dL_wish_15, dL_wish_17, by decide, dL_wish_18⟩) (Nat.le_of_ble_eq_true rfl) (Nat.le_of_ble_eq_true rfl) hq
    by_cases c1 : E = ex_iae
    · subst c1
      obtain rfl : (2 : Int32) = k := by simpa [wcd, wci, ex_iae, ex_ise, ex_ioo] using hk
      exact ax_catch (hh := hhL_wish) (v := 2) [⟨0, 12, 15, 28⟩] ⟨0, 12, 19, 13⟩ [] hM hT rfl (fun z hz => by simp only [List.mem_cons, List.not_mem_nil, or_false] at hz; rcases hz with rfl <;> first | exact ⟨by decide, ex_ioo, gw_615, by decide⟩) (by decide) (by decide) gw_464 (by decide) (Or.inr ⟨5, 2, by decide, dL_wish_19, dL_wish_21, by decide, dL_wish_22⟩) (Nat.le_of_ble_eq_true rfl) (Nat.le_of_ble_eq_true rfl) hq
    · exact absurd hk (by simp [wcd, wci, c0, c1])
def rmL_wishRing : Room := { frames := 8, cells := 3, slots := 18, locals := 129 }
def hhL_wishRing : List (Nat × Nat × Nat × Nat) := [(0, 12, 15, 28), (0, 12, 19, 13)]
set_option maxRecDepth 20000 in
theorem k_L_wishRing {C : CX} {F : MM} {G : GG} {p0 : Int32} {p1 : Int32} {p2 : Int32} {r : ((Int32 ⊕ String) × MM)} {k : Int32} (h : s_X8_wishRing F p0 p1 p2 = some r) (hk : wcd [ex_ioo, ex_iae] r.1 = some k) : AMW C yL_wishRing cL_wishRing 6 (some .int) hhL_wishRing rmL_wishRing [.ref 0, .int p0, .int p1, .int p2, .ref 180] F G (fun o F9 G9 => o = .inl (some (.int k)) ∧ F9 = r.2 ∧ G9 = gupI G r.1) := by
  refine amw_of (L := [some (.ref 0), some (.int p0), some (.int p1), some (.int p2), some (.ref 180), none]) (by decide) (Nat.le_of_ble_eq_true rfl) rfl (fun M hM hT => ?_)
  have hM : MOk C RL cL_wishRing 6 (some .int) rmL_wishRing M := hM
  obtain ⟨Q, hQ⟩ : ∃ Q : OUT → MM → GG → Prop, Q = (fun o F9 G9 => o = .inl (some (.int k)) ∧ F9 = r.2 ∧ G9 = gupI G r.1) := ⟨_, rfl⟩
  have hq : Q (.inl (some (.int k))) (r.2) (gupI G r.1) := by rw [hQ]; exact ⟨rfl, rfl, rfl⟩
  rw [← hQ]
  clear hQ
  refine aw_aload (pc := 0) (i := 4) (x := 180) hM dL_wishRing_0  rfl ?_
  refine aw_iconst (pc := 2) (v := 0) hM dL_wishRing_2 (by decide) ?_
  refine aw_aload_n (pc := 3) (i := 0) (x := 0) hM dL_wishRing_3 rfl rfl ?_
  refine aw_iload_n (pc := 4) (i := 1) (x := p0) hM dL_wishRing_4 rfl rfl ?_
  refine aw_iload_n (pc := 5) (i := 2) (x := p1) hM dL_wishRing_5 rfl rfl ?_
  refine aw_iload_n (pc := 6) (i := 3) (x := p2) hM dL_wishRing_6 rfl rfl ?_
  obtain ⟨r1, Fr⟩ := r
  match r1, h, hk, hq with
  | .inl v, h, hk, hq =>
    obtain rfl := Option.some.inj hk
    refine aw_cv1 (pc := 7) (n := 3) (As := [.int p0, .int p1, .int p2]) (st := [.int 0, .ref 180]) (b := 0) (vo := some (.int v)) (c2 := 3) (s2 := 18) hM (k_X8_wishRing h) rfl cw_L_47 sk_0 rfl rfl (by decide +kernel) rfl rfl ⟨(Nat.le_of_ble_eq_true rfl), (Nat.le_of_ble_eq_true rfl)⟩ (Nat.le_of_ble_eq_true rfl) ⟨(Nat.le_of_ble_eq_true rfl), (Nat.le_of_ble_eq_true rfl)⟩ dL_wishRing_7 rfl rfl ?_
    refine aw_i2l (pc := 10) hM dL_wishRing_10 ?_
    refine aw_last (pc := 11) hM sk_180 (by decide) dL_wishRing_11 ?_
    refine aw_goto (pc := 12) (tgt := 23) hM dL_wishRing_12 (by decide) ?_
    refine aw_iconst (pc := 23) (v := 0) hM dL_wishRing_23 (by decide) ?_
    exact aw_iret (pc := 24) hM dL_wishRing_24 (Nat.le_of_ble_eq_true rfl) (Nat.le_of_ble_eq_true rfl) hq
  | .inr E, h, hk, hq =>
    refine aw_cvX (pc := 7) (n := 3) (As := [.int p0, .int p1, .int p2]) (st := [.int 0, .ref 180]) (b := 0) (E := E) hM (k_X8_wishRing h) rfl cw_L_47 sk_0 rfl rfl (by decide +kernel) rfl rfl ⟨(Nat.le_of_ble_eq_true rfl), (Nat.le_of_ble_eq_true rfl)⟩ (Nat.le_of_ble_eq_true rfl) ⟨(Nat.le_of_ble_eq_true rfl), (Nat.le_of_ble_eq_true rfl)⟩ dL_wishRing_7 ?_
    by_cases c0 : E = ex_ioo
    · subst c0
      obtain rfl : (1 : Int32) = k := by simpa [wcd, wci, ex_iae, ex_ise, ex_ioo] using hk
      exact ax_catch (hh := hhL_wishRing) (v := 1) [] ⟨0, 12, 15, 28⟩ [⟨0, 12, 19, 13⟩] hM hT rfl (fun z hz => nomatch hz) (by decide) (by decide) gw_615 (by decide) (Or.inr ⟨5, 1, by decide, dL_wishRing_15, dL_wishRing_17, by decide, dL_wishRing_18⟩) (Nat.le_of_ble_eq_true rfl) (Nat.le_of_ble_eq_true rfl) hq
    by_cases c1 : E = ex_iae
    · subst c1
      obtain rfl : (2 : Int32) = k := by simpa [wcd, wci, ex_iae, ex_ise, ex_ioo] using hk
      exact ax_catch (hh := hhL_wishRing) (v := 2) [⟨0, 12, 15, 28⟩] ⟨0, 12, 19, 13⟩ [] hM hT rfl (fun z hz => by simp only [List.mem_cons, List.not_mem_nil, or_false] at hz; rcases hz with rfl <;> first | exact ⟨by decide, ex_ioo, gw_615, by decide⟩) (by decide) (by decide) gw_464 (by decide) (Or.inr ⟨5, 2, by decide, dL_wishRing_19, dL_wishRing_21, by decide, dL_wishRing_22⟩) (Nat.le_of_ble_eq_true rfl) (Nat.le_of_ble_eq_true rfl) hq
    · exact absurd hk (by simp [wcd, wci, c0, c1])
