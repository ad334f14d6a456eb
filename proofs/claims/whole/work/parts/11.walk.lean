/-! ===== the abstract walk ===== -/
def MOk (C : CX) (own : String) (cc : ByteArray) (nL : Nat) (ret : Option FieldType) (R : Room) : MX → Prop
  | (p, e, R', s, m, args, below, meth, c) => R' = R ∧ p.tables.exec = Jvm.exec ∧ c.code = cc ∧ c.maxLocals = nL ∧ s.vm.findClass own = some m.cls ∧ (∀ w, GW w → w.before args s = true) ∧ meth.sig.returnType = ret ∧ meth.locks = false ∧ XK C s
def MNoT : MX → Prop
  | (p, e, R', s, m, args, below, meth, c) => ∀ x ∈ c.exceptionTable.toList, False
def AW (C : CX) (nL : Nat) (Z : State → Prop) : MX → Nat → Nat → Nat → List (Option Value) → List Value → MM → GG → Prop
  | (p, e, R, s, m, args, below, meth, c), cells, slots, pc, L, st, F, G => ∀ (H : Heap) (locs : List Loc) (ls : Array Slot), XH C F G H → va_S (fun q => C.2.1 ≤ q) s.heap H locs → lvR C.2.2.1 ls nL L →
    W p C.1 e R s m args below meth c H locs cells slots Z (F0 m pc ls (st.map (rv_ C.2.2.1)))
/-- something thrown over the frame -/
def AX (C : CX) (nL : Nat) (Z : State → Prop) (E : String) : MX → Nat → Nat → Nat → List (Option Value) → MM → GG → Prop
  | (p, e, R, s, m, args, below, meth, c), cells, slots, pc, L, F, G => ∀ (H : Heap) (locs : List Loc) (ls : Array Slot) (rest : List Value) (ce : Cell) (q : Addr), XH C F G H → va_S (fun q => C.2.1 ≤ q) s.heap H locs → lvR C.2.2.1 ls nL L → H[q]? = some ce → ce.vm = .none → s.vm.findClass E = some ce.cls →
    vx_W p C.1 e R s m args below meth c H locs cells slots Z (F0 m pc ls rest) q
abbrev OUT : Type := Option Value ⊕ String
def QcO (C : CX) (Q : OUT → MM → GG → Prop) : Array Value → State → Outcome → State → Prop := fun _ st o t => ∃ (r : Option Value) (F : MM) (G : GG), o = .returned (r.map (rv_ C.2.2.1)) ∧ Q (.inl r) F G ∧ XH C F G t.heap ∧ va_F (fun q => C.2.1 ≤ q) st t
def XCO (C : CX) (Q : OUT → MM → GG → Prop) : String → State → State → Prop := fun E st t => ∃ (F : MM) (G : GG), Q (.inr E) F G ∧ XH C F G t.heap ∧ va_F (fun q => C.2.1 ≤ q) st t
def wsO (y : MethodName) (cc : ByteArray) (nL : Nat) (ret : Option FieldType) : List Cond := .code y cc nL ret :: lw_tbl.filter goodWord
def AM (C : CX) (y : MethodName) (cc : ByteArray) (nL : Nat) (ret : Option FieldType) (rm : Room) (av : List Value) (F : MM) (G : GG) (Q : OUT → MM → GG → Prop) : Prop :=
  vx_Met C.1 y (wsO y cc nL ret) rm (va_Pc (av.map (rv_ C.2.2.1)) (fun U => XK C U ∧ XH C F G U.heap)) (QcO C Q) (XCO C Q) rm.cells rm.slots (fun q => C.2.1 ≤ q)
def ZM (C : CX) (rm : Room) (Q : OUT → MM → GG → Prop) : MX → State → Prop
  | (p, e, R, s, m, args, below, meth, c) => vx_MQ below (QcO C Q) (XCO C Q) args s rm.cells rm.slots (fun q => C.2.1 ≤ q)
theorem gw_filter {w : Cond} (h : GW w) : w ∈ lw_tbl.filter goodWord := List.mem_filter.mpr h
theorem am_of {C : CX} {y : MethodName} {cc : ByteArray} {nL : Nat} {ret : Option FieldType} {rm : Room} {av : List Value} {F : MM} {G : GG} {Q : OUT → MM → GG → Prop} {L : List (Option Value)}
    (hy : plainName y.cls = true) (hsz : (lg_sl av).length ≤ nL) (hL : lv_ent av ++ List.replicate (nL - (lv_ent av).length) none = L)
    (body : ∀ M : MX, MOk C y.cls cc nL ret rm M → MNoT M → AW C nL (ZM C rm Q M) M 0 0 0 L [] F G) : AM C y cc nL ret rm av F G Q := by
  refine vx_ofW (cc := cc) (maxL := nL) (ret := ret) hy rfl ?_
  intro p e s m args below meth c s₁ B hml ht hv
  obtain ⟨rfl, hK, hH⟩ := hv
  have hts := atoms_spec (ws := wsO y cc nL ret) B.pre
  have hown : s.vm.findClass y.cls = some m.cls := findClass_of_methodNamed B.named
  have hsz2 : (lg_sl (av.map (rv_ C.2.2.1))).length ≤ nL := by
    have : ∀ vs : List Value, (lg_sl (vs.map (rv_ C.2.2.1))).length = (lg_sl vs).length := by
      intro vs
      induction vs with
      | nil => rfl
      | cons v vs ih =>
        unfold lg_sl at ih ⊢
        rw [List.map_cons, List.flatMap_cons, List.flatMap_cons, List.length_append, List.length_append, ih, rv_cat]
        by_cases hc : v.category = 2
        · rw [if_pos hc, if_pos hc]; rfl
        · rw [if_neg hc, if_neg hc]; rfl
    rw [this]; exact hsz
  have hl := lv_entry (av.map (rv_ C.2.2.1)) (n := nL) hsz2
  rw [lg_entry_eq]
  generalize (lg_sl (av.map (rv_ C.2.2.1)) ++ List.replicate (nL - (lg_sl (av.map (rv_ C.2.2.1))).length) Slot.unset).toArray = ls at hl ⊢
  exact body (p, e, (headSpec (wsO y cc nL ret) rm).room, s, m, (av.map (rv_ C.2.2.1)).toArray, below, meth, c) ⟨rfl, B.exec, B.bytes, hml, hown, fun w hw => hts w (List.mem_cons_of_mem _ (gw_filter hw)), B.returns, B.notSynchronized, hK⟩ ht
    s.heap [] ls hH va_S.rf (lvR_entry hl hL)
section AWL
variable {C : CX} {own : String} {cc : ByteArray} {nL : Nat} {ret : Option FieldType} {R : Room} {M : MX} {Z : State → Prop} {cells slots pc : Nat} {L : List (Option Value)} {st : List Value} {F : MM} {G : GG}
theorem aw_iconst {i : Int} {v : Int32} (hM : MOk C own cc nL ret R M) (hd : decode cc pc = .ok (.iconst i, 1)) (hv : Int32.ofInt i = v) (h : AW C nL Z M cells slots (pc + 1) L (.int v :: st) F G) : AW C nL Z M cells slots pc L st F G := by
  obtain ⟨p, e, R', s, m, args, below, meth, c⟩ := M
  obtain ⟨rfl, hx, hb, -⟩ := hM
  intro H locs ls hH hS hl
  exact lv_iconst hx hb hd hv (h H locs ls hH hS hl)
theorem aw_bipush {i : Int} {v : Int32} (hM : MOk C own cc nL ret R M) (hd : decode cc pc = .ok (.bipush i, 2)) (hv : (Int8.ofInt i).toInt32 = v) (h : AW C nL Z M cells slots (pc + 2) L (.int v :: st) F G) : AW C nL Z M cells slots pc L st F G := by
  obtain ⟨p, e, R', s, m, args, below, meth, c⟩ := M
  obtain ⟨rfl, hx, hb, -⟩ := hM
  intro H locs ls hH hS hl
  exact lv_bipush hx hb hd hv (h H locs ls hH hS hl)
theorem aw_sipush {i : Int} {v : Int32} (hM : MOk C own cc nL ret R M) (hd : decode cc pc = .ok (.sipush i, 3)) (hv : (Int16.ofInt i).toInt32 = v) (h : AW C nL Z M cells slots (pc + 3) L (.int v :: st) F G) : AW C nL Z M cells slots pc L st F G := by
  obtain ⟨p, e, R', s, m, args, below, meth, c⟩ := M
  obtain ⟨rfl, hx, hb, -⟩ := hM
  intro H locs ls hH hS hl
  exact lv_sipush hx hb hd hv (h H locs ls hH hS hl)
theorem aw_lconst {i : Fin 2} {v : Int64} (hM : MOk C own cc nL ret R M) (hd : decode cc pc = .ok (.lconst i, 1)) (hv : Int64.ofNat (i : Nat) = v) (h : AW C nL Z M cells slots (pc + 1) L (.long v :: st) F G) : AW C nL Z M cells slots pc L st F G := by
  obtain ⟨p, e, R', s, m, args, below, meth, c⟩ := M
  obtain ⟨rfl, hx, hb, -⟩ := hM
  intro H locs ls hH hS hl
  exact lv_lconst hx hb hd hv (h H locs ls hH hS hl)
theorem aw_iload_n {k : Fin 4} {i : Nat} {x : Int32} (hM : MOk C own cc nL ret R M) (hd : decode cc pc = .ok (.iload_n k, 1)) (hi : (k : Nat) = i) (hv : L[i]? = some (some (.int x))) (h : AW C nL Z M cells slots (pc + 1) L (.int x :: st) F G) : AW C nL Z M cells slots pc L st F G := by
  obtain ⟨p, e, R', s, m, args, below, meth, c⟩ := M
  obtain ⟨rfl, hx, hb, -⟩ := hM
  intro H locs ls hH hS hl
  exact lv_iload_n hx hb hd hi (hl.2.2 _ _ hv) (h H locs ls hH hS hl)
theorem aw_iload {i : Nat} {x : Int32} (hM : MOk C own cc nL ret R M) (hd : decode cc pc = .ok (.iload i, 2)) (hv : L[i]? = some (some (.int x))) (h : AW C nL Z M cells slots (pc + 2) L (.int x :: st) F G) : AW C nL Z M cells slots pc L st F G := by
  obtain ⟨p, e, R', s, m, args, below, meth, c⟩ := M
  obtain ⟨rfl, hx, hb, -⟩ := hM
  intro H locs ls hH hS hl
  exact lv_iload hx hb hd (hl.2.2 _ _ hv) (h H locs ls hH hS hl)
theorem aw_lload_n {k : Fin 4} {i : Nat} {x : Int64} (hM : MOk C own cc nL ret R M) (hd : decode cc pc = .ok (.lload_n k, 1)) (hi : (k : Nat) = i) (hv : L[i]? = some (some (.long x))) (h : AW C nL Z M cells slots (pc + 1) L (.long x :: st) F G) : AW C nL Z M cells slots pc L st F G := by
  obtain ⟨p, e, R', s, m, args, below, meth, c⟩ := M
  obtain ⟨rfl, hx, hb, -⟩ := hM
  intro H locs ls hH hS hl
  exact lv_lload_n hx hb hd hi (hl.2.2 _ _ hv) (h H locs ls hH hS hl)
theorem aw_lload {i : Nat} {x : Int64} (hM : MOk C own cc nL ret R M) (hd : decode cc pc = .ok (.lload i, 2)) (hv : L[i]? = some (some (.long x))) (h : AW C nL Z M cells slots (pc + 2) L (.long x :: st) F G) : AW C nL Z M cells slots pc L st F G := by
  obtain ⟨p, e, R', s, m, args, below, meth, c⟩ := M
  obtain ⟨rfl, hx, hb, -⟩ := hM
  intro H locs ls hH hS hl
  exact lv_lload hx hb hd (hl.2.2 _ _ hv) (h H locs ls hH hS hl)
theorem aw_aload_n {k : Fin 4} {i : Nat} {x : Nat} (hM : MOk C own cc nL ret R M) (hd : decode cc pc = .ok (.aload_n k, 1)) (hi : (k : Nat) = i) (hv : L[i]? = some (some (.ref x))) (h : AW C nL Z M cells slots (pc + 1) L (.ref x :: st) F G) : AW C nL Z M cells slots pc L st F G := by
  obtain ⟨p, e, R', s, m, args, below, meth, c⟩ := M
  obtain ⟨rfl, hx, hb, -⟩ := hM
  intro H locs ls hH hS hl
  exact lv_aload_n hx hb hd hi (hl.2.2 _ _ hv) (h H locs ls hH hS hl)
theorem aw_aload {i : Nat} {x : Nat} (hM : MOk C own cc nL ret R M) (hd : decode cc pc = .ok (.aload i, 2)) (hv : L[i]? = some (some (.ref x))) (h : AW C nL Z M cells slots (pc + 2) L (.ref x :: st) F G) : AW C nL Z M cells slots pc L st F G := by
  obtain ⟨p, e, R', s, m, args, below, meth, c⟩ := M
  obtain ⟨rfl, hx, hb, -⟩ := hM
  intro H locs ls hH hS hl
  exact lv_aload hx hb hd (hl.2.2 _ _ hv) (h H locs ls hH hS hl)
theorem aw_istore_n {k : Fin 4} {i : Nat} {x : Int32} {L' : List (Option Value)} (hM : MOk C own cc nL ret R M) (hd : decode cc pc = .ok (.istore_n k, 1)) (hi : (k : Nat) = i) (hn : i < nL) (hL : lv_st1 L i (.int x) = L') (h : AW C nL Z M cells slots (pc + 1) L' st F G) : AW C nL Z M cells slots pc L (.int x :: st) F G := by
  obtain ⟨p, e, R', s, m, args, below, meth, c⟩ := M
  obtain ⟨rfl, hx, hb, -⟩ := hM
  subst hL
  intro H locs ls hH hS hl
  exact lv_istore_n hx hb hd hi hl.has hn rfl (fun ls' hl' => h H locs ls' hH hS (lvR.st1 (v := .int x) hl'))
theorem aw_istore {i : Nat} {x : Int32} {L' : List (Option Value)} (hM : MOk C own cc nL ret R M) (hd : decode cc pc = .ok (.istore i, 2)) (hn : i < nL) (hL : lv_st1 L i (.int x) = L') (h : AW C nL Z M cells slots (pc + 2) L' st F G) : AW C nL Z M cells slots pc L (.int x :: st) F G := by
  obtain ⟨p, e, R', s, m, args, below, meth, c⟩ := M
  obtain ⟨rfl, hx, hb, -⟩ := hM
  subst hL
  intro H locs ls hH hS hl
  exact lv_istore hx hb hd hl.has hn rfl (fun ls' hl' => h H locs ls' hH hS (lvR.st1 (v := .int x) hl'))
theorem aw_lstore_n {k : Fin 4} {i : Nat} {x : Int64} {L' : List (Option Value)} (hM : MOk C own cc nL ret R M) (hd : decode cc pc = .ok (.lstore_n k, 1)) (hi : (k : Nat) = i) (hn : i + 1 < nL) (hL : lv_st2 L i (.long x) = L') (h : AW C nL Z M cells slots (pc + 1) L' st F G) : AW C nL Z M cells slots pc L (.long x :: st) F G := by
  obtain ⟨p, e, R', s, m, args, below, meth, c⟩ := M
  obtain ⟨rfl, hx, hb, -⟩ := hM
  subst hL
  intro H locs ls hH hS hl
  exact lv_lstore_n hx hb hd hi hl.has hn rfl (fun ls' hl' => h H locs ls' hH hS (lvR.st2 (v := .long x) hl'))
theorem aw_lstore {i : Nat} {x : Int64} {L' : List (Option Value)} (hM : MOk C own cc nL ret R M) (hd : decode cc pc = .ok (.lstore i, 2)) (hn : i + 1 < nL) (hL : lv_st2 L i (.long x) = L') (h : AW C nL Z M cells slots (pc + 2) L' st F G) : AW C nL Z M cells slots pc L (.long x :: st) F G := by
  obtain ⟨p, e, R', s, m, args, below, meth, c⟩ := M
  obtain ⟨rfl, hx, hb, -⟩ := hM
  subst hL
  intro H locs ls hH hS hl
  exact lv_lstore hx hb hd hl.has hn rfl (fun ls' hl' => h H locs ls' hH hS (lvR.st2 (v := .long x) hl'))
theorem aw_astore_n {k : Fin 4} {i : Nat} {x : Nat} {L' : List (Option Value)} (hM : MOk C own cc nL ret R M) (hd : decode cc pc = .ok (.astore_n k, 1)) (hi : (k : Nat) = i) (hn : i < nL) (hL : lv_st1 L i (.ref x) = L') (h : AW C nL Z M cells slots (pc + 1) L' st F G) : AW C nL Z M cells slots pc L (.ref x :: st) F G := by
  obtain ⟨p, e, R', s, m, args, below, meth, c⟩ := M
  obtain ⟨rfl, hx, hb, -⟩ := hM
  subst hL
  intro H locs ls hH hS hl
  exact lv_astore_n hx hb hd hi hl.has hn rfl (fun ls' hl' => h H locs ls' hH hS (lvR.st1 (v := .ref x) hl'))
theorem aw_astore {i : Nat} {x : Nat} {L' : List (Option Value)} (hM : MOk C own cc nL ret R M) (hd : decode cc pc = .ok (.astore i, 2)) (hn : i < nL) (hL : lv_st1 L i (.ref x) = L') (h : AW C nL Z M cells slots (pc + 2) L' st F G) : AW C nL Z M cells slots pc L (.ref x :: st) F G := by
  obtain ⟨p, e, R', s, m, args, below, meth, c⟩ := M
  obtain ⟨rfl, hx, hb, -⟩ := hM
  subst hL
  intro H locs ls hH hS hl
  exact lv_astore hx hb hd hl.has hn rfl (fun ls' hl' => h H locs ls' hH hS (lvR.st1 (v := .ref x) hl'))
theorem aw_iinc {i : Nat} {n : Int} {x v : Int32} {L' : List (Option Value)} (hM : MOk C own cc nL ret R M) (hd : decode cc pc = .ok (.iinc i n, 3)) (hv : L[i]? = some (some (.int x))) (hxv : x + Int32.ofInt n = v) (hn : i < nL) (hL : lv_st1 L i (.int v) = L') (h : AW C nL Z M cells slots (pc + 3) L' st F G) : AW C nL Z M cells slots pc L st F G := by
  obtain ⟨p, e, R', s, m, args, below, meth, c⟩ := M
  obtain ⟨rfl, hx, hb, -⟩ := hM
  subst hL
  intro H locs ls hH hS hl
  obtain ⟨k, hk⟩ := List.getElem?_of_mem (lv_prs_mem (ρ := C.2.2.1) (L := L) (q := (i, .int x)) |>.mpr ⟨.int x, hv, rfl⟩)
  exact lv_iinc hx hb hd hl.has hk hxv hn rfl (fun ls' hl' => h H locs ls' hH hS (lvR.st1 (v := .int v) hl'))
theorem aw_iadd {x y : Int32} (hM : MOk C own cc nL ret R M) (hd : decode cc pc = .ok (.iadd, 1)) (h : AW C nL Z M cells slots (pc + 1) L (.int (x + y) :: st) F G) : AW C nL Z M cells slots pc L (.int y :: .int x :: st) F G := by
  obtain ⟨p, e, R', s, m, args, below, meth, c⟩ := M
  obtain ⟨rfl, hx, hb, -⟩ := hM
  intro H locs ls hH hS hl
  exact lv_iadd hx hb hd (h H locs ls hH hS hl)
theorem aw_isub {x y : Int32} (hM : MOk C own cc nL ret R M) (hd : decode cc pc = .ok (.isub, 1)) (h : AW C nL Z M cells slots (pc + 1) L (.int (x - y) :: st) F G) : AW C nL Z M cells slots pc L (.int y :: .int x :: st) F G := by
  obtain ⟨p, e, R', s, m, args, below, meth, c⟩ := M
  obtain ⟨rfl, hx, hb, -⟩ := hM
  intro H locs ls hH hS hl
  exact lv_isub hx hb hd (h H locs ls hH hS hl)
theorem aw_imul {x y : Int32} (hM : MOk C own cc nL ret R M) (hd : decode cc pc = .ok (.imul, 1)) (h : AW C nL Z M cells slots (pc + 1) L (.int (x * y) :: st) F G) : AW C nL Z M cells slots pc L (.int y :: .int x :: st) F G := by
  obtain ⟨p, e, R', s, m, args, below, meth, c⟩ := M
  obtain ⟨rfl, hx, hb, -⟩ := hM
  intro H locs ls hH hS hl
  exact lv_imul hx hb hd (h H locs ls hH hS hl)
theorem aw_iand {x y : Int32} (hM : MOk C own cc nL ret R M) (hd : decode cc pc = .ok (.iand, 1)) (h : AW C nL Z M cells slots (pc + 1) L (.int (x &&& y) :: st) F G) : AW C nL Z M cells slots pc L (.int y :: .int x :: st) F G := by
  obtain ⟨p, e, R', s, m, args, below, meth, c⟩ := M
  obtain ⟨rfl, hx, hb, -⟩ := hM
  intro H locs ls hH hS hl
  exact lv_iand hx hb hd (h H locs ls hH hS hl)
theorem aw_ior {x y : Int32} (hM : MOk C own cc nL ret R M) (hd : decode cc pc = .ok (.ior, 1)) (h : AW C nL Z M cells slots (pc + 1) L (.int (x ||| y) :: st) F G) : AW C nL Z M cells slots pc L (.int y :: .int x :: st) F G := by
  obtain ⟨p, e, R', s, m, args, below, meth, c⟩ := M
  obtain ⟨rfl, hx, hb, -⟩ := hM
  intro H locs ls hH hS hl
  exact lv_ior hx hb hd (h H locs ls hH hS hl)
theorem aw_ixor {x y : Int32} (hM : MOk C own cc nL ret R M) (hd : decode cc pc = .ok (.ixor, 1)) (h : AW C nL Z M cells slots (pc + 1) L (.int (x ^^^ y) :: st) F G) : AW C nL Z M cells slots pc L (.int y :: .int x :: st) F G := by
  obtain ⟨p, e, R', s, m, args, below, meth, c⟩ := M
  obtain ⟨rfl, hx, hb, -⟩ := hM
  intro H locs ls hH hS hl
  exact lv_ixor hx hb hd (h H locs ls hH hS hl)
theorem aw_ishl {x y : Int32} (hM : MOk C own cc nL ret R M) (hd : decode cc pc = .ok (.ishl, 1)) (h : AW C nL Z M cells slots (pc + 1) L (.int (x <<< (y &&& 31)) :: st) F G) : AW C nL Z M cells slots pc L (.int y :: .int x :: st) F G := by
  obtain ⟨p, e, R', s, m, args, below, meth, c⟩ := M
  obtain ⟨rfl, hx, hb, -⟩ := hM
  intro H locs ls hH hS hl
  exact lv_ishl hx hb hd (h H locs ls hH hS hl)
theorem aw_ishr {x y : Int32} (hM : MOk C own cc nL ret R M) (hd : decode cc pc = .ok (.ishr, 1)) (h : AW C nL Z M cells slots (pc + 1) L (.int (x >>> (y &&& 31)) :: st) F G) : AW C nL Z M cells slots pc L (.int y :: .int x :: st) F G := by
  obtain ⟨p, e, R', s, m, args, below, meth, c⟩ := M
  obtain ⟨rfl, hx, hb, -⟩ := hM
  intro H locs ls hH hS hl
  exact lv_ishr hx hb hd (h H locs ls hH hS hl)
theorem aw_idiv {x y : Int32} (hM : MOk C own cc nL ret R M) (hd : decode cc pc = .ok (.idiv, 1)) (hne : ¬ y = 0) (h : AW C nL Z M cells slots (pc + 1) L (.int (x / y) :: st) F G) : AW C nL Z M cells slots pc L (.int y :: .int x :: st) F G := by
  obtain ⟨p, e, R', s, m, args, below, meth, c⟩ := M
  obtain ⟨rfl, hx, hb, -⟩ := hM
  intro H locs ls hH hS hl
  exact lv_idiv hx hb hd hne (h H locs ls hH hS hl)
theorem aw_irem {x y : Int32} (hM : MOk C own cc nL ret R M) (hd : decode cc pc = .ok (.irem, 1)) (hne : ¬ y = 0) (h : AW C nL Z M cells slots (pc + 1) L (.int (x - x / y * y) :: st) F G) : AW C nL Z M cells slots pc L (.int y :: .int x :: st) F G := by
  obtain ⟨p, e, R', s, m, args, below, meth, c⟩ := M
  obtain ⟨rfl, hx, hb, -⟩ := hM
  intro H locs ls hH hS hl
  exact lv_irem hx hb hd hne (h H locs ls hH hS hl)
theorem aw_ladd {x y : Int64} (hM : MOk C own cc nL ret R M) (hd : decode cc pc = .ok (.ladd, 1)) (h : AW C nL Z M cells slots (pc + 1) L (.long (x + y) :: st) F G) : AW C nL Z M cells slots pc L (.long y :: .long x :: st) F G := by
  obtain ⟨p, e, R', s, m, args, below, meth, c⟩ := M
  obtain ⟨rfl, hx, hb, -⟩ := hM
  intro H locs ls hH hS hl
  exact lv_ladd hx hb hd (h H locs ls hH hS hl)
theorem aw_lsub {x y : Int64} (hM : MOk C own cc nL ret R M) (hd : decode cc pc = .ok (.lsub, 1)) (h : AW C nL Z M cells slots (pc + 1) L (.long (x - y) :: st) F G) : AW C nL Z M cells slots pc L (.long y :: .long x :: st) F G := by
  obtain ⟨p, e, R', s, m, args, below, meth, c⟩ := M
  obtain ⟨rfl, hx, hb, -⟩ := hM
  intro H locs ls hH hS hl
  exact lv_lsub hx hb hd (h H locs ls hH hS hl)
theorem aw_lmul {x y : Int64} (hM : MOk C own cc nL ret R M) (hd : decode cc pc = .ok (.lmul, 1)) (h : AW C nL Z M cells slots (pc + 1) L (.long (x * y) :: st) F G) : AW C nL Z M cells slots pc L (.long y :: .long x :: st) F G := by
  obtain ⟨p, e, R', s, m, args, below, meth, c⟩ := M
  obtain ⟨rfl, hx, hb, -⟩ := hM
  intro H locs ls hH hS hl
  exact lv_lmul hx hb hd (h H locs ls hH hS hl)
theorem aw_land {x y : Int64} (hM : MOk C own cc nL ret R M) (hd : decode cc pc = .ok (.land, 1)) (h : AW C nL Z M cells slots (pc + 1) L (.long (x &&& y) :: st) F G) : AW C nL Z M cells slots pc L (.long y :: .long x :: st) F G := by
  obtain ⟨p, e, R', s, m, args, below, meth, c⟩ := M
  obtain ⟨rfl, hx, hb, -⟩ := hM
  intro H locs ls hH hS hl
  exact lv_land hx hb hd (h H locs ls hH hS hl)
theorem aw_lor {x y : Int64} (hM : MOk C own cc nL ret R M) (hd : decode cc pc = .ok (.lor, 1)) (h : AW C nL Z M cells slots (pc + 1) L (.long (x ||| y) :: st) F G) : AW C nL Z M cells slots pc L (.long y :: .long x :: st) F G := by
  obtain ⟨p, e, R', s, m, args, below, meth, c⟩ := M
  obtain ⟨rfl, hx, hb, -⟩ := hM
  intro H locs ls hH hS hl
  exact lv_lor hx hb hd (h H locs ls hH hS hl)
theorem aw_ldiv {x y : Int64} (hM : MOk C own cc nL ret R M) (hd : decode cc pc = .ok (.ldiv, 1)) (hne : ¬ y = 0) (h : AW C nL Z M cells slots (pc + 1) L (.long (x / y) :: st) F G) : AW C nL Z M cells slots pc L (.long y :: .long x :: st) F G := by
  obtain ⟨p, e, R', s, m, args, below, meth, c⟩ := M
  obtain ⟨rfl, hx, hb, -⟩ := hM
  intro H locs ls hH hS hl
  exact lv_ldiv hx hb hd hne (h H locs ls hH hS hl)
theorem aw_lrem {x y : Int64} (hM : MOk C own cc nL ret R M) (hd : decode cc pc = .ok (.lrem, 1)) (hne : ¬ y = 0) (h : AW C nL Z M cells slots (pc + 1) L (.long (x - x / y * y) :: st) F G) : AW C nL Z M cells slots pc L (.long y :: .long x :: st) F G := by
  obtain ⟨p, e, R', s, m, args, below, meth, c⟩ := M
  obtain ⟨rfl, hx, hb, -⟩ := hM
  intro H locs ls hH hS hl
  exact lv_lrem hx hb hd hne (h H locs ls hH hS hl)
theorem aw_lcmp {x y : Int64} (hM : MOk C own cc nL ret R M) (hd : decode cc pc = .ok (.lcmp, 1)) (h : AW C nL Z M cells slots (pc + 1) L (.int (lg_cmp x y) :: st) F G) : AW C nL Z M cells slots pc L (.long y :: .long x :: st) F G := by
  obtain ⟨p, e, R', s, m, args, below, meth, c⟩ := M
  obtain ⟨rfl, hx, hb, -⟩ := hM
  intro H locs ls hH hS hl
  exact W.lcmp hx hb hd (h H locs ls hH hS hl)
theorem aw_i2l {x : Int32} (hM : MOk C own cc nL ret R M) (hd : decode cc pc = .ok (.i2l, 1)) (h : AW C nL Z M cells slots (pc + 1) L (.long x.toInt64 :: st) F G) : AW C nL Z M cells slots pc L (.int x :: st) F G := by
  obtain ⟨p, e, R', s, m, args, below, meth, c⟩ := M
  obtain ⟨rfl, hx, hb, -⟩ := hM
  intro H locs ls hH hS hl
  exact lv_i2l hx hb hd rfl (h H locs ls hH hS hl)
theorem aw_l2i {x : Int64} (hM : MOk C own cc nL ret R M) (hd : decode cc pc = .ok (.l2i, 1)) (h : AW C nL Z M cells slots (pc + 1) L (.int x.toInt32 :: st) F G) : AW C nL Z M cells slots pc L (.long x :: st) F G := by
  obtain ⟨p, e, R', s, m, args, below, meth, c⟩ := M
  obtain ⟨rfl, hx, hb, -⟩ := hM
  intro H locs ls hH hS hl
  exact lv_l2i hx hb hd rfl (h H locs ls hH hS hl)
theorem aw_i2c {x : Int32} (hM : MOk C own cc nL ret R M) (hd : decode cc pc = .ok (.i2c, 1)) (h : AW C nL Z M cells slots (pc + 1) L (.int (x.toUInt32 % 65536).toInt32 :: st) F G) : AW C nL Z M cells slots pc L (.int x :: st) F G := by
  obtain ⟨p, e, R', s, m, args, below, meth, c⟩ := M
  obtain ⟨rfl, hx, hb, -⟩ := hM
  intro H locs ls hH hS hl
  exact lv_i2c hx hb hd rfl (h H locs ls hH hS hl)
theorem aw_lushr {x : Int64} {y : Int32} (hM : MOk C own cc nL ret R M) (hd : decode cc pc = .ok (.lushr, 1)) (h : AW C nL Z M cells slots (pc + 1) L (.long (x.toUInt64 >>> (y.toInt64.toUInt64 &&& Int64.toUInt64 63)).toInt64 :: st) F G) : AW C nL Z M cells slots pc L (.int y :: .long x :: st) F G := by
  obtain ⟨p, e, R', s, m, args, below, meth, c⟩ := M
  obtain ⟨rfl, hx, hb, -⟩ := hM
  intro H locs ls hH hS hl
  exact lv_lushr hx hb hd rfl (h H locs ls hH hS hl)
theorem aw_lshl {x : Int64} {y : Int32} (hM : MOk C own cc nL ret R M) (hd : decode cc pc = .ok (.lshl, 1)) (h : AW C nL Z M cells slots (pc + 1) L (.long (x <<< (y.toInt64 &&& 63)) :: st) F G) : AW C nL Z M cells slots pc L (.int y :: .long x :: st) F G := by
  obtain ⟨p, e, R', s, m, args, below, meth, c⟩ := M
  obtain ⟨rfl, hx, hb, -⟩ := hM
  intro H locs ls hH hS hl
  exact lv_lshl hx hb hd rfl (h H locs ls hH hS hl)
theorem aw_dup {va : Value} (hM : MOk C own cc nL ret R M) (hd : decode cc pc = .ok (.dup, 1)) (hc : va.category = 1) (h : AW C nL Z M cells slots (pc + 1) L (va :: va :: st) F G) : AW C nL Z M cells slots pc L (va :: st) F G := by
  obtain ⟨p, e, R', s, m, args, below, meth, c⟩ := M
  obtain ⟨rfl, hx, hb, -⟩ := hM
  intro H locs ls hH hS hl
  exact lv_dup hx hb hd (by rw [rv_cat]; exact hc) (h H locs ls hH hS hl)
theorem aw_pop {va : Value} (hM : MOk C own cc nL ret R M) (hd : decode cc pc = .ok (.pop, 1)) (hc : va.category = 1) (h : AW C nL Z M cells slots (pc + 1) L (st) F G) : AW C nL Z M cells slots pc L (va :: st) F G := by
  obtain ⟨p, e, R', s, m, args, below, meth, c⟩ := M
  obtain ⟨rfl, hx, hb, -⟩ := hM
  intro H locs ls hH hS hl
  exact lv_pop hx hb hd (by rw [rv_cat]; exact hc) (h H locs ls hH hS hl)
theorem aw_dup2 {va vb : Value} (hM : MOk C own cc nL ret R M) (hd : decode cc pc = .ok (.dup2, 1)) (hc : va.category = 1) (hc2 : vb.category = 1) (h : AW C nL Z M cells slots (pc + 1) L (va :: vb :: va :: vb :: st) F G) : AW C nL Z M cells slots pc L (va :: vb :: st) F G := by
  obtain ⟨p, e, R', s, m, args, below, meth, c⟩ := M
  obtain ⟨rfl, hx, hb, -⟩ := hM
  intro H locs ls hH hS hl
  exact lv_dup2_11 hx hb hd (by rw [rv_cat]; exact hc) (by rw [rv_cat]; exact hc2) (h H locs ls hH hS hl)
theorem aw_dup_x1 {va vb : Value} (hM : MOk C own cc nL ret R M) (hd : decode cc pc = .ok (.dup_x1, 1)) (hc : va.category = 1) (hc2 : vb.category = 1) (h : AW C nL Z M cells slots (pc + 1) L (va :: vb :: va :: st) F G) : AW C nL Z M cells slots pc L (va :: vb :: st) F G := by
  obtain ⟨p, e, R', s, m, args, below, meth, c⟩ := M
  obtain ⟨rfl, hx, hb, -⟩ := hM
  intro H locs ls hH hS hl
  exact lv_dup_x1 hx hb hd (by rw [rv_cat]; exact hc) (by rw [rv_cat]; exact hc2) (h H locs ls hH hS hl)
theorem aw_ldc {index : Nat} {v : Int32} (hM : MOk C own cc nL ret R M) (hw : GW (.constant own index v)) (hd : decode cc pc = .ok (.ldc index, 2)) (h : AW C nL Z M cells slots (pc + 2) L (.int v :: st) F G) : AW C nL Z M cells slots pc L st F G := by
  obtain ⟨p, e, R', s, m, args, below, meth, c⟩ := M
  obtain ⟨rfl, hx, hb, hml, hown, hts, -⟩ := hM
  intro H locs ls hH hS hl
  exact lv_ldc hx hb hown (hts _ hw) hd (h H locs ls hH hS hl)
theorem aw_ldc2 {index : Nat} {v : Int64} (hM : MOk C own cc nL ret R M) (hw : GW (.constantLong own index v)) (hd : decode cc pc = .ok (.ldc2_w index, 3)) (h : AW C nL Z M cells slots (pc + 3) L (.long v :: st) F G) : AW C nL Z M cells slots pc L st F G := by
  obtain ⟨p, e, R', s, m, args, below, meth, c⟩ := M
  obtain ⟨rfl, hx, hb, hml, hown, hts, -⟩ := hM
  intro H locs ls hH hS hl
  exact lv_ldc2 hx hb hown (hts _ hw) hd (h H locs ls hH hS hl)
theorem aw_if_eq {x : Int32} {off : Int} {tgt : Nat} (hM : MOk C own cc nL ret R M) (hd : decode cc pc = .ok (.ifCond .eq off, 3)) (ht : (pc : Int) + off = (tgt : Int)) (kt : x = 0 → AW C nL Z M cells slots tgt L st F G) (kf : ¬ x = 0 → AW C nL Z M cells slots (pc + 3) L st F G) : AW C nL Z M cells slots pc L (.int x :: st) F G := by
  obtain ⟨p, e, R', s, m, args, below, meth, c⟩ := M
  obtain ⟨rfl, hx, hb, -⟩ := hM
  intro H locs ls hH hS hl
  exact lv_if_eq hx hb hd ht (fun q => kt q H locs ls hH hS hl) (fun q => kf q H locs ls hH hS hl)
theorem aw_if_ne {x : Int32} {off : Int} {tgt : Nat} (hM : MOk C own cc nL ret R M) (hd : decode cc pc = .ok (.ifCond .ne off, 3)) (ht : (pc : Int) + off = (tgt : Int)) (kt : ¬ x = 0 → AW C nL Z M cells slots tgt L st F G) (kf : x = 0 → AW C nL Z M cells slots (pc + 3) L st F G) : AW C nL Z M cells slots pc L (.int x :: st) F G := by
  obtain ⟨p, e, R', s, m, args, below, meth, c⟩ := M
  obtain ⟨rfl, hx, hb, -⟩ := hM
  intro H locs ls hH hS hl
  exact lv_if_ne hx hb hd ht (fun q => kt q H locs ls hH hS hl) (fun q => kf q H locs ls hH hS hl)
theorem aw_if_lt {x : Int32} {off : Int} {tgt : Nat} (hM : MOk C own cc nL ret R M) (hd : decode cc pc = .ok (.ifCond .lt off, 3)) (ht : (pc : Int) + off = (tgt : Int)) (kt : x < 0 → AW C nL Z M cells slots tgt L st F G) (kf : ¬ x < 0 → AW C nL Z M cells slots (pc + 3) L st F G) : AW C nL Z M cells slots pc L (.int x :: st) F G := by
  obtain ⟨p, e, R', s, m, args, below, meth, c⟩ := M
  obtain ⟨rfl, hx, hb, -⟩ := hM
  intro H locs ls hH hS hl
  exact lv_if_lt hx hb hd ht (fun q => kt q H locs ls hH hS hl) (fun q => kf q H locs ls hH hS hl)
theorem aw_if_ge {x : Int32} {off : Int} {tgt : Nat} (hM : MOk C own cc nL ret R M) (hd : decode cc pc = .ok (.ifCond .ge off, 3)) (ht : (pc : Int) + off = (tgt : Int)) (kt : 0 ≤ x → AW C nL Z M cells slots tgt L st F G) (kf : ¬ 0 ≤ x → AW C nL Z M cells slots (pc + 3) L st F G) : AW C nL Z M cells slots pc L (.int x :: st) F G := by
  obtain ⟨p, e, R', s, m, args, below, meth, c⟩ := M
  obtain ⟨rfl, hx, hb, -⟩ := hM
  intro H locs ls hH hS hl
  exact lv_if_ge hx hb hd ht (fun q => kt q H locs ls hH hS hl) (fun q => kf q H locs ls hH hS hl)
theorem aw_if_gt {x : Int32} {off : Int} {tgt : Nat} (hM : MOk C own cc nL ret R M) (hd : decode cc pc = .ok (.ifCond .gt off, 3)) (ht : (pc : Int) + off = (tgt : Int)) (kt : 0 < x → AW C nL Z M cells slots tgt L st F G) (kf : ¬ 0 < x → AW C nL Z M cells slots (pc + 3) L st F G) : AW C nL Z M cells slots pc L (.int x :: st) F G := by
  obtain ⟨p, e, R', s, m, args, below, meth, c⟩ := M
  obtain ⟨rfl, hx, hb, -⟩ := hM
  intro H locs ls hH hS hl
  exact lv_if_gt hx hb hd ht (fun q => kt q H locs ls hH hS hl) (fun q => kf q H locs ls hH hS hl)
theorem aw_if_le {x : Int32} {off : Int} {tgt : Nat} (hM : MOk C own cc nL ret R M) (hd : decode cc pc = .ok (.ifCond .le off, 3)) (ht : (pc : Int) + off = (tgt : Int)) (kt : x ≤ 0 → AW C nL Z M cells slots tgt L st F G) (kf : ¬ x ≤ 0 → AW C nL Z M cells slots (pc + 3) L st F G) : AW C nL Z M cells slots pc L (.int x :: st) F G := by
  obtain ⟨p, e, R', s, m, args, below, meth, c⟩ := M
  obtain ⟨rfl, hx, hb, -⟩ := hM
  intro H locs ls hH hS hl
  exact lv_if_le hx hb hd ht (fun q => kt q H locs ls hH hS hl) (fun q => kf q H locs ls hH hS hl)
theorem aw_icmp_eq {x y : Int32} {off : Int} {tgt : Nat} (hM : MOk C own cc nL ret R M) (hd : decode cc pc = .ok (.if_icmp .eq off, 3)) (ht : (pc : Int) + off = (tgt : Int)) (kt : x = y → AW C nL Z M cells slots tgt L st F G) (kf : ¬ x = y → AW C nL Z M cells slots (pc + 3) L st F G) : AW C nL Z M cells slots pc L (.int y :: .int x :: st) F G := by
  obtain ⟨p, e, R', s, m, args, below, meth, c⟩ := M
  obtain ⟨rfl, hx, hb, -⟩ := hM
  intro H locs ls hH hS hl
  exact lv_icmp_eq hx hb hd ht (fun q => kt q H locs ls hH hS hl) (fun q => kf q H locs ls hH hS hl)
theorem aw_icmp_ne {x y : Int32} {off : Int} {tgt : Nat} (hM : MOk C own cc nL ret R M) (hd : decode cc pc = .ok (.if_icmp .ne off, 3)) (ht : (pc : Int) + off = (tgt : Int)) (kt : ¬ x = y → AW C nL Z M cells slots tgt L st F G) (kf : x = y → AW C nL Z M cells slots (pc + 3) L st F G) : AW C nL Z M cells slots pc L (.int y :: .int x :: st) F G := by
  obtain ⟨p, e, R', s, m, args, below, meth, c⟩ := M
  obtain ⟨rfl, hx, hb, -⟩ := hM
  intro H locs ls hH hS hl
  exact lv_icmp_ne hx hb hd ht (fun q => kt q H locs ls hH hS hl) (fun q => kf q H locs ls hH hS hl)
theorem aw_icmp_lt {x y : Int32} {off : Int} {tgt : Nat} (hM : MOk C own cc nL ret R M) (hd : decode cc pc = .ok (.if_icmp .lt off, 3)) (ht : (pc : Int) + off = (tgt : Int)) (kt : x < y → AW C nL Z M cells slots tgt L st F G) (kf : ¬ x < y → AW C nL Z M cells slots (pc + 3) L st F G) : AW C nL Z M cells slots pc L (.int y :: .int x :: st) F G := by
  obtain ⟨p, e, R', s, m, args, below, meth, c⟩ := M
  obtain ⟨rfl, hx, hb, -⟩ := hM
  intro H locs ls hH hS hl
  exact lv_icmp_lt hx hb hd ht (fun q => kt q H locs ls hH hS hl) (fun q => kf q H locs ls hH hS hl)
theorem aw_icmp_ge {x y : Int32} {off : Int} {tgt : Nat} (hM : MOk C own cc nL ret R M) (hd : decode cc pc = .ok (.if_icmp .ge off, 3)) (ht : (pc : Int) + off = (tgt : Int)) (kt : y ≤ x → AW C nL Z M cells slots tgt L st F G) (kf : ¬ y ≤ x → AW C nL Z M cells slots (pc + 3) L st F G) : AW C nL Z M cells slots pc L (.int y :: .int x :: st) F G := by
  obtain ⟨p, e, R', s, m, args, below, meth, c⟩ := M
  obtain ⟨rfl, hx, hb, -⟩ := hM
  intro H locs ls hH hS hl
  exact lv_icmp_ge hx hb hd ht (fun q => kt q H locs ls hH hS hl) (fun q => kf q H locs ls hH hS hl)
theorem aw_icmp_gt {x y : Int32} {off : Int} {tgt : Nat} (hM : MOk C own cc nL ret R M) (hd : decode cc pc = .ok (.if_icmp .gt off, 3)) (ht : (pc : Int) + off = (tgt : Int)) (kt : y < x → AW C nL Z M cells slots tgt L st F G) (kf : ¬ y < x → AW C nL Z M cells slots (pc + 3) L st F G) : AW C nL Z M cells slots pc L (.int y :: .int x :: st) F G := by
  obtain ⟨p, e, R', s, m, args, below, meth, c⟩ := M
  obtain ⟨rfl, hx, hb, -⟩ := hM
  intro H locs ls hH hS hl
  exact lv_icmp_gt hx hb hd ht (fun q => kt q H locs ls hH hS hl) (fun q => kf q H locs ls hH hS hl)
theorem aw_icmp_le {x y : Int32} {off : Int} {tgt : Nat} (hM : MOk C own cc nL ret R M) (hd : decode cc pc = .ok (.if_icmp .le off, 3)) (ht : (pc : Int) + off = (tgt : Int)) (kt : x ≤ y → AW C nL Z M cells slots tgt L st F G) (kf : ¬ x ≤ y → AW C nL Z M cells slots (pc + 3) L st F G) : AW C nL Z M cells slots pc L (.int y :: .int x :: st) F G := by
  obtain ⟨p, e, R', s, m, args, below, meth, c⟩ := M
  obtain ⟨rfl, hx, hb, -⟩ := hM
  intro H locs ls hH hS hl
  exact lv_icmp_le hx hb hd ht (fun q => kt q H locs ls hH hS hl) (fun q => kf q H locs ls hH hS hl)
theorem aw_goto {off : Int} {tgt : Nat} (hM : MOk C own cc nL ret R M) (hd : decode cc pc = .ok (.goto off, 3)) (ht : (pc : Int) + off = (tgt : Int)) (h : AW C nL Z M cells slots tgt L st F G) : AW C nL Z M cells slots pc L st F G := by
  obtain ⟨p, e, R', s, m, args, below, meth, c⟩ := M
  obtain ⟨rfl, hx, hb, -⟩ := hM
  intro H locs ls hH hS hl
  exact lv_goto hx hb hd ht (h H locs ls hH hS hl)
theorem aw_tableOut {dflt lo hi : Int} {offs : Array Int} {len tgt : Nat} {x : Int32} (hM : MOk C own cc nL ret R M) (hd : decode cc pc = .ok (.tableswitch dflt lo hi offs, len)) (hq : x.toInt < lo ∨ hi < x.toInt) (ht : (pc : Int) + dflt = (tgt : Int)) (h : AW C nL Z M cells slots tgt L st F G) : AW C nL Z M cells slots pc L (.int x :: st) F G := by
  obtain ⟨p, e, R', s, m, args, below, meth, c⟩ := M
  obtain ⟨rfl, hx, hb, -⟩ := hM
  intro H locs ls hH hS hl
  exact lv_tableOut hx hb hd hq ht (h H locs ls hH hS hl)
theorem aw_tableIn {dflt lo hi off : Int} {offs : Array Int} {len tgt : Nat} {x : Int32} (hM : MOk C own cc nL ret R M) (hd : decode cc pc = .ok (.tableswitch dflt lo hi offs, len)) (h1 : ¬ x.toInt < lo) (h2 : ¬ hi < x.toInt) (ho : offs[(x.toInt - lo).toNat]? = some off) (ht : (pc : Int) + off = (tgt : Int)) (h : AW C nL Z M cells slots tgt L st F G) : AW C nL Z M cells slots pc L (.int x :: st) F G := by
  obtain ⟨p, e, R', s, m, args, below, meth, c⟩ := M
  obtain ⟨rfl, hx, hb, -⟩ := hM
  intro H locs ls hH hS hl
  exact lv_tableIn hx hb hd h1 h2 ho ht (h H locs ls hH hS hl)
theorem aw_mmax {index : Nat} {x y : Int32} (hM : MOk C own cc nL ret R M) (w1 : GW (.methodLink own index Lib.Math.max.name)) (w2 : GW (.static Lib.Math.max.name)) (w3 : GW (.initialized "java/lang/Math")) (w4 : GW (.code Lib.Math.max.name Lib.Math.max.code 2 (some .int))) (hf : 1 ≤ R.frames) (hlo : (st.map fun v => v.category).sum + 13 ≤ R.locals) (hc : cells ≤ R.cells) (hs : slots ≤ R.slots) (hd : decode cc pc = .ok (.invokestatic index, 3)) (h : AW C nL Z M cells slots (pc + 3) L (.int (if x < y then y else x) :: st) F G) : AW C nL Z M cells slots pc L (.int y :: .int x :: st) F G := by
  obtain ⟨p, e, R', s, m, args, below, meth, c⟩ := M
  obtain ⟨rfl, hx, hb, hml, hown, hts, -⟩ := hM
  intro H locs ls hH hS hl
  exact va_mmax hx hb (by rw [hml]; exact hl.1.symm) hown (hts _ w1) (hts _ w2) (hts _ w3) (hts _ w4) hf (by rw [List.map_map, show ((fun v : Value => v.category) ∘ rv_ C.2.2.1) = (fun v => v.category) from funext (rv_cat _)]; exact hlo) hc hs hd (h H locs ls hH hS hl)
theorem aw_mmin {index : Nat} {x y : Int32} (hM : MOk C own cc nL ret R M) (w1 : GW (.methodLink own index Lib.Math.min.name)) (w2 : GW (.static Lib.Math.min.name)) (w3 : GW (.initialized "java/lang/Math")) (w4 : GW (.code Lib.Math.min.name Lib.Math.min.code 2 (some .int))) (hf : 1 ≤ R.frames) (hlo : (st.map fun v => v.category).sum + 13 ≤ R.locals) (hc : cells ≤ R.cells) (hs : slots ≤ R.slots) (hd : decode cc pc = .ok (.invokestatic index, 3)) (h : AW C nL Z M cells slots (pc + 3) L (.int (if y < x then y else x) :: st) F G) : AW C nL Z M cells slots pc L (.int y :: .int x :: st) F G := by
  obtain ⟨p, e, R', s, m, args, below, meth, c⟩ := M
  obtain ⟨rfl, hx, hb, hml, hown, hts, -⟩ := hM
  intro H locs ls hH hS hl
  exact va_mmin hx hb (by rw [hml]; exact hl.1.symm) hown (hts _ w1) (hts _ w2) (hts _ w3) (hts _ w4) hf (by rw [List.map_map, show ((fun v : Value => v.category) ∘ rv_ C.2.2.1) = (fun v => v.category) from funext (rv_cat _)]; exact hlo) hc hs hd (h H locs ls hH hS hl)
/-- a field by its class's number and its own: 'own' reads or writes it by the entry 'index' -/
def FLD (own : String) (index ci k : Nat) (T : u_T) (N : Nat) (Cn : String) : Prop := vwCl[ci]? = some (Cn, T, N) ∧ k < N ∧ GW (.fieldLink own index (T k).1 (T k).2.1 (T k).2.2.1) ∧ ∀ w ∈ u_ws Cn T N, GW w
theorem gw_hts {args : Array Value} {s : State} (h : ∀ w, GW w → w.before args s = true) : ∀ w ∈ lw_tbl.filter goodWord, w.before args s = true := fun w hw => h w (List.mem_filter.mp hw)
theorem sk_obj {aC : Nat → ClassId} {ρ : Nat → Nat} {F : MM} {G : GG} {a ci n : Nat} {rs : List Nat} (h : ci < 8) : sk_at aC ρ F G a (ci, n, rs) = .inr (ci, rs.mapIdx (fun i r => if r = 0 then .int (F a i) else .ref (ρ (r - 1)))) := by
  match ci, h with
  | 0, _ => rfl
  | 1, _ => rfl
  | 2, _ => rfl
  | 3, _ => rfl
  | 4, _ => rfl
  | 5, _ => rfl
  | 6, _ => rfl
  | 7, _ => rfl
theorem fld_lt {own : String} {index ci k : Nat} {T : u_T} {N : Nat} {Cn : String} (h : FLD own index ci k T N Cn) : ci < 8 := (List.getElem?_eq_some_iff.mp h.1).1
theorem aw_getI {index ci k a n : Nat} {T : u_T} {N : Nat} {Cn : String} {rs : List Nat} (hM : MOk C own cc nL ret R M) (hf : FLD own index ci k T N Cn) (hs : sk_list[a]? = some (ci, n, rs)) (hk : rs[k]? = some 0) (hd : decode cc pc = .ok (.getfield index, 3)) (h : AW C nL Z M cells slots (pc + 3) L (.int (F a k) :: st) F G) : AW C nL Z M cells slots pc L (.ref a :: st) F G := by
  obtain ⟨p, e, R', s, m, args, below, meth, c⟩ := M
  obtain ⟨rfl, hx, hb, hml, hown, hts, -, -, hK, -⟩ := hM
  intro H locs ls hH hS hl
  have hat := wld_at (aC := C.2.2.2.1) (ρ := C.2.2.1) (F := F) (G := G) hs
  rw [sk_obj (fld_lt hf)] at hat
  refine va_get (D := C.2.2.2.2) (v := .int (F a k)) hx hb (gw_hts hts) (fun w hw => gw_filter (hf.2.2.2 w hw)) hown hK hH.1 a hat hf.1 k hf.2.1 (hts _ hf.2.2.1) (fun _ h9 => h9) ?_ hd (h H locs ls hH hS hl)
  rw [List.getElem?_mapIdx, hk]
  rfl
theorem aw_getR {index ci k a n r : Nat} {T : u_T} {N : Nat} {Cn : String} {rs : List Nat} (hM : MOk C own cc nL ret R M) (hf : FLD own index ci k T N Cn) (hs : sk_list[a]? = some (ci, n, rs)) (hk : rs[k]? = some (r + 1)) (hd : decode cc pc = .ok (.getfield index, 3)) (h : AW C nL Z M cells slots (pc + 3) L (.ref r :: st) F G) : AW C nL Z M cells slots pc L (.ref a :: st) F G := by
  obtain ⟨p, e, R', s, m, args, below, meth, c⟩ := M
  obtain ⟨rfl, hx, hb, hml, hown, hts, -, -, hK, -⟩ := hM
  intro H locs ls hH hS hl
  have hat := wld_at (aC := C.2.2.2.1) (ρ := C.2.2.1) (F := F) (G := G) hs
  rw [sk_obj (fld_lt hf)] at hat
  refine va_get (D := C.2.2.2.2) (v := .ref (C.2.2.1 r)) hx hb (gw_hts hts) (fun w hw => gw_filter (hf.2.2.2 w hw)) hown hK hH.1 a hat hf.1 k hf.2.1 (hts _ hf.2.2.1) (fun _ h9 => h9) ?_ hd (h H locs ls hH hS hl)
  rw [List.getElem?_mapIdx, hk]
  rfl
/-- the plan of a state, read by a nest mate -/
theorem aw_getNest {a n r : Nat} {rs : List Nat} (hM : MOk C RX1 cc nL ret R M) (hw : ∀ w ∈ u_ws RX5 TX5 10, GW w) (hs : sk_list[a]? = some (3, n, rs)) (hk : rs[0]? = some (r + 1)) (hd : decode cc pc = .ok (.getfield 9, 3)) (h : AW C nL Z M cells slots (pc + 3) L (.ref r :: st) F G) : AW C nL Z M cells slots pc L (.ref a :: st) F G := by
  obtain ⟨p, e, R', s, m, args, below, meth, c⟩ := M
  obtain ⟨rfl, hx, hb, hml, hown, hts, -, -, hK, -, -, -, -, -, hN, -⟩ := hM
  intro H locs ls hH hS hl
  have hat := wld_at (aC := C.2.2.2.1) (ρ := C.2.2.1) (F := F) (G := G) hs
  rw [sk_obj (by decide)] at hat
  refine va_getN (D := C.2.2.2.2) (v := .ref (C.2.2.1 r)) (C := RX5) (T := TX5) (N := 10) hx hb (gw_hts hts) (fun w hq => gw_filter (hw w hq)) hown hK hH.1 a hat rfl 0 (by decide) (va_Nw.use rfl hN) (fun _ h9 => h9) ?_ hd (h H locs ls hH hS hl)
  rw [List.getElem?_mapIdx, hk]
  rfl
theorem aw_put {index ci k a n : Nat} {T : u_T} {N : Nat} {Cn : String} {rs : List Nat} {x : Int32} {ty : FieldType} {ty0 : Nat → FieldType} (hM : MOk C own cc nL ret R M) (hf : FLD own index ci k T N Cn) (hty : ∀ k, k < N → parseFieldDescriptor (T k).2.2.1 = some (ty0 k)) (hnm : ∀ a, a < N → ∀ b, b < N → a ≠ b → (T a).2.1 ≠ (T b).2.1) (hfin : (T k).2.2.2 = false) (hpd : parseFieldDescriptor (T k).2.2.1 = some ty) (hnar : narrow ty (.int x) = .int x) (hfit : fits ty (.int x) = true)
    (hs : sk_list[a]? = some (ci, n, rs)) (hk : rs[k]? = some 0) (hd : decode cc pc = .ok (.putfield index, 3)) (h : AW C nL Z M cells slots (pc + 3) L st (mup F a k x) G) : AW C nL Z M cells slots pc L (.int x :: .ref a :: st) F G := by
  obtain ⟨p, e, R', s, m, args, below, meth, c⟩ := M
  obtain ⟨rfl, hx, hb, hml, hown, hts, -, -, hK, -⟩ := hM
  intro H locs ls hH hS hl
  have hat := wld_at (aC := C.2.2.2.1) (ρ := C.2.2.1) (F := F) (G := G) hs
  rw [sk_obj (fld_lt hf)] at hat
  have hkl : k < rs.length := (List.getElem?_eq_some_iff.mp hk).1
  refine va_put (D := C.2.2.2.2) (v := .int x) hx hb (gw_hts hts) (fun w hw => gw_filter (hf.2.2.2 w hw)) ty0 hty hnm hown hK hH.1 hH.2 hS a hat hf.1 k hf.2.1 (hts _ hf.2.2.1) (fun _ h9 => h9) hfin hpd hnar hfit (by rw [List.length_mapIdx]; exact hkl) hd (fun H1 locs1 hP hD hS1 => ?_)
  have e1 := wld_set (aC := C.2.2.2.1) (ρ := C.2.2.1) (F := F) (F' := mup F a k x) (G := G) (G' := G) (x := .inr (ci, (rs.mapIdx (fun i r => if r = 0 then Value.int (F a i) else Value.ref (C.2.2.1 (r - 1)))).set k (.int x))) hs (by
    rw [sk_obj (fld_lt hf)]
    refine congrArg (fun z => Sum.inr (ci, z)) (List.ext_getElem? fun j => ?_)
    by_cases hj : j = k
    · subst hj
      rw [List.getElem?_set_self (by rw [List.length_mapIdx]; exact hkl), List.getElem?_mapIdx, hk]
      show some (Value.int (mup F a j x a j)) = _
      rw [mup_self]; simp [upd]
    · rw [List.getElem?_set_ne (Ne.symm hj), List.getElem?_mapIdx, List.getElem?_mapIdx]
      rw [mup_self]
      simp only [upd, if_neg hj]) (fun b e9 hne _ => sk_row (mup_ne hne) e9)
  rw [e1] at hP hD
  exact h H1 locs1 ls ⟨hP, hD⟩ hS1 hl
/-- arrays of ints -/
theorem aw_iald {a n : Nat} {rs : List Nat} {i : Int32} (hM : MOk C own cc nL ret R M) (hs : sk_list[a]? = some (9, n, rs)) (hi : inb i n = true) (hd : decode cc pc = .ok (.iaload, 1)) (h : AW C nL Z M cells slots (pc + 1) L (.int (F a (ix i)) :: st) F G) : AW C nL Z M cells slots pc L (.int i :: .ref a :: st) F G := by
  obtain ⟨p, e, R', s, m, args, below, meth, c⟩ := M
  obtain ⟨rfl, hx, hb, hml, hown, hts, -, -, hK, -⟩ := hM
  intro H locs ls hH hS hl
  exact va_iald hx hb hK hH.1 a 1 (wld_at hs) rfl (inb_in hi) hd (h H locs ls hH hS hl)
theorem aw_cald {a n : Nat} {rs : List Nat} {i : Int32} (hM : MOk C own cc nL ret R M) (hs : sk_list[a]? = some (8, n, rs)) (hi : inb i n = true) (hd : decode cc pc = .ok (.caload, 1)) (h : AW C nL Z M cells slots (pc + 1) L (.int (F a (ix i)) :: st) F G) : AW C nL Z M cells slots pc L (.int i :: .ref a :: st) F G := by
  obtain ⟨p, e, R', s, m, args, below, meth, c⟩ := M
  obtain ⟨rfl, hx, hb, hml, hown, hts, -, -, hK, -⟩ := hM
  intro H locs ls hH hS hl
  exact va_cald hx hb hK hH.1 a 0 (wld_at hs) rfl (inb_in hi) hd (h H locs ls hH hS hl)
theorem aw_zald {a n : Nat} {rs : List Nat} {i : Int32} (hM : MOk C own cc nL ret R M) (hs : sk_list[a]? = some (10, n, rs)) (hi : inb i n = true) (hd : decode cc pc = .ok (.baload, 1)) (h : AW C nL Z M cells slots (pc + 1) L (.int (F a (ix i)) :: st) F G) : AW C nL Z M cells slots pc L (.int i :: .ref a :: st) F G := by
  obtain ⟨p, e, R', s, m, args, below, meth, c⟩ := M
  obtain ⟨rfl, hx, hb, hml, hown, hts, -, -, hK, -⟩ := hM
  intro H locs ls hH hS hl
  exact va_zald hx hb hK hH.1 a 2 (wld_at hs) rfl (inb_in hi) hd (h H locs ls hH hS hl)
theorem aw_lald {a n : Nat} {rs : List Nat} {i : Int32} (hM : MOk C own cc nL ret R M) (hs : sk_list[a]? = some (12, n, rs)) (hi : inb i n = true) (hd : decode cc pc = .ok (.laload, 1)) (h : AW C nL Z M cells slots (pc + 1) L (.long (G (ix i)) :: st) F G) : AW C nL Z M cells slots pc L (.int i :: .ref a :: st) F G := by
  obtain ⟨p, e, R', s, m, args, below, meth, c⟩ := M
  obtain ⟨rfl, hx, hb, hml, hown, hts, -, -, hK, -⟩ := hM
  intro H locs ls hH hS hl
  exact va_lald hx hb hK hH.1 a 4 (wld_at hs) rfl (inb_in hi) hd (h H locs ls hH hS hl)
theorem aw_aald {a n r : Nat} {rs : List Nat} {i : Int32} (hM : MOk C own cc nL ret R M) (hs : sk_list[a]? = some (11, n, rs)) (hi : inb i n = true) (hr : rs[ix i]? = some r) (hd : decode cc pc = .ok (.aaload, 1)) (h : AW C nL Z M cells slots (pc + 1) L (.ref r :: st) F G) : AW C nL Z M cells slots pc L (.int i :: .ref a :: st) F G := by
  obtain ⟨p, e, R', s, m, args, below, meth, c⟩ := M
  obtain ⟨rfl, hx, hb, hml, hown, hts, -, -, hK, -⟩ := hM
  intro H locs ls hH hS hl
  refine va_aldq hx hb hK hH.1 a 3 (wld_at hs) rfl (inb_in hi) hd ?_
  have e1 : va_rf (rs[i.toNatClampNeg]?.map C.2.2.1) = Value.ref (C.2.2.1 r) := by
    rw [show rs[i.toNatClampNeg]? = some r from hr]; rfl
  rw [e1]
  exact h H locs ls hH hS hl
theorem aw_alen {a k n : Nat} {rs : List Nat} (hM : MOk C own cc nL ret R M) (hs : sk_list[a]? = some (9, n, rs)) (hd : decode cc pc = .ok (.arraylength, 1)) (h : AW C nL Z M cells slots (pc + 1) L (.int (Int32.ofNat n) :: st) F G) : AW C nL Z M cells slots pc L (.ref a :: st) F G := by
  obtain ⟨p, e, R', s, m, args, below, meth, c⟩ := M
  obtain ⟨rfl, hx, hb, hml, hown, hts, -, -, hK, -⟩ := hM
  intro H locs ls hH hS hl
  exact va_alen hx hb hK hH.1 a 1 (wld_at hs) rfl rfl hd (h H locs ls hH hS hl)
theorem aw_alenC {a k n : Nat} {rs : List Nat} (hM : MOk C own cc nL ret R M) (hs : sk_list[a]? = some (8, n, rs)) (hd : decode cc pc = .ok (.arraylength, 1)) (h : AW C nL Z M cells slots (pc + 1) L (.int (Int32.ofNat n) :: st) F G) : AW C nL Z M cells slots pc L (.ref a :: st) F G := by
  obtain ⟨p, e, R', s, m, args, below, meth, c⟩ := M
  obtain ⟨rfl, hx, hb, hml, hown, hts, -, -, hK, -⟩ := hM
  intro H locs ls hH hS hl
  exact va_alen hx hb hK hH.1 a 0 (wld_at hs) rfl rfl hd (h H locs ls hH hS hl)
theorem aw_iast {a n : Nat} {rs : List Nat} {i x : Int32} (hM : MOk C own cc nL ret R M) (hs : sk_list[a]? = some (9, n, rs)) (hi : inb i n = true) (hd : decode cc pc = .ok (.iastore, 1)) (h : AW C nL Z M cells slots (pc + 1) L st (mup F a (ix i) x) G) : AW C nL Z M cells slots pc L (.int x :: .int i :: .ref a :: st) F G := by
  obtain ⟨p, e, R', s, m, args, below, meth, c⟩ := M
  obtain ⟨rfl, hx, hb, hml, hown, hts, -, -, hK, -⟩ := hM
  intro H locs ls hH hS hl
  refine va_iast hx hb hK hH.1 hH.2 hS a 1 (wld_at hs) rfl (inb_in hi) hd (fun H1 locs1 hP hD hS1 => ?_)
  have e1 := wld_set (aC := C.2.2.2.1) (ρ := C.2.2.1) (F := F) (F' := mup F a (ix i) x) (G := G) (G' := G) (x := .inl (C.2.2.2.1 9, n, .inl (upd (F a) (ix i) x))) hs (by show Sum.inl (_, n, Sum.inl (mup F a (ix i) x a)) = _; rw [mup_self]) (fun b e9 hne _ => sk_row (mup_ne hne) e9)
  rw [e1] at hP hD
  exact h H1 locs1 ls ⟨hP, hD⟩ hS1 hl
theorem aw_cast {a n : Nat} {rs : List Nat} {i x : Int32} (hM : MOk C own cc nL ret R M) (hs : sk_list[a]? = some (8, n, rs)) (hi : inb i n = true) (hd : decode cc pc = .ok (.castore, 1)) (h : AW C nL Z M cells slots (pc + 1) L st (mup F a (ix i) (vp_nar .char x)) G) : AW C nL Z M cells slots pc L (.int x :: .int i :: .ref a :: st) F G := by
  obtain ⟨p, e, R', s, m, args, below, meth, c⟩ := M
  obtain ⟨rfl, hx, hb, hml, hown, hts, -, -, hK, -⟩ := hM
  intro H locs ls hH hS hl
  refine va_cast hx hb hK hH.1 hH.2 hS a 0 (wld_at hs) rfl (inb_in hi) hd (fun H1 locs1 hP hD hS1 => ?_)
  have e1 := wld_set (aC := C.2.2.2.1) (ρ := C.2.2.1) (F := F) (F' := mup F a (ix i) (vp_nar .char x)) (G := G) (G' := G) (x := .inl (C.2.2.2.1 8, n, .inl (upd (F a) (ix i) (vp_nar .char x)))) hs (by show Sum.inl (_, n, Sum.inl (mup F a (ix i) (vp_nar .char x) a)) = _; rw [mup_self]) (fun b e9 hne _ => sk_row (mup_ne hne) e9)
  rw [e1] at hP hD
  exact h H1 locs1 ls ⟨hP, hD⟩ hS1 hl
theorem aw_zast {a n : Nat} {rs : List Nat} {i x : Int32} (hM : MOk C own cc nL ret R M) (hs : sk_list[a]? = some (10, n, rs)) (hi : inb i n = true) (hd : decode cc pc = .ok (.bastore, 1)) (h : AW C nL Z M cells slots (pc + 1) L st (mup F a (ix i) (vp_nar .boolean x)) G) : AW C nL Z M cells slots pc L (.int x :: .int i :: .ref a :: st) F G := by
  obtain ⟨p, e, R', s, m, args, below, meth, c⟩ := M
  obtain ⟨rfl, hx, hb, hml, hown, hts, -, -, hK, -⟩ := hM
  intro H locs ls hH hS hl
  refine va_zast hx hb hK hH.1 hH.2 hS a 2 (wld_at hs) rfl (inb_in hi) hd (fun H1 locs1 hP hD hS1 => ?_)
  have e1 := wld_set (aC := C.2.2.2.1) (ρ := C.2.2.1) (F := F) (F' := mup F a (ix i) (vp_nar .boolean x)) (G := G) (G' := G) (x := .inl (C.2.2.2.1 10, n, .inl (upd (F a) (ix i) (vp_nar .boolean x)))) hs (by show Sum.inl (_, n, Sum.inl (mup F a (ix i) (vp_nar .boolean x) a)) = _; rw [mup_self]) (fun b e9 hne _ => sk_row (mup_ne hne) e9)
  rw [e1] at hP hD
  exact h H1 locs1 ls ⟨hP, hD⟩ hS1 hl
/-- the one row of longs stands at address 180 alone -/
theorem sk_long : ∀ b e, sk_list[b]? = some e → b ≠ 180 → e.1 ≠ 12 := by
  have h : (sk_list.mapIdx (fun b e => decide (b = 180) || !(decide (e.1 = 12)))).all id = true := by decide +kernel
  intro b e hb hne h12
  have h1 := List.all_eq_true.mp h (decide (b = 180) || !(decide (e.1 = 12))) (List.mem_of_getElem? (i := b) (by rw [List.getElem?_mapIdx, hb]; rfl))
  simp [hne, h12] at h1
theorem sk_G {aC : Nat → ClassId} {ρ : Nat → Nat} {F : MM} {G G' : GG} {b : Nat} {e : Nat × Nat × List Nat} (h : e.1 ≠ 12) : sk_at aC ρ F G' b e = sk_at aC ρ F G b e := by
  unfold sk_at
  split <;> first | rfl | (exact absurd rfl h)
theorem aw_last {n : Nat} {rs : List Nat} {i : Int32} {x : Int64} (hM : MOk C own cc nL ret R M) (hs : sk_list[180]? = some (12, n, rs)) (hi : inb i n = true) (hd : decode cc pc = .ok (.lastore, 1)) (h : AW C nL Z M cells slots (pc + 1) L st F (vp_updL G (ix i) x)) : AW C nL Z M cells slots pc L (.long x :: .int i :: .ref 180 :: st) F G := by
  obtain ⟨p, e, R', s, m, args, below, meth, c⟩ := M
  obtain ⟨rfl, hx, hb, hml, hown, hts, -, -, hK, -⟩ := hM
  intro H locs ls hH hS hl
  refine va_last hx hb hK hH.1 hH.2 hS 180 4 (wld_at hs) rfl (inb_in hi) hd (fun H1 locs1 hP hD hS1 => ?_)
  have e1 := wld_set (aC := C.2.2.2.1) (ρ := C.2.2.1) (F := F) (F' := F) (G := G) (G' := vp_updL G (ix i) x) (x := .inl (C.2.2.2.1 12, n, .inr (.inl (vp_updL G (ix i) x)))) hs rfl (fun b e9 hne he => sk_G (sk_long b e9 he hne))
  rw [e1] at hP hD
  exact h H1 locs1 ls ⟨hP, hD⟩ hS1 hl
/-- System.arraycopy of ints -/
theorem aw_copy {index a0 a n0 n1 : Nat} {rs0 rs1 : List Nat} {sp dp n : Int32} (hM : MOk C own cc nL ret R M) (w1 : GW (.methodLink own index arraycopyName)) (w2 : GW (.native arraycopyName)) (w3 : GW (.static arraycopyName)) (w4 : GW (.initialized "java/lang/System")) (hs0 : sk_list[a0]? = some (9, n0, rs0)) (hs1 : sk_list[a]? = some (9, n1, rs1))
    (h1 : ¬ sp < 0) (h2 : ¬ dp < 0) (h3 : ¬ n < 0) (h4 : ix sp + ix n ≤ n0) (h5 : ix dp + ix n ≤ n1) (hf : 1 ≤ R.frames) (hlo : (st.map fun v => v.category).sum + (nativeFrameWords "java/lang/System" "arraycopy" 5 + 11) ≤ R.locals) (hd : decode cc pc = .ok (.invokestatic index, 3))
    (h : AW C nL Z M cells slots (pc + 3) L st (mrow F a (va_cpy (F a0) (F a) (ix sp) (ix dp) (ix n))) G) : AW C nL Z M cells slots pc L (.int n :: .int dp :: .ref a :: .int sp :: .ref a0 :: st) F G := by
  obtain ⟨p, e, R', s, m, args, below, meth, c⟩ := M
  obtain ⟨rfl, hx, hb, hml, hown, hts, -, -, hK, -⟩ := hM
  intro H locs ls hH hS hl
  refine va_copyi hx hb (by rw [hml]; exact hl.1.symm) hown (hts _ w1) (hts _ w2) (hts _ w3) (hts _ w4) hK hH.1 hH.2 hS a0 a 1 1 (wld_at hs0) (wld_at hs1) rfl rfl rfl h1 h2 h3 h4 h5 (fun i _ => rfl) hf (by rw [List.map_map, show ((fun v : Value => v.category) ∘ rv_ C.2.2.1) = (fun v => v.category) from funext (rv_cat _)]; exact hlo) hd (fun H1 locs1 hP hD hS1 => ?_)
  have e1 := wld_set (aC := C.2.2.2.1) (ρ := C.2.2.1) (F := F) (F' := mrow F a (va_cpy (F a0) (F a) (ix sp) (ix dp) (ix n))) (G := G) (G' := G) (x := .inl (C.2.2.2.1 9, n1, .inl (va_cpy (F a0) (F a) (ix sp) (ix dp) (ix n)))) hs1 (by show Sum.inl (_, n1, Sum.inl (mrow F a (va_cpy (F a0) (F a) (ix sp) (ix dp) (ix n)) a)) = _; rw [mrow_self]) (fun b e9 hne _ => sk_row (mrow_ne hne) e9)
  rw [e1] at hP hD
  exact h H1 locs1 ls ⟨hP, hD⟩ hS1 hl
end AWL
