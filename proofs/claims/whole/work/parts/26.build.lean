/-! ===== the constructors: a world that grows ===== -/
abbrev DD : Type := Nat × Nat × List Nat
abbrev NUL : Nat := 999999
def bk_at (aC : Nat → ClassId) (ρ : Nat → Nat) (F : MM) (a : Nat) : DD → va_E
  | (8, n, _) => .inl (aC 8, n, .inl (F a))
  | (9, n, _) => .inl (aC 9, n, .inl (F a))
  | (10, n, _) => .inl (aC 10, n, .inl (F a))
  | (11, n, rs) => .inl (aC 11, n, .inr (.inr (.inr (.inr (fun j => (rs[j]?).map (fun r => if r = 0 then 0 else ρ (r - 1)))))))
  | (12, n, _) => .inl (aC 12, n, .inr (.inl (fun _ => 0)))
  | (k, _, rs) => .inr (k, rs.mapIdx (fun i r => if r = 0 then .int (F a i) else if r = NUL then .null else .ref (ρ (r - 1))))
theorem bk_obj {aC : Nat → ClassId} {ρ : Nat → Nat} {F : MM} {a ci n : Nat} {rs : List Nat} (h : ci < 8) : bk_at aC ρ F a (ci, n, rs) = .inr (ci, rs.mapIdx (fun i r => if r = 0 then .int (F a i) else if r = NUL then .null else .ref (ρ (r - 1)))) := by
  match ci, h with
  | 0, _ => rfl
  | 1, _ => rfl
  | 2, _ => rfl
  | 3, _ => rfl
  | 4, _ => rfl
  | 5, _ => rfl
  | 6, _ => rfl
  | 7, _ => rfl
def wldB (aC : Nat → ClassId) (ρ : Nat → Nat) (F : MM) (K : List DD) : va_W := K.mapIdx (fun a d => (ρ a, bk_at aC ρ F a d))
def agr (ρ ρ' : Nat → Nat) (lo hi : Nat) : Prop := ∀ k, (k < lo ∨ hi ≤ k) → ρ' k = ρ k
/-- references outside a stretch -/
def rf_n (k lo hi : Nat) : Prop := k < lo ∨ hi ≤ k
def rf_ok (lo hi : Nat) : Value → Prop
  | .ref k => rf_n k lo hi
  | _ => True
def rfS (lo hi : Nat) : List Value → Prop
  | [] => True
  | v :: r => rf_ok lo hi v ∧ rfS lo hi r
def rfL (lo hi : Nat) : List (Option Value) → Prop
  | [] => True
  | none :: r => rfL lo hi r
  | some v :: r => rf_ok lo hi v ∧ rfL lo hi r
theorem rv_agr {ρ ρ' : Nat → Nat} {lo hi : Nat} (h : agr ρ ρ' lo hi) {v : Value} (hv : rf_ok lo hi v) : rv_ ρ' v = rv_ ρ v := by
  cases v <;> first | rfl | (show Value.ref (ρ' _) = Value.ref (ρ _); rw [h _ hv])
theorem rfS_map {ρ ρ' : Nat → Nat} {lo hi : Nat} (h : agr ρ ρ' lo hi) : ∀ {st : List Value}, rfS lo hi st → st.map (rv_ ρ') = st.map (rv_ ρ)
  | [], _ => rfl
  | v :: r, hs => by rw [List.map_cons, List.map_cons, rv_agr h hs.1, rfS_map h hs.2]
theorem rfL_at {lo hi : Nat} : ∀ {L : List (Option Value)}, rfL lo hi L → ∀ (i : Nat) (v : Value), L[i]? = some (some v) → rf_ok lo hi v
  | [], _, i, v, h => by simp at h
  | none :: r, hs, 0, v, h => by simp at h
  | none :: r, hs, i + 1, v, h => rfL_at (L := r) hs i v h
  | some w :: r, hs, 0, v, h => by cases h; exact hs.1
  | some w :: r, hs, i + 1, v, h => rfL_at (L := r) hs.2 i v h
theorem lvR_agr {ρ ρ' : Nat → Nat} {lo hi nL : Nat} {ls : Array Slot} {L : List (Option Value)} (h : agr ρ ρ' lo hi) (hL : rfL lo hi L) (hl : lvR ρ ls nL L) : lvR ρ' ls nL L :=
  ⟨hl.1, hl.2.1, fun i v hi9 => by rw [rv_agr h (rfL_at hL i v hi9)]; exact hl.2.2 i v hi9⟩
def KOK (n : Nat) (K : List DD) : Prop := ∀ d ∈ K, ∀ r ∈ d.2.2, r ≤ n ∨ r = NUL
theorem KOK.of {n : Nat} {K : List DD} (h : K.all (fun d => d.2.2.all (fun r => decide (r ≤ n) || decide (r = NUL))) = true) : KOK n K := by
  intro d hd r hr
  have h1 := List.all_eq_true.mp (List.all_eq_true.mp h d hd) r hr
  simpa only [Bool.or_eq_true, decide_eq_true_eq] using h1
theorem KOK.up {n n' : Nat} {K : List DD} (h : KOK n K) (hn : n ≤ n') : KOK n' K := fun d hd r hr => (h d hd r hr).imp (fun h => Nat.le_trans h hn) id
theorem KOK.app {n : Nat} {K T : List DD} (h : KOK n K) (h2 : KOK n T) : KOK n (K ++ T) := fun d hd => (List.mem_append.mp hd).elim (h d) (h2 d)
theorem bk_agr {aC : Nat → ClassId} {ρ ρ' : Nat → Nat} {F : MM} {lo hi a : Nat} (hl : hi < NUL) (h : agr ρ ρ' lo hi) : ∀ d : DD, (∀ r ∈ d.2.2, r ≤ lo ∨ r = NUL) → bk_at aC ρ' F a d = bk_at aC ρ F a d := by
  intro d hd
  have key : ∀ r ∈ d.2.2, ρ' (r - 1) = ρ (r - 1) ∨ r = 0 ∨ r = NUL := by
    intro r hr
    rcases hd r hr with h1 | h1
    · by_cases h0 : r = 0
      · exact Or.inr (Or.inl h0)
      · exact Or.inl (h _ (Or.inl (by omega)))
    · exact Or.inr (Or.inr h1)
  unfold bk_at
  split
  · rfl
  · rfl
  · rfl
  · rename_i n rs
    refine congrArg (fun z => Sum.inl (aC 11, n, Sum.inr (Sum.inr (Sum.inr (Sum.inr z))))) (funext fun j => ?_)
    cases hj : rs[j]? with
    | none => rfl
    | some r =>
      by_cases h0 : r = 0
      · subst h0; rfl
      · show some (if r = 0 then 0 else ρ' (r - 1)) = some (if r = 0 then 0 else ρ (r - 1))
        rw [if_neg h0, if_neg h0]
        rcases hd r (List.mem_of_getElem? hj) with h1 | h1
        · rw [h _ (Or.inl (by omega))]
        · rw [h _ (Or.inr (by omega))]
  · rfl
  · rename_i k n rs _ _ _ _ _
    refine congrArg (fun z => Sum.inr (k, z)) (List.ext_getElem? fun j => ?_)
    rw [List.getElem?_mapIdx, List.getElem?_mapIdx]
    cases hj : rs[j]? with
    | none => rfl
    | some r =>
      rcases key r (List.mem_of_getElem? hj) with h1 | h1 | h1
      · show some (if r = 0 then Value.int (F a j) else if r = NUL then Value.null else Value.ref (ρ' (r - 1))) = some (if r = 0 then Value.int (F a j) else if r = NUL then Value.null else Value.ref (ρ (r - 1))); rw [h1]
      · subst h1; rfl
      · subst h1; rfl
theorem wldB_at {aC : Nat → ClassId} {ρ : Nat → Nat} {F : MM} {K : List DD} {a : Nat} {d : DD} (h : K[a]? = some d) : (wldB aC ρ F K)[a]? = some (ρ a, bk_at aC ρ F a d) := by
  unfold wldB
  rw [List.getElem?_mapIdx, h]
  rfl
theorem wldB_agr {aC : Nat → ClassId} {ρ ρ' : Nat → Nat} {F : MM} {K : List DD} {lo hi : Nat} (hl : hi < NUL) (hK : KOK lo K) (hn : K.length ≤ lo) (h : agr ρ ρ' lo hi) : wldB aC ρ' F K = wldB aC ρ F K := by
  refine List.ext_getElem? fun j => ?_
  cases hj : K[j]? with
  | none => unfold wldB; rw [List.getElem?_mapIdx, List.getElem?_mapIdx, hj]; rfl
  | some d =>
    have hlt : j < K.length := (List.getElem?_eq_some_iff.mp hj).1
    rw [wldB_at hj, wldB_at hj, h j (Or.inl (by omega)), bk_agr hl h d (hK d (List.mem_of_getElem? hj))]
theorem wldB_push {aC : Nat → ClassId} {ρ : Nat → Nat} {F : MM} {K : List DD} {d : DD} {n : Nat} (hn : K.length = n) : wldB aC ρ F (K ++ [d]) = wldB aC ρ F K ++ [(ρ n, bk_at aC ρ F n d)] := by
  subst hn
  unfold wldB
  rw [List.mapIdx_append]
  simp
theorem wldB_set {aC : Nat → ClassId} {ρ : Nat → Nat} {F F' : MM} {K : List DD} {a : Nat} {d d' : DD} {x : va_E} (h : K[a]? = some d) (hx : bk_at aC ρ F' a d' = x) (ho : ∀ b e, b ≠ a → bk_at aC ρ F' b e = bk_at aC ρ F b e) :
    (wldB aC ρ F K).set a (ρ a, x) = wldB aC ρ F' (K.set a d') := by
  have hl : a < (wldB aC ρ F K).length := (List.getElem?_eq_some_iff.mp (wldB_at (aC := aC) (ρ := ρ) (F := F) h)).1
  have hl2 : a < K.length := (List.getElem?_eq_some_iff.mp h).1
  refine List.ext_getElem? fun j => ?_
  by_cases hj : j = a
  · subst hj
    rw [List.getElem?_set_self hl, wldB_at (d := d') (by rw [List.getElem?_set_self hl2]), hx]
  · rw [List.getElem?_set_ne (Ne.symm hj)]
    cases hs : K[j]? with
    | none => unfold wldB; rw [List.getElem?_mapIdx, List.getElem?_mapIdx, hs, List.getElem?_set_ne (Ne.symm hj), hs]; rfl
    | some e => rw [wldB_at hs, wldB_at (d := e) (by rw [List.getElem?_set_ne (Ne.symm hj)]; exact hs), ho j e hj]
theorem bk_row {aC : Nat → ClassId} {ρ : Nat → Nat} {F F' : MM} {b : Nat} (hF : F' b = F b) (e : DD) : bk_at aC ρ F' b e = bk_at aC ρ F b e := by
  unfold bk_at
  split <;> simp only [hF]
/-! a part that stays ahead, and the part that grows -/
theorem kp_at {Kp T : List DD} {a j : Nat} {d : DD} (h : Kp.length = a) (ht : T[j]? = some d) : (Kp ++ T)[a + j]? = some d := by
  rw [List.getElem?_append_right (by omega), show a + j - Kp.length = j by omega]; exact ht
theorem kp_set {Kp T : List DD} {a j : Nat} {d : DD} (h : Kp.length = a) : (Kp ++ T).set (a + j) d = Kp ++ T.set j d := by
  rw [List.set_append_right _ _ (by omega), show a + j - Kp.length = j by omega]
def XBx (s : State) : Prop := va_AO RX5 s ∧ va_Nw (.methodLinkNest RX8 24 yX3_init RX8) s ∧ va_Nw (.methodLinkNest RX3 30 yX4_init RX8) s
theorem XBx.moved {s U : State} (h : XBx s) (hW : s.WarmedH U.vm) : XBx U := ⟨va_AO.moved hW.alike h.1, va_Nw.warmM hW h.2.1, va_Nw.warmM hW h.2.2⟩
def MBx : MX → Prop
  | (p, e, R', s, m, args, below, meth, c) => XBx s
def MInit : MX → Prop
  | (p, e, R', s, m, args, below, meth, c) => meth.name = "<init>"
def BW (C : CX) (ρ0 : Nat → Nat) (n0 n1 : Nat) (nL : Nat) (Z : State → Prop) : MX → Nat → Nat → Nat → List (Option Value) → List Value → List DD → MM → Prop
  | (p, e, R, s, m, args, below, meth, c), cells, slots, pc, L, st, K, F => ∀ (ρ : Nat → Nat) (H : Heap) (locs : List Loc) (ls : Array Slot), agr ρ0 ρ n0 n1 → va_P C.2.2.2.2 vwCl (wldB C.2.2.2.1 ρ F K) H → va_D (fun q => C.2.1 ≤ q) (wldB C.2.2.2.1 ρ F K) → va_S (fun q => C.2.1 ≤ q) s.heap H locs → lvR ρ ls nL L →
    W p C.1 e R s m args below meth c H locs cells slots Z (F0 m pc ls (st.map (rv_ ρ)))
def QcB (C : CX) (ρ : Nat → Nat) (n0 : Nat) (K' : List DD) (F' : MM) : Array Value → State → Outcome → State → Prop := fun _ st o t => ∃ ρ' : Nat → Nat, o = .returned none ∧ agr ρ ρ' n0 K'.length ∧ va_P C.2.2.2.2 vwCl (wldB C.2.2.2.1 ρ' F' K') t.heap ∧ va_D (fun q => C.2.1 ≤ q) (wldB C.2.2.2.1 ρ' F' K') ∧ va_F (fun q => C.2.1 ≤ q) st t
def BM (C : CX) (y : MethodName) (cc : ByteArray) (nL : Nat) (rm : Room) (av : List Value) (K K' : List DD) (F F' : MM) : Prop :=
  ∀ ρ : Nat → Nat, Met C.1 y (wsO y cc nL none) rm (va_Pc (av.map (rv_ ρ)) (fun U => XK C U ∧ XBx U ∧ va_P C.2.2.2.2 vwCl (wldB C.2.2.2.1 ρ F K) U.heap ∧ va_D (fun q => C.2.1 ≤ q) (wldB C.2.2.2.1 ρ F K))) (QcB C ρ K.length K' F') rm.cells rm.slots (fun q => C.2.1 ≤ q)
def ZB (C : CX) (ρ : Nat → Nat) (n0 : Nat) (K' : List DD) (F' : MM) (rm : Room) : MX → State → Prop
  | (p, e, R, s, m, args, below, meth, c) => MQ below (QcB C ρ n0 K' F') args s rm.cells rm.slots (fun q => C.2.1 ≤ q)
theorem bm_of {C : CX} {y : MethodName} {cc : ByteArray} {nL : Nat} {rm : Room} {av : List Value} {K K' : List DD} {F F' : MM} {L : List (Option Value)} {n0 n1 : Nat}
    (hy : plainName y.cls = true) (hn : y.name = "<init>") (hsz : (lg_sl av).length ≤ nL) (hL : lv_ent av ++ List.replicate (nL - (lv_ent av).length) none = L) (h0 : K.length = n0) (h1 : K'.length = n1)
    (body : ∀ (ρ : Nat → Nat) (M : MX), MOk C y.cls cc nL none rm M → MBx M → MInit M → BW C ρ n0 n1 nL (ZB C ρ n0 K' F' rm M) M 0 0 0 L [] K F) : BM C y cc nL rm av K K' F F' := by
  intro ρ
  subst h0; subst h1
  refine Met.ofW (cc := cc) (maxL := nL) (ret := none) hy rfl ?_
  intro p e s m args below meth c s₁ B hml hv
  obtain ⟨rfl, hK, hB, hP, hD⟩ := hv
  have hts := atoms_spec (ws := wsO y cc nL none) B.pre
  have hown : s.vm.findClass y.cls = some m.cls := findClass_of_methodNamed B.named
  have hin : meth.name = "<init>" := (name_of_methodNamed B.named B.method).1.trans hn
  have hl := lv_entry (av.map (rv_ ρ)) (n := nL) (by rw [lg_len]; exact hsz)
  rw [lg_entry_eq]
  generalize (lg_sl (av.map (rv_ ρ)) ++ List.replicate (nL - (lg_sl (av.map (rv_ ρ))).length) Slot.unset).toArray = ls at hl ⊢
  exact body ρ (p, e, (headSpec (wsO y cc nL none) rm).room, s, m, (av.map (rv_ ρ)).toArray, below, meth, c) ⟨rfl, B.exec, B.bytes, hml, hown, fun w hw => hts w (List.mem_cons_of_mem _ (gw_filter hw)), B.returns, B.notSynchronized, hK⟩ hB hin
    ρ s.heap [] ls (fun _ _ => rfl) hP hD va_S.rf (lvR_entry hl hL)
section BWL
variable {C : CX} {own : String} {cc : ByteArray} {nL : Nat} {ret : Option FieldType} {R : Room} {M : MX} {Z : State → Prop} {cells slots pc n0 n1 : Nat} {L : List (Option Value)} {st : List Value} {F : MM} {K : List DD} {ρ0 : Nat → Nat}
theorem b_iconst {i : Int} {v : Int32} (hM : MOk C own cc nL ret R M) (hd : decode cc pc = .ok (.iconst i, 1)) (hv : Int32.ofInt i = v) (h : BW C ρ0 n0 n1 nL Z M cells slots (pc + 1) L (.int v :: st) K F) : BW C ρ0 n0 n1 nL Z M cells slots pc L st K F := by
  obtain ⟨p, e, R', s, m, args, below, meth, c⟩ := M
  obtain ⟨rfl, hx, hb, -⟩ := hM
  intro ρ H locs ls ha hP hD hS hl
  exact lv_iconst hx hb hd hv (h ρ H locs ls ha hP hD hS hl)
theorem b_bipush {i : Int} {v : Int32} (hM : MOk C own cc nL ret R M) (hd : decode cc pc = .ok (.bipush i, 2)) (hv : (Int8.ofInt i).toInt32 = v) (h : BW C ρ0 n0 n1 nL Z M cells slots (pc + 2) L (.int v :: st) K F) : BW C ρ0 n0 n1 nL Z M cells slots pc L st K F := by
  obtain ⟨p, e, R', s, m, args, below, meth, c⟩ := M
  obtain ⟨rfl, hx, hb, -⟩ := hM
  intro ρ H locs ls ha hP hD hS hl
  exact lv_bipush hx hb hd hv (h ρ H locs ls ha hP hD hS hl)
theorem b_sipush {i : Int} {v : Int32} (hM : MOk C own cc nL ret R M) (hd : decode cc pc = .ok (.sipush i, 3)) (hv : (Int16.ofInt i).toInt32 = v) (h : BW C ρ0 n0 n1 nL Z M cells slots (pc + 3) L (.int v :: st) K F) : BW C ρ0 n0 n1 nL Z M cells slots pc L st K F := by
  obtain ⟨p, e, R', s, m, args, below, meth, c⟩ := M
  obtain ⟨rfl, hx, hb, -⟩ := hM
  intro ρ H locs ls ha hP hD hS hl
  exact lv_sipush hx hb hd hv (h ρ H locs ls ha hP hD hS hl)
theorem b_aload_n {k : Fin 4} {i x : Nat} (hM : MOk C own cc nL ret R M) (hd : decode cc pc = .ok (.aload_n k, 1)) (hi : (k : Nat) = i) (hv : L[i]? = some (some (.ref x))) (h : BW C ρ0 n0 n1 nL Z M cells slots (pc + 1) L (.ref x :: st) K F) : BW C ρ0 n0 n1 nL Z M cells slots pc L st K F := by
  obtain ⟨p, e, R', s, m, args, below, meth, c⟩ := M
  obtain ⟨rfl, hx, hb, -⟩ := hM
  intro ρ H locs ls ha hP hD hS hl
  exact lv_aload_n hx hb hd hi (hl.2.2 _ _ hv) (h ρ H locs ls ha hP hD hS hl)
theorem b_iload_n {k : Fin 4} {i : Nat} {x : Int32} (hM : MOk C own cc nL ret R M) (hd : decode cc pc = .ok (.iload_n k, 1)) (hi : (k : Nat) = i) (hv : L[i]? = some (some (.int x))) (h : BW C ρ0 n0 n1 nL Z M cells slots (pc + 1) L (.int x :: st) K F) : BW C ρ0 n0 n1 nL Z M cells slots pc L st K F := by
  obtain ⟨p, e, R', s, m, args, below, meth, c⟩ := M
  obtain ⟨rfl, hx, hb, -⟩ := hM
  intro ρ H locs ls ha hP hD hS hl
  exact lv_iload_n hx hb hd hi (hl.2.2 _ _ hv) (h ρ H locs ls ha hP hD hS hl)
theorem b_istore_n {k : Fin 4} {i : Nat} {x : Int32} {L' : List (Option Value)} (hM : MOk C own cc nL ret R M) (hd : decode cc pc = .ok (.istore_n k, 1)) (hi : (k : Nat) = i) (hn : i < nL) (hL : lv_st1 L i (.int x) = L') (h : BW C ρ0 n0 n1 nL Z M cells slots (pc + 1) L' st K F) : BW C ρ0 n0 n1 nL Z M cells slots pc L (.int x :: st) K F := by
  obtain ⟨p, e, R', s, m, args, below, meth, c⟩ := M
  obtain ⟨rfl, hx, hb, -⟩ := hM
  subst hL
  intro ρ H locs ls ha hP hD hS hl
  exact lv_istore_n hx hb hd hi hl.has hn rfl (fun ls' hl' => h ρ H locs ls' ha hP hD hS (lvR.st1 (v := .int x) hl'))
theorem b_istore {i : Nat} {x : Int32} {L' : List (Option Value)} (hM : MOk C own cc nL ret R M) (hd : decode cc pc = .ok (.istore i, 2)) (hn : i < nL) (hL : lv_st1 L i (.int x) = L') (h : BW C ρ0 n0 n1 nL Z M cells slots (pc + 2) L' st K F) : BW C ρ0 n0 n1 nL Z M cells slots pc L (.int x :: st) K F := by
  obtain ⟨p, e, R', s, m, args, below, meth, c⟩ := M
  obtain ⟨rfl, hx, hb, -⟩ := hM
  subst hL
  intro ρ H locs ls ha hP hD hS hl
  exact lv_istore hx hb hd hl.has hn rfl (fun ls' hl' => h ρ H locs ls' ha hP hD hS (lvR.st1 (v := .int x) hl'))
theorem b_astore_n {k : Fin 4} {i x : Nat} {L' : List (Option Value)} (hM : MOk C own cc nL ret R M) (hd : decode cc pc = .ok (.astore_n k, 1)) (hi : (k : Nat) = i) (hn : i < nL) (hL : lv_st1 L i (.ref x) = L') (h : BW C ρ0 n0 n1 nL Z M cells slots (pc + 1) L' st K F) : BW C ρ0 n0 n1 nL Z M cells slots pc L (.ref x :: st) K F := by
  obtain ⟨p, e, R', s, m, args, below, meth, c⟩ := M
  obtain ⟨rfl, hx, hb, -⟩ := hM
  subst hL
  intro ρ H locs ls ha hP hD hS hl
  exact lv_astore_n hx hb hd hi hl.has hn rfl (fun ls' hl' => h ρ H locs ls' ha hP hD hS (lvR.st1 (v := .ref x) hl'))
theorem b_iinc {i : Nat} {n : Int} {x v : Int32} {L' : List (Option Value)} (hM : MOk C own cc nL ret R M) (hd : decode cc pc = .ok (.iinc i n, 3)) (hv : L[i]? = some (some (.int x))) (hxv : x + Int32.ofInt n = v) (hn : i < nL) (hL : lv_st1 L i (.int v) = L') (h : BW C ρ0 n0 n1 nL Z M cells slots (pc + 3) L' st K F) : BW C ρ0 n0 n1 nL Z M cells slots pc L st K F := by
  obtain ⟨p, e, R', s, m, args, below, meth, c⟩ := M
  obtain ⟨rfl, hx, hb, -⟩ := hM
  subst hL
  intro ρ H locs ls ha hP hD hS hl
  obtain ⟨k, hk⟩ := List.getElem?_of_mem (lv_prs_mem (ρ := ρ) (L := L) (q := (i, .int x)) |>.mpr ⟨.int x, hv, rfl⟩)
  exact lv_iinc hx hb hd hl.has hk hxv hn rfl (fun ls' hl' => h ρ H locs ls' ha hP hD hS (lvR.st1 (v := .int v) hl'))
theorem b_dup {va : Value} (hM : MOk C own cc nL ret R M) (hd : decode cc pc = .ok (.dup, 1)) (hc : va.category = 1) (h : BW C ρ0 n0 n1 nL Z M cells slots (pc + 1) L (va :: va :: st) K F) : BW C ρ0 n0 n1 nL Z M cells slots pc L (va :: st) K F := by
  obtain ⟨p, e, R', s, m, args, below, meth, c⟩ := M
  obtain ⟨rfl, hx, hb, -⟩ := hM
  intro ρ H locs ls ha hP hD hS hl
  exact lv_dup hx hb hd (by rw [rv_cat]; exact hc) (h ρ H locs ls ha hP hD hS hl)
theorem b_goto {off : Int} {tgt : Nat} (hM : MOk C own cc nL ret R M) (hd : decode cc pc = .ok (.goto off, 3)) (ht : (pc : Int) + off = (tgt : Int)) (h : BW C ρ0 n0 n1 nL Z M cells slots tgt L st K F) : BW C ρ0 n0 n1 nL Z M cells slots pc L st K F := by
  obtain ⟨p, e, R', s, m, args, below, meth, c⟩ := M
  obtain ⟨rfl, hx, hb, -⟩ := hM
  intro ρ H locs ls ha hP hD hS hl
  exact lv_goto hx hb hd ht (h ρ H locs ls ha hP hD hS hl)
theorem b_ge_f {x y : Int32} {off : Int} {tgt : Nat} (hM : MOk C own cc nL ret R M) (hd : decode cc pc = .ok (.if_icmp .ge off, 3)) (ht : (pc : Int) + off = (tgt : Int)) (hc : ¬ y ≤ x) (h : BW C ρ0 n0 n1 nL Z M cells slots (pc + 3) L st K F) : BW C ρ0 n0 n1 nL Z M cells slots pc L (.int y :: .int x :: st) K F := by
  obtain ⟨p, e, R', s, m, args, below, meth, c⟩ := M
  obtain ⟨rfl, hx, hb, -⟩ := hM
  intro ρ H locs ls ha hP hD hS hl
  exact lv_icmp_ge hx hb hd ht (fun q => absurd q hc) (fun _ => h ρ H locs ls ha hP hD hS hl)
theorem b_ge_t {x y : Int32} {off : Int} {tgt : Nat} (hM : MOk C own cc nL ret R M) (hd : decode cc pc = .ok (.if_icmp .ge off, 3)) (ht : (pc : Int) + off = (tgt : Int)) (hc : y ≤ x) (h : BW C ρ0 n0 n1 nL Z M cells slots tgt L st K F) : BW C ρ0 n0 n1 nL Z M cells slots pc L (.int y :: .int x :: st) K F := by
  obtain ⟨p, e, R', s, m, args, below, meth, c⟩ := M
  obtain ⟨rfl, hx, hb, -⟩ := hM
  intro ρ H locs ls ha hP hD hS hl
  exact lv_icmp_ge hx hb hd ht (fun _ => h ρ H locs ls ha hP hD hS hl) (fun q => absurd hc q)
theorem b_objInit {idx x : Nat} (hM : MOk C own cc nL ret R M) (w1 : GW (.methodLink own idx Lib.objectInit)) (w2 : GW (.instanceMethod Lib.objectInit)) (w3 : GW (.code Lib.objectInit ⟨#[0xb1]⟩ 1 none)) (hf : 1 ≤ R.frames) (hlo : (st.map fun v => v.category).sum + 12 ≤ R.locals) (hd : decode cc pc = .ok (.invokespecial idx, 3)) (h : BW C ρ0 n0 n1 nL Z M cells slots (pc + 3) L st K F) : BW C ρ0 n0 n1 nL Z M cells slots pc L (.ref x :: st) K F := by
  obtain ⟨p, e, R', s, m, args, below, meth, c⟩ := M
  obtain ⟨rfl, hx, hb, hml, hown, hts, -⟩ := hM
  intro ρ H locs ls ha hP hD hS hl
  refine W.objInit hx hb hown (hts _ w1) (hts _ w2) (hts _ w3) (a := ρ x) (rest := st.map (rv_ ρ)) rfl (hl.1.trans hml.symm) rfl hd hf ?_ (h ρ H locs ls ha hP hD hS hl)
  show 2 * 0 + _ + 12 ≤ _
  rw [cat_map]; omega
theorem b_vret {rm : Room} {K' : List DD} {F' : MM} (hM : MOk C own cc nL none R M) (hd : decode cc pc = .ok (.return_, 1)) (hc : cells ≤ rm.cells) (hs : slots ≤ rm.slots) (hn : K'.length = n1) : BW C ρ0 n0 n1 nL (ZB C ρ0 n0 K' F' rm M) M cells slots pc L [] K' F' := by
  obtain ⟨p, e, R', s, m, args, below, meth, c⟩ := M
  obtain ⟨rfl, hx, hb, hml, hown, hts, hr, hlk, hK⟩ := hM
  subst hn
  intro ρ H locs ls ha hP hD hS hl
  refine W.widen hc hs ?_
  exact W.vret hx hb hr (fun t ht hW => ⟨ρ, rfl, ha, by rw [ht]; exact hP, hD, hS.F ht⟩) hS.2.2 hd hlk
theorem b_getR {index ci k a n r : Nat} {T : u_T} {N : Nat} {Cn : String} {rs : List Nat} (hM : MOk C own cc nL ret R M) (hf : FLD own index ci k T N Cn) (hs : K[a]? = some (ci, n, rs)) (hk : rs[k]? = some (r + 1)) (hr : r + 1 ≠ NUL) (hd : decode cc pc = .ok (.getfield index, 3)) (h : BW C ρ0 n0 n1 nL Z M cells slots (pc + 3) L (.ref r :: st) K F) : BW C ρ0 n0 n1 nL Z M cells slots pc L (.ref a :: st) K F := by
  obtain ⟨p, e, R', s, m, args, below, meth, c⟩ := M
  obtain ⟨rfl, hx, hb, hml, hown, hts, -, -, hK, -⟩ := hM
  intro ρ H locs ls ha hP hD hS hl
  have hat := wldB_at (aC := C.2.2.2.1) (ρ := ρ) (F := F) hs
  rw [bk_obj (fld_lt hf)] at hat
  refine va_get (D := C.2.2.2.2) (v := .ref (ρ r)) hx hb (gw_hts hts) (fun w hw => gw_filter (hf.2.2.2 w hw)) hown hK hP a hat hf.1 k hf.2.1 (hts _ hf.2.2.1) (fun _ h9 => h9) ?_ hd (h ρ H locs ls ha hP hD hS hl)
  rw [List.getElem?_mapIdx, hk]
  show some (if r + 1 = 0 then _ else if r + 1 = NUL then _ else Value.ref (ρ (r + 1 - 1))) = _
  rw [if_neg (by omega), if_neg hr]
  rfl
/-- a final reference, put in a constructor -/
theorem b_putR {index ci k a n r : Nat} {T : u_T} {N : Nat} {Cn : String} {rs : List Nat} {ty : FieldType} {ty0 : Nat → FieldType} {K' : List DD} (hM : MOk C own cc nL ret R M) (hI : MInit M) (hf : FLD own index ci k T N Cn) (hty : ∀ k, k < N → parseFieldDescriptor (T k).2.2.1 = some (ty0 k)) (hnm : ∀ a, a < N → ∀ b, b < N → a ≠ b → (T a).2.1 ≠ (T b).2.1) (hfin : (T k).2.2.2 = true) (hdecl : (T k).1 = own) (hpd : parseFieldDescriptor (T k).2.2.1 = some ty) (hnar : ∀ x, narrow ty (.ref x) = .ref x) (hfit : ∀ x, fits ty (.ref x) = true)
    (hs : K[a]? = some (ci, n, rs)) (hk : k < rs.length) (hr : r + 1 ≠ NUL) (hK' : K.set a (ci, n, rs.set k (r + 1)) = K') (hd : decode cc pc = .ok (.putfield index, 3)) (h : BW C ρ0 n0 n1 nL Z M cells slots (pc + 3) L st K' F) : BW C ρ0 n0 n1 nL Z M cells slots pc L (.ref r :: .ref a :: st) K F := by
  subst hK'
  obtain ⟨p, e, R', s, m, args, below, meth, c⟩ := M
  obtain ⟨rfl, hx, hb, hml, hown, hts, -, -, hK, -⟩ := hM
  intro ρ H locs ls ha hP hD hS hl
  have hat := wldB_at (aC := C.2.2.2.1) (ρ := ρ) (F := F) hs
  rw [bk_obj (fld_lt hf)] at hat
  refine va_putF (D := C.2.2.2.2) (v := .ref (ρ r)) hx hb (gw_hts hts) (fun w hw => gw_filter (hf.2.2.2 w hw)) ty0 hty hnm hown hK hP hD hS a hat hf.1 k hf.2.1 (hts _ hf.2.2.1) (fun _ h9 => h9) hfin hI hdecl hpd (hnar _) (hfit _) (by rw [List.length_mapIdx]; exact hk) hd (fun H1 locs1 hP1 hD1 hS1 => ?_)
  have e1 := wldB_set (aC := C.2.2.2.1) (ρ := ρ) (F := F) (F' := F) (d' := (ci, n, rs.set k (r + 1))) (x := .inr (ci, (rs.mapIdx (fun i r => if r = 0 then Value.int (F a i) else if r = NUL then Value.null else Value.ref (ρ (r - 1)))).set k (.ref (ρ r)))) hs (by
    rw [bk_obj (fld_lt hf)]
    refine congrArg (fun z => Sum.inr (ci, z)) (List.ext_getElem? fun j => ?_)
    by_cases hj : j = k
    · subst hj
      rw [List.getElem?_set_self (by rw [List.length_mapIdx]; exact hk), List.getElem?_mapIdx, List.getElem?_set_self hk]
      show some (if r + 1 = 0 then _ else if r + 1 = NUL then _ else Value.ref (ρ (r + 1 - 1))) = _
      rw [if_neg (by omega), if_neg hr]
      rfl
    · rw [List.getElem?_set_ne (Ne.symm hj), List.getElem?_mapIdx, List.getElem?_mapIdx, List.getElem?_set_ne (Ne.symm hj)]) (fun b e9 _ => rfl)
  rw [e1] at hP1 hD1
  exact h ρ H1 locs1 ls ha hP1 hD1 hS1 hl
theorem b_putI {index ci k a n : Nat} {T : u_T} {N : Nat} {Cn : String} {rs : List Nat} {x : Int32} {ty0 : Nat → FieldType} (hM : MOk C own cc nL ret R M) (hf : FLD own index ci k T N Cn) (hty : ∀ k, k < N → parseFieldDescriptor (T k).2.2.1 = some (ty0 k)) (hnm : ∀ a, a < N → ∀ b, b < N → a ≠ b → (T a).2.1 ≠ (T b).2.1) (hfin : (T k).2.2.2 = false) (hpd : parseFieldDescriptor (T k).2.2.1 = some .int)
    (hs : K[a]? = some (ci, n, rs)) (hk : rs[k]? = some 0) (hd : decode cc pc = .ok (.putfield index, 3)) (h : BW C ρ0 n0 n1 nL Z M cells slots (pc + 3) L st K (mup F a k x)) : BW C ρ0 n0 n1 nL Z M cells slots pc L (.int x :: .ref a :: st) K F := by
  obtain ⟨p, e, R', s, m, args, below, meth, c⟩ := M
  obtain ⟨rfl, hx, hb, hml, hown, hts, -, -, hK, -⟩ := hM
  intro ρ H locs ls ha hP hD hS hl
  have hat := wldB_at (aC := C.2.2.2.1) (ρ := ρ) (F := F) hs
  rw [bk_obj (fld_lt hf)] at hat
  have hkl : k < rs.length := (List.getElem?_eq_some_iff.mp hk).1
  refine va_put (D := C.2.2.2.2) (v := .int x) hx hb (gw_hts hts) (fun w hw => gw_filter (hf.2.2.2 w hw)) ty0 hty hnm hown hK hP hD hS a hat hf.1 k hf.2.1 (hts _ hf.2.2.1) (fun _ h9 => h9) hfin hpd rfl rfl (by rw [List.length_mapIdx]; exact hkl) hd (fun H1 locs1 hP1 hD1 hS1 => ?_)
  have e1 := wldB_set (aC := C.2.2.2.1) (ρ := ρ) (F := F) (F' := mup F a k x) (d' := (ci, n, rs)) (x := .inr (ci, (rs.mapIdx (fun i r => if r = 0 then Value.int (F a i) else if r = NUL then Value.null else Value.ref (ρ (r - 1)))).set k (.int x))) hs (by
    rw [bk_obj (fld_lt hf)]
    refine congrArg (fun z => Sum.inr (ci, z)) (List.ext_getElem? fun j => ?_)
    by_cases hj : j = k
    · subst hj
      rw [List.getElem?_set_self (by rw [List.length_mapIdx]; exact hkl), List.getElem?_mapIdx, hk]
      show some (Value.int (mup F a j x a j)) = _
      rw [mup_self]; simp [upd]
    · rw [List.getElem?_set_ne (Ne.symm hj), List.getElem?_mapIdx, List.getElem?_mapIdx]
      rw [mup_self]
      simp only [upd, if_neg hj]) (fun b e9 hne => bk_row (mup_ne hne) e9)
  have e2 : K.set a (ci, n, rs) = K := by
    refine List.ext_getElem? fun j => ?_
    by_cases hj : j = a
    · subst hj; rw [List.getElem?_set_self (List.getElem?_eq_some_iff.mp hs).1, hs]
    · rw [List.getElem?_set_ne (Ne.symm hj)]
  rw [e1, e2] at hP1 hD1
  exact h ρ H1 locs1 ls ha hP1 hD1 hS1 hl
theorem agr_up {ρ : Nat → Nat} {n q : Nat} : agr ρ (fun k => if k = n then q else ρ k) n (n + 1) := fun k hk => if_neg (by omega)
theorem agr_tr {ρ0 ρ ρ' : Nat → Nat} {n0 n1 lo hi : Nat} (h : agr ρ0 ρ n0 n1) (h2 : agr ρ ρ' lo hi) (h3 : n0 ≤ lo) (h4 : hi ≤ n1) : agr ρ0 ρ' n0 n1 := fun k hk => (h2 k (by omega)).trans (h k hk)
/-- what is behind a new cell -/
theorem b_grow {n : Nat} {d : DD} {K' : List DD} (hn : K.length = n) (hK' : K ++ [d] = K') (hKo : KOK n K) (hdo : ∀ r ∈ d.2.2, r ≤ n ∨ r = NUL) (h0 : n0 ≤ n) (h1 : n + 1 ≤ n1) (hN : n1 < NUL) (hL : rfL n (n + 1) L) (hst : rfS n (n + 1) st) {pc2 c2 s2 : Nat} (h : BW C ρ0 n0 n1 nL Z M c2 s2 pc2 L (.ref n :: st) K' F) :
    match M with
    | (p, e, R, s, m, args, below, meth, c) => ∀ (ρ : Nat → Nat) (locs : List Loc) (ls : Array Slot), agr ρ0 ρ n0 n1 → lvR ρ ls nL L → ∀ (q : Nat) (H1 : Heap), va_P C.2.2.2.2 vwCl (wldB C.2.2.2.1 ρ F K ++ [(q, bk_at C.2.2.2.1 ρ F n d)]) H1 → va_D (fun q => C.2.1 ≤ q) (wldB C.2.2.2.1 ρ F K ++ [(q, bk_at C.2.2.2.1 ρ F n d)]) → va_S (fun q => C.2.1 ≤ q) s.heap H1 locs →
      W p C.1 e R s m args below meth c H1 locs c2 s2 Z (F0 m pc2 ls (.ref q :: st.map (rv_ ρ))) := by
  subst hK'
  obtain ⟨p, e, R', s, m, args, below, meth, c⟩ := M
  intro ρ locs ls ha hl q H1 hP hD hS
  have hag : agr ρ (fun k => if k = n then q else ρ k) n (n + 1) := agr_up
  have e0 : wldB C.2.2.2.1 ρ F K ++ [(q, bk_at C.2.2.2.1 ρ F n d)] = wldB C.2.2.2.1 (fun k => if k = n then q else ρ k) F (K ++ [d]) := by
    rw [wldB_push hn, wldB_agr (by omega) hKo (by omega) hag, bk_agr (by omega) hag d hdo, if_pos rfl]
  rw [e0] at hP hD
  have h9 := h (fun k => if k = n then q else ρ k) H1 locs ls (agr_tr ha hag h0 h1) hP hD hS (lvR_agr hag hL hl)
  rw [List.map_cons, rfS_map hag hst] at h9
  have e1 : rv_ (fun k => if k = n then q else ρ k) (.ref n) = .ref q := by show Value.ref (if n = n then q else ρ n) = _; rw [if_pos rfl]
  rw [e1] at h9
  exact h9
theorem arr_same {s : State} {D : va_G} {aC : Nat → ClassId} {cA : ClassId} {ty : FieldType} {k i : Nat} (hK : va_K D vwCl (tys_ aC) s) (hk : (tys_ aC)[i]? = some (aC k, ty)) (h : va_RA s cA ty) (hn : ∀ C, ty ≠ .object C) : cA = aC k := by
  have h2 := (hK.2 i _ hk).2
  cases ty <;> first | exact absurd rfl (hn _) | exact Option.some.inj ((show s.vm.findClass _ = some _ from h).symm.trans (show s.vm.findClass _ = some _ from h2))
theorem b_newi {n N : Nat} {x : Int32} {K' : List DD} (hM : MOk C own cc nL ret R M) (hw : GW (.arrayClass .int)) (hn : K.length = n) (hK' : K ++ [(9, N, [])] = K') (hKo : KOK n K) (h0 : n0 ≤ n) (h1 : n + 1 ≤ n1) (hN : n1 < NUL) (hL : rfL n (n + 1) L) (hst : rfS n (n + 1) st) (hF : F n = fun _ => 0) (hx0 : ¬ x < 0) (hxN : x.toNatClampNeg = N) (hby : N * 4 ≤ 536870912) (hc : cells + 1 ≤ R.cells) (hs : slots + N ≤ R.slots) (hd : decode cc pc = .ok (.newarray .int, 2)) {c2 s2 : Nat} (ec : cells + 1 = c2) (es : slots + N = s2)
    (h : BW C ρ0 n0 n1 nL Z M c2 s2 (pc + 2) L (.ref n :: st) K' F) : BW C ρ0 n0 n1 nL Z M cells slots pc L (.int x :: st) K F := by
  subst ec; subst es
  have hg := b_grow hn hK' hKo (fun r hr => nomatch hr) h0 h1 hN hL hst h
  obtain ⟨p, e, R', s, m, args, below, meth, c⟩ := M
  obtain ⟨rfl, hx, hb, hml, hown, hts, -, -, hK, hba⟩ := hM
  intro ρ H locs ls ha hP hD hS hl
  refine va_newa (atype := .int) (ty := .int) (a0 := (N, .inl (fun _ => 0))) hx hb (hts _ hw) rfl hK hP hD hS (fun q h9 => Nat.le_trans hba.1 h9) (fun cA => rfl) hx0 hxN hby hc hs hd (fun q cA H1 hK1 hP1 hD1 hS1 => ?_)
  have eA : cA = C.2.2.2.1 9 := arr_same (i := 1) (k := 9) hK rfl ((hK1.2 5 (cA, .int) rfl).2) (fun _ h9 => nomatch h9)
  subst eA
  have e2 : bk_at C.2.2.2.1 ρ F n (9, N, []) = .inl (C.2.2.2.1 9, N, .inl (fun _ => 0)) := by show Sum.inl (_, N, Sum.inl (F n)) = _; rw [hF]
  rw [← e2] at hP1 hD1
  exact hg ρ locs ls ha hl q H1 hP1 hD1 hS1
theorem b_newc {n N : Nat} {x : Int32} {K' : List DD} (hM : MOk C own cc nL ret R M) (hw : GW (.arrayClass .char)) (hn : K.length = n) (hK' : K ++ [(8, N, [])] = K') (hKo : KOK n K) (h0 : n0 ≤ n) (h1 : n + 1 ≤ n1) (hN : n1 < NUL) (hL : rfL n (n + 1) L) (hst : rfS n (n + 1) st) (hF : F n = fun _ => 0) (hx0 : ¬ x < 0) (hxN : x.toNatClampNeg = N) (hby : N * 2 ≤ 536870912) (hc : cells + 1 ≤ R.cells) (hs : slots + N ≤ R.slots) (hd : decode cc pc = .ok (.newarray .char, 2)) {c2 s2 : Nat} (ec : cells + 1 = c2) (es : slots + N = s2)
    (h : BW C ρ0 n0 n1 nL Z M c2 s2 (pc + 2) L (.ref n :: st) K' F) : BW C ρ0 n0 n1 nL Z M cells slots pc L (.int x :: st) K F := by
  subst ec; subst es
  have hg := b_grow hn hK' hKo (fun r hr => nomatch hr) h0 h1 hN hL hst h
  obtain ⟨p, e, R', s, m, args, below, meth, c⟩ := M
  obtain ⟨rfl, hx, hb, hml, hown, hts, -, -, hK, hba⟩ := hM
  intro ρ H locs ls ha hP hD hS hl
  refine va_newa (atype := .char) (ty := .char) (a0 := (N, .inl (fun _ => 0))) hx hb (hts _ hw) rfl hK hP hD hS (fun q h9 => Nat.le_trans hba.1 h9) (fun cA => rfl) hx0 hxN hby hc hs hd (fun q cA H1 hK1 hP1 hD1 hS1 => ?_)
  have eA : cA = C.2.2.2.1 8 := arr_same (i := 0) (k := 8) hK rfl ((hK1.2 5 (cA, .char) rfl).2) (fun _ h9 => nomatch h9)
  subst eA
  have e2 : bk_at C.2.2.2.1 ρ F n (8, N, []) = .inl (C.2.2.2.1 8, N, .inl (fun _ => 0)) := by show Sum.inl (_, N, Sum.inl (F n)) = _; rw [hF]
  rw [← e2] at hP1 hD1
  exact hg ρ locs ls ha hl q H1 hP1 hD1 hS1
theorem b_newz {n N : Nat} {x : Int32} {K' : List DD} (hM : MOk C own cc nL ret R M) (hw : GW (.arrayClass .boolean)) (hn : K.length = n) (hK' : K ++ [(10, N, [])] = K') (hKo : KOK n K) (h0 : n0 ≤ n) (h1 : n + 1 ≤ n1) (hN : n1 < NUL) (hL : rfL n (n + 1) L) (hst : rfS n (n + 1) st) (hF : F n = fun _ => 0) (hx0 : ¬ x < 0) (hxN : x.toNatClampNeg = N) (hby : N * 1 ≤ 536870912) (hc : cells + 1 ≤ R.cells) (hs : slots + N ≤ R.slots) (hd : decode cc pc = .ok (.newarray .boolean, 2)) {c2 s2 : Nat} (ec : cells + 1 = c2) (es : slots + N = s2)
    (h : BW C ρ0 n0 n1 nL Z M c2 s2 (pc + 2) L (.ref n :: st) K' F) : BW C ρ0 n0 n1 nL Z M cells slots pc L (.int x :: st) K F := by
  subst ec; subst es
  have hg := b_grow hn hK' hKo (fun r hr => nomatch hr) h0 h1 hN hL hst h
  obtain ⟨p, e, R', s, m, args, below, meth, c⟩ := M
  obtain ⟨rfl, hx, hb, hml, hown, hts, -, -, hK, hba⟩ := hM
  intro ρ H locs ls ha hP hD hS hl
  refine va_newa (atype := .boolean) (ty := .boolean) (a0 := (N, .inl (fun _ => 0))) hx hb (hts _ hw) rfl hK hP hD hS (fun q h9 => Nat.le_trans hba.1 h9) (fun cA => rfl) hx0 hxN hby hc hs hd (fun q cA H1 hK1 hP1 hD1 hS1 => ?_)
  have eA : cA = C.2.2.2.1 10 := arr_same (i := 2) (k := 10) hK rfl ((hK1.2 5 (cA, .boolean) rfl).2) (fun _ h9 => nomatch h9)
  subst eA
  have e2 : bk_at C.2.2.2.1 ρ F n (10, N, []) = .inl (C.2.2.2.1 10, N, .inl (fun _ => 0)) := by show Sum.inl (_, N, Sum.inl (F n)) = _; rw [hF]
  rw [← e2] at hP1 hD1
  exact hg ρ locs ls ha hl q H1 hP1 hD1 hS1
theorem b_newl {n N : Nat} {x : Int32} {K' : List DD} (hM : MOk C own cc nL ret R M) (hw : GW (.arrayClass .long)) (hn : K.length = n) (hK' : K ++ [(12, N, [])] = K') (hKo : KOK n K) (h0 : n0 ≤ n) (h1 : n + 1 ≤ n1) (hN : n1 < NUL) (hL : rfL n (n + 1) L) (hst : rfS n (n + 1) st) (hx0 : ¬ x < 0) (hxN : x.toNatClampNeg = N) (hby : N * 8 ≤ 536870912) (hc : cells + 1 ≤ R.cells) (hs : slots + N ≤ R.slots) (hd : decode cc pc = .ok (.newarray .long, 2)) {c2 s2 : Nat} (ec : cells + 1 = c2) (es : slots + N = s2)
    (h : BW C ρ0 n0 n1 nL Z M c2 s2 (pc + 2) L (.ref n :: st) K' F) : BW C ρ0 n0 n1 nL Z M cells slots pc L (.int x :: st) K F := by
  subst ec; subst es
  have hg := b_grow hn hK' hKo (fun r hr => nomatch hr) h0 h1 hN hL hst h
  obtain ⟨p, e, R', s, m, args, below, meth, c⟩ := M
  obtain ⟨rfl, hx, hb, hml, hown, hts, -, -, hK, hba⟩ := hM
  intro ρ H locs ls ha hP hD hS hl
  refine va_newa (atype := .long) (ty := .long) (a0 := (N, .inr (.inl (fun _ => 0)))) hx hb (hts _ hw) rfl hK hP hD hS (fun q h9 => Nat.le_trans hba.1 h9) (fun cA => rfl) hx0 hxN hby hc hs hd (fun q cA H1 hK1 hP1 hD1 hS1 => ?_)
  have eA : cA = C.2.2.2.1 12 := arr_same (i := 4) (k := 12) hK rfl ((hK1.2 5 (cA, .long) rfl).2) (fun _ h9 => nomatch h9)
  subst eA
  exact hg ρ locs ls ha hl q H1 hP1 hD1 hS1
theorem b_newq {n N index : Nat} {x : Int32} {K' : List DD} (hM : MOk C own cc nL ret R M) (hB : MBx M) (hw : GW (.classLink own index RX5)) (hn : K.length = n) (hK' : K ++ [(11, N, [])] = K') (hKo : KOK n K) (h0 : n0 ≤ n) (h1 : n + 1 ≤ n1) (hN : n1 < NUL) (hL : rfL n (n + 1) L) (hst : rfS n (n + 1) st) (hx0 : ¬ x < 0) (hxN : x.toNatClampNeg = N) (hby : N * 4 ≤ 536870912) (hc : cells + 1 ≤ R.cells) (hs : slots + N ≤ R.slots) (hd : decode cc pc = .ok (.anewarray index, 3)) {c2 s2 : Nat} (ec : cells + 1 = c2) (es : slots + N = s2)
    (h : BW C ρ0 n0 n1 nL Z M c2 s2 (pc + 3) L (.ref n :: st) K' F) : BW C ρ0 n0 n1 nL Z M cells slots pc L (.int x :: st) K F := by
  subst ec; subst es
  have hg := b_grow hn hK' hKo (fun r hr => nomatch hr) h0 h1 hN hL hst h
  obtain ⟨p, e, R', s, m, args, below, meth, c⟩ := M
  obtain ⟨rfl, hx, hb, hml, hown, hts, -, -, hK, hba⟩ := hM
  intro ρ H locs ls ha hP hD hS hl
  refine va_newq hx hb hown (hts _ hw) hB.1 hK hP hD hS (fun q h9 => Nat.le_trans hba.1 h9) hx0 hxN hby hc hs hd (fun q cA H1 hK1 hP1 hD1 hS1 => ?_)
  have eA : cA = C.2.2.2.1 11 := by
    obtain ⟨kA, comp, -, -, -, g4⟩ := (hK1.2 5 (cA, .object RX5) rfl).2
    obtain ⟨kA2, comp2, -, -, -, g5⟩ := (hK.2 3 (C.2.2.2.1 11, .object RX5) rfl).2
    exact Option.some.inj (g4.symm.trans g5)
  subst eA
  have e2 : bk_at C.2.2.2.1 ρ F n (11, N, []) = .inl (C.2.2.2.1 11, N, .inr (.inr (.inr (.inr (fun _ => none))))) := rfl
  rw [← e2] at hP1 hD1
  exact hg ρ locs ls ha hl q H1 hP1 hD1 hS1
theorem b_new {n index ci N : Nat} {T : u_T} {Cn : String} {rs : List Nat} {ty : Nat → FieldType} {K' : List DD} (hM : MOk C own cc nL ret R M) (hc9 : vwCl[ci]? = some (Cn, T, N)) (hu : ∀ w ∈ u_ws Cn T N, GW w) (hty : ∀ k, k < N → parseFieldDescriptor (T k).2.2.1 = some (ty k)) (w1 : GW (.classLink own index Cn)) (w2 : GW (.instantiable Cn N)) (w3 : GW (.initialized Cn)) (hrs : ∀ j, j < N → defaultValue (ty j) = vp_V (rs.map (fun r => if r = 0 then Value.int 0 else Value.null)) j) (hr9 : rs.all (fun r => decide (r = 0) || decide (r = NUL)) = true)
    (hn : K.length = n) (hK' : K ++ [(ci, 0, rs)] = K') (hKo : KOK n K) (h0 : n0 ≤ n) (h1 : n + 1 ≤ n1) (hN : n1 < NUL) (hL : rfL n (n + 1) L) (hst : rfS n (n + 1) st) (hF : F n = fun _ => 0) (hc : cells + 1 ≤ R.cells) (hs : slots + N ≤ R.slots) (hd : decode cc pc = .ok (.new index, 3)) {c2 s2 : Nat} (ec : cells + 1 = c2) (es : slots + N = s2)
    (h : BW C ρ0 n0 n1 nL Z M c2 s2 (pc + 3) L (.ref n :: st) K' F) : BW C ρ0 n0 n1 nL Z M cells slots pc L st K F := by
  subst ec; subst es
  have hall : ∀ r ∈ rs, r = 0 ∨ r = NUL := fun r hr => by simpa only [Bool.or_eq_true, decide_eq_true_eq] using List.all_eq_true.mp hr9 r hr
  have hg := b_grow hn hK' hKo (d := (ci, 0, rs)) (fun r hr => (hall r hr).imp (fun e => by omega) id) h0 h1 hN hL hst h
  obtain ⟨p, e, R', s, m, args, below, meth, c⟩ := M
  obtain ⟨rfl, hx, hb, hml, hown, hts, -, -, hK, hba⟩ := hM
  intro ρ H locs ls ha hP hD hS hl
  refine va_new (ci := ci) (fs := rs.map (fun r => if r = 0 then Value.int 0 else Value.null)) hx hb (gw_hts hts) (fun w hw => gw_filter (hu w hw)) ty hty hown (hts _ w1) (hts _ w2) (hts _ w3) hK hP hD hS (fun q h9 => Nat.le_trans hba.1 h9) hc9 hrs hc hs hd (fun q H1 hP1 hD1 hS1 => ?_)
  have e2 : bk_at C.2.2.2.1 ρ F n (ci, 0, rs) = .inr (ci, rs.map (fun r => if r = 0 then Value.int 0 else Value.null)) := by
    rw [bk_obj (List.getElem?_eq_some_iff.mp hc9).1]
    refine congrArg (fun z => Sum.inr (ci, z)) (List.ext_getElem? fun j => ?_)
    rw [List.getElem?_mapIdx, List.getElem?_map]
    cases hj : rs[j]? with
    | none => rfl
    | some r =>
      rcases hall r (List.mem_of_getElem? hj) with e9 | e9
      · subst e9; show some (Value.int (F n j)) = some (Value.int 0); rw [hF]
      · subst e9; rfl
  rw [← e2] at hP1 hD1
  exact hg ρ locs ls ha hl q H1 hP1 hD1 hS1
theorem b_ast {a n v n2 : Nat} {rs rs2 : List Nat} {i : Int32} {K' : List DD} (hM : MOk C own cc nL ret R M) (hs : K[a]? = some (11, n, rs)) (hv : K[v]? = some (3, n2, rs2)) (hi : inb i n = true) (hl9 : rs.length = ix i) (hK' : K.set a (11, n, rs ++ [v + 1]) = K') (hd : decode cc pc = .ok (.aastore, 1)) (h : BW C ρ0 n0 n1 nL Z M cells slots (pc + 1) L st K' F) : BW C ρ0 n0 n1 nL Z M cells slots pc L (.ref v :: .int i :: .ref a :: st) K F := by
  subst hK'
  obtain ⟨p, e, R', s, m, args, below, meth, c⟩ := M
  obtain ⟨rfl, hx, hb, hml, hown, hts, -, -, hK, hba⟩ := hM
  intro ρ H locs ls ha hP hD hS hl
  refine va_astq hx hb hK hP hD hS a 3 v 3 (wldB_at hs) (r := (RX5, TX5, 10)) rfl (wldB_at hv) rfl (inb_in hi) hd (fun H1 locs1 hP1 hD1 hS1 => ?_)
  have e1 := wldB_set (aC := C.2.2.2.1) (ρ := ρ) (F := F) (F' := F) (d' := (11, n, rs ++ [v + 1])) (x := .inl (C.2.2.2.1 11, n, .inr (.inr (.inr (.inr (va_up (fun j => (rs[j]?).map (fun r => if r = 0 then 0 else ρ (r - 1))) (ix i) (some (ρ v)))))))) hs (by
    show Sum.inl (_, n, Sum.inr (Sum.inr (Sum.inr (Sum.inr (fun j => ((rs ++ [v + 1])[j]?).map (fun r => if r = 0 then 0 else ρ (r - 1))))))) = _
    refine congrArg (fun z => Sum.inl (C.2.2.2.1 11, n, Sum.inr (Sum.inr (Sum.inr (Sum.inr z))))) (funext fun j => ?_)
    unfold va_up
    by_cases hj : j = ix i
    · rw [if_pos hj, hj, ← hl9, List.getElem?_append_right (Nat.le_refl _), Nat.sub_self]
      show some (if v + 1 = 0 then 0 else ρ (v + 1 - 1)) = _
      rw [if_neg (by omega)]; rfl
    · rw [if_neg hj]
      by_cases h2 : j < rs.length
      · rw [List.getElem?_append_left h2]
      · rw [List.getElem?_eq_none (by rw [List.length_append]; show rs.length + 1 ≤ j; omega)]; show none = (rs[j]?).map _; rw [List.getElem?_eq_none (by omega)]; rfl) (fun b e9 _ => rfl)
  rw [e1] at hP1 hD1
  exact h ρ H1 locs1 ls ha hP1 hD1 hS1 hl
/-- behind a constructor's call -/
theorem b_ofRun {mc ms k : Nat} {a : Array Value} {K' : List DD} {F' : MM} {st0 : List Value} {ρ : Nat → Nat} {c2 s2 : Nat}
    (p : Program) (e : Env) (s : State) (m : MethodId) (args : Array Value) (below : List Frame) (meth : Method) (c : Code) (H : Heap) (locs : List Loc) (ls : Array Slot) (ha : agr ρ0 ρ n0 n1) (hS : va_S (fun q => C.2.1 ≤ q) s.heap H locs) (hl : lvR ρ ls nL L) (hn : K'.length = k) (h0 : n0 ≤ K.length) (h1 : k ≤ n1) (hL : rfL K.length k L) (hst : rfS K.length k st)
    (hr : va_Run p C.1 e R s m args below meth c H locs cells slots mc ms (F0 m pc ls st0) (st.map (rv_ ρ)) (QcB C ρ K.length K' F' a) (fun q => C.2.1 ≤ q)) (ec : cells + mc = c2) (es : slots + ms = s2)
    (h : BW C ρ0 n0 n1 nL Z (p, e, R, s, m, args, below, meth, c) c2 s2 (pc + 3) L st K' F') : W p C.1 e R s m args below meth c H locs cells slots Z (F0 m pc ls st0) := by
  subst ec; subst es; subst hn
  intro T hT X
  obtain ⟨v, st₀, t, T', L1, h9, X', hL1, e1, e2, ⟨ρ', hv, hag, hP', hD', hF⟩, stp⟩ := hr T hT X
  obtain ⟨k1, k2, k3⟩ := vx_keep h9 e1 hS (A1 := fun q => C.2.1 ≤ q) (fun q _ h => h) (fun q h => h) hL1 hF
  cases hv
  obtain ⟨t2, a1, b1⟩ := h ρ' T'.heap (locs ++ L1) ls (agr_tr ha hag h0 h1) (by rw [e1]; exact hP') hD' k3 (lvR_agr hag hL hl) T' rfl X'
  rw [rfS_map hag hst] at a1
  exact ⟨t2, stp t2 a1, b1⟩
theorem bm_blind {ρ : Nat → Nat} {av : List Value} : FrameBlind (va_Pc (av.map (rv_ ρ)) (fun U => XK C U ∧ XBx U ∧ va_P C.2.2.2.2 vwCl (wldB C.2.2.2.1 ρ F K) U.heap ∧ va_D (fun q => C.2.1 ≤ q) (wldB C.2.2.2.1 ρ F K))) := by
  intro a U g mk h
  obtain ⟨h1, h2, h3, h4⟩ := h
  exact ⟨h1, XK.moved (U := U.calling g mk a) (H := U.heap) (locs := []) h2 va_S.rf rfl (State.WarmedH.refl U), XBx.moved (U := U.calling g mk a) h3 (State.WarmedH.refl U), h4⟩
theorem b_callI {index b n k : Nat} {y : MethodName} {bytes : ByteArray} {maxL : Nat} {rm : Room} {As st0 : List Value} {K' : List DD} {F' : MM} {c2 s2 : Nat} (hM : MOk C own cc nL ret R M) (hB : MBx M) (hA : BM C y bytes maxL rm (.ref b :: As) K K' F F') (w1 : GW (.methodLink own index y)) (w2 : GW (.instanceMethod y)) (w3 : GW (.initialized y.cls)) (w4 : GW (.code y bytes maxL none)) (hy : y.name = "<init>") (hy2 : y.cls ≠ "java/lang/invoke/MethodHandle" ∧ y.cls ≠ "java/lang/invoke/VarHandle")
    (hn : (parseMethodDescriptor y.desc).map (fun d => d.parameters.length) = some n) (hAs : As.length = n) (hst0 : As.reverse ++ .ref b :: st = st0) (hk : K'.length = k) (h0 : n0 ≤ K.length) (h1 : k ≤ n1) (hL : rfL K.length k L) (hst : rfS K.length k st) (hR : rm.frames + 1 ≤ R.frames ∧ 8 + (maxL + 11) + rm.locals ≤ R.locals) (hw : (st.map fun v => v.category).sum ≤ 8) (hf : cells + rm.cells ≤ R.cells ∧ slots + rm.slots ≤ R.slots) (hd : decode cc pc = .ok (.invokespecial index, 3)) (ec : cells + rm.cells = c2) (es : slots + rm.slots = s2)
    (h : BW C ρ0 n0 n1 nL Z M c2 s2 (pc + 3) L st K' F') : BW C ρ0 n0 n1 nL Z M cells slots pc L st0 K F := by
  subst hst0
  obtain ⟨p, e, R', s, m, args, below, meth, c⟩ := M
  obtain ⟨rfl, hx, hb, hml, hown, hts, hr9, hlk, hK⟩ := hM
  have hlen : ∀ sig, parseMethodDescriptor y.desc = some sig → n = sig.parameters.length := fun sig h => by
    rw [h] at hn; exact (Option.some.inj hn).symm
  intro ρ H locs ls ha hP hD hS hl
  refine b_ofRun (K := K) (mc := rm.cells) (ms := rm.slots) (a := (Value.ref (ρ b) :: As.map (rv_ ρ)).toArray) p e s m args below meth c H locs ls ha hS hl hk h0 h1 hL hst ?_ ec es h
  refine va_runI (Ts := lw_tbl.filter goodWord) (As := As.map (rv_ ρ)) (b := ρ b) (rest := st.map (rv_ ρ)) ⟨hx, hb, hml, hown, gw_hts hts⟩ (hA ρ)
    ⟨⟨rfl, rfl, hR.1, hR.2, wsO_ok hts w4, List.mem_cons_self, hts _ w4, hts _ w3, hy2, hlen, hts _ w1⟩, hy, hts _ w2⟩
    ⟨bm_blind, fun U hU hW => ⟨rfl, hK.moved hS hU hW, XBx.moved hB hW, by rw [hU]; exact hP, hD⟩⟩ rfl (by rw [List.length_map]; exact hAs) hl.1 ?_ (lv_room (by rw [cat_map]; exact hw)) hd hf
  show ((As.reverse ++ Value.ref b :: st).map (rv_ ρ)) = _
  rw [List.map_append, List.map_reverse]
  rfl
theorem b_callN {index b n k : Nat} {host : String} {y : MethodName} {bytes : ByteArray} {maxL : Nat} {rm : Room} {As st0 : List Value} {K' : List DD} {F' : MM} {c2 s2 : Nat} (hM : MOk C own cc nL ret R M) (hB : MBx M) (hA : BM C y bytes maxL rm (.ref b :: As) K K' F F') (w1 : ∀ s, XBx s → va_Nw (.methodLinkNest own index y host) s) (w2 : GW (.instanceMethod y)) (w3 : GW (.initialized y.cls)) (w4 : GW (.code y bytes maxL none)) (hy : y.name = "<init>") (hy2 : y.cls ≠ "java/lang/invoke/MethodHandle" ∧ y.cls ≠ "java/lang/invoke/VarHandle")
    (hn : (parseMethodDescriptor y.desc).map (fun d => d.parameters.length) = some n) (hAs : As.length = n) (hst0 : As.reverse ++ .ref b :: st = st0) (hk : K'.length = k) (h0 : n0 ≤ K.length) (h1 : k ≤ n1) (hL : rfL K.length k L) (hst : rfS K.length k st) (hR : rm.frames + 1 ≤ R.frames ∧ 8 + (maxL + 11) + rm.locals ≤ R.locals) (hw : (st.map fun v => v.category).sum ≤ 8) (hf : cells + rm.cells ≤ R.cells ∧ slots + rm.slots ≤ R.slots) (hd : decode cc pc = .ok (.invokespecial index, 3)) (ec : cells + rm.cells = c2) (es : slots + rm.slots = s2)
    (h : BW C ρ0 n0 n1 nL Z M c2 s2 (pc + 3) L st K' F') : BW C ρ0 n0 n1 nL Z M cells slots pc L st0 K F := by
  subst hst0
  obtain ⟨p, e, R', s, m, args, below, meth, c⟩ := M
  obtain ⟨rfl, hx, hb, hml, hown, hts, hr9, hlk, hK⟩ := hM
  have hlen : ∀ sig, parseMethodDescriptor y.desc = some sig → n = sig.parameters.length := fun sig h => by
    rw [h] at hn; exact (Option.some.inj hn).symm
  intro ρ H locs ls ha hP hD hS hl
  refine b_ofRun (K := K) (mc := rm.cells) (ms := rm.slots) (a := (Value.ref (ρ b) :: As.map (rv_ ρ)).toArray) p e s m args below meth c H locs ls ha hS hl hk h0 h1 hL hst ?_ ec es h
  refine va_runIN (Ts := lw_tbl.filter goodWord) (host := host) (As := As.map (rv_ ρ)) (b := ρ b) (rest := st.map (rv_ ρ)) ⟨hx, hb, hml, hown, gw_hts hts⟩ (hA ρ)
    ⟨⟨⟨rfl, rfl, hR.1, hR.2, wsO_ok hts w4, List.mem_cons_self⟩, hts _ w4, hts _ w3, hy2, hlen, va_Nw.use rfl (w1 s hB)⟩, hy, hts _ w2⟩
    ⟨bm_blind, fun U hU hW => ⟨rfl, hK.moved hS hU hW, XBx.moved hB hW, by rw [hU]; exact hP, hD⟩⟩ rfl (by rw [List.length_map]; exact hAs) hl.1 ?_ (lv_room (by rw [cat_map]; exact hw)) hd hf
  show ((As.reverse ++ Value.ref b :: st).map (rv_ ρ)) = _
  rw [List.map_append, List.map_reverse]
  rfl
end BWL
