/-! ===== helpers of the printed rows ===== -/
def alen (r : Nat) : Nat := match sk_list[r]? with
  | some (_, n, _) => n
  | none => 0
def isIA (r : Nat) : Prop := sk_list[r]? = some (9, alen r, [])
def isSt (a : Nat) : Prop := sk_list[a]? = some (3, 0, [8 + 1, (a + 1) + 1, (a + 2) + 1, (a + 3) + 1, (a + 4) + 1, (a + 5) + 1, (a + 6) + 1, (a + 7) + 1, 0, 0]) ∧ sk_list[a + 1]? = some (9, 5, []) ∧ sk_list[a + 2]? = some (9, 5, []) ∧ sk_list[a + 3]? = some (9, 5, []) ∧ sk_list[a + 4]? = some (9, 5, []) ∧ sk_list[a + 5]? = some (9, 5, []) ∧ sk_list[a + 6]? = some (9, 6, []) ∧ sk_list[a + 7]? = some (9, 24, [])
theorem st_ob {a : Nat} (h : isSt a) : sk_list[a]? = some (3, 0, [8 + 1, (a + 1) + 1, (a + 2) + 1, (a + 3) + 1, (a + 4) + 1, (a + 5) + 1, (a + 6) + 1, (a + 7) + 1, 0, 0]) := h.1
theorem st_a1 {a : Nat} (h : isSt a) : sk_list[a + 1]? = some (9, 5, []) := h.2.1
theorem st_a2 {a : Nat} (h : isSt a) : sk_list[a + 2]? = some (9, 5, []) := h.2.2.1
theorem st_a3 {a : Nat} (h : isSt a) : sk_list[a + 3]? = some (9, 5, []) := h.2.2.2.1
theorem st_a4 {a : Nat} (h : isSt a) : sk_list[a + 4]? = some (9, 5, []) := h.2.2.2.2.1
theorem st_a5 {a : Nat} (h : isSt a) : sk_list[a + 5]? = some (9, 5, []) := h.2.2.2.2.2.1
theorem st_a6 {a : Nat} (h : isSt a) : sk_list[a + 6]? = some (9, 6, []) := h.2.2.2.2.2.2.1
theorem st_a7 {a : Nat} (h : isSt a) : sk_list[a + 7]? = some (9, 24, []) := h.2.2.2.2.2.2.2
theorem ia_of {r n : Nat} (h : sk_list[r]? = some (9, n, [])) : isIA r := by
  have e : alen r = n := by unfold alen; rw [h]
  unfold isIA
  rw [e]; exact h
theorem al_of {r n k : Nat} {l : List Nat} (h : sk_list[r]? = some (k, n, l)) : alen r = n := by unfold alen; rw [h]
theorem is_16 : isSt 16 := ⟨rfl, rfl, rfl, rfl, rfl, rfl, rfl, rfl⟩
theorem is_24 : isSt 24 := ⟨rfl, rfl, rfl, rfl, rfl, rfl, rfl, rfl⟩
theorem is_148 : isSt 148 := ⟨rfl, rfl, rfl, rfl, rfl, rfl, rfl, rfl⟩
theorem is_156 : isSt 156 := ⟨rfl, rfl, rfl, rfl, rfl, rfl, rfl, rfl⟩
theorem is_34 : isSt 34 := ⟨rfl, rfl, rfl, rfl, rfl, rfl, rfl, rfl⟩
theorem is_42 : isSt 42 := ⟨rfl, rfl, rfl, rfl, rfl, rfl, rfl, rfl⟩
theorem is_50 : isSt 50 := ⟨rfl, rfl, rfl, rfl, rfl, rfl, rfl, rfl⟩
theorem is_58 : isSt 58 := ⟨rfl, rfl, rfl, rfl, rfl, rfl, rfl, rfl⟩
theorem is_66 : isSt 66 := ⟨rfl, rfl, rfl, rfl, rfl, rfl, rfl, rfl⟩
theorem is_74 : isSt 74 := ⟨rfl, rfl, rfl, rfl, rfl, rfl, rfl, rfl⟩
theorem is_82 : isSt 82 := ⟨rfl, rfl, rfl, rfl, rfl, rfl, rfl, rfl⟩
theorem is_90 : isSt 90 := ⟨rfl, rfl, rfl, rfl, rfl, rfl, rfl, rfl⟩
theorem is_98 : isSt 98 := ⟨rfl, rfl, rfl, rfl, rfl, rfl, rfl, rfl⟩
theorem is_106 : isSt 106 := ⟨rfl, rfl, rfl, rfl, rfl, rfl, rfl, rfl⟩
theorem is_114 : isSt 114 := ⟨rfl, rfl, rfl, rfl, rfl, rfl, rfl, rfl⟩
theorem is_122 : isSt 122 := ⟨rfl, rfl, rfl, rfl, rfl, rfl, rfl, rfl⟩
theorem is_130 : isSt 130 := ⟨rfl, rfl, rfl, rfl, rfl, rfl, rfl, rfl⟩
theorem is_138 : isSt 138 := ⟨rfl, rfl, rfl, rfl, rfl, rfl, rfl, rfl⟩
theorem is_memN : ∀ j, j < 14 → isSt (34 + 8 * j)
  | 0, _ => is_34
  | 1, _ => is_42
  | 2, _ => is_50
  | 3, _ => is_58
  | 4, _ => is_66
  | 5, _ => is_74
  | 6, _ => is_82
  | 7, _ => is_90
  | 8, _ => is_98
  | 9, _ => is_106
  | 10, _ => is_114
  | 11, _ => is_122
  | 12, _ => is_130
  | 13, _ => is_138
theorem is_sltN : ∀ j, j < 2 → isSt (148 + 8 * j)
  | 0, _ => is_148
  | 1, _ => is_156
theorem inb_lt {i : Int32} {n : Nat} (h : inb i n = true) : ix i < n := by
  simp only [inb, Bool.and_eq_true, decide_eq_true_eq] at h
  exact h.2
theorem is_mem {i : Int32} (h : inb i 14 = true) : isSt (34 + 8 * ix i) := is_memN _ (inb_lt h)
theorem is_slt {i : Int32} (h : inb i 2 = true) : isSt (148 + 8 * ix i) := is_sltN _ (inb_lt h)
theorem rs_memN : ∀ j, j < 14 → ([34, 42, 50, 58, 66, 74, 82, 90, 98, 106, 114, 122, 130, 138] : List Nat)[j]? = some (34 + 8 * j) := by decide
theorem rs_sltN : ∀ j, j < 2 → ([148, 156] : List Nat)[j]? = some (148 + 8 * j) := by decide
theorem rs_mem {i : Int32} (h : inb i 14 = true) : ([34, 42, 50, 58, 66, 74, 82, 90, 98, 106, 114, 122, 130, 138] : List Nat)[ix i]? = some (34 + 8 * ix i) := rs_memN _ (inb_lt h)
theorem rs_slt {i : Int32} (h : inb i 2 = true) : ([148, 156] : List Nat)[ix i]? = some (148 + 8 * ix i) := rs_sltN _ (inb_lt h)
/-- the most rounds of a loop -/
def fu_ : Nat := 5000
def cpok (sp dp n : Int32) (n0 n1 : Nat) : Bool := !(decide (sp < 0)) && (!(decide (dp < 0)) && (!(decide (n < 0)) && (decide (ix sp + ix n ≤ n0) && decide (ix dp + ix n ≤ n1))))
theorem cpok_of {sp dp n : Int32} {n0 n1 : Nat} (h : cpok sp dp n n0 n1 = true) : ¬ sp < 0 ∧ ¬ dp < 0 ∧ ¬ n < 0 ∧ ix sp + ix n ≤ n0 ∧ ix dp + ix n ≤ n1 := by
  simp only [cpok, Bool.and_eq_true, Bool.not_eq_true', decide_eq_false_iff_not, decide_eq_true_eq] at h
  exact h
theorem bit_01 (v : Int32) (h : v &&& 1 = v) : v = 0 ∨ v = 1 := by
  have h1 := pk_and v (m := 1) 1 (by decide)
  rw [h] at h1
  have h2 : v.toBitVec.toNat % 2 ^ 1 < 2 := Nat.mod_lt _ (by decide)
  generalize v.toBitVec.toNat % 2 ^ 1 = k at h1 h2
  match k, h2 with
  | 0, _ => exact Or.inl h1
  | 1, _ => exact Or.inr h1
theorem nz_ {v : Int32} (h : v &&& 1 = v) : narrow .boolean (.int v) = .int v := by show Value.int (v &&& 1) = _; rw [h]
theorem fz_ {v : Int32} (h : v &&& 1 = v) : fits .boolean (.int v) = true := by
  rcases bit_01 v h with rfl | rfl <;> rfl
theorem ts_ne {x k' : Int32} {k : Int} (h : ¬ x = k') (hk : k'.toInt = k) : x.toInt ≠ k := fun z => h (Int32.toInt_inj.mp (z.trans hk.symm))
def tbR {α β : Type} (x : Option (α ⊕ String)) (f : α → Option (β ⊕ String)) : Option (β ⊕ String) := match x with
  | none => none
  | some (.inl a) => f a
  | some (.inr E) => some (.inr E)
def tbW {α β : Type} (F : MM) (x : Option (α ⊕ String)) (f : α → Option ((β ⊕ String) × MM)) : Option ((β ⊕ String) × MM) := match x with
  | none => none
  | some (.inl a) => f a
  | some (.inr E) => some (.inr E, F)
theorem tbR_some {α β : Type} {x : Option (α ⊕ String)} {f : α → Option (β ⊕ String)} {r : β ⊕ String} (h : tbR x f = some r) : (∃ a, x = some (.inl a) ∧ f a = some r) ∨ (∃ E, x = some (.inr E) ∧ r = .inr E) := by
  match x, h with
  | some (.inl a), h => exact Or.inl ⟨a, rfl, h⟩
  | some (.inr E), h => exact Or.inr ⟨E, rfl, (Option.some.inj h).symm⟩
theorem tbW_some {α β : Type} {F : MM} {x : Option (α ⊕ String)} {f : α → Option ((β ⊕ String) × MM)} {r : (β ⊕ String) × MM} (h : tbW F x f = some r) : (∃ a, x = some (.inl a) ∧ f a = some r) ∨ (∃ E, x = some (.inr E) ∧ r = (.inr E, F)) := by
  match x, h with
  | some (.inl a), h => exact Or.inl ⟨a, rfl, h⟩
  | some (.inr E), h => exact Or.inr ⟨E, rfl, (Option.some.inj h).symm⟩
def oU : Unit ⊕ String → OUT
  | .inl _ => .inl none
  | .inr E => .inr E
def oI : Int32 ⊕ String → OUT
  | .inl v => .inl (some (.int v))
  | .inr E => .inr E
def lv_msk : List Bool → List (Option Value) → List (Option Value)
  | [], _ => []
  | _, [] => []
  | true :: m, o :: L => o :: lv_msk m L
  | false :: m, _ :: L => none :: lv_msk m L
theorem lv_msk_at : ∀ (m : List Bool) (L : List (Option Value)) (i : Nat) (v : Value), (lv_msk m L)[i]? = some (some v) → L[i]? = some (some v)
  | [], L, i, v, h => by simp [lv_msk] at h
  | b :: m, [], i, v, h => by cases b <;> simp [lv_msk] at h
  | true :: m, o :: L, 0, v, h => h
  | true :: m, o :: L, i + 1, v, h => lv_msk_at m L i v h
  | false :: m, o :: L, 0, v, h => by simp [lv_msk] at h
  | false :: m, o :: L, i + 1, v, h => lv_msk_at m L i v h
theorem lw_of (m : List Bool) {L L' : List (Option Value)} (h : lv_msk m L = L') : ∀ (i : Nat) (v : Value), L'[i]? = some (some v) → L[i]? = some (some v) := by
  subst h
  exact lv_msk_at m L
theorem gm_0 (i : Nat) {w : Cond} (h : (k2_sels lw_privs)[i]? = some w) (g : goodWord w = true) : GW w := ⟨List.mem_append_left _ (List.mem_of_getElem? h), g⟩
theorem gm_1 (i : Nat) {w : Cond} (h : tables_1_1[i]? = some w) (g : goodWord w = true) : GW w := ⟨List.mem_append_right _ (List.mem_append_left _ (List.mem_of_getElem? h)), g⟩
theorem gm_2 (i : Nat) {w : Cond} (h : tables_1_2[i]? = some w) (g : goodWord w = true) : GW w := ⟨List.mem_append_right _ (List.mem_append_right _ (List.mem_append_left _ (List.mem_of_getElem? h))), g⟩
theorem gm_3 (i : Nat) {w : Cond} (h : tables_1_3[i]? = some w) (g : goodWord w = true) : GW w := ⟨List.mem_append_right _ (List.mem_append_right _ (List.mem_append_right _ (List.mem_append_left _ (List.mem_of_getElem? h)))), g⟩
theorem gm_4 (i : Nat) {w : Cond} (h : tables_1_4[i]? = some w) (g : goodWord w = true) : GW w := ⟨List.mem_append_right _ (List.mem_append_right _ (List.mem_append_right _ (List.mem_append_right _ (List.mem_append_left _ (List.mem_of_getElem? h))))), g⟩
theorem gm_5 (i : Nat) {w : Cond} (h : tables_1_5[i]? = some w) (g : goodWord w = true) : GW w := ⟨List.mem_append_right _ (List.mem_append_right _ (List.mem_append_right _ (List.mem_append_right _ (List.mem_append_right _ (List.mem_append_left _ (List.mem_of_getElem? h)))))), g⟩
theorem gm_6 (i : Nat) {w : Cond} (h : tables_1_6[i]? = some w) (g : goodWord w = true) : GW w := ⟨List.mem_append_right _ (List.mem_append_right _ (List.mem_append_right _ (List.mem_append_right _ (List.mem_append_right _ (List.mem_append_right _ (List.mem_of_getElem? h)))))), g⟩
section AWH
variable {C : CX} {own : String} {cc : ByteArray} {nL : Nat} {ret : Option FieldType} {R : Room} {M : MX} {Z : State → Prop} {cells slots pc : Nat} {L : List (Option Value)} {st : List Value} {F : MM} {G : GG}
theorem aw_topi {x y : Int32} (e : x = y) (h : AW C nL Z M cells slots pc L (.int y :: st) F G) : AW C nL Z M cells slots pc L (.int x :: st) F G := e ▸ h
theorem aw_topl {x y : Int64} (e : x = y) (h : AW C nL Z M cells slots pc L (.long y :: st) F G) : AW C nL Z M cells slots pc L (.long x :: st) F G := e ▸ h
theorem aw_mem {F' : MM} (e : F = F') (h : AW C nL Z M cells slots pc L st F' G) : AW C nL Z M cells slots pc L st F G := e ▸ h
theorem aw_cnt {c2 s2 : Nat} (e1 : cells = c2) (e2 : slots = s2) (h : AW C nL Z M c2 s2 pc L st F G) : AW C nL Z M cells slots pc L st F G := by subst e1; subst e2; exact h
theorem aw_iushr {x y : Int32} (hM : MOk C own cc nL ret R M) (hd : decode cc pc = .ok (.iushr, 1)) (h : AW C nL Z M cells slots (pc + 1) L (.int (x.toUInt32 >>> (y.toUInt32 &&& Int32.toUInt32 31)).toInt32 :: st) F G) : AW C nL Z M cells slots pc L (.int y :: .int x :: st) F G := by
  obtain ⟨p, e, R', s, m, args, below, meth, c⟩ := M
  obtain ⟨rfl, hx, hb, -⟩ := hM
  intro H locs ls hH hS hl
  exact lv_iushr hx hb hd rfl (h H locs ls hH hS hl)
theorem aw_ldcw {index : Nat} {v : Int32} (hM : MOk C own cc nL ret R M) (hw : GW (.constant own index v)) (hd : decode cc pc = .ok (.ldc_w index, 3)) (h : AW C nL Z M cells slots (pc + 3) L (.int v :: st) F G) : AW C nL Z M cells slots pc L st F G := by
  obtain ⟨p, e, R', s, m, args, below, meth, c⟩ := M
  obtain ⟨rfl, hx, hb, hml, hown, hts, -⟩ := hM
  intro H locs ls hH hS hl
  exact lv_ldcw hx hb hown (hts _ hw) hd (h H locs ls hH hS hl)
theorem aw_cv1 {index b n0 ci n : Nat} {rs : List Nat} {y : MethodName} {bytes : ByteArray} {maxL : Nat} {rt : Option FieldType} {rm : Room} {As st0 : List Value} {q : vw_C} {oo : OUT} {F' : MM} {vo : Option Value} {c2 s2 : Nat} (hM : MOk C own cc nL ret R M) (hA : AM C y bytes maxL rt rm (.ref b :: As) F G (fun o F9 G9 => o = oo ∧ F9 = F' ∧ G9 = G)) (ho : oo = .inl vo) (cw : CWV own index y bytes maxL rt)
    (hs : sk_list[b]? = some (ci, n0, rs)) (hq : vwCl[ci]? = some q) (hqc : q.1 = y.cls) (hn : (parseMethodDescriptor y.desc).map (fun d => d.parameters.length) = some n) (hAs : As.length = n) (hst : As.reverse ++ .ref b :: st = st0) (hR : rm.frames + 1 ≤ R.frames ∧ 8 + (maxL + 11) + rm.locals ≤ R.locals) (hw : (st.map fun v => v.category).sum ≤ 8) (hf : cells + rm.cells ≤ R.cells ∧ slots + rm.slots ≤ R.slots) (hd : decode cc pc = .ok (.invokevirtual index, 3))
    (e1 : cells + rm.cells = c2) (e2 : slots + rm.slots = s2) (h : AW C nL Z M c2 s2 (pc + 3) L (vo.toList ++ st) F' G) : AW C nL Z M cells slots pc L st0 F G := by
  subst ho; subst e1; subst e2
  exact aw_callV hM hA cw hs hq hqc hn hAs hst hR hw hf hd (fun r F9 G9 q9 => by obtain ⟨q1, q2, q3⟩ := q9; cases q1; subst q2; subst q3; exact h) (fun E9 F9 G9 q9 => nomatch q9.1)
theorem aw_cvX {index b n0 ci n : Nat} {rs : List Nat} {y : MethodName} {bytes : ByteArray} {maxL : Nat} {rt : Option FieldType} {rm : Room} {As st0 : List Value} {q : vw_C} {oo : OUT} {F' : MM} {E : String} (hM : MOk C own cc nL ret R M) (hA : AM C y bytes maxL rt rm (.ref b :: As) F G (fun o F9 G9 => o = oo ∧ F9 = F' ∧ G9 = G)) (ho : oo = .inr E) (cw : CWV own index y bytes maxL rt)
    (hs : sk_list[b]? = some (ci, n0, rs)) (hq : vwCl[ci]? = some q) (hqc : q.1 = y.cls) (hn : (parseMethodDescriptor y.desc).map (fun d => d.parameters.length) = some n) (hAs : As.length = n) (hst : As.reverse ++ .ref b :: st = st0) (hR : rm.frames + 1 ≤ R.frames ∧ 8 + (maxL + 11) + rm.locals ≤ R.locals) (hw : (st.map fun v => v.category).sum ≤ 8) (hf : cells + rm.cells ≤ R.cells ∧ slots + rm.slots ≤ R.slots) (hd : decode cc pc = .ok (.invokevirtual index, 3))
    (h : AX C nL Z E M (cells + rm.cells) (slots + rm.slots) pc L F' G) : AW C nL Z M cells slots pc L st0 F G := by
  subst ho
  exact aw_callV hM hA cw hs hq hqc hn hAs hst hR hw hf hd (fun r F9 G9 q9 => nomatch q9.1) (fun E9 F9 G9 q9 => by obtain ⟨q1, q2, q3⟩ := q9; cases q1; subst q2; subst q3; exact h)
theorem aw_cs1 {index n : Nat} {y : MethodName} {bytes : ByteArray} {maxL : Nat} {rt : Option FieldType} {rm : Room} {As st0 : List Value} {oo : OUT} {F' : MM} {vo : Option Value} {c2 s2 : Nat} (hM : MOk C own cc nL ret R M) (hA : AM C y bytes maxL rt rm As F G (fun o F9 G9 => o = oo ∧ F9 = F' ∧ G9 = G)) (ho : oo = .inl vo) (cw : CWS own index y bytes maxL rt)
    (hn : (parseMethodDescriptor y.desc).map (fun d => d.parameters.length) = some n) (hAs : As.length = n) (hst : As.reverse ++ st = st0) (hR : rm.frames + 1 ≤ R.frames ∧ 8 + (maxL + 11) + rm.locals ≤ R.locals) (hw : (st.map fun v => v.category).sum ≤ 8) (hf : cells + rm.cells ≤ R.cells ∧ slots + rm.slots ≤ R.slots) (hd : decode cc pc = .ok (.invokestatic index, 3))
    (e1 : cells + rm.cells = c2) (e2 : slots + rm.slots = s2) (h : AW C nL Z M c2 s2 (pc + 3) L (vo.toList ++ st) F' G) : AW C nL Z M cells slots pc L st0 F G := by
  subst ho; subst e1; subst e2
  exact aw_callS hM hA cw hn hAs hst hR hw hf hd (fun r F9 G9 q9 => by obtain ⟨q1, q2, q3⟩ := q9; cases q1; subst q2; subst q3; exact h) (fun E9 F9 G9 q9 => nomatch q9.1)
theorem aw_csX {index n : Nat} {y : MethodName} {bytes : ByteArray} {maxL : Nat} {rt : Option FieldType} {rm : Room} {As st0 : List Value} {oo : OUT} {F' : MM} {E : String} (hM : MOk C own cc nL ret R M) (hA : AM C y bytes maxL rt rm As F G (fun o F9 G9 => o = oo ∧ F9 = F' ∧ G9 = G)) (ho : oo = .inr E) (cw : CWS own index y bytes maxL rt)
    (hn : (parseMethodDescriptor y.desc).map (fun d => d.parameters.length) = some n) (hAs : As.length = n) (hst : As.reverse ++ st = st0) (hR : rm.frames + 1 ≤ R.frames ∧ 8 + (maxL + 11) + rm.locals ≤ R.locals) (hw : (st.map fun v => v.category).sum ≤ 8) (hf : cells + rm.cells ≤ R.cells ∧ slots + rm.slots ≤ R.slots) (hd : decode cc pc = .ok (.invokestatic index, 3))
    (h : AX C nL Z E M (cells + rm.cells) (slots + rm.slots) pc L F' G) : AW C nL Z M cells slots pc L st0 F G := by
  subst ho
  exact aw_callS hM hA cw hn hAs hst hR hw hf hd (fun r F9 G9 q9 => nomatch q9.1) (fun E9 F9 G9 q9 => by obtain ⟨q1, q2, q3⟩ := q9; cases q1; subst q2; subst q3; exact h)
end AWH
