def sk_list : List (Nat × Nat × List Nat) := [
  (6, 0, [2, 0, 3, 9, 14, 17, 25, 33, 147, 148]), (8, 160, []), (4, 0, [0, 0, 0, 0, 0, 4, 5, 6, 7, 8, 2, 0, 0, 0]), (9, 5, []),
  (9, 6, []), (9, 50, []), (9, 5, []), (9, 5, []),
  (1, 0, [0, 0, 0, 0, 10, 11]), (9, 5, []), (2, 0, [12, 13, 0, 0]), (9, 50, []),
  (9, 4096, []), (5, 0, [9, 15, 16, 0, 0, 0]), (9, 4096, []), (9, 4096, []),
  (3, 0, [9, 18, 19, 20, 21, 22, 23, 24, 0, 0]), (9, 5, []), (9, 5, []), (9, 5, []),
  (9, 5, []), (9, 5, []), (9, 6, []), (9, 24, []),
  (3, 0, [9, 26, 27, 28, 29, 30, 31, 32, 0, 0]), (9, 5, []), (9, 5, []), (9, 5, []),
  (9, 5, []), (9, 5, []), (9, 6, []), (9, 24, []),
  (0, 0, [34, 0, 0]), (11, 14, [34, 42, 50, 58, 66, 74, 82, 90, 98, 106, 114, 122, 130, 138]), (3, 0, [9, 36, 37, 38, 39, 40, 41, 42, 0, 0]), (9, 5, []),
  (9, 5, []), (9, 5, []), (9, 5, []), (9, 5, []),
  (9, 6, []), (9, 24, []), (3, 0, [9, 44, 45, 46, 47, 48, 49, 50, 0, 0]), (9, 5, []),
  (9, 5, []), (9, 5, []), (9, 5, []), (9, 5, []),
  (9, 6, []), (9, 24, []), (3, 0, [9, 52, 53, 54, 55, 56, 57, 58, 0, 0]), (9, 5, []),
  (9, 5, []), (9, 5, []), (9, 5, []), (9, 5, []),
  (9, 6, []), (9, 24, []), (3, 0, [9, 60, 61, 62, 63, 64, 65, 66, 0, 0]), (9, 5, []),
  (9, 5, []), (9, 5, []), (9, 5, []), (9, 5, []),
  (9, 6, []), (9, 24, []), (3, 0, [9, 68, 69, 70, 71, 72, 73, 74, 0, 0]), (9, 5, []),
  (9, 5, []), (9, 5, []), (9, 5, []), (9, 5, []),
  (9, 6, []), (9, 24, []), (3, 0, [9, 76, 77, 78, 79, 80, 81, 82, 0, 0]), (9, 5, []),
  (9, 5, []), (9, 5, []), (9, 5, []), (9, 5, []),
  (9, 6, []), (9, 24, []), (3, 0, [9, 84, 85, 86, 87, 88, 89, 90, 0, 0]), (9, 5, []),
  (9, 5, []), (9, 5, []), (9, 5, []), (9, 5, []),
  (9, 6, []), (9, 24, []), (3, 0, [9, 92, 93, 94, 95, 96, 97, 98, 0, 0]), (9, 5, []),
  (9, 5, []), (9, 5, []), (9, 5, []), (9, 5, []),
  (9, 6, []), (9, 24, []), (3, 0, [9, 100, 101, 102, 103, 104, 105, 106, 0, 0]), (9, 5, []),
  (9, 5, []), (9, 5, []), (9, 5, []), (9, 5, []),
  (9, 6, []), (9, 24, []), (3, 0, [9, 108, 109, 110, 111, 112, 113, 114, 0, 0]), (9, 5, []),
  (9, 5, []), (9, 5, []), (9, 5, []), (9, 5, []),
  (9, 6, []), (9, 24, []), (3, 0, [9, 116, 117, 118, 119, 120, 121, 122, 0, 0]), (9, 5, []),
  (9, 5, []), (9, 5, []), (9, 5, []), (9, 5, []),
  (9, 6, []), (9, 24, []), (3, 0, [9, 124, 125, 126, 127, 128, 129, 130, 0, 0]), (9, 5, []),
  (9, 5, []), (9, 5, []), (9, 5, []), (9, 5, []),
  (9, 6, []), (9, 24, []), (3, 0, [9, 132, 133, 134, 135, 136, 137, 138, 0, 0]), (9, 5, []),
  (9, 5, []), (9, 5, []), (9, 5, []), (9, 5, []),
  (9, 6, []), (9, 24, []), (3, 0, [9, 140, 141, 142, 143, 144, 145, 146, 0, 0]), (9, 5, []),
  (9, 5, []), (9, 5, []), (9, 5, []), (9, 5, []),
  (9, 6, []), (9, 24, []), (11, 2, [148, 156]), (10, 2, []),
  (3, 0, [9, 150, 151, 152, 153, 154, 155, 156, 0, 0]), (9, 5, []), (9, 5, []), (9, 5, []),
  (9, 5, []), (9, 5, []), (9, 6, []), (9, 24, []),
  (3, 0, [9, 158, 159, 160, 161, 162, 163, 164, 0, 0]), (9, 5, []), (9, 5, []), (9, 5, []),
  (9, 5, []), (9, 5, []), (9, 6, []), (9, 24, []),
  (7, 0, [0, 166, 0, 0, 0, 0, 0, 0, 0, 167, 168, 0, 0, 0, 0, 0, 169, 170, 171, 172, 173, 174, 0, 175, 176, 177, 178, 179, 180]), (9, 160, []), (9, 5, []), (9, 50, []),
  (9, 5, []), (9, 50, []), (9, 107, []), (9, 107, []),
  (9, 107, []), (9, 1498, []), (9, 214, []), (10, 2, []),
  (9, 4096, []), (9, 4096, []), (9, 4096, []), (9, 6, []),
  (12, 1, [])]
abbrev vwCl : List vw_C := [(RX2, TX2, 3), (RX3, TX3, 6), (RX4, TX4, 4), (RX5, TX5, 10), (RX6, TX6, 14), (RX7, TX7, 6), (RX8, TX8, 10), (RX9, TX9, 29)]
/-! ===== the memory: a logical address and an index give an int; the layout is fixed ===== -/
abbrev MM : Type := Nat → Nat → Int32
abbrev GG : Type := Nat → Int64
def mrow (F : MM) (a : Nat) (g : Nat → Int32) : MM := fun b => if b = a then g else F b
def mup (F : MM) (a i : Nat) (v : Int32) : MM := mrow F a (upd (F a) i v)
theorem mrow_self (F : MM) (a : Nat) (g : Nat → Int32) : mrow F a g a = g := if_pos rfl
theorem mrow_ne {F : MM} {a b : Nat} {g : Nat → Int32} (h : b ≠ a) : mrow F a g b = F b := if_neg h
theorem mup_self (F : MM) (a i : Nat) (v : Int32) : mup F a i v a = upd (F a) i v := if_pos rfl
theorem mup_ne {F : MM} {a b i : Nat} {v : Int32} (h : b ≠ a) : mup F a i v b = F b := if_neg h
abbrev ix (i : Int32) : Nat := i.toNatClampNeg
def inb (i : Int32) (n : Nat) : Bool := !(decide (i < 0)) && decide (i.toNatClampNeg < n)
theorem inb_in {i : Int32} {n : Nat} (h : inb i n = true) : vp_in i n := by
  simp only [inb, Bool.and_eq_true, Bool.not_eq_true', decide_eq_false_iff_not, decide_eq_true_eq] at h
  rintro (h1 | h1)
  · exact h.1 h1
  · omega
theorem ite_some {α : Type} {c : Prop} [Decidable c] {x : Option α} {r : α} (h : (if c then x else none) = some r) : c ∧ x = some r := by
  by_cases hc : c
  · rw [if_pos hc] at h; exact ⟨hc, h⟩
  · rw [if_neg hc] at h; cases h
theorem bind_some {α β : Type} {x : Option α} {f : α → Option β} {r : β} (h : x.bind f = some r) : ∃ a, x = some a ∧ f a = some r := by
  cases x with
  | none => cases h
  | some a => exact ⟨a, rfl, h⟩
/-- a value with its references at their true addresses -/
def rv_ (ρ : Nat → Nat) : Value → Value
  | .ref k => .ref (ρ k)
  | v => v
theorem rv_cat (ρ : Nat → Nat) (v : Value) : (rv_ ρ v).category = v.category := by cases v <;> rfl
def sk_at (aC : Nat → ClassId) (ρ : Nat → Nat) (F : MM) (G : GG) (a : Nat) : (Nat × Nat × List Nat) → va_E
  | (8, n, _) => .inl (aC 8, n, .inl (F a))
  | (9, n, _) => .inl (aC 9, n, .inl (F a))
  | (10, n, _) => .inl (aC 10, n, .inl (F a))
  | (11, n, rs) => .inl (aC 11, n, .inr (.inr (.inr (.inr (fun j => (rs[j]?).map ρ)))))
  | (12, n, _) => .inl (aC 12, n, .inr (.inl G))
  | (k, _, rs) => .inr (k, rs.mapIdx (fun i r => if r = 0 then .int (F a i) else .ref (ρ (r - 1))))
def wld (aC : Nat → ClassId) (ρ : Nat → Nat) (F : MM) (G : GG) : va_W := sk_list.mapIdx (fun a d => (ρ a, sk_at aC ρ F G a d))
theorem wld_at {aC : Nat → ClassId} {ρ : Nat → Nat} {F : MM} {G : GG} {a : Nat} {d : Nat × Nat × List Nat} (h : sk_list[a]? = some d) : (wld aC ρ F G)[a]? = some (ρ a, sk_at aC ρ F G a d) := by
  unfold wld
  rw [List.getElem?_mapIdx, h]
  rfl
theorem wld_set {aC : Nat → ClassId} {ρ : Nat → Nat} {F F' : MM} {G G' : GG} {a : Nat} {d : Nat × Nat × List Nat} {x : va_E} (h : sk_list[a]? = some d) (hx : sk_at aC ρ F' G' a d = x) (ho : ∀ b e, b ≠ a → sk_list[b]? = some e → sk_at aC ρ F' G' b e = sk_at aC ρ F G b e) :
    (wld aC ρ F G).set a (ρ a, x) = wld aC ρ F' G' := by
  have hl : a < (wld aC ρ F G).length := (List.getElem?_eq_some_iff.mp (wld_at (aC := aC) (ρ := ρ) (F := F) (G := G) h)).1
  refine List.ext_getElem? fun j => ?_
  by_cases hj : j = a
  · subst hj
    rw [List.getElem?_set_self hl, wld_at h, hx]
  · rw [List.getElem?_set_ne (Ne.symm hj)]
    cases hs : sk_list[j]? with
    | none => unfold wld; rw [List.getElem?_mapIdx, List.getElem?_mapIdx, hs]; rfl
    | some e => rw [wld_at hs, wld_at hs, ho j e hj hs]
/-- only the ints of address a differ -/
theorem sk_row {aC : Nat → ClassId} {ρ : Nat → Nat} {F F' : MM} {G : GG} {b : Nat} (hF : F' b = F b) (e : Nat × Nat × List Nat) : sk_at aC ρ F' G b e = sk_at aC ρ F G b e := by
  unfold sk_at
  split <;> simp only [hF]
/-! ===== the standing things ===== -/
abbrev CX : Type := Launch × Nat × (Nat → Nat) × (Nat → ClassId) × va_G
abbrev MX : Type := Program × Env × Room × State × MethodId × Array Value × List Frame × Method × Code
def tys_ (aC : Nat → ClassId) : List (ClassId × FieldType) := [(aC 8, .char), (aC 9, .int), (aC 10, .boolean), (aC 11, .object RX5), (aC 12, .long)]
def GW (w : Cond) : Prop := w ∈ lw_tbl ∧ goodWord w = true
def ex_iae : String := "java/lang/IllegalArgumentException"
def ex_ise : String := "java/lang/IllegalStateException"
def ex_ioo : String := "java/lang/IndexOutOfBoundsException"
/-- words that stay true but aren't of the good kind -/
def bw_dec : List MethodName := [⟨"java/lang/RuntimeException", "<init>", "(Ljava/lang/String;)V"⟩, ⟨"java/lang/Exception", "<init>", "(Ljava/lang/String;)V"⟩, ⟨"java/lang/Throwable", "<init>", "(Ljava/lang/String;)V"⟩]
def bw_list : List Cond := [.castable ex_iae ex_iae, .castable ex_ise ex_ise, .castable ex_ioo ex_ioo] ++ bw_dec.map Cond.declares
def st_list : List (Nat × String) := [(73, "the text is full"), (82, "the text is not a keeper text"), (126, "there is no such number"), (181, "the approver approves of it already"), (195, "the node is not quarantined"), (207, "no state is remembered"), (236, "the index is negative"), (256, "the script is negative or too long"), (274, "the slot is empty"), (278, "there is no such node"), (281, "there is no such component"), (283, "there is no such rule"), (285, "there is no such approver"), (287, "there is no such slot"), (289, "an argument is out of its range")]
def nc_list : List (String × String) := [(ex_iae, ex_ise), (ex_iae, ex_ioo), (ex_ise, ex_iae), (ex_ise, ex_ioo), (ex_ioo, ex_iae), (ex_ioo, ex_ise)]
def bw_nest : Cond := .fieldLinkNest RX1 9 RX5 "plan" "LDesiredStateKeeper$Plan;" RX8
def XK (C : CX) (s : State) : Prop :=
  va_K C.2.2.2.2 vwCl (tys_ C.2.2.2.1) s ∧ C.2.1 ≤ s.heap.size ∧ vx_Zq Bundle.tN "UNASSIGNED_STACK" Bundle.steD (fun q => C.2.1 ≤ q) s s.heap ∧ vx_Zq Bundle.tN "SUPPRESSED_SENTINEL" Bundle.listD (fun q => C.2.1 ≤ q) s s.heap ∧
  (∀ q ∈ st_list, ∃ sa, vk_R RX8 q.1 q.2 sa s) ∧ (∀ w ∈ bw_list, va_Nw w s) ∧ va_Nw bw_nest s ∧ C.1.stackTraces = false ∧ (∀ q ∈ nc_list, va_Nc q.1 q.2 s)
def XH (C : CX) (F : MM) (G : GG) (H : Heap) : Prop := va_P C.2.2.2.2 vwCl (wld C.2.2.2.1 C.2.2.1 F G) H ∧ va_D (fun q => C.2.1 ≤ q) (wld C.2.2.2.1 C.2.2.1 F G)
theorem XK.moved {C : CX} {s U : State} {H : Heap} {locs : List Loc} (h : XK C s) (hS : va_S (fun q => C.2.1 ≤ q) s.heap H locs) (hU : U.heap = H) (hW : s.WarmedH U.vm) : XK C U := by
  obtain ⟨h1, h2, h3, h4, h5, h6, h7, h8, h9⟩ := h
  refine ⟨va_K.moved hW.alike h1, by rw [hU]; exact Nat.le_trans h2 hS.1, by rw [hU]; exact vx_Zq.moved hW.alike (h3.kept hS.2.1), by rw [hU]; exact vx_Zq.moved hW.alike (h4.kept hS.2.1), fun q hq => ?_, fun w hw => ?_, va_Nw.warmF hW h7, h8, fun q hq => va_Nc.moved hW.alike (h9 q hq)⟩
  · obtain ⟨sa, h⟩ := h5 q hq
    exact ⟨sa, vk_R.warm hW h⟩
  · have h := h6 w hw
    rcases List.mem_append.mp hw with hw | hw
    · simp only [List.mem_cons, List.not_mem_nil, or_false] at hw
      rcases hw with rfl | rfl | rfl <;> exact va_Nw.warmC hW h
    · obtain ⟨x, -, rfl⟩ := List.mem_map.mp hw
      exact va_Nw.warmD hW h
/-! ===== locals ===== -/
def lvR (ρ : Nat → Nat) (ls : Array Slot) (nL : Nat) (L : List (Option Value)) : Prop := ls.size = nL ∧ lv_wf ls ∧ ∀ (i : Nat) (v : Value), L[i]? = some (some v) → ls[i]? = some (.val (rv_ ρ v))
def lv_prs (ρ : Nat → Nat) (L : List (Option Value)) : List (Nat × Value) := (L.mapIdx (fun i o => o.map (fun v => (i, rv_ ρ v)))).filterMap id
theorem lv_prs_mem {ρ : Nat → Nat} {L : List (Option Value)} {q : Nat × Value} : q ∈ lv_prs ρ L ↔ ∃ v, L[q.1]? = some (some v) ∧ q.2 = rv_ ρ v := by
  unfold lv_prs
  rw [List.mem_filterMap]
  constructor
  · rintro ⟨o, ho, hq⟩
    obtain ⟨i, hi⟩ := List.getElem?_of_mem ho
    rw [List.getElem?_mapIdx] at hi
    cases hL : L[i]? with
    | none => rw [hL] at hi; cases hi
    | some w =>
      rw [hL] at hi
      cases w with
      | none => cases hi; cases hq
      | some v => cases hi; cases hq; exact ⟨v, hL, rfl⟩
  · rintro ⟨v, h1, h2⟩
    refine ⟨some q, ?_, rfl⟩
    apply List.mem_of_getElem? (i := q.1)
    rw [List.getElem?_mapIdx, h1]
    show some (some (q.1, rv_ ρ v)) = some (some q)
    rw [← h2]
theorem lvR.has {ρ : Nat → Nat} {ls : Array Slot} {nL : Nat} {L : List (Option Value)} (h : lvR ρ ls nL L) : lv_has ls nL (lv_prs ρ L) := by
  refine ⟨h.1, h.2.1, fun q hq => ?_⟩
  obtain ⟨v, h1, h2⟩ := lv_prs_mem.mp hq
  rw [h2]
  exact h.2.2 _ _ h1
def lv_clr (L : List (Option Value)) (i : Nat) : List (Option Value) := match i with
  | 0 => L
  | j + 1 => match L[j]? with
    | some (some w) => if w.category = 2 then L.set j none else L
    | _ => L
def lv_st1 (L : List (Option Value)) (i : Nat) (v : Value) : List (Option Value) := (lv_clr L i).set i (some v)
def lv_st2 (L : List (Option Value)) (i : Nat) (v : Value) : List (Option Value) := ((lv_clr L i).set i (some v)).set (i + 1) none
theorem lv_clr_at {L : List (Option Value)} {i j : Nat} {w : Value} (h : (lv_clr L i)[j]? = some (some w)) : L[j]? = some (some w) ∧ ¬ (j + 1 = i ∧ w.category = 2) := by
  unfold lv_clr at h
  cases i with
  | zero => exact ⟨h, fun q => by omega⟩
  | succ k =>
    dsimp only at h
    cases hk : L[k]? with
    | none =>
      rw [hk] at h
      refine ⟨h, fun q => ?_⟩
      have : j = k := by omega
      subst this
      rw [hk] at h; cases h
    | some o =>
      cases o with
      | none =>
        rw [hk] at h
        refine ⟨h, fun q => ?_⟩
        have : j = k := by omega
        subst this
        rw [hk] at h; cases h
      | some u =>
        rw [hk] at h
        dsimp only at h
        by_cases hc : u.category = 2
        · rw [if_pos hc] at h
          by_cases hj : j = k
          · subst hj
            rw [List.getElem?_set_self (List.getElem?_eq_some_iff.mp hk).1] at h
            cases h
          · rw [List.getElem?_set_ne (Ne.symm hj)] at h
            exact ⟨h, fun q => hj (by omega)⟩
        · rw [if_neg hc] at h
          refine ⟨h, fun q => ?_⟩
          have : j = k := by omega
          subst this
          rw [hk] at h
          cases h
          exact hc q.2
theorem lvR.st1 {ρ : Nat → Nat} {ls : Array Slot} {nL i : Nat} {L : List (Option Value)} {v : Value} (h : lv_has ls nL ((i, rv_ ρ v) :: (lv_prs ρ L).filter (fun q => !(q.1 == i) && !(q.1 + 1 == i && q.2.category == 2)))) : lvR ρ ls nL (lv_st1 L i v) := by
  refine ⟨h.1, h.2.1, fun j w hj => ?_⟩
  unfold lv_st1 at hj
  by_cases hji : j = i
  · subst hji
    have hlt : j < ((lv_clr L j).set j (some v)).length := (List.getElem?_eq_some_iff.mp hj).1
    rw [List.length_set] at hlt
    rw [List.getElem?_set_self hlt] at hj
    cases hj
    exact h.2.2 _ List.mem_cons_self
  · rw [List.getElem?_set_ne (Ne.symm hji)] at hj
    obtain ⟨h1, h2⟩ := lv_clr_at hj
    refine h.2.2 (j, rv_ ρ w) (List.mem_cons_of_mem _ (List.mem_filter.mpr ⟨lv_prs_mem.mpr ⟨w, h1, rfl⟩, ?_⟩))
    simp only [rv_cat, Bool.and_eq_true, Bool.not_eq_true', beq_eq_false_iff_ne, Bool.and_eq_false_iff, ne_eq]
    refine ⟨hji, ?_⟩
    by_cases hq : j + 1 = i
    · exact Or.inr (fun z => h2 ⟨hq, z⟩)
    · exact Or.inl hq
theorem lvR.st2 {ρ : Nat → Nat} {ls : Array Slot} {nL i : Nat} {L : List (Option Value)} {v : Value} (h : lv_has ls nL ((i, rv_ ρ v) :: (lv_prs ρ L).filter (fun q => !(q.1 == i) && (!(q.1 == i + 1) && !(q.1 + 1 == i && q.2.category == 2))))) : lvR ρ ls nL (lv_st2 L i v) := by
  refine ⟨h.1, h.2.1, fun j w hj => ?_⟩
  unfold lv_st2 at hj
  have hj1 : j ≠ i + 1 := by
    intro e
    subst e
    have hlt := (List.getElem?_eq_some_iff.mp hj).1
    rw [List.length_set] at hlt
    rw [List.getElem?_set_self hlt] at hj
    cases hj
  rw [List.getElem?_set_ne (Ne.symm hj1)] at hj
  by_cases hji : j = i
  · subst hji
    have hlt : j < ((lv_clr L j).set j (some v)).length := (List.getElem?_eq_some_iff.mp hj).1
    rw [List.length_set] at hlt
    rw [List.getElem?_set_self hlt] at hj
    cases hj
    exact h.2.2 _ List.mem_cons_self
  · rw [List.getElem?_set_ne (Ne.symm hji)] at hj
    obtain ⟨h1, h2⟩ := lv_clr_at hj
    refine h.2.2 (j, rv_ ρ w) (List.mem_cons_of_mem _ (List.mem_filter.mpr ⟨lv_prs_mem.mpr ⟨w, h1, rfl⟩, ?_⟩))
    simp only [rv_cat, Bool.and_eq_true, Bool.not_eq_true', beq_eq_false_iff_ne, Bool.and_eq_false_iff, ne_eq]
    refine ⟨hji, hj1, ?_⟩
    by_cases hq : j + 1 = i
    · exact Or.inr (fun z => h2 ⟨hq, z⟩)
    · exact Or.inl hq
def lv_ent : List Value → List (Option Value)
  | [] => []
  | v :: vs => if v.category = 2 then some v :: none :: lv_ent vs else some v :: lv_ent vs
theorem lv_ent_at (ρ : Nat → Nat) : ∀ (vs : List Value) (b j : Nat) (w : Value), (lv_ent vs)[j]? = some (some w) → (b + j, rv_ ρ w) ∈ lv_args b (vs.map (rv_ ρ))
  | [], b, j, w, h => by simp [lv_ent] at h
  | v :: vs, b, j, w, h => by
    have ih := lv_ent_at ρ vs
    unfold lv_ent at h
    rw [List.map_cons, lv_args, rv_cat]
    by_cases hc : v.category = 2
    · rw [if_pos hc] at h ⊢
      match j, h with
      | 0, h => cases h; exact List.mem_cons_self
      | 1, h => cases h
      | j + 2, h =>
        have h' : (lv_ent vs)[j]? = some (some w) := h
        have := ih (b + 2) j w h'
        rw [show b + (j + 2) = b + 2 + j by omega]
        exact List.mem_cons_of_mem _ this
    · rw [if_neg hc] at h ⊢
      match j, h with
      | 0, h => cases h; exact List.mem_cons_self
      | j + 1, h =>
        have h' : (lv_ent vs)[j]? = some (some w) := h
        have := ih (b + 1) j w h'
        rw [show b + (j + 1) = b + 1 + j by omega]
        exact List.mem_cons_of_mem _ this
theorem lvR_entry {ρ : Nat → Nat} {ls : Array Slot} {nL : Nat} {vs : List Value} {L : List (Option Value)} (h : lv_has ls nL (lv_args 0 (vs.map (rv_ ρ)))) (hL : lv_ent vs ++ List.replicate (nL - (lv_ent vs).length) none = L) : lvR ρ ls nL L := by
  subst hL
  refine ⟨h.1, h.2.1, fun j w hj => ?_⟩
  by_cases hl : j < (lv_ent vs).length
  · rw [List.getElem?_append_left hl] at hj
    have := lv_ent_at ρ vs 0 j w hj
    rw [Nat.zero_add] at this
    exact h.2.2 _ this
  · rw [List.getElem?_append_right (by omega)] at hj
    have := List.mem_of_getElem? hj
    rw [List.mem_replicate] at this
    cases this.2
theorem lvR.sub {ρ : Nat → Nat} {ls : Array Slot} {nL : Nat} {L L' : List (Option Value)} (h : lvR ρ ls nL L) (hs : ∀ (i : Nat) (v : Value), L'[i]? = some (some v) → L[i]? = some (some v)) : lvR ρ ls nL L' := ⟨h.1, h.2.1, fun i v hi => h.2.2 i v (hs i v hi)⟩
