/-! ===== counting; ways as numbers ===== -/
theorem inj_le : ∀ (N l : Nat) (f : Nat → Nat), (∀ i, i < l → f i < N) → (∀ i j, i < l → j < l → f i = f j → i = j) → l ≤ N
  | 0, l, f, h1, _ => by
    by_cases hl : l = 0
    · omega
    · exact absurd (h1 0 (by omega)) (by omega)
  | N + 1, l, f, h1, h2 => by
    by_cases hx : ∃ i, i < l ∧ f i = N
    · obtain ⟨i0, hi0, e0⟩ := hx
      have h := inj_le N (l - 1) (fun i => if i < i0 then f i else f (i + 1)) (fun i hi => by
        show (if i < i0 then f i else f (i + 1)) < N
        by_cases hlt : i < i0
        · rw [if_pos hlt]
          have a := h1 i (by omega)
          have b : f i ≠ N := fun e => absurd (h2 i i0 (by omega) hi0 (e.trans e0.symm)) (by omega)
          omega
        · rw [if_neg hlt]
          have a := h1 (i + 1) (by omega)
          have b : f (i + 1) ≠ N := fun e => absurd (h2 (i + 1) i0 (by omega) hi0 (e.trans e0.symm)) (by omega)
          omega) (fun i j hi hj e => by
        have e : (if i < i0 then f i else f (i + 1)) = (if j < i0 then f j else f (j + 1)) := e
        by_cases hlt : i < i0
        · rw [if_pos hlt] at e
          by_cases hlj : j < i0
          · rw [if_pos hlj] at e; exact h2 i j (by omega) (by omega) e
          · rw [if_neg hlj] at e; have := h2 i (j + 1) (by omega) (by omega) e; omega
        · rw [if_neg hlt] at e
          by_cases hlj : j < i0
          · rw [if_pos hlj] at e; have := h2 (i + 1) j (by omega) (by omega) e; omega
          · rw [if_neg hlj] at e; have := h2 (i + 1) (j + 1) (by omega) (by omega) e; omega)
      omega
    · have h := inj_le N l f (fun i hi => by
        have a := h1 i hi
        have b : f i ≠ N := fun e => hx ⟨i, hi, e⟩
        omega) h2
      omega
theorem inj_miss {N l : Nat} {f : Nat → Nat} {x : Nat} (h1 : ∀ i, i < l → f i < N) (h2 : ∀ i j, i < l → j < l → f i = f j → i = j) (hx : x < N) (h3 : ∀ i, i < l → f i ≠ x) : l < N := by
  have h := inj_le N (l + 1) (fun i => if i < l then f i else x) (fun i hi => by
    show (if i < l then f i else x) < N
    by_cases hlt : i < l
    · rw [if_pos hlt]; exact h1 i hlt
    · rw [if_neg hlt]; exact hx) (fun i j hi hj e => by
    have e : (if i < l then f i else x) = (if j < l then f j else x) := e
    by_cases hlt : i < l
    · rw [if_pos hlt] at e
      by_cases hlj : j < l
      · rw [if_pos hlj] at e; exact h2 i j hlt hlj e
      · rw [if_neg hlj] at e; exact absurd e (h3 i hlt)
    · rw [if_neg hlt] at e
      by_cases hlj : j < l
      · rw [if_pos hlj] at e; exact absurd e.symm (h3 j hlj)
      · omega)
  omega
theorem inj_surj {N : Nat} {f : Nat → Nat} (h1 : ∀ i, i < N → f i < N) (h2 : ∀ i j, i < N → j < N → f i = f j → i = j) {x : Nat} (hx : x < N) : ∃ i, i < N ∧ f i = x := by
  by_cases h : ∃ i, i < N ∧ f i = x
  · exact h
  · exact absurd (inj_miss h1 h2 hx (fun i hi e => h ⟨i, hi, e⟩)) (by omega)
/-- x comes to g in at most k safe changes -/
def lev (P : PL) (g : Nat) : Nat → Nat → Prop
  | 0, x => x = g
  | k + 1, x => lev P g k x ∨ ∃ c v, c < pPar P ∧ v < 4 ∧ nbk P x (wth x c v) = 0 ∧ lev P g k (wth x c v)
def BI (P : PL) (g : Nat) (Q d : Nat → Nat) (h l : Nat) : Prop :=
  (h ≤ l ∧ ∀ i, i < l → d i ≤ i) ∧ 1 ≤ l ∧ (∀ i, i < l → Q i < 4 ^ pPar P) ∧ (∀ i j, i < l → j < l → Q i = Q j → i = j) ∧ Q 0 = g ∧ d 0 = 0 ∧
  (∀ i, i < l → lev P g (d i) (Q i) ∧ ∀ j, j < d i → ¬ lev P g j (Q i)) ∧ (∀ i j, i ≤ j → j < l → d i ≤ d j) ∧ (h < l → ∀ i, i < l → d i ≤ d h + 1) ∧
  ∀ i c v, i < h → c < pPar P → v < 4 → nbk P (wth (Q i) c v) (Q i) = 0 → ∃ j, j < l ∧ Q j = wth (Q i) c v ∧ d j ≤ d i + 1
theorem wth_vin {x c v : Nat} (hv : v < 4) : vin (wth x c v) c = v := by
  unfold vin wth
  have hp : 0 < 4 ^ c := Nat.pow_pos (by decide)
  have e1 := Nat.div_add_mod x (4 ^ c)
  have e2 := Nat.div_add_mod (x / 4 ^ c) 4
  have hlt := Nat.mod_lt x hp
  generalize x / 4 ^ c / 4 = A at *
  generalize hD : x / 4 ^ c % 4 = D at *
  generalize x % 4 ^ c = E at *
  have e4 : x = 4 ^ c * (4 * A + D) + E := by rw [e2]; exact e1.symm
  have e5 : x - D * 4 ^ c + v * 4 ^ c = (4 * A + v) * 4 ^ c + E := by
    rw [e4, Nat.mul_add, Nat.add_mul, Nat.mul_comm (4 ^ c) D, Nat.mul_comm (4 ^ c) (4 * A)]; omega
  rw [e5, Nat.add_comm, Nat.add_mul_div_right _ _ hp, Nat.div_eq_of_lt hlt]
  omega
theorem wth_wth {x c v u : Nat} (hv : v < 4) : wth (wth x c v) c u = wth x c u := by
  have h := wth_vin (x := x) (c := c) hv
  have hw : wth (wth x c v) c u = wth x c v - v * 4 ^ c + u * 4 ^ c := by
    show wth x c v - wth x c v / 4 ^ c % 4 * 4 ^ c + u * 4 ^ c = _
    unfold vin at h
    rw [h]
  rw [hw]
  unfold wth
  omega
theorem wth_self (x c : Nat) : wth x c (vin x c) = x := by
  unfold wth vin
  have : x / 4 ^ c % 4 * 4 ^ c ≤ x := Nat.le_trans (Nat.mul_le_mul_right _ (Nat.mod_le _ _)) (Nat.div_mul_le_self _ _)
  omega
section BF
variable {P : PL} {g h l : Nat} {Q d : Nat → Nat}
theorem bi_comp (hB : BI P g Q d h l) : ∀ j x, (h < l → j ≤ d h) → x < 4 ^ pPar P → lev P g j x → ∃ i, i < l ∧ Q i = x ∧ d i ≤ j
  | 0, x, _, _, hl => ⟨0, hB.2.1, hB.2.2.2.2.1.trans hl.symm, by rw [hB.2.2.2.2.2.1]; exact Nat.le_refl _⟩
  | j + 1, x, hj, hx, hl => by
    rcases hl with hl | ⟨c, v, hc, hv, hs, hl⟩
    · obtain ⟨i, h1, h2, h3⟩ := bi_comp hB j x (fun h => by have := hj h; omega) hx hl
      exact ⟨i, h1, h2, by omega⟩
    · obtain ⟨i, h1, h2, h3⟩ := bi_comp hB j (wth x c v) (fun h => by have := hj h; omega) (wth_lt hx hc hv) hl
      have hih : i < h := by
        by_cases hlt : h < l
        · have hd := hj hlt
          by_cases hih : i < h
          · exact hih
          · have := hB.2.2.2.2.2.2.2.1 h i (by omega) h1; omega
        · have := hB.1.1; omega
      have e : wth (Q i) c (vin x c) = x := by rw [h2, wth_wth hv, wth_self]
      obtain ⟨m, k1, k2, k3⟩ := hB.2.2.2.2.2.2.2.2.2 i c (vin x c) hih hc (vin_lt _ _) (by rw [e, h2]; exact hs)
      exact ⟨m, k1, k2.trans e, by omega⟩
theorem bi_new (hB : BI P g Q d h l) (hh : h < l) {x c v : Nat} (hc : c < pPar P) (hv : v < 4) (hx : x = wth (Q h) c v) (hs : nbk P x (Q h) = 0) (hn : ∀ i, i < l → Q i ≠ x) : l < 4 ^ pPar P ∧ BI P g (fun i => if i = l then x else Q i) (fun i => if i = l then d h + 1 else d i) h (l + 1) := by
  obtain ⟨b1, b2, b3, b4, b5, b6, b7, b8, b9, b10⟩ := id hB
  have hxl : x < 4 ^ pPar P := by rw [hx]; exact wth_lt (b3 h hh) hc hv
  have hl := inj_miss b3 b4 hxl hn
  have eQ : ∀ i, i < l → (if i = l then x else Q i) = Q i := fun i hi => if_neg (by omega)
  have ed : ∀ i, i < l → (if i = l then d h + 1 else d i) = d i := fun i hi => if_neg (by omega)
  have sQ : (if l = l then x else Q l) = x := if_pos rfl
  have sd : (if l = l then d h + 1 else d l) = d h + 1 := if_pos rfl
  refine ⟨hl, ⟨by omega, fun i hi => ?_⟩, by omega, fun i hi => ?_, fun i j hi hj e => ?_, ?_, ?_, fun i hi => ?_, fun i j hij hj => ?_, fun _ i hi => ?_, fun i c' v' hi hc' hv' hs' => ?_⟩
  · show (if i = l then d h + 1 else d i) ≤ i
    have hdh := b1.2 h hh
    by_cases hil : i = l
    · rw [if_pos hil]; omega
    · rw [if_neg hil]; exact b1.2 i (by omega)
  · show (if i = l then x else Q i) < _
    by_cases hil : i = l
    · rw [if_pos hil]; exact hxl
    · rw [if_neg hil]; exact b3 i (by omega)
  · have e : (if i = l then x else Q i) = (if j = l then x else Q j) := e
    by_cases hil : i = l
    · rw [if_pos hil] at e
      by_cases hjl : j = l
      · omega
      · rw [if_neg hjl] at e; exact absurd e.symm (hn j (by omega))
    · rw [if_neg hil] at e
      by_cases hjl : j = l
      · rw [if_pos hjl] at e; exact absurd e (hn i (by omega))
      · rw [if_neg hjl] at e; exact b4 i j (by omega) (by omega) e
  · show (if 0 = l then x else Q 0) = g
    rw [if_neg (by omega)]; exact b5
  · show (if 0 = l then d h + 1 else d 0) = 0
    rw [if_neg (by omega)]; exact b6
  · show lev P g (if i = l then d h + 1 else d i) (if i = l then x else Q i) ∧ ∀ j, j < (if i = l then d h + 1 else d i) → ¬ lev P g j (if i = l then x else Q i)
    by_cases hil : i = l
    · rw [if_pos hil, if_pos hil]
      have e : wth x c (vin (Q h) c) = Q h := by rw [hx, wth_wth hv, wth_self]
      refine ⟨Or.inr ⟨c, vin (Q h) c, hc, vin_lt _ _, by rw [e]; exact hs, by rw [e]; exact (b7 h hh).1⟩, fun j hj hlev => ?_⟩
      obtain ⟨m, k1, k2, -⟩ := bi_comp hB j x (fun _ => by omega) hxl hlev
      exact hn m k1 k2
    · rw [if_neg hil, if_neg hil]; exact b7 i (by omega)
  · show (if i = l then d h + 1 else d i) ≤ (if j = l then d h + 1 else d j)
    by_cases hjl : j = l
    · rw [if_pos hjl]
      by_cases hil : i = l
      · rw [if_pos hil]; exact Nat.le_refl _
      · rw [if_neg hil]; exact b9 hh i (by omega)
    · rw [if_neg hjl, if_neg (by omega)]; exact b8 i j hij (by omega)
  · show (if i = l then d h + 1 else d i) ≤ (if h = l then d h + 1 else d h) + 1
    rw [ed h hh]
    by_cases hil : i = l
    · rw [if_pos hil]; exact Nat.le_refl _
    · rw [if_neg hil]; exact b9 hh i (by omega)
  · have hs' : nbk P (wth (if i = l then x else Q i) c' v') (if i = l then x else Q i) = 0 := hs'
    rw [eQ i (by omega)] at hs'
    obtain ⟨m, k1, k2, k3⟩ := b10 i c' v' hi hc' hv' hs'
    refine ⟨m, by omega, ?_, ?_⟩
    · show (if m = l then x else Q m) = wth (if i = l then x else Q i) c' v'
      rw [eQ m k1, eQ i (by omega)]; exact k2
    · show (if m = l then d h + 1 else d m) ≤ (if i = l then d h + 1 else d i) + 1
      rw [ed m k1, ed i (by omega)]; exact k3
theorem bi_step (hB : BI P g Q d h l) (hh : h < l) (ha : ∀ c v, c < pPar P → v < 4 → nbk P (wth (Q h) c v) (Q h) = 0 → ∃ j, j < l ∧ Q j = wth (Q h) c v) : BI P g Q d (h + 1) l := by
  obtain ⟨b1, b2, b3, b4, b5, b6, b7, b8, b9, b10⟩ := hB
  refine ⟨⟨by omega, b1.2⟩, b2, b3, b4, b5, b6, b7, b8, fun h1 i hi => ?_, fun i c v hi hc hv hs => ?_⟩
  · have h2 := b9 hh i hi
    have h3 := b8 h (h + 1) (by omega) h1
    omega
  · by_cases hih : i = h
    · subst hih
      obtain ⟨j, k1, k2⟩ := ha c v hc hv hs
      exact ⟨j, k1, k2, b9 hh j k1⟩
    · exact b10 i c v (by omega) hc hv hs
theorem bi_start (P : PL) (hg : g < 4 ^ pPar P) : BI P g (fun _ => g) (fun _ => 0) 0 1 := by
  refine ⟨⟨by omega, fun i _ => Nat.zero_le _⟩, by omega, fun i hi => hg, fun i j hi hj _ => by omega, rfl, rfl, fun i hi => ⟨rfl, fun j hj => absurd hj (Nat.not_lt_zero j)⟩, fun i j _ _ => Nat.le_refl _, fun _ i hi => Nat.zero_le _, fun i c v hi => absurd hi (by omega)⟩
/-- the number of changes that a shortest way has -/
def xct (P : PL) (g k x : Nat) : Prop := lev P g k x ∧ ∀ j, j < k → ¬ lev P g j x
theorem xct_uniq {k k2 x : Nat} (h1 : xct P g k x) (h2 : xct P g k2 x) : k = k2 := by
  have a : ¬ k < k2 := fun h => h2.2 k h h1.1
  have b : ¬ k2 < k := fun h => h1.2 k2 h h2.1
  omega
theorem lev_xct : ∀ k x, lev P g k x → ∃ j, j ≤ k ∧ xct P g j x
  | 0, x, hl => ⟨0, Nat.le_refl _, hl, fun j hj => absurd hj (by omega)⟩
  | k + 1, x, hl => by
    by_cases hk : lev P g k x
    · obtain ⟨j, h1, h2⟩ := lev_xct k x hk
      exact ⟨j, by omega, h2⟩
    · refine ⟨k + 1, Nat.le_refl _, hl, fun j hj h => ?_⟩
      have mono : ∀ n, lev P g j x → lev P g (j + n) x := fun n => by
        induction n with
        | zero => exact id
        | succ n ih => exact fun h => Or.inl (ih h)
      have := mono (k - j) h
      rw [show j + (k - j) = k by omega] at this
      exact hk this
end BF
