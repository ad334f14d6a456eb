/-! ===== needs ===== -/
theorem codN_vinx (x : Nat) : ∀ m, codN (vin x) 0 m = x % 4 ^ m
  | 0 => by rw [Nat.pow_zero, Nat.mod_one]; rfl
  | m + 1 => by
    show codN (vin x) 0 m + vin x (0 + m) * 4 ^ m = x % 4 ^ (m + 1)
    rw [codN_vinx x m, Nat.zero_add, Nat.mod_pow_succ]
    unfold vin
    rw [Nat.mul_comm (4 ^ m)]
theorem vin_wth {x c v k : Nat} (hx : x < 4096) (hc : c < 6) (hv : v < 4) (hk : k < 6) : vin (wth x c v) k = if k = c then v else vin x k := by
  have e : codN (vin x) 0 6 = x := by rw [codN_vinx]; exact Nat.mod_eq_of_lt hx
  have h1 := codN_wth (S := vin x) (b := 0) (v := v) 6 (fun j _ => vin_lt x (0 + j)) c hc
  rw [e] at h1
  have h2 := codN_vin (S := rup (vin x) (0 + c) v) (b := 0) 6 (fun j _ => by
    show (if 0 + j = 0 + c then v else vin x (0 + j)) < 4
    by_cases h : 0 + j = 0 + c
    · rw [if_pos h]; exact hv
    · rw [if_neg h]; exact vin_lt x _) k hk
  rw [← h1] at h2
  rw [h2]
  show (if 0 + k = 0 + c then v else vin x (0 + k)) = _
  rw [Nat.zero_add, Nat.zero_add]
theorem vin_0 (k : Nat) : vin 0 k = 0 := by unfold vin; rw [Nat.zero_div]
theorem anyN_iff {p : Nat → Bool} : ∀ n, anyN p n = true ↔ ∃ i, i < n ∧ p i = true
  | 0 => ⟨fun h => Bool.noConfusion h, fun ⟨i, h, _⟩ => absurd h (by omega)⟩
  | n + 1 => by
    have ih := anyN_iff (p := p) n
    unfold anyN
    rw [Bool.or_eq_true, ih]
    constructor
    · rintro (⟨i, h1, h2⟩ | h)
      · exact ⟨i, by omega, h2⟩
      · exact ⟨n, by omega, h⟩
    · rintro ⟨i, h1, h2⟩
      by_cases hi : i = n
      · subst hi; exact Or.inr h2
      · exact Or.inl ⟨i, by omega, h2⟩
def ned (P : PL) (x r : Nat) : Bool := decide (pLaw P (5 * r) = 0) && rbk P x r
theorem ned_iff {P : PL} {x r : Nat} : ned P x r = true ↔ pLaw P (5 * r) = 0 ∧ pLaw P (5 * r + 2) ≤ vin x (pLaw P (5 * r + 1)) ∧ vin x (pLaw P (5 * r + 3)) < pLaw P (5 * r + 4) := by
  unfold ned rbk
  simp only [Bool.and_eq_true, decide_eq_true_eq, beq_iff_eq]
  constructor
  · rintro ⟨h0, h1, h2⟩
    rw [h0, show decide ((0 : Nat) = 1) = false from rfl] at h2
    have := of_decide_eq_false h2
    exact ⟨h0, h1, by omega⟩
  · rintro ⟨h0, h1, h2⟩
    exact ⟨h0, h1, by rw [decide_eq_false (by omega), decide_eq_false (by omega)]⟩
def rsN (P : PL) (x : Nat) : Nat → Nat
  | 0 => x
  | r + 1 => if ned P (rsN P x r) r = true then wth (rsN P x r) (pLaw P (5 * r + 3)) (pLaw P (5 * r + 4)) else rsN P x r
theorem rsN_t {P : PL} {x r : Nat} (h : ned P (rsN P x r) r = true) : rsN P x (r + 1) = wth (rsN P x r) (pLaw P (5 * r + 3)) (pLaw P (5 * r + 4)) := if_pos h
theorem rsN_f {P : PL} {x r : Nat} (h : ¬ ned P (rsN P x r) r = true) : rsN P x (r + 1) = rsN P x r := if_neg h
def lwn (P : PL) : Nat → Nat → Nat
  | 0, x => x
  | d + 1, x => if rsN P x (pRul P) = x then x else lwn P d (rsN P x (pRul P))
theorem lwn_e {P : PL} {d x : Nat} (h : rsN P x (pRul P) = x) : lwn P (d + 1) x = x := if_pos h
theorem lwn_n {P : PL} {d x : Nat} (h : ¬ rsN P x (pRul P) = x) : lwn P (d + 1) x = lwn P d (rsN P x (pRul P)) := if_neg h
def svN (x : Nat) : Nat → Nat
  | 0 => 0
  | k + 1 => svN x k + vin x k
theorem svN_s (x k : Nat) : svN x (k + 1) = svN x k + vin x k := rfl
theorem svN_le (x : Nat) : ∀ k, svN x k ≤ 3 * k
  | 0 => Nat.le_refl _
  | k + 1 => by have := svN_le x k; have := vin_lt x k; rw [svN_s]; omega
theorem svN_up {x c v : Nat} (hx : x < 4096) (hc : c < 6) (hv : v < 4) (h : vin x c < v) : ∀ k, k ≤ 6 → svN x k + (if c < k then 1 else 0) ≤ svN (wth x c v) k
  | 0, _ => by rw [if_neg (by omega)]; exact Nat.le_refl _
  | k + 1, hk => by
    have ih := svN_up hx hc hv h k (by omega)
    have e := vin_wth hx hc hv (show k < 6 by omega)
    rw [svN_s, svN_s, e]
    by_cases hkc : k = c
    · subst hkc
      rw [if_neg (by omega)] at ih
      rw [if_pos rfl, if_pos (by omega)]; omega
    · rw [if_neg hkc]
      by_cases h3 : c < k
      · rw [if_pos h3] at ih; rw [if_pos (by omega)]; omega
      · rw [if_neg h3] at ih; rw [if_neg (by omega)]; omega
section ND
variable {F F1 : MM} {P : PL} {x z c v : Nat}
theorem rsN_lt (hP : WFP P) (hx : x < 4 ^ pPar P) : ∀ r, r ≤ pRul P → rsN P x r < 4 ^ pPar P
  | 0, _ => hx
  | r + 1, h => by
    have ih := rsN_lt hP hx r (by omega)
    obtain ⟨g0, g1, g2, g3, g4⟩ := hP.2.2.2.2.2.2 r (by omega)
    by_cases hn : ned P (rsN P x r) r = true
    · rw [rsN_t hn]; exact wth_lt ih g3 (by omega)
    · rw [rsN_f hn]; exact ih
theorem rsN_sv (hP : WFP P) (hx : x < 4 ^ pPar P) : ∀ r, r ≤ pRul P → (rsN P x r = x ∧ ∀ j, j < r → ¬ ned P x j = true) ∨ svN x 6 < svN (rsN P x r) 6
  | 0, _ => Or.inl ⟨rfl, fun j hj => absurd hj (by omega)⟩
  | r + 1, h => by
    have hC6 := hP.2.1.2
    have h6 := pow4_le hC6
    have hl := rsN_lt hP hx r (by omega)
    have ih := rsN_sv hP hx r (by omega)
    obtain ⟨g0, g1, g2, g3, g4⟩ := hP.2.2.2.2.2.2 r (by omega)
    by_cases hn : ned P (rsN P x r) r = true
    · rw [rsN_t hn]
      have hu := svN_up (x := rsN P x r) (by omega) (show pLaw P (5 * r + 3) < 6 by omega) (show pLaw P (5 * r + 4) < 4 by omega) (ned_iff.mp hn).2.2 6 (by omega)
      rw [if_pos (by omega)] at hu
      rcases ih with ⟨e, _⟩ | ih
      · rw [e] at hu ⊢; exact Or.inr (by omega)
      · exact Or.inr (by omega)
    · rw [rsN_f hn]
      rcases ih with ⟨e, ih⟩ | ih
      · refine Or.inl ⟨e, fun j hj => ?_⟩
        by_cases hjr : j = r
        · subst hjr; rw [e] at hn; exact hn
        · exact ih j (by omega)
      · exact Or.inr ih
theorem rsN_ge (hP : WFP P) (hx : x < 4 ^ pPar P) : ∀ r, r ≤ pRul P → ∀ k, k < 6 → vin x k ≤ vin (rsN P x r) k
  | 0, _, k, _ => Nat.le_refl _
  | r + 1, h, k, hk => by
    have hC6 := hP.2.1.2
    have h6 := pow4_le hC6
    have hl := rsN_lt hP hx r (by omega)
    have ih := rsN_ge hP hx r (by omega) k hk
    obtain ⟨g0, g1, g2, g3, g4⟩ := hP.2.2.2.2.2.2 r (by omega)
    by_cases hn : ned P (rsN P x r) r = true
    · have hq := (ned_iff.mp hn).2.2
      rw [rsN_t hn, vin_wth (by omega) (by omega) (by omega) hk]
      by_cases hkb : k = pLaw P (5 * r + 3)
      · rw [if_pos hkb]; rw [← hkb] at hq; omega
      · rw [if_neg hkb]; exact ih
    · rw [rsN_f hn]; exact ih
theorem rsN_ple (hP : WFP P) (hx : x < 4 ^ pPar P) (hz : ∀ r, r < pRul P → rbk P z r = false) (hxz : ∀ k, k < 6 → vin x k ≤ vin z k) : ∀ r, r ≤ pRul P → ∀ k, k < 6 → vin (rsN P x r) k ≤ vin z k
  | 0, _, k, hk => hxz k hk
  | r + 1, h, k, hk => by
    have hC6 := hP.2.1.2
    have h6 := pow4_le hC6
    have hl := rsN_lt hP hx r (by omega)
    have ih := rsN_ple hP hx hz hxz r (by omega)
    obtain ⟨g0, g1, g2, g3, g4⟩ := hP.2.2.2.2.2.2 r (by omega)
    by_cases hn : ned P (rsN P x r) r = true
    · obtain ⟨q0, q1, q2⟩ := ned_iff.mp hn
      rw [rsN_t hn, vin_wth (by omega) (by omega) (by omega) hk]
      by_cases hkb : k = pLaw P (5 * r + 3)
      · rw [if_pos hkb]
        have ha := ih (pLaw P (5 * r + 1)) (by omega)
        by_cases h9 : pLaw P (5 * r + 4) ≤ vin z k
        · exact h9
        · have : ned P z r = true := ned_iff.mpr ⟨q0, by omega, by rw [← hkb]; omega⟩
          unfold ned at this
          rw [hz r (by omega), Bool.and_false] at this
          exact absurd this (by decide)
      · rw [if_neg hkb]; exact ih k hk
    · rw [rsN_f hn]; exact ih k hk
theorem lwn_lt (hP : WFP P) : ∀ d x, x < 4 ^ pPar P → lwn P d x < 4 ^ pPar P
  | 0, x, h => h
  | d + 1, x, h => by
    by_cases he : rsN P x (pRul P) = x
    · rw [lwn_e he]; exact h
    · rw [lwn_n he]; exact lwn_lt hP d _ (rsN_lt hP h _ (Nat.le_refl _))
theorem lwn_fix (hP : WFP P) : ∀ d x, x < 4 ^ pPar P → 18 < svN x 6 + d → rsN P (lwn P d x) (pRul P) = lwn P d x
  | 0, x, h, hs => by have := svN_le x 6; omega
  | d + 1, x, h, hs => by
    by_cases he : rsN P x (pRul P) = x
    · rw [lwn_e he]; exact he
    · rw [lwn_n he]
      rcases rsN_sv hP h (pRul P) (Nat.le_refl _) with ⟨e, _⟩ | hlt
      · exact absurd e he
      · exact lwn_fix hP d _ (rsN_lt hP h _ (Nat.le_refl _)) (by omega)
theorem lwn_ge (hP : WFP P) : ∀ d x, x < 4 ^ pPar P → ∀ k, k < 6 → vin x k ≤ vin (lwn P d x) k
  | 0, x, h, k, hk => Nat.le_refl _
  | d + 1, x, h, k, hk => by
    by_cases he : rsN P x (pRul P) = x
    · rw [lwn_e he]; exact Nat.le_refl _
    · rw [lwn_n he]
      exact Nat.le_trans (rsN_ge hP h _ (Nat.le_refl _) k hk) (lwn_ge hP d _ (rsN_lt hP h _ (Nat.le_refl _)) k hk)
theorem lwn_ple (hP : WFP P) (hz : ∀ r, r < pRul P → rbk P z r = false) : ∀ d x, x < 4 ^ pPar P → (∀ k, k < 6 → vin x k ≤ vin z k) → ∀ k, k < 6 → vin (lwn P d x) k ≤ vin z k
  | 0, x, h, hxz, k, hk => hxz k hk
  | d + 1, x, h, hxz, k, hk => by
    by_cases he : rsN P x (pRul P) = x
    · rw [lwn_e he]; exact hxz k hk
    · rw [lwn_n he]
      exact lwn_ple hP hz d _ (rsN_lt hP h _ (Nat.le_refl _)) (rsN_ple hP h hz hxz _ (Nat.le_refl _)) k hk
/-! ===== what is possible ===== -/
def pos (P : PL) (c v : Nat) : Bool := anyN (fun x => decide (brk P x = 0) && decide (v ≤ vin x c)) (4 ^ pPar P)
def bad (P : PL) (x r : Nat) : Bool := decide (pLaw P (5 * r) = 1) && rbk P x r
theorem brk_0 {x : Nat} : brk P x = 0 ↔ ∀ r, r < pRul P → rbk P x r = false := bsum_zero (pRul P)
theorem poss_eq (hP : WFP P) (hc : c < pPar P) (hv : v < 4) : pos P c v = !(anyN (bad P (lwn P 19 (wth 0 c v))) (pRul P)) := by
  have hC6 := hP.2.1.2
  have h6 := pow4_le hC6
  have h0 : wth 0 c v < 4 ^ pPar P := wth_lt (Nat.pow_pos (by decide)) hc hv
  have hl := lwn_lt hP 19 _ h0
  have hfx := lwn_fix hP 19 _ h0 (by omega)
  have hge := lwn_ge hP 19 _ h0 c (by omega)
  rw [vin_wth (by omega) (by omega) hv (by omega), if_pos rfl] at hge
  cases hb : anyN (bad P (lwn P 19 (wth 0 c v))) (pRul P) with
  | false =>
    show pos P c v = true
    refine (anyN_iff _).mpr ⟨lwn P 19 (wth 0 c v), hl, ?_⟩
    simp only [Bool.and_eq_true, decide_eq_true_eq]
    refine ⟨brk_0.mpr (fun r hr => ?_), hge⟩
    obtain ⟨g0, -⟩ := hP.2.2.2.2.2.2 r hr
    rcases rsN_sv hP hl (pRul P) (Nat.le_refl _) with ⟨_, hne⟩ | hlt
    · have hne := hne r hr
      cases hrb : rbk P (lwn P 19 (wth 0 c v)) r with
      | false => rfl
      | true =>
        by_cases hk : pLaw P (5 * r) = 0
        · exact absurd (show ned P (lwn P 19 (wth 0 c v)) r = true by unfold ned; rw [hrb, decide_eq_true hk]; rfl) hne
        · have : anyN (bad P (lwn P 19 (wth 0 c v))) (pRul P) = true := (anyN_iff _).mpr ⟨r, hr, by unfold bad; rw [hrb, decide_eq_true (by omega)]; rfl⟩
          rw [hb] at this
          exact absurd this (by decide)
    · rw [hfx] at hlt
      omega
  | true =>
    show pos P c v = false
    cases hp : pos P c v with
    | false => rfl
    | true =>
      obtain ⟨z, hz, h9⟩ := (anyN_iff _).mp hp
      simp only [Bool.and_eq_true, decide_eq_true_eq] at h9
      have hz0 := brk_0.mp h9.1
      have hle := lwn_ple hP hz0 19 _ h0 (fun k hk => by
        rw [vin_wth (by omega) (by omega) hv hk]
        by_cases hkc : k = c
        · rw [if_pos hkc, hkc]; exact h9.2
        · rw [if_neg hkc, vin_0]; omega)
      obtain ⟨r, hr, h8⟩ := (anyN_iff _).mp hb
      obtain ⟨g0, g1, g2, g3, g4⟩ := hP.2.2.2.2.2.2 r hr
      unfold bad rbk at h8
      simp only [Bool.and_eq_true, decide_eq_true_eq, beq_iff_eq] at h8
      obtain ⟨k0, k1, k2⟩ := h8
      rw [decide_eq_true k0] at k2
      have k2 := of_decide_eq_true k2
      have a1 := hle (pLaw P (5 * r + 1)) (by omega)
      have a3 := hle (pLaw P (5 * r + 3)) (by omega)
      have hzr := hz0 r hr
      unfold rbk at hzr
      rw [decide_eq_true (show pLaw P (5 * r + 2) ≤ vin z (pLaw P (5 * r + 1)) by omega), decide_eq_true (show pLaw P (5 * r + 4) ≤ vin z (pLaw P (5 * r + 3)) by omega), decide_eq_true k0] at hzr
      exact absurd hzr (by decide)
/-! ===== the class ===== -/
theorem c_isBroken {code r : Nat} (hk : code < 4096) (hr : r < 10) (g0 : pLaw P (5 * r) ≤ 1) (g1 : pLaw P (5 * r + 1) < 6) (g2 : pLaw P (5 * r + 2) ≤ 3) (g3 : pLaw P (5 * r + 3) < 6) (g4 : pLaw P (5 * r + 4) ≤ 3) (hl : ∀ j, j < 5 → F 11 (5 * r + j) = nI (pLaw P (5 * r + j))) : s_X4_isBroken F (nI r) (nI code) = some (b01 (rbk P code r)) := by
  have l0 : F 11 (5 * r) = nI (pLaw P (5 * r)) := hl 0 (by omega)
  have l1 := hl 1 (by omega)
  have l2 := hl 2 (by omega)
  have l3 := hl 3 (by omega)
  have l4 := hl 4 (by omega)
  have hva := vin_lt code (pLaw P (5 * r + 1))
  have hvb := vin_lt code (pLaw P (5 * r + 3))
  have e5 : nI r * 5 = nI (5 * r) := by rw [li_5, pk_mul, Nat.mul_comm]
  have hone : (nI (pLaw P (5 * r)) = 1) ↔ pLaw P (5 * r) = 1 := nI_eq (b := 1) (by omega) (by omega)
  unfold s_X4_isBroken s_X0_versionIn s_X4_isBroken_b57
  simp (disch := omega) only [e5, ad_k _ 1 (show (1 : Int32) = nI 1 from rfl), ad_k _ 2 (show (2 : Int32) = nI 2 from rfl), ad_k _ 3 (show (3 : Int32) = nI 3 from rfl), ad_k _ 4 (show (4 : Int32) = nI 4 from rfl), bnd_, inb_nI, ix_nI, if_true, l0, l1, l2, l3, l4, i_vin hk g1, i_vin hk g3, nI_leI, nI_ltI, hone]
  unfold rbk
  by_cases hA : pLaw P (5 * r + 2) ≤ vin code (pLaw P (5 * r + 1))
  · rw [if_pos hA, decide_eq_true hA]
    by_cases hB : vin code (pLaw P (5 * r + 3)) < pLaw P (5 * r + 4)
    · rw [if_pos hB, decide_eq_false (show ¬ pLaw P (5 * r + 4) ≤ vin code (pLaw P (5 * r + 3)) by omega)]
      by_cases hK : pLaw P (5 * r) = 1
      · rw [if_pos hK, decide_eq_true hK]; rfl
      · rw [if_neg hK, decide_eq_false hK]; rfl
    · rw [if_neg hB, decide_eq_true (show pLaw P (5 * r + 4) ≤ vin code (pLaw P (5 * r + 3)) by omega)]
      by_cases hK : pLaw P (5 * r) = 1
      · rw [if_pos hK, decide_eq_true hK]; rfl
      · rw [if_neg hK, decide_eq_false hK]; rfl
  · rw [if_neg hA, decide_eq_false hA]; rfl
theorem c_part {r w : Nat} (hP : WFP P) (hC' : RPC F P) (hr : r < pRul P) (hw : w < 5) : s_X4_part F (nI r) (nI w) = some (nI (pLaw P (5 * r + w))) := by
  have h10 := hP.2.2.1
  have l := hC'.2.2.2.2.2.2.1 (5 * r + w) (by omega)
  have e5 : nI r * 5 = nI (5 * r) := by rw [li_5, pk_mul, Nat.mul_comm]
  unfold s_X4_part
  simp (disch := omega) only [e5, bnd_, nI_add, nI_1, inb_nI, ix_nI, nI_leI, nI_ltI, nI_eq, if_true, l]
theorem c_isBrokenP {code r : Nat} (hP : WFP P) (hC' : RPC F P) (hk : code < 4096) (hr : r < pRul P) : s_X4_isBroken F (nI r) (nI code) = some (b01 (rbk P code r)) := by
  have h10 := hP.2.2.1
  have hC6 := hP.2.1.2
  obtain ⟨g0, g1, g2, g3, g4⟩ := hP.2.2.2.2.2.2 r hr
  exact c_isBroken hk (by omega) g0 (by omega) (by omega) (by omega) (by omega) (fun j hj => hC'.2.2.2.2.2.2.1 (5 * r + j) (by omega))
theorem c_raised_b (hP : WFP P) (hC' : RPC F P) (hx : x < 4 ^ pPar P) : ∀ d i fuel, i + d = pRul P → d < fuel → s_X4_raisedByNeeds_b4 F fuel (nI (rsN P x i)) (nI i) = some (nI (rsN P x (pRul P)))
  | 0, i, fuel + 1, h, _ => by
    have h10 := hP.2.2.1
    have : i = pRul P := by omega
    rw [s_X4_raisedByNeeds_b4, if_pos (by rw [hC'.2.2.1, nI_leI (by omega) (by omega)]; omega), this]
  | d + 1, i, fuel + 1, h, hf => by
    have h10 := hP.2.2.1
    have hC6 := hP.2.1.2
    have h6 := pow4_le hC6
    have hi : i < pRul P := by omega
    have hl := rsN_lt hP hx i (by omega)
    have ih := c_raised_b hP hC' hx d (i + 1) fuel (by omega) (by omega)
    obtain ⟨g0, g1, g2, g3, g4⟩ := hP.2.2.2.2.2.2 i hi
    have p0 : s_X4_part F (nI i) 0 = some (nI (pLaw P (5 * i))) := c_part (w := 0) hP hC' hi (by omega)
    have p3 : s_X4_part F (nI i) 3 = some (nI (pLaw P (5 * i + 3))) := c_part (w := 3) hP hC' hi (by omega)
    have p4 : s_X4_part F (nI i) 4 = some (nI (pLaw P (5 * i + 4))) := c_part (w := 4) hP hC' hi (by omega)
    have pb := c_isBrokenP (code := rsN P x i) hP hC' (by omega) hi
    have hw := i_wth (code := rsN P x i) (by omega) (show pLaw P (5 * i + 3) < 6 by omega) (show pLaw P (5 * i + 4) < 4 by omega)
    have hz : (nI (pLaw P (5 * i)) = 0) ↔ pLaw P (5 * i) = 0 := nI_eq (b := 0) (by omega) (by omega)
    rw [s_X4_raisedByNeeds_b4, if_neg (by rw [hC'.2.2.1, nI_leI (by omega) (by omega)]; omega), p0, bnd_, pb, p3, p4]
    unfold s_X0_with
    simp only [bnd_, hw, nI_1]
    by_cases hK : pLaw P (5 * i) = 0
    · rw [if_pos (hz.mpr hK)]
      cases hb : rbk P (rsN P x i) i with
      | false =>
        rw [if_pos b01_f]
        rw [rsN_f (by unfold ned; rw [hb, Bool.and_false]; decide)] at ih
        exact ih
      | true =>
        rw [if_neg b01_t]
        rw [rsN_t (by unfold ned; rw [hb, decide_eq_true hK]; rfl)] at ih
        exact ih
    · rw [if_neg (fun e => hK (hz.mp e))]
      rw [rsN_f (by unfold ned; rw [decide_eq_false hK, Bool.false_and]; decide)] at ih
      exact ih
theorem c_raised (hP : WFP P) (hC' : RPC F P) (hx : x < 4 ^ pPar P) : s_X4_raisedByNeeds F (nI x) = some (nI (rsN P x (pRul P))) := by
  have h10 := hP.2.2.1
  exact c_raised_b hP hC' hx (pRul P) 0 fu_ (by omega) (fu_lt (by omega))
theorem c_lwn_b (hP : WFP P) (hC' : RPC F P) : ∀ d i x fuel, i + d = 19 → d < fuel → 18 < svN x 6 + d → x < 4 ^ pPar P → s_X4_leastWithNeeds_b4 F fuel (nI x) (nI i) = some (nI (lwn P d x))
  | 0, i, x, fuel + 1, h, _, hs, hx => by have := svN_le x 6; omega
  | d + 1, i, x, fuel + 1, h, hf, hs, hx => by
    have hC6 := hP.2.1.2
    have h6 := pow4_le hC6
    have hl := rsN_lt hP hx _ (Nat.le_refl _)
    rw [s_X4_leastWithNeeds_b4, if_neg (by rw [show (18 : Int32) = nI 18 from rfl, nI_ltI (by omega) (by omega)]; omega), c_raised hP hC' hx]
    simp only [bnd_, nI_1]
    by_cases he : rsN P x (pRul P) = x
    · rw [if_pos (by rw [he]), lwn_e he]
    · rw [if_neg (by rw [nI_eq (by omega) (by omega)]; exact he), lwn_n he]
      rcases rsN_sv hP hx (pRul P) (Nat.le_refl _) with ⟨e, _⟩ | hlt
      · exact absurd e he
      · exact c_lwn_b hP hC' d (i + 1) _ fuel (by omega) (by omega) (by omega) hl
theorem c_allow_b (hP : WFP P) (hC' : RPC F P) (hc : c < pPar P) (hv : v < 4) : ∀ d i fuel, i + d = 4 ^ pPar P → d < fuel → anyN (fun x => decide (brk P x = 0) && decide (v ≤ vin x c)) i = false → s_X4_allow_b2 F fuel (nI c) (nI v) (nI i) = some (b01 (pos P c v))
  | 0, i, fuel + 1, h, _, ha => by
    have h6 := pow4_le hP.2.1.2
    have hi : i = 4 ^ pPar P := by omega
    rw [s_X4_allow_b2, if_pos (by rw [hC'.2.2.2.2.2.2.2.1, nI_leI (by omega) (by omega)]; omega)]
    unfold pos
    rw [← hi, ha]
    rfl
  | d + 1, i, fuel + 1, h, hf, ha => by
    have hC6 := hP.2.1.2
    have h6 := pow4_le hC6
    have ih := c_allow_b hP hC' hc hv d (i + 1) fuel (by omega) (by omega)
    rw [anyN_s ha] at ih
    have hb := brk_lt hP i
    have hvi := vin_lt i c
    have e12 := hC'.2.2.2.2.2.2.2.2 i (by omega)
    have hz : (nI (brk P i) = 0) ↔ brk P i = 0 := nI_eq (b := 0) (by omega) (by omega)
    rw [s_X4_allow_b2, if_neg (by rw [hC'.2.2.2.2.2.2.2.1, nI_leI (by omega) (by omega)]; omega)]
    unfold s_X0_versionIn
    simp (disch := omega) only [bnd_, nI_add, nI_1, inb_nI, ix_nI, nI_leI, nI_ltI, nI_eq, if_true, e12, i_vin (show i < 4096 by omega) (show c < 6 by omega), hz]
    by_cases hB : brk P i = 0
    · rw [if_pos hB]
      by_cases hV : vin i c < v
      · rw [if_pos hV]
        exact ih (by rw [decide_eq_false (show ¬ v ≤ vin i c by omega), Bool.and_false])
      · rw [if_neg hV, show pos P c v = true from anyN_mono (show i + 1 ≤ 4 ^ pPar P by omega) ((anyN_s ha).trans (by rw [decide_eq_true hB, decide_eq_true (show v ≤ vin i c by omega)]; rfl))]
        rfl
    · rw [if_neg hB]
      exact ih (by rw [decide_eq_false hB, Bool.false_and])
theorem c_allow (hP : WFP P) (hC' : RPC F P) (hc : c < pPar P) (hv : v < 4) : s_X4_allow F (nI c) (nI v) = some (b01 (pos P c v)) := by
  have h6 := pow4_le hP.2.1.2
  exact c_allow_b hP hC' hc hv (4 ^ pPar P) 0 fu_ (by omega) (fu_lt (by omega)) rfl
/-! ===== the reference ===== -/
def RNd (F : MM) (x : Nat) : Prop := ∀ k, k < 6 → F 179 k = nI (vin x k)
def mor (P : PL) (x r : Nat) : Int32 := b01 (!(decide (rsN P x r = x)))
theorem m_ln41 {k32 : MM → Int32 → Option MM} (hP : WFP P) (hx : x < 4 ^ pPar P) : ∀ d i fuel F, i + d = pRul P → d < fuel → RPM F P → RNd F (rsN P x i) → ∃ F1, s_X9_layNeeds_b41 k32 fuel F (mor P x i) (nI i) = k32 F1 (mor P x (pRul P)) ∧ RNd F1 (rsN P x (pRul P)) ∧ ∀ a, a ≠ 179 → F1 a = F a
  | 0, i, fuel + 1, F, h, _, hM, hN => by
    have h10 := hP.2.2.1
    have hi : i = pRul P := by omega
    subst hi
    exact ⟨F, by rw [s_X9_layNeeds_b41, if_pos (by rw [hM.2.2.1, nI_leI (by omega) (by omega)]; omega)], hN, fun _ _ => rfl⟩
  | d + 1, i, fuel + 1, F, h, hf, hM, hN => by
    have h10 := hP.2.2.1
    have hC6 := hP.2.1.2
    have h6 := pow4_le hC6
    have hi : i < pRul P := by omega
    have hl := rsN_lt hP hx i (by omega)
    obtain ⟨g0, g1, g2, g3, g4⟩ := hP.2.2.2.2.2.2 i hi
    have l0 := hM.2.2.2.2.2.2 (5 * i) (by omega)
    have l1 := hM.2.2.2.2.2.2 (5 * i + 1) (by omega)
    have l2 := hM.2.2.2.2.2.2 (5 * i + 2) (by omega)
    have l3 := hM.2.2.2.2.2.2 (5 * i + 3) (by omega)
    have l4 := hM.2.2.2.2.2.2 (5 * i + 4) (by omega)
    have na := hN (pLaw P (5 * i + 1)) (by omega)
    have nb := hN (pLaw P (5 * i + 3)) (by omega)
    have va := vin_lt (rsN P x i) (pLaw P (5 * i + 1))
    have vb := vin_lt (rsN P x i) (pLaw P (5 * i + 3))
    have e5 : (5 : Int32) * nI i = nI (5 * i) := by rw [li_5, pk_mul]
    have hz : (nI (pLaw P (5 * i)) = 0) ↔ pLaw P (5 * i) = 0 := nI_eq (b := 0) (by omega) (by omega)
    rw [s_X9_layNeeds_b41, if_neg (by rw [hM.2.2.1, nI_leI (by omega) (by omega)]; omega)]
    have b0 := inb_nI (show 5 * i < 50 by omega) (by decide)
    have b1 := inb_nI (show 5 * i + 1 < 50 by omega) (by decide)
    have b2 := inb_nI (show 5 * i + 2 < 50 by omega) (by decide)
    have b3 := inb_nI (show 5 * i + 3 < 50 by omega) (by decide)
    have b4 := inb_nI (show 5 * i + 4 < 50 by omega) (by decide)
    have ba := inb_nI (show pLaw P (5 * i + 1) < 6 by omega) (by decide)
    have bb := inb_nI (show pLaw P (5 * i + 3) < 6 by omega) (by decide)
    have x0 := ix_nI (show 5 * i < 2 ^ 31 by omega)
    have x1 := ix_nI (show 5 * i + 1 < 2 ^ 31 by omega)
    have x2 := ix_nI (show 5 * i + 2 < 2 ^ 31 by omega)
    have x3 := ix_nI (show 5 * i + 3 < 2 ^ 31 by omega)
    have x4 := ix_nI (show 5 * i + 4 < 2 ^ 31 by omega)
    have xa := ix_nI (show pLaw P (5 * i + 1) < 2 ^ 31 by omega)
    have xb := ix_nI (show pLaw P (5 * i + 3) < 2 ^ 31 by omega)
    have cA := nI_ltI (show vin (rsN P x i) (pLaw P (5 * i + 1)) < 2 ^ 31 by omega) (show pLaw P (5 * i + 2) < 2 ^ 31 by omega)
    have cB := nI_leI (show pLaw P (5 * i + 4) < 2 ^ 31 by omega) (show vin (rsN P x i) (pLaw P (5 * i + 3)) < 2 ^ 31 by omega)
    simp only [e5, ad_k _ 1 (show (1 : Int32) = nI 1 from rfl), ad_k _ 2 (show (2 : Int32) = nI 2 from rfl), ad_k _ 3 (show (3 : Int32) = nI 3 from rfl), ad_k _ 4 (show (4 : Int32) = nI 4 from rfl), bnd_, b0, b1, b2, b3, b4, ba, bb, x0, x1, x2, x3, x4, xa, xb, if_true, l0, l1, l2, l3, l4, na, nb, cA, cB, hz]
    have hno : ¬ ned P (rsN P x i) i = true → ∃ F1, s_X9_layNeeds_b41 k32 fuel F (mor P x i) (nI (i + 1)) = k32 F1 (mor P x (pRul P)) ∧ RNd F1 (rsN P x (pRul P)) ∧ ∀ a, a ≠ 179 → F1 a = F a := fun hn => by
      have e := rsN_f hn
      have ih := m_ln41 (k32 := k32) hP hx d (i + 1) fuel F (by omega) (by omega) hM (by rw [e]; exact hN)
      have em : mor P x (i + 1) = mor P x i := by unfold mor; rw [e]
      rw [em] at ih
      exact ih
    by_cases hK : pLaw P (5 * i) = 0
    · rw [if_pos hK]
      by_cases hA : vin (rsN P x i) (pLaw P (5 * i + 1)) < pLaw P (5 * i + 2)
      · rw [if_pos hA]
        exact hno (fun hn => by have := (ned_iff.mp hn).2.1; omega)
      · rw [if_neg hA]
        by_cases hB : pLaw P (5 * i + 4) ≤ vin (rsN P x i) (pLaw P (5 * i + 3))
        · rw [if_pos hB]
          exact hno (fun hn => by have := (ned_iff.mp hn).2.2; omega)
        · rw [if_neg hB]
          have hn : ned P (rsN P x i) i = true := ned_iff.mpr ⟨hK, by omega, by omega⟩
          have e := rsN_t hn
          have em : mor P x (i + 1) = 1 := by
            unfold mor
            rcases rsN_sv hP hx (i + 1) (by omega) with ⟨_, hne⟩ | hlt
            · rcases rsN_sv hP hx i (by omega) with ⟨e2, _⟩ | hlt2
              · rw [e2] at hn; exact absurd hn (hne i (by omega))
              · have hu := svN_up (x := rsN P x i) (by omega) (show pLaw P (5 * i + 3) < 6 by omega) (show pLaw P (5 * i + 4) < 4 by omega) (ned_iff.mp hn).2.2 6 (by omega)
                rw [if_pos (by omega)] at hu
                rw [decide_eq_false (fun h9 => by rw [e] at h9; rw [h9] at hu; omega)]; rfl
            · rw [decide_eq_false (fun h9 => by rw [h9] at hlt; omega)]; rfl
          obtain ⟨F1, e1, n1, f1⟩ := m_ln41 (k32 := k32) hP hx d (i + 1) fuel (mup F 179 (pLaw P (5 * i + 3)) (nI (pLaw P (5 * i + 4)))) (by omega) (by omega) (rpm_fr hM (r := 179) (by omega) (fun a ha => mup_ne ha)) (fun k hk => by
            rw [mup_self, e, vin_wth (by omega) (by omega) (by omega) hk]
            by_cases hkb : k = pLaw P (5 * i + 3)
            · rw [if_pos hkb, hkb, pk_us]
            · rw [if_neg hkb, pk_un hkb]; exact hN k hk)
          rw [em] at e1
          exact ⟨F1, e1, n1, fun a ha => by rw [f1 a ha, mup_ne ha]⟩
    · rw [if_neg hK]
      exact hno (fun hn => hK (ned_iff.mp hn).1)
theorem m_ln32 (hP : WFP P) : ∀ d x fuel F, d < fuel → 18 < svN x 6 + d → x < 4 ^ pPar P → RPM F P → RNd F x → ∃ F1, s_X9_layNeeds_b32 fuel F 1 = some F1 ∧ RNd F1 (lwn P d x) ∧ ∀ a, a ≠ 179 → F1 a = F a
  | 0, x, fuel + 1, F, _, hs, hx, hM, hN => by have := svN_le x 6; omega
  | d + 1, x, fuel0 + 1, F, hf, hs, hx, hM, hN => by
    have h10 := hP.2.2.1
    obtain ⟨fuel, rfl⟩ : ∃ fuel, fuel0 = fuel + 1 := ⟨fuel0 - 1, by omega⟩
    obtain ⟨F1, e1, n1, f1⟩ := m_ln41 (k32 := s_X9_layNeeds_b32 (fuel + 1)) hP hx (pRul P) 0 fu_ F (by omega) (fu_lt (by omega)) hM hN
    have e1 : s_X9_layNeeds_b41 (s_X9_layNeeds_b32 (fuel + 1)) fu_ F (mor P x 0) 0 = _ := e1
    have m0 : mor P x 0 = 0 := by unfold mor; rw [decide_eq_true (show rsN P x 0 = x from rfl)]; rfl
    rw [m0] at e1
    rw [s_X9_layNeeds_b32, if_neg i10_, e1]
    by_cases he : rsN P x (pRul P) = x
    · have m1 : mor P x (pRul P) = 0 := by unfold mor; rw [decide_eq_true he]; rfl
      rw [m1, lwn_e he, s_X9_layNeeds_b32, if_pos rfl]
      rw [he] at n1
      exact ⟨F1, rfl, n1, f1⟩
    · have m1 : mor P x (pRul P) = 1 := by unfold mor; rw [decide_eq_false he]; rfl
      rw [m1, lwn_n he]
      rcases rsN_sv hP hx (pRul P) (Nat.le_refl _) with ⟨e, _⟩ | hlt
      · exact absurd e he
      · obtain ⟨F2, e2, n2, f2⟩ := m_ln32 hP d (rsN P x (pRul P)) (fuel + 1) F1 (by omega) (by omega) (rsN_lt hP hx _ (Nat.le_refl _)) (rpm_fr hM (r := 179) (by omega) f1) n1
        exact ⟨F2, e2, n2, fun a ha => by rw [f2 a ha, f1 a ha]⟩
theorem m_ln2 (hP : WFP P) (hc : c < pPar P) (hv : v < 4) : ∀ d i fuel F, i + d = 6 → d < fuel → RPM F P → (∀ k, k < i → F 179 k = nI (vin (wth 0 c v) k)) → ∃ F1, s_X9_layNeeds_b2 fuel F (nI c) (nI v) (nI i) = some F1 ∧ RNd F1 (lwn P 19 (wth 0 c v)) ∧ ∀ a, a ≠ 179 → F1 a = F a
  | 0, i, fuel + 1, F, h, _, hM, hN => by
    have hi : i = 6 := by omega
    subst hi
    have h0 : wth 0 c v < 4 ^ pPar P := wth_lt (Nat.pow_pos (by decide)) hc hv
    obtain ⟨F1, e1, n1, f1⟩ := m_ln32 hP 19 (wth 0 c v) fu_ F (fu_lt (by omega)) (by omega) h0 hM hN
    refine ⟨F1, ?_, n1, f1⟩
    rw [s_X9_layNeeds_b2, if_pos (by decide)]
    exact e1
  | d + 1, i, fuel + 1, F, h, hf, hM, hN => by
    have hC6 := hP.2.1.2
    have hvk := vin_wth (x := 0) (c := c) (v := v) (k := i) (by omega) (by omega) hv (by omega)
    rw [vin_0] at hvk
    rw [s_X9_layNeeds_b2, if_neg (by rw [li_6, nI_leI (by omega) (by omega)]; omega)]
    have go : ∀ w, vin (wth 0 c v) i = w → ∃ F1, s_X9_layNeeds_b2 fuel (mup F 179 i (nI w)) (nI c) (nI v) (nI (i + 1)) = some F1 ∧ RNd F1 (lwn P 19 (wth 0 c v)) ∧ ∀ a, a ≠ 179 → F1 a = F a := fun w hw => by
      obtain ⟨F1, e1, n1, f1⟩ := m_ln2 hP hc hv d (i + 1) fuel (mup F 179 i (nI w)) (by omega) (by omega) (rpm_fr hM (r := 179) (by omega) (fun a ha => mup_ne ha)) (fun k hk => by
        rw [mup_self]
        by_cases hki : k = i
        · rw [hki, pk_us, hw]
        · rw [pk_un hki]; exact hN k (by omega))
      exact ⟨F1, e1, n1, fun a ha => by rw [f1 a ha, mup_ne ha]⟩
    by_cases hic : i = c
    · rw [if_pos hic] at hvk
      simp (disch := omega) only [bnd_, nI_1, inb_nI, ix_nI, if_true, if_pos (show nI i = nI c by rw [hic])]
      exact go v hvk
    · rw [if_neg hic] at hvk
      simp (disch := omega) only [bnd_, nI_1, inb_nI, ix_nI, if_true, if_neg (show ¬ nI i = nI c by rw [nI_eq (by omega) (by omega)]; exact hic)]
      exact go 0 hvk
theorem m_layNeeds (hP : WFP P) (hc : c < pPar P) (hv : v < 4) (hM : RPM F P) : ∃ F1, s_X9_layNeeds F (nI c) (nI v) = some F1 ∧ RNd F1 (lwn P 19 (wth 0 c v)) ∧ ∀ a, a ≠ 179 → F1 a = F a := m_ln2 hP hc hv 6 0 fu_ F (by omega) (fu_lt (by omega)) hM (fun k hk => absurd hk (by omega))
theorem m_poss44 (hP : WFP P) (hM : RPM F P) (hN : RNd F x) : ∀ d i fuel, i + d = pRul P → d < fuel → s_X9_isPossible_b44 fuel F (b01 (!(anyN (bad P x) i))) (nI i) = some (b01 (!(anyN (bad P x) (pRul P))), F)
  | 0, i, fuel + 1, h, _ => by
    have h10 := hP.2.2.1
    have hi : i = pRul P := by omega
    subst hi
    rw [s_X9_isPossible_b44, if_pos (by rw [hM.2.2.1, nI_leI (by omega) (by omega)]; omega)]
    cases anyN (bad P x) (pRul P) <;> rfl
  | d + 1, i, fuel + 1, h, hf => by
    have h10 := hP.2.2.1
    have hC6 := hP.2.1.2
    have hi : i < pRul P := by omega
    have ih := m_poss44 hP hM hN d (i + 1) fuel (by omega) (by omega)
    obtain ⟨g0, g1, g2, g3, g4⟩ := hP.2.2.2.2.2.2 i hi
    have l0 := hM.2.2.2.2.2.2 (5 * i) (by omega)
    have l1 := hM.2.2.2.2.2.2 (5 * i + 1) (by omega)
    have l2 := hM.2.2.2.2.2.2 (5 * i + 2) (by omega)
    have l3 := hM.2.2.2.2.2.2 (5 * i + 3) (by omega)
    have l4 := hM.2.2.2.2.2.2 (5 * i + 4) (by omega)
    have na := hN (pLaw P (5 * i + 1)) (by omega)
    have nb := hN (pLaw P (5 * i + 3)) (by omega)
    have va := vin_lt x (pLaw P (5 * i + 1))
    have vb := vin_lt x (pLaw P (5 * i + 3))
    have e5 : (5 : Int32) * nI i = nI (5 * i) := by rw [li_5, pk_mul]
    have hone : (nI (pLaw P (5 * i)) = 1) ↔ pLaw P (5 * i) = 1 := nI_eq (b := 1) (by omega) (by omega)
    rw [s_X9_isPossible_b44, if_neg (by rw [hM.2.2.1, nI_leI (by omega) (by omega)]; omega)]
    have b0 := inb_nI (show 5 * i < 50 by omega) (by decide)
    have b1 := inb_nI (show 5 * i + 1 < 50 by omega) (by decide)
    have b2 := inb_nI (show 5 * i + 2 < 50 by omega) (by decide)
    have b3 := inb_nI (show 5 * i + 3 < 50 by omega) (by decide)
    have b4 := inb_nI (show 5 * i + 4 < 50 by omega) (by decide)
    have ba := inb_nI (show pLaw P (5 * i + 1) < 6 by omega) (by decide)
    have bb := inb_nI (show pLaw P (5 * i + 3) < 6 by omega) (by decide)
    have x0 := ix_nI (show 5 * i < 2 ^ 31 by omega)
    have x1 := ix_nI (show 5 * i + 1 < 2 ^ 31 by omega)
    have x2 := ix_nI (show 5 * i + 2 < 2 ^ 31 by omega)
    have x3 := ix_nI (show 5 * i + 3 < 2 ^ 31 by omega)
    have x4 := ix_nI (show 5 * i + 4 < 2 ^ 31 by omega)
    have xa := ix_nI (show pLaw P (5 * i + 1) < 2 ^ 31 by omega)
    have xb := ix_nI (show pLaw P (5 * i + 3) < 2 ^ 31 by omega)
    have cA := nI_ltI (show vin (x) (pLaw P (5 * i + 1)) < 2 ^ 31 by omega) (show pLaw P (5 * i + 2) < 2 ^ 31 by omega)
    have cB := nI_leI (show pLaw P (5 * i + 4) < 2 ^ 31 by omega) (show vin (x) (pLaw P (5 * i + 3)) < 2 ^ 31 by omega)
    simp only [e5, ad_k _ 1 (show (1 : Int32) = nI 1 from rfl), ad_k _ 2 (show (2 : Int32) = nI 2 from rfl), ad_k _ 3 (show (3 : Int32) = nI 3 from rfl), ad_k _ 4 (show (4 : Int32) = nI 4 from rfl), bnd_, b0, b1, b2, b3, b4, ba, bb, x0, x1, x2, x3, x4, xa, xb, if_true, l0, l1, l2, l3, l4, na, nb, cA, cB, hone]
    cases ha : anyN (bad P x) i with
    | true =>
      rw [anyN_t ha] at ih
      rw [if_pos (show b01 (!true) = 0 from rfl)]
      exact ih
    | false =>
      rw [anyN_s ha] at ih
      rw [if_neg (show ¬ b01 (!false) = 0 by decide)]
      by_cases hK : pLaw P (5 * i) = 1
      · rw [if_pos hK]
        by_cases hA : vin x (pLaw P (5 * i + 1)) < pLaw P (5 * i + 2)
        · rw [if_pos hA]
          rw [show bad P x i = false by unfold bad rbk; rw [decide_eq_false (show ¬ pLaw P (5 * i + 2) ≤ vin x (pLaw P (5 * i + 1)) by omega), Bool.false_and, Bool.and_false]] at ih
          exact ih
        · rw [if_neg hA]
          by_cases hB : pLaw P (5 * i + 4) ≤ vin x (pLaw P (5 * i + 3))
          · rw [if_pos hB]
            rw [show bad P x i = true by unfold bad rbk; rw [decide_eq_true (show pLaw P (5 * i + 2) ≤ vin x (pLaw P (5 * i + 1)) by omega), decide_eq_true hB, decide_eq_true hK]; rfl] at ih
            exact ih
          · rw [if_neg hB]
            rw [show bad P x i = false by unfold bad rbk; rw [decide_eq_true (show pLaw P (5 * i + 2) ≤ vin x (pLaw P (5 * i + 1)) by omega), decide_eq_false hB, decide_eq_true hK]; rfl] at ih
            exact ih
      · rw [if_neg hK]
        rw [show bad P x i = false by unfold bad; rw [decide_eq_false hK, Bool.false_and]] at ih
        exact ih
end ND
/-! ===== needs: they agree ===== -/
theorem inv_179 {F F1 : MM} {t : Nat} (hI : INV t F) (hf : ∀ a, a ≠ 179 → F1 a = F a) : INV t F1 := by
  obtain ⟨P, S, L, T, m, H, kp, K, hA, hC, hM⟩ := hI
  exact ⟨P, S, L, T, m, H, kp, K, hA, invc_fr hC (fun x hx => hf x (by omega)), invm_fr hM (fun j _ => by rw [hf 164 (by omega)]) (fun x hx => hf x (by omega))⟩
theorem b01_and (b : Bool) : b01 b &&& 1 = b01 b := by cases b <;> decide
theorem ag_needed {F : MM} {t : Nat} (ht : t < 900000) (hI : INV t F) (c v b : Int32) : AgR t [ex_ioo, ex_iae] (s_X8_needed F c v b) (s_X9_needed F c v b) := by
  obtain ⟨P, S, L, T, m, H, kp, K, hA, hCI, hMI⟩ := id hI
  obtain ⟨hP, hS, ⟨hL, hT⟩, ⟨hm, hH⟩, hK⟩ := hA
  obtain ⟨cP, cS, cT, cH, cK, cW⟩ := id hCI
  obtain ⟨mP, mS, mT, mH, mK⟩ := id hMI
  obtain ⟨m0, n0, -⟩ := invm_0 hMI 0
  have hN5 := hP.1.2
  have hC6 := hP.2.1.2
  have hR10 := hP.2.2.1
  have al : alen 171 = 107 := by decide
  have hb := wfs_b hS (by omega)
  unfold s_X8_needed s_X9_needed s_X9_needed_b17
  rcases arg_ c (n := pPar P) (by have := hP.2.1.2; omega) with ⟨jc, hc, rfl⟩ | oc
  · have c0 := (show _ from (cP_ok hP cP hc : s_X8_requireComponent F (nI jc) = some (.inl ())))
    have d0 := (show _ from (mP_ok hP mP hc : s_X9_isPart F (nI jc) = some 1))
    rcases arg_ b (n := pPar P) (by have := hP.2.1.2; omega) with ⟨jb, hb, rfl⟩ | ob
    · have c1 := (show _ from (cP_ok hP cP hb : s_X8_requireComponent F (nI jb) = some (.inl ())))
      have d1 := (show _ from (mP_ok hP mP hb : s_X9_isPart F (nI jb) = some 1))
      rcases arg_ v (n := 4) (by omega) with ⟨jv, hv, rfl⟩ | ov
      · have c2 := (show _ from (cG_ok (a := 0) (b := 3) rfl rfl (by omega) (by omega) (by omega) : s_X8_requireRange F (nI jv) 0 3 = some (.inl ())))
        have d2 := (show _ from (mV_ok hv : s_X9_isVersion F (nI jv) = some 1))
        have h6 := pow4_le hC6
        have h0 : wth 0 jc jv < 4 ^ pPar P := wth_lt (Nat.pow_pos (by decide)) hc hv
        obtain ⟨F1, e1, n1, f1⟩ := m_layNeeds hP hc hv m0
        have ew : s_X0_with F 0 (nI jc) (nI jv) = some (nI (wth 0 jc jv)) := by
          have := i_wth (code := 0) (by omega) (show jc < 6 by omega) hv
          unfold s_X0_with
          exact congrArg some this
        have el : s_X4_leastWithNeeds F (nI (wth 0 jc jv)) = some (nI (lwn P 19 (wth 0 jc jv))) := c_lwn_b hP cP 19 0 _ fu_ (by omega) (fu_lt (by omega)) (by omega) h0
        have hl := lwn_lt hP 19 _ h0
        have ev : s_X0_versionIn F (nI (lwn P 19 (wth 0 jc jv))) (nI jb) = some (nI (vin (lwn P 19 (wth 0 jc jv)) jb)) := by
          unfold s_X0_versionIn
          rw [i_vin (by omega) (by omega)]
        simp only [c0, d0, c1, d1, c2, d2, tbR_l, bnd_, ite_10, rf_0, ew, el, ev, e1, inb_nI (show jb < 6 by omega) (show 6 < 2 ^ 31 by omega), ix_nI (show jb < 2 ^ 31 by omega), if_true, n1 jb (by omega)]
        exact agR_o2 (inv_179 (inv_0 hI 0) f1) (by rw [f1 164 (by omega)]; exact mup_00 F 0)
      · have c2 := (show _ from (cV_no (b := 3) (by decide) (by omega) ov : s_X8_requireRange F v 0 3 = some (.inr ex_iae)))
        have d2 := (show _ from (mV_no ov : s_X9_isVersion F v = some 0))
        simp only [c0, d0, c1, d1, c2, d2, tbR_l, tbR_r, bnd_, ite_10, ite_00, rf_0, rf_1, rf_2]
        exact agR_no (k := 2) hI (by decide) (by decide)
    · have c1 := (show _ from (cP_no cP ob : s_X8_requireComponent F b = some (.inr ex_ioo)))
      have d1 := (show _ from (mP_no hP mP ob : s_X9_isPart F b = some 0))
      simp only [c0, d0, c1, d1, tbR_l, tbR_r, bnd_, ite_10, ite_00, rf_0, rf_1, rf_2]
      exact agR_no (k := 1) hI (by decide) (by decide)
  · have c0 := (show _ from (cP_no cP oc : s_X8_requireComponent F c = some (.inr ex_ioo)))
    have d0 := (show _ from (mP_no hP mP oc : s_X9_isPart F c = some 0))
    simp only [c0, d0, tbR_l, tbR_r, bnd_, ite_10, ite_00, rf_0, rf_1, rf_2]
    exact agR_no (k := 1) hI (by decide) (by decide)
theorem ag_isPossible {F : MM} {t : Nat} (ht : t < 900000) (hI : INV t F) (c v : Int32) : AgR t [ex_ioo, ex_iae] (s_X8_isPossible F c v) (s_X9_isPossible F c v) := by
  obtain ⟨P, S, L, T, m, H, kp, K, hA, hCI, hMI⟩ := id hI
  obtain ⟨hP, hS, ⟨hL, hT⟩, ⟨hm, hH⟩, hK⟩ := hA
  obtain ⟨cP, cS, cT, cH, cK, cW⟩ := id hCI
  obtain ⟨mP, mS, mT, mH, mK⟩ := id hMI
  obtain ⟨m0, n0, -⟩ := invm_0 hMI 0
  have hN5 := hP.1.2
  have hC6 := hP.2.1.2
  have hR10 := hP.2.2.1
  have al : alen 171 = 107 := by decide
  have hb := wfs_b hS (by omega)
  unfold s_X8_isPossible s_X9_isPossible
  rcases arg_ c (n := pPar P) (by have := hP.2.1.2; omega) with ⟨jc, hc, rfl⟩ | oc
  · have c0 := (show _ from (cP_ok hP cP hc : s_X8_requireComponent F (nI jc) = some (.inl ())))
    have d0 := (show _ from (mP_ok hP mP hc : s_X9_isPart F (nI jc) = some 1))
    rcases arg_ v (n := 4) (by omega) with ⟨jv, hv, rfl⟩ | ov
    · have c1 := (show _ from (cG_ok (a := 0) (b := 3) rfl rfl (by omega) (by omega) (by omega) : s_X8_requireRange F (nI jv) 0 3 = some (.inl ())))
      have d1 := (show _ from (mV_ok hv : s_X9_isVersion F (nI jv) = some 1))
      have h6 := pow4_le hC6
      have h0 : wth 0 jc jv < 4 ^ pPar P := wth_lt (Nat.pow_pos (by decide)) hc hv
      obtain ⟨F1, e1, n1, f1⟩ := m_layNeeds hP hc hv m0
      have ea := c_allow hP cP hc hv
      have em : s_X9_isPossible_b44 fu_ F1 1 0 = some (b01 (pos P jc jv), F1) := by
        rw [poss_eq hP hc hv]
        exact m_poss44 hP (rpm_fr m0 (r := 179) (by omega) f1) n1 (pRul P) 0 fu_ (by omega) (fu_lt (by omega))
      simp only [c0, d0, c1, d1, tbR_l, bnd_, ite_10, rf_0, ea, b01_and, if_true, e1, em]
      exact agR_o2 (inv_179 (inv_0 hI 0) f1) (by rw [f1 164 (by omega)]; exact mup_00 F 0)
    · have c1 := (show _ from (cV_no (b := 3) (by decide) (by omega) ov : s_X8_requireRange F v 0 3 = some (.inr ex_iae)))
      have d1 := (show _ from (mV_no ov : s_X9_isVersion F v = some 0))
      simp only [c0, d0, c1, d1, tbR_l, tbR_r, bnd_, ite_10, ite_00, rf_0, rf_1, rf_2]
      exact agR_no (k := 2) hI (by decide) (by decide)
  · have c0 := (show _ from (cP_no cP oc : s_X8_requireComponent F c = some (.inr ex_ioo)))
    have d0 := (show _ from (mP_no hP mP oc : s_X9_isPart F c = some 0))
    simp only [c0, d0, tbR_l, tbR_r, bnd_, ite_10, ite_00, rf_0, rf_1, rf_2]
    exact agR_no (k := 1) hI (by decide) (by decide)
