/-! ===== counts, and methods that read in loops ===== -/
def cntN (p : Nat → Bool) : Nat → Nat
  | 0 => 0
  | n + 1 => cntN p n + (if p n then 1 else 0)
theorem cntN_t {p : Nat → Bool} {i : Nat} (h : p i = true) : cntN p (i + 1) = cntN p i + 1 := by
  show cntN p i + (if p i then 1 else 0) = _
  rw [if_pos h]
theorem cntN_f {p : Nat → Bool} {i : Nat} (h : p i = false) : cntN p (i + 1) = cntN p i := by
  show cntN p i + (if p i then 1 else 0) = _
  rw [h]; rfl
theorem cntN_le (p : Nat → Bool) : ∀ n, cntN p n ≤ n
  | 0 => Nat.le_refl _
  | n + 1 => by
    have := cntN_le p n
    cases h : p n with
    | true => rw [cntN_t h]; omega
    | false => rw [cntN_f h]; omega
theorem cntN_mono {p q : Nat → Bool} : ∀ n, (∀ i, i < n → p i = true → q i = true) → cntN p n ≤ cntN q n
  | 0, _ => Nat.le_refl _
  | n + 1, h => by
    have ih := cntN_mono n (fun i hi => h i (by omega))
    cases hp : p n with
    | true => rw [cntN_t hp, cntN_t (h n (by omega) hp)]; omega
    | false =>
      rw [cntN_f hp]
      cases hq : q n with
      | true => rw [cntN_t hq]; omega
      | false => rw [cntN_f hq]; exact ih
theorem cntN_lt {p q : Nat → Bool} {j : Nat} : ∀ n, (∀ i, i < n → p i = true → q i = true) → j < n → p j = false → q j = true → cntN p n < cntN q n
  | 0, _, hj, _, _ => absurd hj (by omega)
  | n + 1, h, hj, h1, h2 => by
    by_cases hjn : j = n
    · subst hjn
      have := cntN_mono j (fun i hi => h i (by omega))
      rw [cntN_f h1, cntN_t h2]; omega
    · have ih := cntN_lt n (fun i hi => h i (by omega)) (by omega) h1 h2
      cases hp : p n with
      | true => rw [cntN_t hp, cntN_t (h n (by omega) hp)]; omega
      | false =>
        rw [cntN_f hp]
        cases hq : q n with
        | true => rw [cntN_t hq]; omega
        | false => rw [cntN_f hq]; exact ih
def hup (P : PL) (S : RW) (r n c : Nat) : Bool := decide (stt P S n c = 5) && decide (nbk P (cod P S n 0) (wth (cod P S n 0) c (S (2 + 15 * n + 6 + c))) = ((1 : Int32) <<< (nI r &&& 31)))
def hupN (P : PL) (S : RW) (r : Nat) : Nat → Nat
  | 0 => 0
  | n + 1 => hupN P S r n + cntN (hup P S r n) (pPar P)
section LP
variable {F F1 : MM} {P : PL} {S : RW} {a r n c t k v x : Nat}
theorem c_hup18 {k4 : Int32 → Int32 → Int32 → Option Int32} (hP : WFP P) (ht : t < 1000000) (hS : WFS P t S) (hC' : RPC F P) (hT : RSt F P a S) (hn : n < pNod P) : ∀ d i fuel, i + d = pPar P → d < fuel →
    s_X5_pairsHeldUpBy_b18 F a k4 fuel (nI r) (nI (x + cntN (hup P S r n) i)) (nI n) (nI i) = k4 (nI r) (nI (x + cntN (hup P S r n) (pPar P))) (nI (n + 1))
  | 0, i, fuel + 1, h, _ => by
    have hC := hP.2.1.2
    have : i = pPar P := by omega
    subst this
    rw [s_X5_pairsHeldUpBy_b18, if_pos (by rw [hC'.2.1, nI_leI (by omega) (by omega)]; omega)]
    simp only [bnd_, nI_1]
  | d + 1, i, fuel + 1, h, hf => by
    have hC := hP.2.1.2
    have hi : i < pPar P := by omega
    have ih := c_hup18 (k4 := k4) hP ht hS hC' hT hn d (i + 1) fuel (by omega) (by omega)
    rw [s_X5_pairsHeldUpBy_b18, if_neg (by rw [hC'.2.1, nI_leI (by omega) (by omega)]; omega), ← ih, c_stateOf hP ht hS hC' hT hn hi]
    simp only [bnd_, nI_1]
    by_cases h5 : stt P S n i = 5
    · rw [if_pos (by rw [h5]; rfl), c_brokenByWish hP hS hC' hT hn hi]
      simp only [bnd_]
      by_cases hk : nbk P (cod P S n 0) (wth (cod P S n 0) i (S (2 + 15 * n + 6 + i))) = ((1 : Int32) <<< (nI r &&& 31))
      · rw [if_pos hk, cntN_t (by unfold hup; rw [decide_eq_true h5, decide_eq_true hk]; rfl)]
        rfl
      · rw [if_neg hk, cntN_f (by unfold hup; rw [decide_eq_true h5, decide_eq_false hk]; rfl)]
    · have h6 := stt_le P S n i
      rw [if_neg (by rw [li_5, nI_eq (by omega) (by omega)]; exact h5), cntN_f (by unfold hup; rw [decide_eq_false h5]; rfl)]
theorem c_hup4 (hP : WFP P) (ht : t < 1000000) (hS : WFS P t S) (hC' : RPC F P) (hT : RSt F P a S) : ∀ d i fuel, i + d = pNod P → d < fuel →
    s_X5_pairsHeldUpBy_b4 F a fuel (nI r) (nI (hupN P S r i)) (nI i) = some (nI (hupN P S r (pNod P)))
  | 0, i, fuel + 1, h, _ => by
    have hC := hP.1.2
    have : i = pNod P := by omega
    subst this
    rw [s_X5_pairsHeldUpBy_b4, if_pos (by rw [hC'.1, nI_leI (by omega) (by omega)]; omega)]
  | d + 1, i, fuel + 1, h, hf => by
    have hN := hP.1.2
    have hC := hP.2.1.2
    have ih := c_hup4 hP ht hS hC' hT d (i + 1) fuel (by omega) (by omega)
    have q := c_hup18 (k4 := s_X5_pairsHeldUpBy_b4 F a fuel) (x := hupN P S r i) (r := r) hP ht hS hC' hT (show i < pNod P by omega) (pPar P) 0 fu_ (by omega) (fu_lt (by omega))
    rw [s_X5_pairsHeldUpBy_b4, if_neg (by rw [hC'.1, nI_leI (by omega) (by omega)]; omega), ← ih]
    exact q
theorem c_pairs (hP : WFP P) (ht : t < 1000000) (hS : WFS P t S) (hC' : RPC F P) (hT : RSt F P a S) : s_X5_pairsHeldUpBy F a (nI r) = some (nI (hupN P S r (pNod P))) := by
  have hN := hP.1.2
  exact c_hup4 hP ht hS hC' hT (pNod P) 0 fu_ (by omega) (fu_lt (by omega))
theorem m_hup45 {k34 : MM → Int32 → Int32 → Int32 → Option (Int32 × MM)} (hal : alen 171 = 107) (hR : RRow F 171 S) (hb : ∀ k, k < 107 → S k < 2 ^ 31) (hP : WFP P) (hM : RPM F P) (hS : WFS P t S) (hn : n < pNod P) : ∀ d i fuel, i + d = pPar P → d < fuel →
    s_X9_holdsUp_b45 k34 fuel F (nI r) (nI (x + cntN (hup P S r n) i)) (nI n) (nI i) = k34 F (nI r) (nI (x + cntN (hup P S r n) (pPar P))) (nI (n + 1))
  | 0, i, fuel + 1, h, _ => by
    have hC := hP.2.1.2
    have : i = pPar P := by omega
    subst this
    rw [s_X9_holdsUp_b45, if_pos (by rw [hM.2.1, nI_leI (by omega) (by omega)]; omega)]
    simp only [bnd_, nI_1]
  | d + 1, i, fuel + 1, h, hf => by
    have hC := hP.2.1.2
    have hN := hP.1.2
    have hi : i < pPar P := by omega
    have hR' : ∀ k, k < 107 → F 171 k = nI (S k) := hR
    have ih := m_hup45 (k34 := k34) hal hR hb hP hM hS hn d (i + 1) fuel (by omega) (by omega)
    rw [s_X9_holdsUp_b45, if_neg (by rw [hM.2.1, nI_leI (by omega) (by omega)]; omega), ← ih]
    unfold s_X9_at
    have q := m_newlyBroken hal hR hP hM hS hn hi ((hS.2.2.1 n hn).1 i hi).2
    simp (disch := omega) only [bnd_, nI_add, nI_1, at_nI, pa_nI, inb_nI, ix_nI, nI_leI, nI_ltI, nI_eq, if_true, li_6, hR', q]
    have h6 := stt_le P S n i
    by_cases hk : nbk P (cod P S n 0) (wth (cod P S n 0) i (S (2 + 15 * n + 6 + i))) = ((1 : Int32) <<< (nI r &&& 31))
    · rw [if_pos hk]
      unfold s_X9_holdsUp_b91
      rw [m_stateOf hal hR hb hP hM hS hn hi]
      simp only [ite_10, bnd_, nI_1, Int32.add_zero]
      by_cases h5 : stt P S n i = 5
      · rw [if_pos (by rw [h5]; rfl), cntN_t (by unfold hup; rw [decide_eq_true h5, decide_eq_true hk]; rfl)]
        rfl
      · rw [if_neg (by rw [li_5, nI_eq (by omega) (by omega)]; exact h5), cntN_f (by unfold hup; rw [decide_eq_false h5]; rfl)]
    · rw [if_neg hk]
      unfold s_X9_holdsUp_b91
      simp only [ite_00, if_true, bnd_, nI_1, Int32.add_zero]
      rw [cntN_f (by unfold hup; rw [decide_eq_false hk, Bool.and_false])]
theorem m_hup34 (hal : alen 171 = 107) (hR : RRow F 171 S) (hb : ∀ k, k < 107 → S k < 2 ^ 31) (hP : WFP P) (hM : RPM F P) (hS : WFS P t S) : ∀ d i fuel, i + d = pNod P → d < fuel →
    s_X9_holdsUp_b34 fuel F (nI r) (nI (hupN P S r i)) (nI i) = some (nI (hupN P S r (pNod P)), F)
  | 0, i, fuel + 1, h, _ => by
    have hC := hP.1.2
    have : i = pNod P := by omega
    subst this
    rw [s_X9_holdsUp_b34, if_pos (by rw [hM.1, nI_leI (by omega) (by omega)]; omega)]
  | d + 1, i, fuel + 1, h, hf => by
    have hN := hP.1.2
    have hC := hP.2.1.2
    have ih := m_hup34 hal hR hb hP hM hS d (i + 1) fuel (by omega) (by omega)
    have q := m_hup45 (k34 := s_X9_holdsUp_b34 fuel) (x := hupN P S r i) (r := r) hal hR hb hP hM hS (show i < pNod P by omega) (pPar P) 0 fu_ (by omega) (fu_lt (by omega))
    rw [s_X9_holdsUp_b34, if_neg (by rw [hM.1, nI_leI (by omega) (by omega)]; omega), ← ih]
    exact q
theorem m_pairs (hal : alen 171 = 107) (hR : RRow F 171 S) (hb : ∀ k, k < 107 → S k < 2 ^ 31) (hP : WFP P) (hM : RPM F P) (hS : WFS P t S) : s_X9_holdsUp_b34 fu_ F (nI r) 0 0 = some (nI (hupN P S r (pNod P)), F) := by
  have hN := hP.1.2
  exact m_hup34 hal hR hb hP hM hS (pNod P) 0 fu_ (by omega) (fu_lt (by omega))
end LP
/-! ===== approvals that are missing ===== -/
def awt (S : RW) (c v n : Nat) : Bool := drf S n c && decide (S (2 + 15 * n + 6 + c) = v)
def misN (P : PL) (S : RW) (c : Nat) : Nat → Nat
  | 0 => 0
  | v + 1 => misN P S c v + (if anyN (awt S c v) (pNod P) then lck S c v else 0)
theorem anyN_s {p : Nat → Bool} {i : Nat} (h : anyN p i = false) : anyN p (i + 1) = p i := by
  show (anyN p i || p i) = p i
  rw [h]; rfl
theorem anyN_t {p : Nat → Bool} {i : Nat} (h : anyN p i = true) : anyN p (i + 1) = true := by
  show (anyN p i || p i) = true
  rw [h]; rfl
section MS
variable {F F1 : MM} {P : PL} {S : RW} {a r n c t k v x : Nat}
theorem c_awt_b (hP : WFP P) (hS : WFS P t S) (hC' : RPC F P) (hT : RSt F P a S) (hc : c < pPar P) (hv : v < 4) : ∀ d i fuel, i + d = pNod P → d < fuel → anyN (awt S c v) i = false →
    s_X5_isAwaited_b2 F a fuel (nI c) (nI v) (nI i) = some (b01 (anyN (awt S c v) (pNod P)))
  | 0, i, fuel + 1, h, _, ha => by
    have hN := hP.1.2
    have : i = pNod P := by omega
    subst this
    rw [s_X5_isAwaited_b2, if_pos (by rw [hC'.1, nI_leI (by omega) (by omega)]; omega), ha]
    rfl
  | d + 1, i, fuel + 1, h, hf, ha => by
    have hN := hP.1.2
    have hC := hP.2.1.2
    have hi : i < pNod P := by omega
    have ih := c_awt_b hP hS hC' hT hc hv d (i + 1) fuel (by omega) (by omega)
    rw [anyN_s ha] at ih
    have hw : awt S c v i = true → anyN (awt S c v) (pNod P) = true := fun h9 => anyN_mono (show i + 1 ≤ pNod P by omega) ((anyN_s ha).trans h9)
    obtain ⟨-, r2, -⟩ := hT.2.2.1 i hi
    have hy := cod_4096 hP hS hi (Or.inr rfl)
    have b6 := ((hS.2.2.1 i hi).1 c hc).2
    rw [s_X5_isAwaited_b2, if_neg (by rw [hC'.1, nI_leI (by omega) (by omega)]; omega)]
    unfold s_X0_versionIn
    simp (disch := omega) only [bnd_, nI_add, nI_1, at_nI, pa_nI, inb_nI, ix_nI, nI_leI, nI_ltI, nI_eq, if_true, c_isDrifted hP hS hT hi hc, r2, i_vin hy (show c < 6 by omega), cod_vin6 hP hS hi hc]
    cases hd : drf S i c with
    | false => rw [if_pos b01_f]; exact ih (by unfold awt; rw [hd]; rfl)
    | true =>
      rw [if_neg b01_t]
      by_cases hx : S (2 + 15 * i + 6 + c) = v
      · rw [if_pos hx, hw (by unfold awt; rw [hd, decide_eq_true hx]; rfl)]; rfl
      · rw [if_neg hx]; exact ih (by unfold awt; rw [hd, decide_eq_false hx]; rfl)
theorem c_awt (hP : WFP P) (hS : WFS P t S) (hC' : RPC F P) (hT : RSt F P a S) (hc : c < pPar P) (hv : v < 4) : s_X5_isAwaited F a (nI c) (nI v) = some (b01 (anyN (awt S c v) (pNod P))) := by
  have hN := hP.1.2
  exact c_awt_b hP hS hC' hT hc hv (pNod P) 0 fu_ (by omega) (fu_lt (by omega)) rfl
theorem c_mis_b (hP : WFP P) (hS : WFS P t S) (hC' : RPC F P) (hT : RSt F P a S) (hc : c < pPar P) : ∀ d i fuel, i + d = 4 → d < fuel →
    s_X5_missingApprovals_b4 F a fuel (nI c) (nI (misN P S c i)) (nI i) = some (nI (misN P S c 4))
  | 0, i, fuel + 1, h, _ => by
    have : i = 4 := by omega
    subst this
    rw [s_X5_missingApprovals_b4, if_pos (by decide)]
  | d + 1, i, fuel + 1, h, hf => by
    have ih := c_mis_b hP hS hC' hT hc d (i + 1) fuel (by omega) (by omega)
    rw [s_X5_missingApprovals_b4, if_neg (by rw [li_4, nI_leI (by omega) (by omega)]; omega), ← ih, c_awt hP hS hC' hT hc (by omega), c_missingTo hP hS hT hc (by omega)]
    simp only [bnd_, nI_1, nI_add]
    have e : misN P S c (i + 1) = misN P S c i + (if anyN (awt S c i) (pNod P) then lck S c i else 0) := rfl
    rw [e]
    cases hd : anyN (awt S c i) (pNod P) with
    | false => rw [if_pos b01_f]; rfl
    | true => rw [if_neg b01_t]; rfl
theorem c_missing (hP : WFP P) (hS : WFS P t S) (hC' : RPC F P) (hT : RSt F P a S) (hc : c < pPar P) : s_X5_missingApprovals F a (nI c) = some (nI (misN P S c 4)) := c_mis_b hP hS hC' hT hc 4 0 fu_ (by omega) (fu_lt (by omega))
theorem m_mis37 {k26 : MM → Int32 → Int32 → Int32 → Option (Int32 × MM)} (hal : alen 171 = 107) (hR : RRow F 171 S) (hb : ∀ k, k < 107 → S k < 2 ^ 31) (hP : WFP P) (hM : RPM F P) (hS : WFS P t S) (hc : c < pPar P) (hv : v < 4) : ∀ d i fuel, i + d = pNod P → d < fuel →
    s_X9_missing_b37 k26 fuel F (nI c) (nI x) (nI v) (b01 (anyN (awt S c v) i)) (nI i) = k26 F (nI c) (nI (x + (if anyN (awt S c v) (pNod P) then lck S c v else 0))) (nI (v + 1))
  | 0, i, fuel + 1, h, _ => by
    have hN := hP.1.2
    have hC := hP.2.1.2
    have : i = pNod P := by omega
    subst this
    rw [s_X9_missing_b37, if_pos (by rw [hM.1, nI_leI (by omega) (by omega)]; omega), m_lacking hal hR (hS.2.2.2 c hc).1 ((hS.2.2.2 c hc).2 v hv) (by omega) hv]
    simp only [bnd_, nI_1, nI_add, Int32.add_zero]
    cases anyN (awt S c v) (pNod P) with
    | false => rw [if_pos b01_f]; rfl
    | true => rw [if_neg b01_t]; rfl
  | d + 1, i, fuel + 1, h, hf => by
    have hN := hP.1.2
    have hC := hP.2.1.2
    have hi : i < pNod P := by omega
    have hR' : ∀ k, k < 107 → F 171 k = nI (S k) := hR
    have ih := m_mis37 (k26 := k26) hal hR hb hP hM hS hc hv d (i + 1) fuel (by omega) (by omega)
    have b6 := ((hS.2.2.1 i hi).1 c hc).2
    rw [s_X9_missing_b37, if_neg (by rw [hM.1, nI_leI (by omega) (by omega)]; omega)]
    cases ha : anyN (awt S c v) i with
    | true =>
      rw [if_neg b01_t]
      simp only [bnd_, nI_1]
      rw [anyN_t ha] at ih
      exact ih
    | false =>
      rw [anyN_s ha] at ih
      rw [if_pos b01_f]
      unfold s_X9_at
      simp (disch := omega) only [bnd_, nI_add, nI_1, at_nI, pa_nI, inb_nI, ix_nI, nI_leI, nI_ltI, nI_eq, if_true, li_6, m_isDrifted hal hR hb (show i < 5 by omega) (show c < 6 by omega), hR']
      cases hd : drf S i c with
      | false =>
        rw [if_pos b01_f]
        rw [show awt S c v i = false by unfold awt; rw [hd]; rfl] at ih
        exact ih
      | true =>
        rw [if_neg b01_t]
        by_cases hx : S (2 + 15 * i + 6 + c) = v
        · rw [show awt S c v i = true by unfold awt; rw [hd, decide_eq_true hx]; rfl] at ih
          rw [if_pos hx]
          exact ih
        · rw [show awt S c v i = false by unfold awt; rw [hd, decide_eq_false hx]; rfl] at ih
          rw [if_neg hx]
          exact ih
theorem m_mis26 (hal : alen 171 = 107) (hR : RRow F 171 S) (hb : ∀ k, k < 107 → S k < 2 ^ 31) (hP : WFP P) (hM : RPM F P) (hS : WFS P t S) (hc : c < pPar P) : ∀ d i fuel, i + d = 4 → d < fuel →
    s_X9_missing_b26 fuel F (nI c) (nI (misN P S c i)) (nI i) = some (nI (misN P S c 4), F)
  | 0, i, fuel + 1, h, _ => by
    have : i = 4 := by omega
    subst this
    rw [s_X9_missing_b26, if_pos (by decide)]
  | d + 1, i, fuel + 1, h, hf => by
    have hN := hP.1.2
    have ih := m_mis26 hal hR hb hP hM hS hc d (i + 1) fuel (by omega) (by omega)
    have q := m_mis37 (k26 := s_X9_missing_b26 fuel) (x := misN P S c i) hal hR hb hP hM hS hc (show i < 4 by omega) (pNod P) 0 fu_ (by omega) (fu_lt (by omega))
    rw [s_X9_missing_b26, if_neg (by rw [li_4, nI_leI (by omega) (by omega)]; omega), ← ih]
    exact q
theorem m_missing (hal : alen 171 = 107) (hR : RRow F 171 S) (hb : ∀ k, k < 107 → S k < 2 ^ 31) (hP : WFP P) (hM : RPM F P) (hS : WFS P t S) (hc : c < pPar P) : s_X9_missing_b26 fu_ F (nI c) 0 0 = some (nI (misN P S c 4), F) := m_mis26 hal hR hb hP hM hS hc 4 0 fu_ (by omega) (fu_lt (by omega))
end MS
/-! ===== ranks ===== -/
def key (P : PL) (S : RW) (n : Nat) : Nat := 100 * popc (dset P S n) 30 + popc (brk P (cod P S n 0)) 30
def far (P : PL) (S : RW) (o n : Nat) : Bool := decide (key P S n < key P S o) || (decide (key P S n = key P S o) && decide (o < n))
def rnk (P : PL) (S : RW) (n : Nat) : Nat := cntN (fun o => far P S o n) (pNod P)
theorem far_iff {P : PL} {S : RW} {o n : Nat} : far P S o n = true ↔ key P S n < key P S o ∨ (key P S n = key P S o ∧ o < n) := by
  unfold far
  simp only [Bool.or_eq_true, Bool.and_eq_true, decide_eq_true_eq]
theorem far_f {P : PL} {S : RW} {o n : Nat} (h : ¬ (key P S n < key P S o ∨ (key P S n = key P S o ∧ o < n))) : far P S o n = false := by
  cases e : far P S o n with
  | false => rfl
  | true => exact absurd (far_iff.mp e) h
theorem i_sub0 {a b : Nat} (ha : a < 2 ^ 30) (hb : b < 2 ^ 30) : nI a - nI b = 0 ↔ a = b := by
  constructor
  · intro h
    have h1 := pk_sub_toInt ha hb
    rw [h, show (0 : Int32).toInt = 0 by decide] at h1
    omega
  · intro h; subst h; exact Int32.sub_self _
theorem i_sle {a b : Nat} (ha : a < 2 ^ 30) (hb : b < 2 ^ 30) : nI a - nI b ≤ 0 ↔ a ≤ b := by
  rw [Int32.le_iff_toInt_le, pk_sub_toInt ha hb, show (0 : Int32).toInt = 0 by decide]
  omega
section RK
variable {F F1 : MM} {P : PL} {S : RW} {a r n c t k v x o i q : Nat}
theorem rnk_lt {a b : Nat} (ha : a < pNod P) (h : far P S a b = true) : rnk P S a < rnk P S b := by
  refine cntN_lt (pNod P) (fun o _ h1 => ?_) ha (far_f (by omega)) h
  have h1 := far_iff.mp h1
  have h := far_iff.mp h
  exact far_iff.mpr (by omega)
theorem rnk_inj {a b : Nat} (ha : a < pNod P) (hb : b < pNod P) (h : rnk P S a = rnk P S b) : a = b := by
  by_cases h1 : a = b
  · exact h1
  · exfalso
    have h2 : far P S a b = true ∨ far P S b a = true := by
      rw [far_iff, far_iff]; omega
    rcases h2 with h2 | h2
    · have := rnk_lt ha h2; omega
    · have := rnk_lt hb h2; omega
theorem rnk_b (hn : n < pNod P) : rnk P S n < pNod P := by
  have h1 := cntN_lt (p := fun o => far P S o n) (q := fun _ => true) (j := n) (pNod P) (fun _ _ _ => rfl) hn (far_f (by omega)) rfl
  have h2 := cntN_le (fun _ => true) (pNod P)
  unfold rnk
  omega
theorem rnk_ex (hi : i < pNod P) : ∃ q, q < pNod P ∧ rnk P S q = i := inj_surj (f := rnk P S) (fun _ h => rnk_b h) (fun _ _ h1 h2 h3 => rnk_inj h1 h2 h3) hi
theorem c_isFarther (hP : WFP P) (hS : WFS P t S) (hC' : RPC F P) (hT : RSt F P a S) (ho : o < pNod P) (hn : n < pNod P) : s_X5_isFarther F a (nI o) (nI n) = some (b01 (far P S o n)) := by
  have hN := hP.1.2
  obtain ⟨r1, -⟩ := hT.2.2.1 o ho
  obtain ⟨r2, -⟩ := hT.2.2.1 n hn
  have d1 := dset_lt P hP S o
  have d2 := dset_lt P hP S n
  have e1 := brk_lt hP (cod P S o 0)
  have e2 := brk_lt hP (cod P S n 0)
  have g1 := c_bitCount (F := F) (show dset P S o < 1024 by omega)
  have g2 := c_bitCount (F := F) (show dset P S n < 1024 by omega)
  have g3 := c_bitCount (F := F) e1
  have g4 := c_bitCount (F := F) e2
  have p1 := popc_lt (dset P S o) 30
  have p2 := popc_lt (dset P S n) 30
  have p3 := popc_lt (brk P (cod P S o 0)) 30
  have p4 := popc_lt (brk P (cod P S n 0)) 30
  unfold s_X5_isFarther
  simp (disch := omega) only [bnd_, nI_add, nI_1, at_nI, pa_nI, inb_nI, ix_nI, nI_leI, nI_ltI, nI_eq, if_true, c_driftedOn hP hS hC' hT ho, c_driftedOn hP hS hC' hT hn, g1, g2, r1, r2, c_brokenOn hP hC' (cod_lt hP hS ho (Or.inl rfl)), c_brokenOn hP hC' (cod_lt hP hS hn (Or.inl rfl)), g3, g4, i_sub0, i_sle]
  have k1 : key P S o = 100 * popc (dset P S o) 30 + popc (brk P (cod P S o 0)) 30 := rfl
  have k2 : key P S n = 100 * popc (dset P S n) 30 + popc (brk P (cod P S n 0)) 30 := rfl
  by_cases h1 : popc (dset P S o) 30 = popc (dset P S n) 30
  · rw [if_pos h1]
    by_cases h2 : popc (brk P (cod P S o 0)) 30 = popc (brk P (cod P S n 0)) 30
    · rw [if_pos h2]
      by_cases h3 : n ≤ o
      · rw [if_pos h3, far_f (by omega)]; rfl
      · rw [if_neg h3, far_iff.mpr (by omega)]; rfl
    · rw [if_neg h2]
      by_cases h3 : popc (brk P (cod P S o 0)) 30 ≤ popc (brk P (cod P S n 0)) 30
      · rw [if_pos h3, far_f (by omega)]; rfl
      · rw [if_neg h3, far_iff.mpr (by omega)]; rfl
  · rw [if_neg h1]
    by_cases h3 : popc (dset P S o) 30 ≤ popc (dset P S n) 30
    · rw [if_pos h3, far_f (by omega)]; rfl
    · rw [if_neg h3, far_iff.mpr (by omega)]; rfl
theorem c_rank_b (hP : WFP P) (hS : WFS P t S) (hC' : RPC F P) (hT : RSt F P a S) (hn : n < pNod P) : ∀ d i fuel, i + d = pNod P → d < fuel →
    s_X5_rankOf_b4 F a fuel (nI n) (nI (cntN (fun o => far P S o n) i)) (nI i) = some (nI (rnk P S n))
  | 0, i, fuel + 1, h, _ => by
    have hN := hP.1.2
    have : i = pNod P := by omega
    subst this
    rw [s_X5_rankOf_b4, if_pos (by rw [hC'.1, nI_leI (by omega) (by omega)]; omega)]
    rfl
  | d + 1, i, fuel + 1, h, hf => by
    have hN := hP.1.2
    have ih := c_rank_b hP hS hC' hT hn d (i + 1) fuel (by omega) (by omega)
    rw [s_X5_rankOf_b4, if_neg (by rw [hC'.1, nI_leI (by omega) (by omega)]; omega), ← ih, c_isFarther hP hS hC' hT (show i < pNod P by omega) hn]
    simp only [bnd_, nI_1]
    cases hd : far P S i n with
    | false => rw [if_pos b01_f, cntN_f (p := fun o => far P S o n) hd]
    | true => rw [if_neg b01_t, cntN_t (p := fun o => far P S o n) hd]
theorem c_rankOf (hP : WFP P) (hS : WFS P t S) (hC' : RPC F P) (hT : RSt F P a S) (hn : n < pNod P) : s_X5_rankOf F a (nI n) = some (nI (rnk P S n)) := by
  have hN := hP.1.2
  exact c_rank_b hP hS hC' hT hn (pNod P) 0 fu_ (by omega) (fu_lt (by omega))
theorem c_ranked (hP : WFP P) (hS : WFS P t S) (hC' : RPC F P) (hT : RSt F P 16 S) (hi : i < pNod P) (hq : q < pNod P) (hr : rnk P S q = i) : ∀ d n fuel, n + d = q → d < fuel → s_X8_ranked_b7 F fuel (nI i) (nI n) = some (.inl (nI q))
  | 0, n, fuel + 1, h, _ => by
    have hN := hP.1.2
    have : n = q := by omega
    subst this
    rw [s_X8_ranked_b7, if_neg (by rw [hC'.1, nI_leI (by omega) (by omega)]; omega), c_rankOf hP hS hC' hT hq, hr]
    simp only [bnd_, if_true]
  | d + 1, n, fuel + 1, h, hf => by
    have hN := hP.1.2
    have ih := c_ranked hP hS hC' hT hi hq hr d (n + 1) fuel (by omega) (by omega)
    have hn : n < pNod P := by omega
    have hb := rnk_b (S := S) hn
    rw [s_X8_ranked_b7, if_neg (by rw [hC'.1, nI_leI (by omega) (by omega)]; omega), c_rankOf hP hS hC' hT hn]
    simp only [bnd_, nI_1]
    rw [if_neg (by
      rw [nI_eq (by omega) (by omega)]
      intro h9
      have := rnk_inj hn hq (h9.trans hr.symm)
      omega)]
    exact ih
theorem m_distance (hal : alen 171 = 107) (hR : RRow F 171 S) (hb : ∀ k, k < 107 → S k < 2 ^ 31) (hP : WFP P) (hM : RPM F P) (hS : WFS P t S) (hn : n < pNod P) : s_X9_distance F (nI n) = some (nI (key P S n)) := by
  have hN := hP.1.2
  have d1 := dset_lt P hP S n
  have e1 := brk_lt hP (cod P S n 0)
  have q3 := m_codeOf (f := 0) hal hR hP hM (show n < 5 by omega) (by omega) (fun c hc => ((hS.2.2.1 n hn).1 c hc).1)
  have q4 := m_broken (cod_4096 hP hS hn (Or.inl rfl)) hP hM
  have q5 := m_ones (F := F) (show dset P S n < 2 ^ 30 by omega)
  have q6 := m_ones (F := F) (show brk P (cod P S n 0) < 2 ^ 30 by omega)
  unfold s_X9_distance
  rw [show (0 : Int32) = nI 0 from rfl, m_drifted hal hR hb hP hM (by omega)]
  simp (disch := omega) only [bnd_, nI_add, nI_1, at_nI, pa_nI, inb_nI, ix_nI, nI_leI, nI_ltI, nI_eq, if_true, li_100, q3, q4, q5, q6, pk_mul]
  rfl
theorem key_lt (P : PL) (S : RW) (n : Nat) : key P S n < 4000 := by
  have p1 := popc_lt (dset P S n) 30
  have p2 := popc_lt (brk P (cod P S n 0)) 30
  unfold key
  omega
theorem m_rk40 {k26 : MM → Int32 → Int32 → Int32 → Option (Int32 × MM)} {f : Nat} (hal : alen 171 = 107) (hR : RRow F 171 S) (hb : ∀ k, k < 107 → S k < 2 ^ 31) (hP : WFP P) (hM : RPM F P) (hS : WFS P t S) (hn : n < pNod P) (hi : i < pNod P) : ∀ d o fuel, o + d = pNod P → d < fuel →
    s_X9_ranked_b40 k26 fuel F (nI i) (nI f) (nI n) (nI (cntN (fun o => far P S o n) o)) (nI o) = k26 F (nI i) (nI (if rnk P S n = i then n else f)) (nI (n + 1))
  | 0, o, fuel + 1, h, _ => by
    have hN := hP.1.2
    have : o = pNod P := by omega
    subst this
    have hb := rnk_b (S := S) hn
    rw [s_X9_ranked_b40, if_pos (by rw [hM.1, nI_leI (by omega) (by omega)]; omega)]
    show (if nI (rnk P S n) = nI i then _ else _) = _
    simp only [bnd_, nI_1]
    by_cases h9 : rnk P S n = i
    · rw [if_pos (by rw [h9]), if_pos h9]
    · rw [if_neg (by rw [nI_eq (by omega) (by omega)]; exact h9), if_neg h9]
  | d + 1, o, fuel + 1, h, hf => by
    have hN := hP.1.2
    have ih := m_rk40 (k26 := k26) (f := f) hal hR hb hP hM hS hn hi d (o + 1) fuel (by omega) (by omega)
    have k1 := key_lt P S n
    have k2 := key_lt P S o
    rw [s_X9_ranked_b40, if_neg (by rw [hM.1, nI_leI (by omega) (by omega)]; omega), ← ih, m_distance hal hR hb hP hM hS hn, m_distance hal hR hb hP hM hS (show o < pNod P by omega)]
    simp (disch := omega) only [bnd_, nI_add, nI_1, at_nI, pa_nI, inb_nI, ix_nI, nI_leI, nI_ltI, nI_eq, if_true, Int32.add_zero]
    by_cases h1 : key P S n < key P S o
    · rw [if_pos h1, cntN_t (p := fun o => far P S o n) (far_iff.mpr (by omega))]
    · rw [if_neg h1]
      by_cases h2 : key P S o = key P S n
      · rw [if_pos h2]
        by_cases h3 : n ≤ o
        · rw [if_pos h3, cntN_f (p := fun o => far P S o n) (far_f (by omega))]
        · rw [if_neg h3, cntN_t (p := fun o => far P S o n) (far_iff.mpr (by omega))]
      · rw [if_neg h2, cntN_f (p := fun o => far P S o n) (far_f (by omega))]
def fnd (P : PL) (S : RW) (i : Nat) : Nat → Nat
  | 0 => 0
  | n + 1 => if rnk P S n = i then n else fnd P S i n
theorem fnd_q (hq : q < pNod P) (hr : rnk P S q = i) : ∀ n, q < n → n ≤ pNod P → fnd P S i n = q
  | 0, h, _ => absurd h (by omega)
  | n + 1, h, h2 => by
    show (if rnk P S n = i then n else fnd P S i n) = q
    by_cases h9 : rnk P S n = i
    · rw [if_pos h9]; exact rnk_inj (by omega) hq (h9.trans hr.symm)
    · rw [if_neg h9]
      refine fnd_q hq hr n ?_ (by omega)
      by_cases h8 : q = n
      · subst h8; exact absurd hr h9
      · omega
theorem m_rk26 (hal : alen 171 = 107) (hR : RRow F 171 S) (hb : ∀ k, k < 107 → S k < 2 ^ 31) (hP : WFP P) (hM : RPM F P) (hS : WFS P t S) (hi : i < pNod P) : ∀ d n fuel, n + d = pNod P → d < fuel →
    s_X9_ranked_b26 fuel F (nI i) (nI (fnd P S i n)) (nI n) = some (nI (fnd P S i (pNod P)), F)
  | 0, n, fuel + 1, h, _ => by
    have hN := hP.1.2
    have : n = pNod P := by omega
    subst this
    rw [s_X9_ranked_b26, if_pos (by rw [hM.1, nI_leI (by omega) (by omega)]; omega)]
  | d + 1, n, fuel + 1, h, hf => by
    have hN := hP.1.2
    have ih := m_rk26 hal hR hb hP hM hS hi d (n + 1) fuel (by omega) (by omega)
    have q := m_rk40 (k26 := s_X9_ranked_b26 fuel) (f := fnd P S i n) hal hR hb hP hM hS (show n < pNod P by omega) hi (pNod P) 0 fu_ (by omega) (fu_lt (by omega))
    rw [s_X9_ranked_b26, if_neg (by rw [hM.1, nI_leI (by omega) (by omega)]; omega), ← ih]
    exact q
theorem m_ranked (hal : alen 171 = 107) (hR : RRow F 171 S) (hb : ∀ k, k < 107 → S k < 2 ^ 31) (hP : WFP P) (hM : RPM F P) (hS : WFS P t S) (hi : i < pNod P) (hq : q < pNod P) (hr : rnk P S q = i) : s_X9_ranked_b26 fu_ F (nI i) 0 0 = some (nI q, F) := by
  have hN := hP.1.2
  have h := m_rk26 hal hR hb hP hM hS hi (pNod P) 0 fu_ (by omega) (fu_lt (by omega))
  rw [fnd_q hq hr (pNod P) hq (Nat.le_refl _)] at h
  exact h
end RK
/-! ===== digests ===== -/
def exq (P : PL) (S : RW) (n g k : Nat) : Bool := !(decide (k % 4 = S (2 + 15 * n + k / 4))) && decide (nI (dig P S n) + nI (k / 4 + 1) * (nI (k % 4) - nI (S (2 + 15 * n + k / 4))) = nI g)
theorem i_shl1 {i : Nat} (h : i < 31) : (1 : Int32) <<< (nI i &&& 31) = nI (2 ^ i) := by
  have h9 : ∀ i, i < 31 → (1 : Int32) <<< (nI i &&& 31) = nI (2 ^ i) := by decide +kernel
  exact h9 i h
theorem nI_or (a b : Nat) : nI a ||| nI b = nI (a ||| b) := by
  unfold nI
  apply Int32.toBitVec_inj.mp
  simp only [Int32.toBitVec_or, Int32.toBitVec_ofNat']
  apply BitVec.eq_of_toNat_eq
  rw [BitVec.toNat_or, BitVec.toNat_ofNat, BitVec.toNat_ofNat, BitVec.toNat_ofNat, Nat.or_mod_two_pow]
theorem i_bt2 {i m : Nat} (h : i < 31) (hm : m < 2 ^ i) : nI m ||| ((1 : Int32) <<< (nI i &&& 31)) = nI (m + 2 ^ i) := by
  rw [i_shl1 h, nI_or, Nat.or_comm]
  have := Nat.two_pow_add_eq_or_of_lt hm 1
  rw [Nat.mul_one] at this
  rw [← this, Nat.add_comm]
theorem i_gap (X g D : Int32) : X = g - D ↔ D + X = g := by
  constructor
  · intro h; rw [h, Int32.add_comm, Int32.sub_add_cancel]
  · intro h; rw [← h, Int32.add_comm, Int32.add_sub_cancel]
section EX
variable {F F1 : MM} {P : PL} {S : RW} {a r n c t k v x g : Nat}
theorem m_exp54 (hal : alen 171 = 107) (hR : RRow F 171 S) (hP : WFP P) (hM : RPM F P) (hS : WFS P t S) (hn : n < pNod P) : ∀ d k fuel, k + d = 4 * pPar P → d < fuel →
    s_X9_explains_b54 fuel F (nI n) (nI g) (nI (bsum (exq P S n g) k)) (nI (dig P S n)) (nI k) = some (nI (bsum (exq P S n g) (4 * pPar P)), F)
  | 0, k, fuel + 1, h, _ => by
    have hC := hP.2.1.2
    have : k = 4 * pPar P := by omega
    subst this
    rw [s_X9_explains_b54, if_pos (by rw [hM.2.1, li_4, pk_mul, nI_leI (by omega) (by omega)]; omega)]
  | d + 1, k, fuel + 1, h, hf => by
    have hC := hP.2.1.2
    have hN := hP.1.2
    have hR' : ∀ k, k < 107 → F 171 k = nI (S k) := hR
    have ih := m_exp54 hal hR hP hM hS hn d (k + 1) fuel (by omega) (by omega)
    obtain ⟨-, -, e3, e4⟩ := i_q k (by omega)
    have b1 := ((hS.2.2.1 n hn).1 (k / 4) (by omega)).1
    rw [s_X9_explains_b54, if_neg (by rw [hM.2.1, li_4, pk_mul, nI_leI (by omega) (by omega)]; omega), ← ih]
    simp only [bnd_]
    rw [e4, e3]
    unfold s_X9_at s_X9_explains_b118
    simp (disch := omega) only [bnd_, nI_add, nI_1, at_nI, pa_nI, inb_nI, ix_nI, nI_leI, nI_ltI, nI_eq, if_true, hR', ite_10, ite_00, i_or0]
    by_cases h1 : k % 4 = S (2 + 15 * n + k / 4)
    · rw [if_pos h1, bsum_f (by unfold exq; rw [decide_eq_true h1]; rfl)]
    · rw [if_neg h1]
      by_cases h2 : nI (dig P S n) + nI (k / 4 + 1) * (nI (k % 4) - nI (S (2 + 15 * n + k / 4))) = nI g
      · rw [if_pos h2, bsum_t (by unfold exq; rw [decide_eq_false h1, decide_eq_true h2]; rfl), i_bt2 (by omega) (bsum_lt _ _)]
      · rw [if_neg h2, bsum_f (by unfold exq; rw [decide_eq_false h2, Bool.and_false])]
theorem m_explains (hal : alen 171 = 107) (hR : RRow F 171 S) (hP : WFP P) (hM : RPM F P) (hS : WFS P t S) (hn : n < pNod P) : s_X9_explains_b54 fu_ F (nI n) (nI g) 0 (nI (dig P S n)) 0 = some (nI (bsum (exq P S n g) (4 * pPar P)), F) := by
  have hC := hP.2.1.2
  exact m_exp54 hal hR hP hM hS hn (4 * pPar P) 0 fu_ (by omega) (fu_lt (by omega))
theorem c_ch42 {k14 : Int32 → Int32 → Int32 → Int32 → Option Int32} (hP : WFP P) (hS : WFS P t S) (hn : n < pNod P) (hc : c < pPar P) : ∀ d v fuel, v + d = 4 → d < fuel →
    s_X5_changesTo_b42 F a k14 fuel (nI n) (nI g - nI (dig P S n)) (nI (bsum (exq P S n g) (4 * c + v))) (nI c) (nI (S (2 + 15 * n + c))) (nI v) = k14 (nI n) (nI g - nI (dig P S n)) (nI (bsum (exq P S n g) (4 * (c + 1)))) (nI (c + 1))
  | 0, v, fuel + 1, h, _ => by
    have : v = 4 := by omega
    subst this
    rw [s_X5_changesTo_b42, if_pos (by decide)]
    simp only [bnd_, nI_1]
    rfl
  | d + 1, v, fuel + 1, h, hf => by
    have hC := hP.2.1.2
    have ih := c_ch42 (k14 := k14) hP hS hn hc d (v + 1) fuel (by omega) (by omega)
    have b1 := ((hS.2.2.1 n hn).1 c hc).1
    have k1 : (4 * c + v) / 4 = c := by omega
    have k2 : (4 * c + v) % 4 = v := by omega
    rw [s_X5_changesTo_b42, if_neg (by rw [li_4, nI_leI (by omega) (by omega)]; omega), ← ih]
    simp only [i_gap]
    unfold s_X0_change
    simp (disch := omega) only [bnd_, nI_add, nI_1, at_nI, pa_nI, inb_nI, ix_nI, nI_leI, nI_ltI, nI_eq, if_true, li_4, pk_mul]
    by_cases h1 : v = S (2 + 15 * n + c)
    · rw [if_pos h1, show 4 * c + (v + 1) = 4 * c + v + 1 from rfl, bsum_f (by unfold exq; rw [k1, k2, decide_eq_true h1]; rfl)]
    · rw [if_neg h1]
      by_cases h2 : nI (dig P S n) + nI (c + 1) * (nI v - nI (S (2 + 15 * n + c))) = nI g
      · rw [if_pos h2, show 4 * c + (v + 1) = 4 * c + v + 1 from rfl, bsum_t (by unfold exq; rw [k1, k2, decide_eq_false h1, decide_eq_true h2]; rfl), i_bt2 (by omega) (bsum_lt _ _)]
      · rw [if_neg h2, show 4 * c + (v + 1) = 4 * c + v + 1 from rfl, bsum_f (by unfold exq; rw [k1, k2, decide_eq_false h2, Bool.and_false])]
theorem c_ch14 (hP : WFP P) (hS : WFS P t S) (hC' : RPC F P) (hT : RSt F P a S) (hn : n < pNod P) : ∀ d c fuel, c + d = pPar P → d < fuel →
    s_X5_changesTo_b14 F a fuel (nI n) (nI g - nI (dig P S n)) (nI (bsum (exq P S n g) (4 * c))) (nI c) = some (nI (bsum (exq P S n g) (4 * pPar P)))
  | 0, c, fuel + 1, h, _ => by
    have hC := hP.2.1.2
    have : c = pPar P := by omega
    subst this
    rw [s_X5_changesTo_b14, if_pos (by rw [hC'.2.1, nI_leI (by omega) (by omega)]; omega)]
  | d + 1, c, fuel + 1, h, hf => by
    have hC := hP.2.1.2
    have hN := hP.1.2
    have hc : c < pPar P := by omega
    have ih := c_ch14 hP hS hC' hT hn d (c + 1) fuel (by omega) (by omega)
    obtain ⟨r1, -⟩ := hT.2.2.1 n hn
    have hx := cod_4096 hP hS hn (Or.inl rfl)
    have q := c_ch42 (k14 := s_X5_changesTo_b14 F a fuel) (g := g) (F := F) (a := a) hP hS hn hc 4 0 fu_ (by omega) (fu_lt (by omega))
    rw [s_X5_changesTo_b14, if_neg (by rw [hC'.2.1, nI_leI (by omega) (by omega)]; omega), ← ih]
    unfold s_X0_versionIn
    simp (disch := omega) only [bnd_, nI_add, nI_1, at_nI, pa_nI, inb_nI, ix_nI, nI_leI, nI_ltI, nI_eq, if_true, r1, i_vin hx (show c < 6 by omega), cod_vin0 hP hS hn hc]
    exact q
theorem c_changesTo (hP : WFP P) (hS : WFS P t S) (hC' : RPC F P) (hT : RSt F P a S) (hn : n < pNod P) : s_X5_changesTo F a (nI n) (nI g) = some (nI (bsum (exq P S n g) (4 * pPar P))) := by
  have hC := hP.2.1.2
  unfold s_X5_changesTo
  rw [c_digestOf hP hS hC' hT hn]
  simp only [bnd_]
  exact c_ch14 hP hS hC' hT hn (pPar P) 0 fu_ (by omega) (fu_lt (by omega))
end EX
/-! ===== they agree ===== -/
theorem ag_holdsUp {F : MM} {t : Nat} (ht : t < 900000) (hI : INV t F) (r : Int32) : AgR t [ex_ioo] (s_X8_holdsUp F r) (s_X9_holdsUp F r) := by
  obtain ⟨P, S, L, T, m, H, kp, K, hA, hCI, hMI⟩ := id hI
  obtain ⟨hP, hS, ⟨hL, hT⟩, ⟨hm, hH⟩, hK⟩ := hA
  obtain ⟨cP, cS, cT, cH, cK, cW⟩ := id hCI
  obtain ⟨mP, mS, mT, mH, mK⟩ := id hMI
  obtain ⟨m0, n0, -⟩ := invm_0 hMI 0
  have hN5 := hP.1.2
  have hC6 := hP.2.1.2
  have hR10 := hP.2.2.1
  have al : alen 171 = 107 := by decide
  have hb := wfs_b hS (by omega)
  unfold s_X8_holdsUp s_X9_holdsUp
  rcases arg_ r (n := pRul P) (by have := hP.2.2.1; omega) with ⟨jr, hr, rfl⟩ | or
  · have c0 := (show _ from (cR_ok hP cP hr : s_X8_requireRule F (nI jr) = some (.inl ())))
    have d0 := (show _ from (lm_ok mP.2.2.1 hr (by have := hP.2.2.1; omega) : s_X9_in F (Int32.toInt64 (nI jr)) 0 (Int32.toInt64 ((F 164 6) - 1)) = some 1))
    simp only [c0, d0, tbR_l, tbR_r, bnd_, ite_10, ite_00, rf_0, rf_1, rf_2, c_pairs hP (show t < 1000000 by omega) hS cP cS, m_pairs al n0 hb hP m0 hS]
    exact agR_ok hI
  · have c0 := (show _ from (cR_no cP or : s_X8_requireRule F r = some (.inr ex_ioo)))
    have d0 := (show _ from (lm_no mP.2.2.1 or (by have := hP.2.2.1; omega) : s_X9_in F (Int32.toInt64 r) 0 (Int32.toInt64 ((F 164 6) - 1)) = some 0))
    simp only [c0, d0, tbR_l, tbR_r, bnd_, ite_10, ite_00, rf_0, rf_1, rf_2]
    exact agR_no (k := 1) hI (by decide) (by decide)
set_option maxRecDepth 50000 in
theorem ag_missing {F : MM} {t : Nat} (ht : t < 900000) (hI : INV t F) (c : Int32) : AgR t [ex_ioo] (s_X8_missing F c) (s_X9_missing F c) := by
  obtain ⟨P, S, L, T, m, H, kp, K, hA, hCI, hMI⟩ := id hI
  obtain ⟨hP, hS, ⟨hL, hT⟩, ⟨hm, hH⟩, hK⟩ := hA
  obtain ⟨cP, cS, cT, cH, cK, cW⟩ := id hCI
  obtain ⟨mP, mS, mT, mH, mK⟩ := id hMI
  obtain ⟨m0, n0, -⟩ := invm_0 hMI 0
  have hN5 := hP.1.2
  have hC6 := hP.2.1.2
  have hR10 := hP.2.2.1
  have al : alen 171 = 107 := by decide
  have hb := wfs_b hS (by omega)
  unfold s_X8_missing s_X9_missing
  have q1 : ∀ c, c < pPar P → s_X5_missingApprovals F 16 (nI c) = some (nI (misN P S c 4)) := fun c hc => c_missing hP hS cP cS hc
  have q2 : ∀ c, c < pPar P → s_X9_missing_b26 fu_ (mup F 164 0 0) (nI c) 0 0 = some (nI (misN P S c 4), mup F 164 0 0) := fun c hc => m_missing al n0 hb hP m0 hS hc
  generalize s_X9_missing_b26 fu_ = f at q2 ⊢
  generalize s_X5_missingApprovals = f2 at q1 ⊢
  rcases arg_ c (n := pPar P) (by have := hP.2.1.2; omega) with ⟨jc, hc, rfl⟩ | oc
  · have c0 := (show _ from (cP_ok hP cP hc : s_X8_requireComponent F (nI jc) = some (.inl ())))
    have d0 := (show _ from (mP_ok hP mP hc : s_X9_isPart F (nI jc) = some 1))
    simp only [c0, d0, tbR_l, tbR_r, bnd_, ite_10, ite_00, rf_0, rf_1, rf_2, q1 _ hc, q2 _ hc]
    exact agR_ok hI
  · have c0 := (show _ from (cP_no cP oc : s_X8_requireComponent F c = some (.inr ex_ioo)))
    have d0 := (show _ from (mP_no hP mP oc : s_X9_isPart F c = some 0))
    simp only [c0, d0, tbR_l, tbR_r, bnd_, ite_10, ite_00, rf_0, rf_1, rf_2]
    exact agR_no (k := 1) hI (by decide) (by decide)
theorem ag_ranked {F : MM} {t : Nat} (ht : t < 900000) (hI : INV t F) (i : Int32) : AgR t [ex_ioo] (s_X8_ranked F i) (s_X9_ranked F i) := by
  obtain ⟨P, S, L, T, m, H, kp, K, hA, hCI, hMI⟩ := id hI
  obtain ⟨hP, hS, ⟨hL, hT⟩, ⟨hm, hH⟩, hK⟩ := hA
  obtain ⟨cP, cS, cT, cH, cK, cW⟩ := id hCI
  obtain ⟨mP, mS, mT, mH, mK⟩ := id hMI
  obtain ⟨m0, n0, -⟩ := invm_0 hMI 0
  have hN5 := hP.1.2
  have hC6 := hP.2.1.2
  have hR10 := hP.2.2.1
  have al : alen 171 = 107 := by decide
  have hb := wfs_b hS (by omega)
  unfold s_X8_ranked s_X9_ranked
  rcases arg_ i (n := pNod P) (by have := hP.1.2; omega) with ⟨ji, hi, rfl⟩ | oi
  · have c0 := (show _ from (cN_ok hP cP hi : s_X8_requireNode F (nI ji) = some (.inl ())))
    have d0 := (show _ from (mN_ok hP mP hi : s_X9_isNode F (nI ji) = some 1))
    obtain ⟨q, hq, hr⟩ := rnk_ex (S := S) hi
    have h1 : s_X8_ranked_b7 F fu_ (nI ji) 0 = some (.inl (nI q)) := c_ranked hP hS cP cS hi hq hr q 0 fu_ (by omega) (fu_lt (by omega))
    simp only [c0, d0, tbR_l, tbR_r, bnd_, ite_10, ite_00, rf_0, rf_1, rf_2, h1, m_ranked al n0 hb hP m0 hS hi hq hr]
    exact agR_ok hI
  · have c0 := (show _ from (cN_no cP oi : s_X8_requireNode F i = some (.inr ex_ioo)))
    have d0 := (show _ from (mN_no hP mP oi : s_X9_isNode F i = some 0))
    simp only [c0, d0, tbR_l, tbR_r, bnd_, ite_10, ite_00, rf_0, rf_1, rf_2]
    exact agR_no (k := 1) hI (by decide) (by decide)
theorem ag_explains {F : MM} {t : Nat} (ht : t < 900000) (hI : INV t F) (n g : Int32) : AgR t [ex_ioo, ex_iae] (s_X8_explains F n g) (s_X9_explains F n g) := by
  obtain ⟨P, S, L, T, m, H, kp, K, hA, hCI, hMI⟩ := id hI
  obtain ⟨hP, hS, ⟨hL, hT⟩, ⟨hm, hH⟩, hK⟩ := hA
  obtain ⟨cP, cS, cT, cH, cK, cW⟩ := id hCI
  obtain ⟨mP, mS, mT, mH, mK⟩ := id hMI
  obtain ⟨m0, n0, -⟩ := invm_0 hMI 0
  have hN5 := hP.1.2
  have hC6 := hP.2.1.2
  have hR10 := hP.2.2.1
  have al : alen 171 = 107 := by decide
  have hb := wfs_b hS (by omega)
  unfold s_X8_explains s_X9_explains s_X9_explains_b30
  rcases arg_ n (n := pNod P) (by have := hP.1.2; omega) with ⟨jn, hn, rfl⟩ | on
  · have c0 := (show _ from (cN_ok hP cP hn : s_X8_requireNode F (nI jn) = some (.inl ())))
    have d0 := (show _ from (mN_ok hP mP hn : s_X9_isNode F (nI jn) = some 1))
    rcases arg_ g (n := 64) (by omega) with ⟨jg, hg, rfl⟩ | og
    · have c1 := (show _ from (cG_ok (a := 0) (b := 63) rfl rfl (by omega) (by omega) (by omega) : s_X8_requireRange F (nI jg) 0 63 = some (.inl ())))
      have d1 := (show _ from (in_ok (a := 0) (b := 63) (by decide) (by decide) (by omega) (by omega) (by omega) : s_X9_in F (Int32.toInt64 (nI jg)) 0 63 = some 1))
      simp only [c0, d0, c1, d1, tbR_l, tbR_r, bnd_, ite_10, ite_00, rf_0, rf_1, rf_2, c_changesTo hP hS cP cS hn, m_digestOf al n0 hP m0 (show jn < 5 by omega), m_explains al n0 hP m0 hS hn]
      exact agR_ok hI
    · have c1 := (show _ from (cV_no (b := 63) (by decide) (by omega) og : s_X8_requireRange F g 0 63 = some (.inr ex_iae)))
      have d1 := (show _ from (in_no (b := 63) (by decide) (by omega) og : s_X9_in F (Int32.toInt64 g) 0 63 = some 0))
      simp only [c0, d0, c1, d1, tbR_l, tbR_r, bnd_, ite_10, ite_00, rf_0, rf_1, rf_2]
      exact agR_no (k := 2) hI (by decide) (by decide)
  · have c0 := (show _ from (cN_no cP on : s_X8_requireNode F n = some (.inr ex_ioo)))
    have d0 := (show _ from (mN_no hP mP on : s_X9_isNode F n = some 0))
    simp only [c0, d0, tbR_l, tbR_r, bnd_, ite_10, ite_00, rf_0, rf_1, rf_2]
    exact agR_no (k := 1) hI (by decide) (by decide)
theorem ag_about {F : MM} {t : Nat} (ht : t < 900000) (hI : INV t F) (w : Int32) : AgR t [ex_iae] (s_X8_about F w) (s_X9_about F w) := by
  obtain ⟨P, S, L, T, m, H, kp, K, hA, hCI, hMI⟩ := id hI
  obtain ⟨hP, hS, ⟨hL, hT⟩, ⟨hm, hH⟩, hK⟩ := hA
  obtain ⟨cP, cS, cT, cH, cK, cW⟩ := id hCI
  obtain ⟨mP, mS, mT, mH, mK⟩ := id hMI
  obtain ⟨m0, n0, -⟩ := invm_0 hMI 0
  have hN5 := hP.1.2
  have hC6 := hP.2.1.2
  have hR10 := hP.2.2.1
  have al : alen 171 = 107 := by decide
  have hb := wfs_b hS (by omega)
  have hI0 := inv_0 hI 0
  have h00 := mup_00 F 0
  unfold s_X8_about s_X9_about s_X9_about_b18
  rcases arg_ w (n := 8) (by omega) with ⟨j, hj, rfl⟩ | ow
  · have d0 := (show _ from (in_ok (a := 0) (b := 7) (by decide) (by decide) (by omega) (by omega) (by omega) : s_X9_in F (Int32.toInt64 (nI j)) 0 7 = some 1))
    simp only [d0, bnd_, ite_10, rf_0, c_calmNodes hP hS cP cS, m_calmNodes al n0 hb hP m0]
    have n1 : ∀ k, k < 107 → (mup F 164 0 0) 171 k = nI (S k) := n0
    obtain ⟨q1, q2, q3, q4, q5, -⟩ := id m0
    obtain ⟨p1, p2, p3, p4, p5, -⟩ := id cP
    obtain ⟨s1, s2, -⟩ := id cS
    generalize mup F 164 0 0 = G at n1 q1 q2 q3 q4 q5 hI0 h00 ⊢
    have : j = 0 ∨ j = 1 ∨ j = 2 ∨ j = 3 ∨ j = 4 ∨ j = 5 ∨ j = 6 ∨ j = 7 := by omega
    rcases this with rfl | rfl | rfl | rfl | rfl | rfl | rfl | rfl
    · simp (disch := omega) only [bnd_, nI_add, nI_1, at_nI, pa_nI, inb_nI, ix_nI, nI_leI, nI_ltI, nI_eq, if_true, if_pos, if_neg, li_0, li_1, li_2, li_3, li_4, li_5, li_6, li_7, n1, q1, q2, q3, q4, q5, p1, p2, p3, p4, p5, s1, s2]
      exact agR_o2 hI0 h00
    · simp (disch := omega) only [bnd_, nI_add, nI_1, at_nI, pa_nI, inb_nI, ix_nI, nI_leI, nI_ltI, nI_eq, if_true, if_pos, if_neg, li_0, li_1, li_2, li_3, li_4, li_5, li_6, li_7, n1, q1, q2, q3, q4, q5, p1, p2, p3, p4, p5, s1, s2]
      exact agR_o2 hI0 h00
    · simp (disch := omega) only [bnd_, nI_add, nI_1, at_nI, pa_nI, inb_nI, ix_nI, nI_leI, nI_ltI, nI_eq, if_true, if_pos, if_neg, li_0, li_1, li_2, li_3, li_4, li_5, li_6, li_7, n1, q1, q2, q3, q4, q5, p1, p2, p3, p4, p5, s1, s2]
      exact agR_o2 hI0 h00
    · simp (disch := omega) only [bnd_, nI_add, nI_1, at_nI, pa_nI, inb_nI, ix_nI, nI_leI, nI_ltI, nI_eq, if_true, if_pos, if_neg, li_0, li_1, li_2, li_3, li_4, li_5, li_6, li_7, n1, q1, q2, q3, q4, q5, p1, p2, p3, p4, p5, s1, s2]
      exact agR_o2 hI0 h00
    · simp (disch := omega) only [bnd_, nI_add, nI_1, at_nI, pa_nI, inb_nI, ix_nI, nI_leI, nI_ltI, nI_eq, if_true, if_pos, if_neg, li_0, li_1, li_2, li_3, li_4, li_5, li_6, li_7, n1, q1, q2, q3, q4, q5, p1, p2, p3, p4, p5, s1, s2]
      exact agR_o2 hI0 h00
    · simp (disch := omega) only [bnd_, nI_add, nI_1, at_nI, pa_nI, inb_nI, ix_nI, nI_leI, nI_ltI, nI_eq, if_true, if_pos, if_neg, li_0, li_1, li_2, li_3, li_4, li_5, li_6, li_7, n1, q1, q2, q3, q4, q5, p1, p2, p3, p4, p5, s1, s2]
      exact agR_o2 hI0 h00
    · simp (disch := omega) only [bnd_, nI_add, nI_1, at_nI, pa_nI, inb_nI, ix_nI, nI_leI, nI_ltI, nI_eq, if_true, if_pos, if_neg, li_0, li_1, li_2, li_3, li_4, li_5, li_6, li_7, n1, q1, q2, q3, q4, q5, p1, p2, p3, p4, p5, s1, s2]
      exact agR_o2 hI0 h00
    · simp (disch := omega) only [bnd_, nI_add, nI_1, at_nI, pa_nI, inb_nI, ix_nI, nI_leI, nI_ltI, nI_eq, if_true, if_pos, if_neg, li_0, li_1, li_2, li_3, li_4, li_5, li_6, li_7, n1, q1, q2, q3, q4, q5, p1, p2, p3, p4, p5, s1, s2]
      exact agR_o2 hI0 h00
  · have d0 := (show _ from (in_no (b := 7) (by decide) (by omega) ow : s_X9_in F (Int32.toInt64 w) 0 7 = some 0))
    have ne : ∀ k, k < 8 → ¬ w = nI k := fun k hk e => by
      have h1 := out_toInt (by omega) ow
      rw [e, nI_toInt (by omega)] at h1
      omega
    simp only [d0, bnd_, ite_00, if_true, rf_1]
    rw [if_neg (show ¬ w = 0 from ne 0 (by omega)), if_neg (show ¬ w = 1 from ne 1 (by omega)), if_neg (show ¬ w = 2 from ne 2 (by omega)), if_neg (show ¬ w = 3 from ne 3 (by omega)), if_neg (show ¬ w = 4 from ne 4 (by omega)), if_neg (show ¬ w = 5 from ne 5 (by omega)), if_neg (show ¬ w = 6 from ne 6 (by omega)), if_neg (show ¬ w = 7 from ne 7 (by omega))]
    exact agR_no (k := 1) hI (by decide) (by decide)
