/-! ===== what the reference tells of a row ===== -/
def dset (P : PL) (S : RW) (n : Nat) : Nat := bsum (drf S n) (pPar P)
def calm (P : PL) (S : RW) : Nat := bsum (fun n => decide (dset P S n = 0)) (pNod P)
def digN (S : RW) (n : Nat) : Nat → Nat
  | 0 => 0
  | c + 1 => digN S n c + (c + 1) * S (2 + 15 * n + c)
def dig (P : PL) (S : RW) (n : Nat) : Nat := digN S n (pPar P)
def tel (P : PL) (S : RW) (n w : Nat) : Int32 := if w = 0 then nI (pRin P n) else if w = 1 then nI (S (2 + 15 * n + 12)) else if w = 2 then nI (S (2 + 15 * n + 13)) else if w = 3 then (if qua S n then nI (S (2 + 15 * n + 14)) else -9) else if w = 4 then nI (dset P S n) else if w = 5 then nI (brk P (cod P S n 0)) else nI (dig P S n)
theorem bsum_t {p : Nat → Bool} {i : Nat} (h : p i = true) : bsum p (i + 1) = bsum p i + 2 ^ i := by
  show _ + (if p i = true then _ else _) = _
  rw [if_pos h]
theorem bsum_f {p : Nat → Bool} {i : Nat} (h : p i = false) : bsum p (i + 1) = bsum p i := by
  show _ + (if p i = true then _ else _) = _
  rw [h]; simp
theorem b01_t : ¬ b01 true = 0 := by decide
theorem b01_f : b01 false = 0 := rfl
section RD
variable {F F1 : MM} {P : PL} {S : RW} {r n c t k v : Nat}
theorem dset_lt (P : PL) (hP : WFP P) (S : RW) (n : Nat) : dset P S n < 64 := Nat.lt_of_lt_of_le (bsum_lt _ _) (Nat.le_trans (Nat.pow_le_pow_right (by decide) hP.2.1.2) (by decide))
theorem calm_lt (P : PL) (hP : WFP P) (S : RW) : calm P S < 32 := Nat.lt_of_lt_of_le (bsum_lt _ _) (Nat.le_trans (Nat.pow_le_pow_right (by decide) hP.1.2) (by decide))
theorem m_drifted_b (hal : alen r = 107) (hR : RRow F r S) (hb : ∀ k, k < 107 → S k < 2 ^ 31) (hP : WFP P) (hM : RPM F P) (hn : n < 5) : ∀ d i fuel, i + d = pPar P → d < fuel →
    s_X9_drifted_b5 F r fuel (nI n) (nI (bsum (drf S n) i)) (nI i) = some (nI (dset P S n))
  | 0, i, fuel + 1, h, _ => by
    have hC := hP.2.1.2
    have : i = pPar P := by omega
    subst this
    rw [s_X9_drifted_b5, if_pos (by rw [hM.2.1, nI_leI (by omega) (by omega)]; omega)]
    rfl
  | d + 1, i, fuel + 1, h, hf => by
    have hC := hP.2.1.2
    have ih := m_drifted_b hal hR hb hP hM hn d (i + 1) fuel (by omega) (by omega)
    rw [s_X9_drifted_b5, if_neg (by rw [hM.2.1, nI_leI (by omega) (by omega)]; omega), m_isDrifted hal hR hb hn (show i < 6 by omega)]
    simp only [Option.bind_some, nI_1, i_or0]
    cases hd : drf S n i with
    | false => rw [if_pos b01_f, ← ih, bsum_f hd]
    | true => rw [if_neg b01_t, ← ih, bsum_t hd, i_bit (by omega) (bsum_lt _ _)]
theorem m_drifted (hal : alen r = 107) (hR : RRow F r S) (hb : ∀ k, k < 107 → S k < 2 ^ 31) (hP : WFP P) (hM : RPM F P) (hn : n < 5) : s_X9_drifted F r (nI n) = some (nI (dset P S n)) := by
  have hC := hP.2.1.2
  exact m_drifted_b hal hR hb hP hM hn (pPar P) 0 fu_ (by omega) (fu_lt (by omega))
theorem m_calmNodes_b (hal : alen r = 107) (hR : RRow F r S) (hb : ∀ k, k < 107 → S k < 2 ^ 31) (hP : WFP P) (hM : RPM F P) : ∀ d i fuel, i + d = pNod P → d < fuel →
    s_X9_calmNodes_b4 F r fuel (nI (bsum (fun n => decide (dset P S n = 0)) i)) (nI i) = some (nI (calm P S))
  | 0, i, fuel + 1, h, _ => by
    have hC := hP.1.2
    have : i = pNod P := by omega
    subst this
    rw [s_X9_calmNodes_b4, if_pos (by rw [hM.1, nI_leI (by omega) (by omega)]; omega)]
    rfl
  | d + 1, i, fuel + 1, h, hf => by
    have hC := hP.1.2
    have ih := m_calmNodes_b hal hR hb hP hM d (i + 1) fuel (by omega) (by omega)
    have hl := dset_lt P hP S i
    rw [s_X9_calmNodes_b4, if_neg (by rw [hM.1, nI_leI (by omega) (by omega)]; omega), m_drifted hal hR hb hP hM (show i < 5 by omega)]
    simp only [Option.bind_some, nI_1, i_or0]
    by_cases hd : dset P S i = 0
    · rw [if_pos (by rw [hd]; rfl), ← ih, bsum_t (decide_eq_true hd), i_bit (by omega) (bsum_lt _ _)]
    · rw [if_neg (nI_ne0 (by omega) (by omega)), ← ih, bsum_f (decide_eq_false hd)]
theorem m_calmNodes (hal : alen r = 107) (hR : RRow F r S) (hb : ∀ k, k < 107 → S k < 2 ^ 31) (hP : WFP P) (hM : RPM F P) : s_X9_calmNodes F r = some (nI (calm P S)) := by
  have hC := hP.1.2
  exact m_calmNodes_b hal hR hb hP hM (pNod P) 0 fu_ (by omega) (fu_lt (by omega))
theorem m_digestOf_b (hal : alen r = 107) (hR : RRow F r S) (hP : WFP P) (hM : RPM F P) (hn : n < 5) : ∀ d i fuel, i + d = pPar P → d < fuel →
    s_X9_digestOf_b5 F r fuel (nI n) (nI (digN S n i)) (nI i) = some (nI (dig P S n))
  | 0, i, fuel + 1, h, _ => by
    have hC := hP.2.1.2
    have : i = pPar P := by omega
    subst this
    rw [s_X9_digestOf_b5, if_pos (by rw [hM.2.1, nI_leI (by omega) (by omega)]; omega)]
    rfl
  | d + 1, i, fuel + 1, h, hf => by
    have hC := hP.2.1.2
    have ih := m_digestOf_b hal hR hP hM hn d (i + 1) fuel (by omega) (by omega)
    have hR' : ∀ k, k < 107 → F r k = nI (S k) := hR
    rw [s_X9_digestOf_b5, if_neg (by rw [hM.2.1, nI_leI (by omega) (by omega)]; omega), ← ih]
    unfold s_X9_at
    simp (disch := omega) only [Option.bind_some, nI_add, nI_1, at_nI, pa_nI, inb_nI, ix_nI, nI_leI, nI_ltI, nI_eq, if_true, hal, hR', pk_mul, digN]
theorem m_digestOf (hal : alen r = 107) (hR : RRow F r S) (hP : WFP P) (hM : RPM F P) (hn : n < 5) : s_X9_digestOf F r (nI n) = some (nI (dig P S n)) := by
  have hC := hP.2.1.2
  exact m_digestOf_b hal hR hP hM hn (pPar P) 0 fu_ (by omega) (fu_lt (by omega))
theorem m_tell {w : Nat} (hal : alen r = 107) (hR : RRow F r S) (ht : t < 1000000) (hS : WFS P t S) (hP : WFP P) (hM : RPM F P) (hn : n < pNod P) (hw : w < 7) : s_X9_tell F r (nI n) (nI w) = some (tel P S n w) := by
  have hN := hP.1.2
  have hC := hP.2.1.2
  have hb := wfs_b hS ht
  have hR' : ∀ k, k < 107 → F r k = nI (S k) := hR
  have hri := hM.2.2.2.2.2.1 n hn
  have hk := cod_4096 hP hS hn (Or.inl rfl)
  unfold s_X9_tell s_X9_at
  rw [show (0 : Int32) = nI 0 from rfl]
  have q1 := m_isQuarantined hal hR hb (show n < 5 by omega)
  have q2 := m_drifted hal hR hb hP hM (show n < 5 by omega)
  have q3 := m_codeOf (f := 0) hal hR hP hM (show n < 5 by omega) (by omega) (fun c hc => ((hS.2.2.1 n hn).1 c hc).1)
  have q4 := m_broken hk hP hM
  have q5 := m_digestOf hal hR hP hM (show n < 5 by omega)
  unfold tel
  have : w = 0 ∨ w = 1 ∨ w = 2 ∨ w = 3 ∨ w = 4 ∨ w = 5 ∨ w = 6 := by omega
  rcases this with rfl | rfl | rfl | rfl | rfl | rfl | rfl
  · simp (disch := omega) only [Option.bind_some, nI_add, nI_1, at_nI, pa_nI, inb_nI, ix_nI, nI_leI, nI_ltI, nI_eq, if_true, if_pos, if_neg, hri]
  · simp (disch := omega) only [Option.bind_some, nI_add, nI_1, at_nI, pa_nI, inb_nI, ix_nI, nI_leI, nI_ltI, nI_eq, if_true, if_pos, if_neg, li_1, li_2, li_3, li_4, li_5, li_12, li_13, li_14, li_15, pk_mul, hal, hR']
  · simp (disch := omega) only [Option.bind_some, nI_add, nI_1, at_nI, pa_nI, inb_nI, ix_nI, nI_leI, nI_ltI, nI_eq, if_true, if_pos, if_neg, li_1, li_2, li_3, li_4, li_5, li_12, li_13, li_14, li_15, pk_mul, hal, hR']
  · simp (disch := omega) only [Option.bind_some, nI_add, nI_1, at_nI, pa_nI, inb_nI, ix_nI, nI_leI, nI_ltI, nI_eq, if_true, if_pos, if_neg, li_1, li_2, li_3, li_4, li_5, li_12, li_13, li_14, li_15, pk_mul, hal, hR', q1]
    cases qua S n with
    | true => rw [if_neg (by decide), if_pos rfl]
    | false => rw [if_pos (by decide)]; simp
  · simp (disch := omega) only [Option.bind_some, nI_add, nI_1, at_nI, pa_nI, inb_nI, ix_nI, nI_leI, nI_ltI, nI_eq, if_true, if_pos, if_neg, li_1, li_2, li_3, li_4, li_5, li_12, li_13, li_14, li_15, pk_mul, hal, hR', q2]
  · simp (disch := omega) only [Option.bind_some, nI_add, nI_1, at_nI, pa_nI, inb_nI, ix_nI, nI_leI, nI_ltI, nI_eq, if_true, if_pos, if_neg, li_1, li_2, li_3, li_4, li_5, li_12, li_13, li_14, li_15, pk_mul, hal, hR', q3, q4]
  · simp (disch := omega) only [Option.bind_some, nI_add, nI_1, at_nI, pa_nI, inb_nI, ix_nI, nI_leI, nI_ltI, nI_eq, if_true, if_pos, if_neg, li_1, li_2, li_3, li_4, li_5, li_12, li_13, li_14, li_15, pk_mul, hal, hR', q5]
theorem m_copy_b {q0 q2 a b N : Nat} (hq : q0 ≠ q2 ∨ b ≤ a) (ha : a + N ≤ alen q0) (hb : b + N ≤ alen q2) (h1 : alen q0 < 10000) (h2 : alen q2 < 10000) : ∀ d i fuel, i + d = N → d < fuel →
    s_X9_copy_b3 q0 q2 fuel (mrow F q2 (va_cpy (F q0) (F q2) a b i)) (nI a) (nI b) (nI N) (nI i) = some (mrow F q2 (va_cpy (F q0) (F q2) a b N))
  | 0, i, fuel + 1, h, _ => by
    have : i = N := by omega
    subst this
    rw [s_X9_copy_b3, if_pos (by rw [nI_leI (by omega) (by omega)]; omega)]
  | d + 1, i, fuel + 1, h, hf => by
    have ih := m_copy_b hq ha hb h1 h2 d (i + 1) fuel (by omega) (by omega)
    rw [s_X9_copy_b3, if_neg (by rw [nI_leI (by omega) (by omega)]; omega), ← ih]
    simp (disch := omega) only [Option.bind_some, nI_add, nI_1, at_nI, pa_nI, inb_nI, ix_nI, nI_leI, nI_ltI, nI_eq, if_true]
    have e : mup (mrow F q2 (va_cpy (F q0) (F q2) a b i)) q2 (b + i) (mrow F q2 (va_cpy (F q0) (F q2) a b i) q0 (a + i)) = mrow F q2 (va_cpy (F q0) (F q2) a b (i + 1)) := by
      have ev : mrow F q2 (va_cpy (F q0) (F q2) a b i) q0 (a + i) = F q0 (a + i) := by
        by_cases h9 : q0 = q2
        · subst h9
          rw [mrow_self, pk_cpy_out (by omega)]
        · rw [mrow_ne h9]
      rw [ev]
      funext x j
      by_cases hx : x = q2
      · subst hx
        rw [mup_self, mrow_self, mrow_self]
        by_cases hj : j = b + i
        · subst hj
          rw [pk_us, pk_cpy_in (by omega) (by omega)]
          congr 1; omega
        · rw [pk_un hj]
          by_cases h7 : b ≤ j ∧ j < b + i
          · rw [pk_cpy_in (by omega) (by omega), pk_cpy_in (by omega) (by omega)]
          · rw [pk_cpy_out (by omega), pk_cpy_out (by omega)]
      · rw [mup_ne hx, mrow_ne hx, mrow_ne hx]
    rw [e]
theorem m_copy {q0 q2 a b N : Nat} (hq : q0 ≠ q2 ∨ b ≤ a) (ha : a + N ≤ alen q0) (hb : b + N ≤ alen q2) (h1 : alen q0 < 10000) (h2 : alen q2 < 10000) (hN : N < 5000) : s_X9_copy F q0 (nI a) q2 (nI b) (nI N) = some (mrow F q2 (va_cpy (F q0) (F q2) a b N)) := by
  have h := m_copy_b (F := F) hq ha hb h1 h2 N 0 fu_ (by omega) (fu_lt hN)
  have e : mrow F q2 (va_cpy (F q0) (F q2) a b 0) = F := by
    funext x j
    by_cases hx : x = q2
    · subst hx; rw [mrow_self, pk_cpy_out (by omega)]
    · rw [mrow_ne hx]
  rw [e] at h
  exact h
end RD
