/-! ===== the reference's reads of a row ===== -/
theorem at_nI (n : Nat) : (2 + 15 * nI n : Int32) = nI (2 + 15 * n) := by
  rw [show (15 : Int32) = nI 15 from rfl, show (2 : Int32) = nI 2 from rfl, pk_mul, nI_add]
theorem pa_nI (n : Nat) : (77 + 5 * nI n : Int32) = nI (77 + 5 * n) := by
  rw [show (5 : Int32) = nI 5 from rfl, show (77 : Int32) = nI 77 from rfl, pk_mul, nI_add]
theorem ad_k (a k : Nat) {x : Int32} (h : x = nI k) : nI a + x = nI (a + k) := by rw [h, nI_add]
def b01 (b : Bool) : Int32 := if b then 1 else 0
theorem fu_lt {d : Nat} (h : d < 5000) : d < fu_ := h
section MR
variable {F : MM} {P : PL} {S : RW} {r n c t : Nat}
theorem rr_in (hal : alen r = 107) {k : Nat} (hk : k < 107) : inb (nI k) (alen r) = true := by rw [hal]; exact inb_nI hk (by decide)
theorem rr_at (hR : RRow F r S) {k : Nat} (hk : k < 107) : F r (ix (nI k)) = nI (S k) := by rw [ix_nI (by omega)]; exact hR k hk
theorem m_isDrifted (hal : alen r = 107) (hR : RRow F r S) (hb : ∀ k, k < 107 → S k < 2 ^ 31) (hn : n < 5) (hc : c < 6) : s_X9_isDrifted F r (nI n) (nI c) = some (b01 (drf S n c)) := by
  have i1 := rr_in hal (k := 2 + 15 * n + c) (by omega)
  have i2 := rr_in hal (k := 2 + 15 * n + 6 + c) (by omega)
  have v1 := rr_at hR (k := 2 + 15 * n + c) (by omega)
  have v2 := rr_at hR (k := 2 + 15 * n + 6 + c) (by omega)
  unfold s_X9_isDrifted s_X9_at
  simp only [Option.bind_some, at_nI, nI_add, ad_k _ 6 (show (6 : Int32) = nI 6 from rfl), i1, i2, v1, v2, if_true]
  unfold drf b01
  by_cases h : S (2 + 15 * n + c) = S (2 + 15 * n + 6 + c)
  · rw [if_pos (by rw [h])]; simp [h]
  · rw [if_neg (fun e => h (nI_inj (hb _ (by omega)) (hb _ (by omega)) e))]; simp [h]
theorem m_isQuarantined (hal : alen r = 107) (hR : RRow F r S) (hb : ∀ k, k < 107 → S k < 2 ^ 31) (hn : n < 5) : s_X9_isQuarantined F r (nI n) = some (b01 (qua S n)) := by
  have i1 := rr_in hal (k := 2 + 15 * n + 14) (by omega)
  have i2 := rr_in hal (k := 0) (by omega)
  have v1 := rr_at hR (k := 2 + 15 * n + 14) (by omega)
  have v2 := rr_at hR (k := 0) (by omega)
  unfold s_X9_isQuarantined s_X9_at
  rw [show (0 : Int32) = nI 0 from rfl]
  simp only [Option.bind_some, at_nI, ad_k _ 14 (show (14 : Int32) = nI 14 from rfl), i1, i2, v1, v2, if_true]
  unfold qua b01
  have hle := nI_leI (hb (2 + 15 * n + 14) (by omega)) (hb 0 (by omega))
  by_cases h : S 0 < S (2 + 15 * n + 14)
  · rw [if_neg (fun e => by have := hle.mp e; omega)]; simp [h]
  · rw [if_pos (hle.mpr (by omega))]; simp [h]; rfl
theorem popc_lt (k : Nat) : ∀ i, popc k i ≤ i
  | 0 => Nat.le_refl _
  | i + 1 => by
    have := popc_lt k i
    have h2 : k / 2 ^ i % 2 < 2 := Nat.mod_lt _ (by decide)
    unfold popc; omega
theorem m_ones_b {k : Nat} (hk : k < 2 ^ 30) : ∀ d i fuel, i + d = 30 → d < fuel → s_X9_ones_b4 F fuel (nI k) (nI (popc k i)) (nI i) = some (nI (popc k 30))
  | 0, i, fuel + 1, h, _ => by
    have : i = 30 := by omega
    subst this
    rw [s_X9_ones_b4, if_pos (by decide)]
  | d + 1, i, fuel + 1, h, hf => by
    rw [s_X9_ones_b4, if_neg (by rw [show (30 : Int32) = nI 30 from rfl, nI_leI (by omega) (by omega)]; omega)]
    have hs : ∀ i, i < 30 → (nI i &&& 31) = nI i := by decide +kernel
    have hs2 : ∀ i, i < 30 → ((nI i).toBitVec.smod 32).toNat = i := by decide +kernel
    simp only [Option.bind_some, hs i (by omega)]
    rw [pk_shrN (by omega) _ i (hs2 i (by omega)), pk_andN (k := 1) (by have := Nat.div_le_self k (2 ^ i); omega) (by decide), nI_add, nI_1]
    exact m_ones_b hk d (i + 1) fuel (by omega) (by omega)
theorem m_ones {k : Nat} (hk : k < 2 ^ 30) : s_X9_ones F (nI k) = some (nI (popc k 30)) := m_ones_b hk 30 0 fu_ rfl (fu_lt (by decide))
theorem m_lacking {v : Nat} (hal : alen r = 107) (hR : RRow F r S) (hq : S (77 + 5 * c) ≤ 5) (ha : S (77 + 5 * c + 1 + v) < 32) (hc : c < 6) (hv : v < 4) : s_X9_lacking F r (nI c) (nI v) = some (nI (lck S c v)) := by
  have i1 := rr_in hal (k := 77 + 5 * c) (by omega)
  have i2 := rr_in hal (k := 77 + 5 * c + 1 + v) (by omega)
  have v1 := rr_at hR (k := 77 + 5 * c) (by omega)
  have v2 := rr_at hR (k := 77 + 5 * c + 1 + v) (by omega)
  have o1 := m_ones (F := F) (k := S (77 + 5 * c + 1 + v)) (by omega)
  have hp := popc_lt (S (77 + 5 * c + 1 + v)) 30
  unfold s_X9_lacking s_X9_partAt
  simp only [Option.bind_some, pa_nI, nI_1, nI_add, i1, i2, v1, v2, o1, if_true]
  unfold lck
  by_cases h : popc (S (77 + 5 * c + 1 + v)) 30 ≤ S (77 + 5 * c)
  · rw [pk_sub h, if_pos (nI_pos' (by omega))]
  · have hneg := pk_sneg (a := S (77 + 5 * c)) (b := popc (S (77 + 5 * c + 1 + v)) 30) (by omega) (by omega)
    rw [if_neg (fun h9 => absurd hneg (by rw [Int32.lt_iff_toInt_lt]; rw [Int32.le_iff_toInt_le] at h9; omega)), show S (77 + 5 * c) - popc (S (77 + 5 * c + 1 + v)) 30 = 0 by omega]
    rfl
theorem anyN_mono {p : Nat → Bool} : ∀ {m k : Nat}, m ≤ k → anyN p m = true → anyN p k = true
  | m, 0, h, h1 => by have : m = 0 := by omega
                      subst this; exact h1
  | m, k + 1, h, h1 => by
    by_cases hm : m = k + 1
    · subst hm; exact h1
    · unfold anyN
      rw [anyN_mono (show m ≤ k by omega) h1]; rfl
theorem m_waits_b (hal : alen r = 107) (hR : RRow F r S) (hb : ∀ k, k < 107 → S k < 2 ^ 31) (hP : WFP P) (hM : RPM F P) (hn : n < pNod P) (hc : c < 6) : ∀ d i fuel, i + d = pNod P → d < fuel →
    s_X9_waitsForRings_b6 F r fuel (nI n) (nI c) (b01 (anyN (fun o => decide (pRin P o < pRin P n) && !(qua S o) && drf S o c) i)) (nI i) = some (b01 (wai P S n c))
  | 0, i, fuel + 1, h, _ => by
    have : i = pNod P := by omega
    subst this
    rw [s_X9_waitsForRings_b6, if_pos (by rw [hM.1, nI_leI (by have := hP.1.2; omega) (by have := hP.1.2; omega)]; omega)]
    unfold wai
    cases anyN _ (pNod P) <;> rfl
  | d + 1, i, fuel + 1, h, hf => by
    have hN := hP.1.2
    have ih := m_waits_b hal hR hb hP hM hn hc d (i + 1) fuel (by omega) (by omega)
    rw [s_X9_waitsForRings_b6, if_neg (by rw [hM.1, nI_leI (by omega) (by omega)]; omega)]
    have r1 := hM.2.2.2.2.2.1 n hn
    have r2 := hM.2.2.2.2.2.1 i (by omega)
    have q2 := hP.2.2.2.2.2.1 i (by omega)
    have q1 := hP.2.2.2.2.2.1 n hn
    cases ha : anyN (fun o => decide (pRin P o < pRin P n) && !(qua S o) && drf S o c) i with
    | true =>
      rw [if_neg (by decide)]
      simp only [Option.bind_some, nI_1]
      have e : anyN (fun o => decide (pRin P o < pRin P n) && !(qua S o) && drf S o c) (i + 1) = true := by unfold anyN; rw [ha]; rfl
      rw [e] at ih
      exact ih
    | false =>
      have e : anyN (fun o => decide (pRin P o < pRin P n) && !(qua S o) && drf S o c) (i + 1) = (decide (pRin P i < pRin P n) && !(qua S i) && drf S i c) := by unfold anyN; rw [ha]; rfl
      rw [e] at ih
      rw [if_pos (by decide)]
      simp only [inb_nI (show i < 5 by omega) (by decide), inb_nI (show n < 5 by omega) (by decide), if_true, ix_nI (show n < 2 ^ 31 by omega), ix_nI (show i < 2 ^ 31 by omega), r1, r2, nI_leI (show pRin P n < 2 ^ 31 by omega) (show pRin P i < 2 ^ 31 by omega), m_isQuarantined hal hR hb (show i < 5 by omega), m_isDrifted hal hR hb (show i < 5 by omega) hc, Option.bind_some, nI_1]
      by_cases h1 : pRin P n ≤ pRin P i
      · rw [if_pos h1]
        rw [show decide (pRin P i < pRin P n) = false from decide_eq_false (by omega)] at ih
        exact ih
      · rw [if_neg h1]
        rw [show decide (pRin P i < pRin P n) = true from decide_eq_true (by omega)] at ih
        cases hq : qua S i with
        | true => rw [hq] at ih; rw [if_neg (by decide)]; exact ih
        | false =>
          rw [hq] at ih; rw [if_pos (by decide)]
          cases hd : drf S i c with
          | true => rw [hd] at ih; rw [if_neg (by decide)]; exact ih
          | false => rw [hd] at ih; rw [if_pos (by decide)]; exact ih
theorem m_waits (hal : alen r = 107) (hR : RRow F r S) (hb : ∀ k, k < 107 → S k < 2 ^ 31) (hP : WFP P) (hM : RPM F P) (hn : n < pNod P) (hc : c < 6) : s_X9_waitsForRings F r (nI n) (nI c) = some (b01 (wai P S n c)) := by
  have hN := hP.1.2
  exact m_waits_b hal hR hb hP hM hn hc (pNod P) 0 fu_ (by omega) (fu_lt (by omega))
end MR
