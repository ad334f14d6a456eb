/-! ===== what the words of the document are, as numbers: a plan P, a row S ===== -/
abbrev PL : Type := Nat × Nat × Nat × Nat × Nat × (Nat → Nat) × (Nat → Nat)
abbrev RW : Type := Nat → Nat
def pNod (P : PL) : Nat := P.1
def pPar (P : PL) : Nat := P.2.1
def pRul (P : PL) : Nat := P.2.2.1
def pLim (P : PL) : Nat := P.2.2.2.1
def pLen (P : PL) : Nat := P.2.2.2.2.1
def pRin (P : PL) : Nat → Nat := P.2.2.2.2.2.1
def pLaw (P : PL) : Nat → Nat := P.2.2.2.2.2.2
def WFP (P : PL) : Prop := (1 ≤ pNod P ∧ pNod P ≤ 5) ∧ (1 ≤ pPar P ∧ pPar P ≤ 6) ∧ pRul P ≤ 10 ∧ (1 ≤ pLim P ∧ pLim P ≤ 9) ∧ (1 ≤ pLen P ∧ pLen P ≤ 50) ∧ (∀ n, n < pNod P → pRin P n ≤ 2) ∧
  ∀ r, r < pRul P → pLaw P (5 * r) ≤ 1 ∧ pLaw P (5 * r + 1) < pPar P ∧ (1 ≤ pLaw P (5 * r + 2) ∧ pLaw P (5 * r + 2) ≤ 3) ∧ pLaw P (5 * r + 3) < pPar P ∧ (1 ≤ pLaw P (5 * r + 4) ∧ pLaw P (5 * r + 4) ≤ 3)
def popc (k : Nat) : Nat → Nat
  | 0 => 0
  | i + 1 => popc k i + k / 2 ^ i % 2
def drf (S : RW) (n c : Nat) : Bool := !(decide (S (2 + 15 * n + c) = S (2 + 15 * n + 6 + c)))
def qua (S : RW) (n : Nat) : Bool := decide (S 0 < S (2 + 15 * n + 14))
def lck (S : RW) (c v : Nat) : Nat := S (77 + 5 * c) - popc (S (77 + 5 * c + 1 + v)) 30
def anyN (p : Nat → Bool) : Nat → Bool
  | 0 => false
  | n + 1 => anyN p n || p n
def wai (P : PL) (S : RW) (n c : Nat) : Bool := anyN (fun o => decide (pRin P o < pRin P n) && !(qua S o) && drf S o c) (pNod P)
/-- versions as a code: of the components below m -/
def codN (S : RW) (b : Nat) : Nat → Nat
  | 0 => 0
  | c + 1 => codN S b c + S (b + c) * 4 ^ c
def cod (P : PL) (S : RW) (n f : Nat) : Nat := codN S (2 + 15 * n + f) (pPar P)
/-- is rule r broken by a code -/
def rbk (P : PL) (code r : Nat) : Bool := decide (pLaw P (5 * r + 2) ≤ vin code (pLaw P (5 * r + 1))) && (decide (pLaw P (5 * r + 4) ≤ vin code (pLaw P (5 * r + 3))) == decide (pLaw P (5 * r) = 1))
def bsum (p : Nat → Bool) : Nat → Nat
  | 0 => 0
  | n + 1 => bsum p n + (if p n then 2 ^ n else 0)
def brk (P : PL) (code : Nat) : Nat := bsum (rbk P code) (pRul P)
def nbk (P : PL) (b a : Nat) : Int32 := nI (brk P a) &&& (nI (brk P b) ^^^ (-1))
def stt (P : PL) (S : RW) (n c : Nat) : Nat := if drf S n c then (if qua S n then 2 else if 0 < lck S c (S (2 + 15 * n + 6 + c)) then 3 else if wai P S n c then 4 else if nbk P (cod P S n 0) (wth (cod P S n 0) c (S (2 + 15 * n + 6 + c))) = 0 then 0 else 5) else 1
/-- the first below m with p, from i on -/
def fstN (p : Nat → Bool) : Nat → Nat → Option Nat
  | 0, _ => none
  | d + 1, i => if p i then some i else fstN p d (i + 1)
def nxt (P : PL) (S : RW) (n : Nat) : Option Nat := fstN (fun c => decide (stt P S n c = 0)) (pPar P) 0
def oI9 : Option Nat → Int32
  | none => -9
  | some c => nI c
def rup (S : RW) (k v : Nat) : RW := fun j => if j = k then v else S j
def tckN (P : PL) (S : RW) (n : Nat) : RW := match nxt P S n with
  | none => S
  | some c => if S (2 + 15 * n + 12) = 0 then rup (rup (rup S (2 + 15 * n + c) (S (2 + 15 * n + 6 + c))) (2 + 15 * n + 13) 0) 1 (S 1 + 1)
    else if S (2 + 15 * n + 13) + 1 = pLim P then rup (rup (rup S (2 + 15 * n + 12) (S (2 + 15 * n + 12) - 1)) (2 + 15 * n + 13) 0) (2 + 15 * n + 14) (S 0 + pLen P)
    else rup (rup S (2 + 15 * n + 12) (S (2 + 15 * n + 12) - 1)) (2 + 15 * n + 13) (S (2 + 15 * n + 13) + 1)
def tckU (P : PL) (S : RW) : Nat → RW
  | 0 => rup S 0 (S 0 + 1)
  | n + 1 => tckN P (tckU P S n) n
def tck (P : PL) (S : RW) : RW := tckU P S (pNod P)
/-- what a row may hold: t bounds the time -/
def WFS (P : PL) (t : Nat) (S : RW) : Prop := (S 0 ≤ t ∧ ∀ k, k < 107 → S k ≤ 5 * t + 60) ∧ S 1 ≤ 5 * t ∧ (∀ n, n < pNod P → (∀ c, c < pPar P → S (2 + 15 * n + c) < 4 ∧ S (2 + 15 * n + 6 + c) < 4) ∧ S (2 + 15 * n + 12) ≤ 9 ∧ S (2 + 15 * n + 13) < pLim P ∧ S (2 + 15 * n + 14) ≤ t + 50) ∧
  ∀ c, c < pPar P → S (77 + 5 * c) ≤ 5 ∧ ∀ v, v < 4 → S (77 + 5 * c + 1 + v) < 32
/-- the reference's plan and rows -/
def RPM (F : MM) (P : PL) : Prop := F 164 4 = nI (pNod P) ∧ F 164 5 = nI (pPar P) ∧ F 164 6 = nI (pRul P) ∧ F 164 7 = nI (pLim P) ∧ F 164 8 = nI (pLen P) ∧ (∀ n, n < pNod P → F 166 n = nI (pRin P n)) ∧ ∀ k, k < 5 * pRul P → F 167 k = nI (pLaw P k)
def RRow (F : MM) (r : Nat) (S : RW) : Prop := ∀ k, k < 107 → F r k = nI (S k)
/-- the class's plan and states -/
def RPC (F : MM) (P : PL) : Prop := F 8 0 = nI (pNod P) ∧ F 8 1 = nI (pPar P) ∧ F 10 3 = nI (pRul P) ∧ F 8 2 = nI (pLim P) ∧ F 8 3 = nI (pLen P) ∧ (∀ n, n < pNod P → F 9 n = nI (pRin P n)) ∧ (∀ k, k < 5 * pRul P → F 11 k = nI (pLaw P k)) ∧ F 10 2 = nI (4 ^ pPar P) ∧ ∀ k, k < 4 ^ pPar P → F 12 k = nI (brk P k)
def RSt (F : MM) (P : PL) (a : Nat) (S : RW) : Prop := F a 8 = nI (S 0) ∧ F a 9 = nI (S 1) ∧ (∀ n, n < pNod P → F (a + 1) n = nI (cod P S n 0) ∧ F (a + 2) n = nI (cod P S n 6) ∧ F (a + 3) n = nI (S (2 + 15 * n + 12)) ∧ F (a + 4) n = nI (S (2 + 15 * n + 13)) ∧ F (a + 5) n = nI (S (2 + 15 * n + 14))) ∧
  (∀ c, c < pPar P → F (a + 6) c = nI (S (77 + 5 * c)) ∧ ∀ v, v < 4 → F (a + 7) (4 * c + v) = nI (S (77 + 5 * c + 1 + v))) ∧ ∀ k, 4 * pPar P ≤ k → k < 24 → F (a + 7) k = 0
/-! ===== facts of these ===== -/
theorem rup_s (S : RW) (k v : Nat) : rup S k v k = v := if_pos rfl
theorem rup_n {S : RW} {k v j : Nat} (h : j ≠ k) : rup S k v j = S j := if_neg h
theorem codN_lt {S : RW} {b : Nat} : ∀ m, (∀ c, c < m → S (b + c) < 4) → codN S b m < 4 ^ m
  | 0, _ => Nat.one_pos
  | m + 1, h => by
    have h1 := codN_lt m (fun c hc => h c (by omega))
    have h2 := h m (by omega)
    unfold codN
    rw [Nat.pow_succ]
    have : S (b + m) * 4 ^ m ≤ 3 * 4 ^ m := Nat.mul_le_mul_right _ (by omega)
    omega
theorem codN_vin {S : RW} {b : Nat} : ∀ m, (∀ c, c < m → S (b + c) < 4) → ∀ c, c < m → vin (codN S b m) c = S (b + c)
  | 0, _, c, hc => absurd hc (by omega)
  | m + 1, h, c, hc => by
    have hlt := codN_lt m (fun c hc => h c (by omega))
    unfold vin codN
    have hp : 0 < 4 ^ c := Nat.pow_pos (by decide)
    by_cases hcm : c = m
    · subst hcm
      rw [Nat.add_mul_div_right _ _ hp, Nat.div_eq_of_lt hlt, Nat.zero_add, Nat.mod_eq_of_lt (h c (by omega))]
    · have ih := codN_vin m (fun c hc => h c (by omega)) c (by omega)
      unfold vin at ih
      have e : S (b + m) * 4 ^ m = (S (b + m) * 4 ^ (m - c - 1) * 4) * 4 ^ c := by
        rw [Nat.mul_assoc, Nat.mul_assoc, ← Nat.pow_succ', ← Nat.pow_add]
        congr 2; omega
      rw [e, Nat.add_mul_div_right _ _ hp, Nat.add_mul_mod_self_right, ih]
theorem pow4_le {m : Nat} (h : m ≤ 6) : 4 ^ m ≤ 4096 := Nat.le_trans (Nat.pow_le_pow_right (by decide) h) (by decide)
theorem vin_lt (code c : Nat) : vin code c < 4 := Nat.mod_lt _ (by decide)
/-- a code with one version changed is the code of the changed row -/
theorem codN_congr {S S' : RW} {b : Nat} : ∀ m, (∀ c, c < m → S (b + c) = S' (b + c)) → codN S b m = codN S' b m
  | 0, _ => rfl
  | m + 1, h => by unfold codN; rw [codN_congr m (fun c hc => h c (by omega)), h m (by omega)]
theorem codN_wth {S : RW} {b v : Nat} : ∀ m, (∀ c, c < m → S (b + c) < 4) → ∀ c, c < m → wth (codN S b m) c v = codN (rup S (b + c) v) b m
  | 0, _, c, hc => absurd hc (by omega)
  | m + 1, h, c, hc => by
    have hv := codN_vin (m + 1) h c hc
    have hw : wth (codN S b (m + 1)) c v = codN S b (m + 1) - S (b + c) * 4 ^ c + v * 4 ^ c := by
      unfold wth; unfold vin at hv; rw [hv]
    rw [hw]
    by_cases hcm : c = m
    · subst hcm
      show codN S b c + S (b + c) * 4 ^ c - S (b + c) * 4 ^ c + v * 4 ^ c = codN (rup S (b + c) v) b c + rup S (b + c) v (b + c) * 4 ^ c
      rw [rup_s, codN_congr (S' := rup S (b + c) v) c (fun j hj => (rup_n (by omega)).symm)]
      omega
    · have hcm2 : c < m := by omega
      have hs : ∀ c, c < m → S (b + c) < 4 := fun c hc => h c (by omega)
      have ih := codN_wth (v := v) m hs c hcm2
      have hv2 := codN_vin m hs c hcm2
      have hw2 : wth (codN S b m) c v = codN S b m - S (b + c) * 4 ^ c + v * 4 ^ c := by
        unfold wth; unfold vin at hv2; rw [hv2]
      rw [hw2] at ih
      show codN S b m + S (b + m) * 4 ^ m - S (b + c) * 4 ^ c + v * 4 ^ c = codN (rup S (b + c) v) b m + rup S (b + c) v (b + m) * 4 ^ m
      rw [rup_n (show b + m ≠ b + c by omega), ← ih]
      have hle : S (b + c) * 4 ^ c ≤ codN S b m := by
        have h9 : codN S b m / 4 ^ c % 4 * 4 ^ c ≤ codN S b m := Nat.le_trans (Nat.mul_le_mul_right _ (Nat.mod_le _ _)) (Nat.div_mul_le_self _ _)
        unfold vin at hv2
        rw [hv2] at h9; exact h9
      omega
theorem bsum_lt (p : Nat → Bool) : ∀ n, bsum p n < 2 ^ n
  | 0 => Nat.one_pos
  | n + 1 => by
    have := bsum_lt p n
    unfold bsum
    rw [Nat.pow_succ]
    by_cases h : p n = true
    · rw [if_pos h]; omega
    · rw [if_neg h]; omega
theorem brk_lt {P : PL} (hP : WFP P) (code : Nat) : brk P code < 1024 := Nat.lt_of_lt_of_le (bsum_lt _ _) (Nat.le_trans (Nat.pow_le_pow_right (by decide) hP.2.2.1) (by decide))
theorem cod_lt {P : PL} {S : RW} {t : Nat} (hP : WFP P) (hS : WFS P t S) {n f : Nat} (hn : n < pNod P) (hf : f = 0 ∨ f = 6) : cod P S n f < 4 ^ pPar P := by
  refine codN_lt _ (fun c hc => ?_)
  have h := ((hS.2.2.1 n hn).1 c hc)
  rcases hf with rfl | rfl
  · exact h.1
  · exact h.2
theorem cod_4096 {P : PL} {S : RW} {t : Nat} (hP : WFP P) (hS : WFS P t S) {n f : Nat} (hn : n < pNod P) (hf : f = 0 ∨ f = 6) : cod P S n f < 4096 := Nat.lt_of_lt_of_le (cod_lt hP hS hn hf) (pow4_le hP.2.1.2)
