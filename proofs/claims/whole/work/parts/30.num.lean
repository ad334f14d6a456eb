/-! ===== numbers ===== -/
theorem ix_nI {n : Nat} (h : n < 2 ^ 31) : ix (nI n) = n := nI_clamp h
theorem inb_nI {n N : Nat} (h : n < N) (hN : N < 2 ^ 31) : inb (nI n) N = true := by
  simp only [inb, Bool.and_eq_true, Bool.not_eq_true', decide_eq_false_iff_not, decide_eq_true_eq]
  exact ⟨nI_pos (by omega), by rw [nI_clamp (by omega)]; exact h⟩
theorem nI_lit0 : (0 : Int32) = nI 0 := rfl
theorem nI_inj {a b : Nat} (ha : a < 2 ^ 31) (hb : b < 2 ^ 31) (h : nI a = nI b) : a = b := (nI_eq ha hb).mp h
/-- the versions of a node as one number -/
def wth (code c v : Nat) : Nat := code - code / 4 ^ c % 4 * 4 ^ c + v * 4 ^ c
def vin (code c : Nat) : Nat := code / 4 ^ c % 4
theorem sh2 {c : Nat} (hc : c < 6) : (2 * nI c) &&& 31 = nI (2 * c) := by
  have : ∀ c, c < 6 → (2 * nI c) &&& 31 = nI (2 * c) := by decide +kernel
  exact this c hc
theorem i_vin {code c : Nat} (h : code < 4096) (hc : c < 6) : (nI code >>> ((2 * nI c) &&& 31)) &&& 3 = nI (vin code c) := by
  rw [sh2 hc]
  have hs : ∀ c, c < 6 → ((nI (2 * c)).toBitVec.smod 32).toNat = 2 * c := by decide +kernel
  rw [pk_shrN (by omega) _ (2 * c) (hs c hc), pk_andN (k := 2) _ (by decide)]
  · unfold vin
    rw [show (4 : Nat) ^ c = 2 ^ (2 * c) by rw [Nat.pow_mul]]
  · have : code / 2 ^ (2 * c) ≤ code := Nat.div_le_self _ _
    omega
theorem i_wth_all : ∀ c, c < 6 → ∀ v, v < 4 → ∀ q, q < 64 → ∀ r, r < 64 → (nI (64 * q + r) &&& (((3 : Int32) <<< ((2 * nI c) &&& 31)) ^^^ (-1))) ||| (nI v <<< ((2 * nI c) &&& 31)) = nI (wth (64 * q + r) c v) := by decide +kernel
theorem i_wth {code c v : Nat} (h : code < 4096) (hc : c < 6) (hv : v < 4) : (nI code &&& (((3 : Int32) <<< ((2 * nI c) &&& 31)) ^^^ (-1))) ||| (nI v <<< ((2 * nI c) &&& 31)) = nI (wth code c v) := by
  have := i_wth_all c hc v hv (code / 64) (by omega) (code % 64) (by omega)
  rw [show 64 * (code / 64) + code % 64 = code by omega] at this
  exact this
