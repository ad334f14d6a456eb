/-! ===== a code with one version turned ===== -/
theorem i_xsh_all : ∀ c, c < 6 → ∀ v, v < 4 → ∀ q, q < 64 → ∀ r, r < 64 → nI (64 * q + r) ^^^ (nI v <<< ((2 * nI c) &&& 31)) = nI (wth (64 * q + r) c (vin (64 * q + r) c ^^^ v)) := by decide +kernel
theorem i_xsh {code c v : Nat} (h : code < 4096) (hc : c < 6) (hv : v < 4) : nI code ^^^ (nI v <<< ((2 * nI c) &&& 31)) = nI (wth code c (vin code c ^^^ v)) := by
  have := i_xsh_all c hc v hv (code / 64) (by omega) (code % 64) (by omega)
  rw [show 64 * (code / 64) + code % 64 = code by omega] at this
  exact this
theorem xor_4 {x y : Nat} (hx : x < 4) (hy : y < 4) : x ^^^ y < 4 := Nat.xor_lt_two_pow (n := 2) hx hy
theorem xor_xor4 {x y : Nat} (hx : x < 4) (hy : y < 4) : x ^^^ (x ^^^ y) = y := by
  have h : ∀ x, x < 4 → ∀ y, y < 4 → x ^^^ (x ^^^ y) = y := by decide
  exact h x hx y hy
