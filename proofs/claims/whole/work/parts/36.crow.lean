/-! ===== what the class reads of a state ===== -/
theorem nI_xor (x y : Nat) : nI x ^^^ nI y = nI (x ^^^ y) := by
  apply Int32.toBitVec_inj.mp
  show BitVec.ofNat 32 x ^^^ BitVec.ofNat 32 y = BitVec.ofNat 32 (x ^^^ y)
  exact (BitVec.ofNat_xor (w := 32)).symm
theorem vin_xor (x y c : Nat) : vin (x ^^^ y) c = vin x c ^^^ vin y c := by
  unfold vin
  rw [show (4 : Nat) ^ c = 2 ^ (2 * c) by rw [Nat.pow_mul]]
  rw [Nat.xor_div_two_pow]
  exact Nat.xor_mod_two_pow (n := 2)
theorem xor_4096 {x y : Nat} (hx : x < 4096) (hy : y < 4096) : x ^^^ y < 4096 := Nat.xor_lt_two_pow (n := 12) hx hy
theorem i_drf {x y c : Nat} (hx : x < 4096) (hy : y < 4096) (hc : c < 6) : (((nI x ^^^ nI y) >>> ((2 * nI c) &&& 31)) &&& 3 = 0) ↔ vin x c = vin y c := by
  rw [nI_xor, i_vin (xor_4096 hx hy) hc, vin_xor, li_0, nI_eq (by have := Nat.xor_lt_two_pow (n := 2) (vin_lt x c) (vin_lt y c); omega) (by omega)]
  have hall : ∀ x, x < 4 → ∀ y, y < 4 → ((x ^^^ y = 0) ↔ x = y) := by decide
  exact hall _ (vin_lt x c) _ (vin_lt y c)
theorem i_bc_all : ∀ q, q < 32 → ∀ k, k < 32 → s_J6_bitCount_0f7a4 (fun _ _ => 0) (nI (32 * q + k)) = some (nI (popc (32 * q + k) 30)) := by decide +kernel
theorem c_bitCount {F : MM} {k : Nat} (hk : k < 1024) : s_J6_bitCount_0f7a4 F (nI k) = some (nI (popc k 30)) := by
  have h := i_bc_all (k / 32) (by omega) (k % 32) (by omega)
  rw [show 32 * (k / 32) + k % 32 = k by omega] at h
  exact h
theorem i_4095 {k : Nat} (h : k < 4096) : nI k &&& 4095 = nI k := by
  rw [pk_andN (k := 12) (by omega) (by decide)]
  congr 1; omega
section CR
variable {F F1 : MM} {P : PL} {S : RW} {a n c t k v : Nat}
theorem cod_vin0 (hP : WFP P) (hS : WFS P t S) (hn : n < pNod P) (hc : c < pPar P) : vin (cod P S n 0) c = S (2 + 15 * n + c) := codN_vin (b := 2 + 15 * n + 0) (pPar P) (fun c hc => ((hS.2.2.1 n hn).1 c hc).1) c hc
theorem cod_vin6 (hP : WFP P) (hS : WFS P t S) (hn : n < pNod P) (hc : c < pPar P) : vin (cod P S n 6) c = S (2 + 15 * n + 6 + c) := codN_vin (b := 2 + 15 * n + 6) (pPar P) (fun c hc => ((hS.2.2.1 n hn).1 c hc).2) c hc
theorem c_isDrifted (hP : WFP P) (hS : WFS P t S) (hT : RSt F P a S) (hn : n < pNod P) (hc : c < pPar P) : s_X5_isDrifted F a (nI n) (nI c) = some (b01 (drf S n c)) := by
  have hN := hP.1.2
  have hC := hP.2.1.2
  obtain ⟨r1, r2, -⟩ := hT.2.2.1 n hn
  have hx := cod_4096 hP hS hn (Or.inl rfl)
  have hy := cod_4096 hP hS hn (Or.inr rfl)
  have hd := i_drf hx hy (show c < 6 by omega)
  rw [cod_vin0 hP hS hn hc, cod_vin6 hP hS hn hc] at hd
  unfold s_X5_isDrifted
  simp (disch := omega) only [Option.bind_some, nI_add, nI_1, at_nI, pa_nI, inb_nI, ix_nI, nI_leI, nI_ltI, nI_eq, if_true, r1, r2]
  unfold drf b01
  by_cases h : S (2 + 15 * n + c) = S (2 + 15 * n + 6 + c)
  · rw [if_pos (hd.mpr h)]; simp [h]
  · rw [if_neg (fun e => h (hd.mp e))]; simp [h]
theorem c_isQuarantined (hP : WFP P) (ht : t < 1000000) (hS : WFS P t S) (hT : RSt F P a S) (hn : n < pNod P) : s_X5_isQuarantined F a (nI n) = some (b01 (qua S n)) := by
  have hN := hP.1.2
  obtain ⟨-, -, -, -, r5⟩ := hT.2.2.1 n hn
  obtain ⟨-, -, -, b4⟩ := hS.2.2.1 n hn
  have b0 := hS.1.1
  unfold s_X5_isQuarantined
  simp (disch := omega) only [Option.bind_some, nI_add, nI_1, at_nI, pa_nI, inb_nI, ix_nI, nI_leI, nI_ltI, nI_eq, if_true, r5, hT.1]
  unfold qua b01
  by_cases h : S 0 < S (2 + 15 * n + 14)
  · rw [if_neg (by omega)]; simp [h]
  · rw [if_pos (by omega)]; simp [h]
theorem c_missingTo (hP : WFP P) (hS : WFS P t S) (hT : RSt F P a S) (hc : c < pPar P) (hv : v < 4) : s_X5_missingTo F a (nI c) (nI v) = some (nI (lck S c v)) := by
  have hC := hP.2.1.2
  obtain ⟨r1, r2⟩ := hT.2.2.2.1 c hc
  have r2 := r2 v hv
  obtain ⟨w1, w2⟩ := hS.2.2.2 c hc
  have w2 := w2 v hv
  have hb := c_bitCount (F := F) (k := S (77 + 5 * c + 1 + v)) (by omega)
  have hp := popc_lt (S (77 + 5 * c + 1 + v)) 30
  unfold s_X5_missingTo s_X0_change
  simp (disch := omega) only [Option.bind_some, nI_add, nI_1, at_nI, pa_nI, inb_nI, ix_nI, nI_leI, nI_ltI, nI_eq, if_true, li_4, pk_mul, r1, r2, hb]
  unfold lck
  by_cases h : popc (S (77 + 5 * c + 1 + v)) 30 ≤ S (77 + 5 * c)
  · rw [pk_sub h]
    by_cases h2 : 0 < S (77 + 5 * c) - popc (S (77 + 5 * c + 1 + v)) 30
    · rw [if_pos (by rw [li_0, nI_ltI (by omega) (by omega)]; exact h2)]
    · rw [if_neg (by rw [li_0, nI_ltI (by omega) (by omega)]; exact h2), show S (77 + 5 * c) - popc (S (77 + 5 * c + 1 + v)) 30 = 0 by omega]; rfl
  · have hneg := pk_sneg (a := S (77 + 5 * c)) (b := popc (S (77 + 5 * c + 1 + v)) 30) (by omega) (by omega)
    rw [if_neg (fun h9 => absurd hneg (by rw [Int32.lt_iff_toInt_lt]; rw [Int32.lt_iff_toInt_lt] at h9; omega)), show S (77 + 5 * c) - popc (S (77 + 5 * c + 1 + v)) 30 = 0 by omega]
    rfl
theorem c_below_b (hP : WFP P) (ht : t < 1000000) (hS : WFS P t S) (hC' : RPC F P) (hT : RSt F P a S) (hn : n < pNod P) (hc : c < pPar P) : ∀ d i fuel, i + d = pNod P → d < fuel → anyN (fun o => decide (pRin P o < pRin P n) && !(qua S o) && drf S o c) i = false →
    s_X5_isDriftedBelow_b2 F a fuel (nI (pRin P n)) (nI c) (nI i) = some (b01 (wai P S n c))
  | 0, i, fuel + 1, h, _, ha => by
    have hN := hP.1.2
    have : i = pNod P := by omega
    subst this
    rw [s_X5_isDriftedBelow_b2, if_pos (by rw [hC'.1, nI_leI (by omega) (by omega)]; omega)]
    unfold wai
    rw [ha]; rfl
  | d + 1, i, fuel + 1, h, hf, ha => by
    have hN := hP.1.2
    have ih := c_below_b hP ht hS hC' hT hn hc d (i + 1) fuel (by omega) (by omega)
    have r2 := hC'.2.2.2.2.2.1 i (by omega)
    have q2 := hP.2.2.2.2.2.1 i (by omega)
    have q1 := hP.2.2.2.2.2.1 n hn
    have e : anyN (fun o => decide (pRin P o < pRin P n) && !(qua S o) && drf S o c) (i + 1) = (decide (pRin P i < pRin P n) && !(qua S i) && drf S i c) := by unfold anyN; rw [ha]; rfl
    have hw : (decide (pRin P i < pRin P n) && !(qua S i) && drf S i c) = true → wai P S n c = true := fun h9 => anyN_mono (show i + 1 ≤ pNod P by omega) (e.trans h9)
    rw [e] at ih
    rw [s_X5_isDriftedBelow_b2, if_neg (by rw [hC'.1, nI_leI (by omega) (by omega)]; omega)]
    simp (disch := omega) only [Option.bind_some, nI_add, nI_1, at_nI, pa_nI, inb_nI, ix_nI, nI_leI, nI_ltI, nI_eq, if_true, r2, c_isQuarantined hP ht hS hT (show i < pNod P by omega), c_isDrifted hP hS hT (show i < pNod P by omega) hc]
    by_cases h1 : pRin P n ≤ pRin P i
    · rw [if_pos h1]
      exact ih (by rw [decide_eq_false (by omega)]; rfl)
    · rw [if_neg h1]
      rw [show decide (pRin P i < pRin P n) = true from decide_eq_true (by omega)] at ih hw
      cases hq : qua S i with
      | true => rw [hq] at ih; rw [if_neg b01_t]; exact ih rfl
      | false =>
        rw [hq] at ih hw; rw [if_pos b01_f]
        cases hd : drf S i c with
        | true => rw [hd] at hw; rw [if_neg b01_t, hw rfl]; rfl
        | false => rw [hd] at ih; rw [if_pos b01_f]; exact ih rfl
theorem c_below (hP : WFP P) (ht : t < 1000000) (hS : WFS P t S) (hC' : RPC F P) (hT : RSt F P a S) (hn : n < pNod P) (hc : c < pPar P) : s_X5_isDriftedBelow F a (nI (pRin P n)) (nI c) = some (b01 (wai P S n c)) := by
  have hN := hP.1.2
  exact c_below_b hP ht hS hC' hT hn hc (pNod P) 0 fu_ (by omega) (fu_lt (by omega)) rfl
theorem c_newlyBroken {x y : Nat} (hP : WFP P) (hC' : RPC F P) (hx : x < 4 ^ pPar P) (hy : y < 4 ^ pPar P) : s_X4_newlyBroken F (nI x) (nI y) = some (nbk P x y) := by
  have h6 := pow4_le hP.2.1.2
  have hk : ∀ k, k < 4 ^ pPar P → F 12 k = nI (brk P k) := hC'.2.2.2.2.2.2.2.2
  unfold s_X4_newlyBroken
  rw [i_4095 (by omega), i_4095 (by omega)]
  simp (disch := omega) only [Option.bind_some, nI_add, nI_1, at_nI, pa_nI, inb_nI, ix_nI, nI_leI, nI_ltI, nI_eq, if_true, hk x hx, hk y hy]
  rfl
theorem c_brokenOn {x : Nat} (hP : WFP P) (hC' : RPC F P) (hx : x < 4 ^ pPar P) : s_X4_brokenOn F (nI x) = some (nI (brk P x)) := by
  have h6 := pow4_le hP.2.1.2
  have hk : ∀ k, k < 4 ^ pPar P → F 12 k = nI (brk P k) := hC'.2.2.2.2.2.2.2.2
  unfold s_X4_brokenOn
  rw [i_4095 (by omega)]
  simp (disch := omega) only [Option.bind_some, nI_add, nI_1, at_nI, pa_nI, inb_nI, ix_nI, nI_leI, nI_ltI, nI_eq, if_true, hk x hx]
theorem c_brokenByWish (hP : WFP P) (hS : WFS P t S) (hC' : RPC F P) (hT : RSt F P a S) (hn : n < pNod P) (hc : c < pPar P) : s_X5_brokenByWish F a (nI n) (nI c) = some (nbk P (cod P S n 0) (wth (cod P S n 0) c (S (2 + 15 * n + 6 + c)))) := by
  have hN := hP.1.2
  have hC := hP.2.1.2
  obtain ⟨r1, r2, -⟩ := hT.2.2.1 n hn
  have hx := cod_4096 hP hS hn (Or.inl rfl)
  have hy := cod_4096 hP hS hn (Or.inr rfl)
  have hv := ((hS.2.2.1 n hn).1 c hc).2
  have hw := wth_lt (cod_lt hP hS hn (Or.inl rfl)) hc hv
  unfold s_X5_brokenByWish s_X0_versionIn s_X0_with
  simp (disch := omega) only [Option.bind_some, nI_add, nI_1, at_nI, pa_nI, inb_nI, ix_nI, nI_leI, nI_ltI, nI_eq, if_true, r1, r2, i_vin hy (show c < 6 by omega), cod_vin6 hP hS hn hc, i_wth hx (show c < 6 by omega) hv, c_newlyBroken hP hC' (cod_lt hP hS hn (Or.inl rfl)) hw]
theorem c_stateOf (hP : WFP P) (ht : t < 1000000) (hS : WFS P t S) (hC' : RPC F P) (hT : RSt F P a S) (hn : n < pNod P) (hc : c < pPar P) : s_X5_stateOf F a (nI n) (nI c) = some (nI (stt P S n c)) := by
  have hN := hP.1.2
  have hC := hP.2.1.2
  have r2 := (hT.2.2.1 n hn).2.1
  have hy := cod_4096 hP hS hn (Or.inr rfl)
  have hv := ((hS.2.2.1 n hn).1 c hc).2
  have hq := (hS.2.2.2 c hc).1
  have rr := hC'.2.2.2.2.2.1 n hn
  unfold s_X5_stateOf s_X0_versionIn
  simp (disch := omega) only [Option.bind_some, nI_add, nI_1, at_nI, pa_nI, inb_nI, ix_nI, nI_leI, nI_ltI, nI_eq, if_true, r2, rr, c_isDrifted hP hS hT hn hc, c_isQuarantined hP ht hS hT hn, i_vin hy (show c < 6 by omega), cod_vin6 hP hS hn hc, c_missingTo hP hS hT hc hv, c_below hP ht hS hC' hT hn hc, c_brokenByWish hP hS hC' hT hn hc]
  unfold stt
  cases drf S n c with
  | false => rfl
  | true =>
    rw [if_neg (by decide), if_pos rfl]
    cases qua S n with
    | true => rfl
    | false =>
      rw [if_pos (show b01 false = 0 by rfl)]
      simp only [Bool.false_eq_true, if_false]
      have hl : lck S c (S (2 + 15 * n + 6 + c)) < 2 ^ 31 := by unfold lck; omega
      by_cases h3 : 0 < lck S c (S (2 + 15 * n + 6 + c))
      · rw [if_neg (nI_nle h3 hl), if_pos h3]; rfl
      · rw [if_pos (show nI (lck S c (S (2 + 15 * n + 6 + c))) ≤ 0 by rw [show lck S c (S (2 + 15 * n + 6 + c)) = 0 by omega]; decide), if_neg h3]
        cases wai P S n c with
        | true => rfl
        | false =>
          rw [if_pos (show b01 false = 0 by rfl)]
          simp only [Bool.false_eq_true, if_false]
          by_cases h5 : nbk P (cod P S n 0) (wth (cod P S n 0) c (S (2 + 15 * n + 6 + c))) = 0
          · rw [if_pos h5, if_pos h5]; rfl
          · rw [if_neg h5, if_neg h5]; rfl
theorem c_readyOn_b (hP : WFP P) (ht : t < 1000000) (hS : WFS P t S) (hC' : RPC F P) (hT : RSt F P a S) (hn : n < pNod P) : ∀ d i fuel, i + d = pPar P → d < fuel →
    s_X5_readyOn_b2 F a fuel (nI n) (nI i) = some (oI9 (fstN (fun c => decide (stt P S n c = 0)) d i))
  | 0, i, fuel + 1, h, _ => by
    have hC := hP.2.1.2
    have : i = pPar P := by omega
    subst this
    rw [s_X5_readyOn_b2, if_pos (by rw [hC'.2.1, nI_leI (by omega) (by omega)]; omega)]
    rfl
  | d + 1, i, fuel + 1, h, hf => by
    have hC := hP.2.1.2
    rw [s_X5_readyOn_b2, if_neg (by rw [hC'.2.1, nI_leI (by omega) (by omega)]; omega), c_stateOf hP ht hS hC' hT hn (by omega)]
    have hs := stt_le P S n i
    have e0 : (nI (stt P S n i) = 0) ↔ stt P S n i = 0 := nI_eq (b := 0) (by omega) (by omega)
    simp only [Option.bind_some, nI_1]
    unfold fstN
    by_cases h0 : stt P S n i = 0
    · rw [if_pos (e0.mpr h0), if_pos (decide_eq_true h0)]; rfl
    · rw [if_neg (fun e => h0 (e0.mp e)), if_neg (by rw [decide_eq_false h0]; decide)]
      exact c_readyOn_b hP ht hS hC' hT hn d (i + 1) fuel (by omega) (by omega)
theorem c_readyOn (hP : WFP P) (ht : t < 1000000) (hS : WFS P t S) (hC' : RPC F P) (hT : RSt F P a S) (hn : n < pNod P) : s_X5_readyOn F a (nI n) = some (oI9 (nxt P S n)) := by
  have hC := hP.2.1.2
  exact c_readyOn_b hP ht hS hC' hT hn (pPar P) 0 fu_ (by omega) (fu_lt (by omega))
end CR
