/-! ===== the reference's codes, rules, states, ticks ===== -/
theorem i_orp_all : ∀ c, c < 6 → ∀ v, v < 4 → ∀ m, m < 4 ^ c → nI m ||| (nI v <<< ((2 * nI c) &&& 31)) = nI (m + v * 4 ^ c) := by decide +kernel
theorem i_bit_all : ∀ i, i < 10 → ∀ m, m < 2 ^ i → nI m ||| ((1 : Int32) <<< (nI i &&& 31)) = nI (m + 2 ^ i) := by decide +kernel
theorem i_bit {i m : Nat} (hi : i < 10) (hm : m < 2 ^ i) : nI m ||| ((1 : Int32) <<< (nI i &&& 31)) = nI (m + 2 ^ i) := i_bit_all i hi m hm
theorem i_or0 (x : Int32) : x ||| 0 = x := Int32.or_zero
section MS
variable {F : MM} {P : PL} {S : RW} {r n c t : Nat}
theorem WFS.bound (hP : WFP P) (hS : WFS P t S) (hR : RRow F r S) : True := trivial
theorem m_codeOf_b {f : Nat} (hal : alen r = 107) (hR : RRow F r S) (hP : WFP P) (hM : RPM F P) (hn : n < 5) (hf : f ≤ 6) (hv : ∀ c, c < pPar P → S (2 + 15 * n + f + c) < 4) : ∀ d i fuel, i + d = pPar P → d < fuel →
    s_X9_codeOf_b6 F r fuel (nI n) (nI f) (nI (codN S (2 + 15 * n + f) i)) (nI i) = some (nI (codN S (2 + 15 * n + f) (pPar P)))
  | 0, i, fuel + 1, h, _ => by
    have : i = pPar P := by omega
    subst this
    rw [s_X9_codeOf_b6, if_pos (by rw [hM.2.1, nI_leI (by have := hP.2.1.2; omega) (by have := hP.2.1.2; omega)]; omega)]
  | d + 1, i, fuel + 1, h, hfu => by
    have hC := hP.2.1.2
    rw [s_X9_codeOf_b6, if_neg (by rw [hM.2.1, nI_leI (by omega) (by omega)]; omega)]
    have i1 := rr_in hal (k := 2 + 15 * n + f + i) (by omega)
    have v1 := rr_at hR (k := 2 + 15 * n + f + i) (by omega)
    have hlt := codN_lt (S := S) (b := 2 + 15 * n + f) i (fun c hc => hv c (by omega))
    unfold s_X9_at
    simp only [Option.bind_some, at_nI, nI_add, i1, v1, if_true, nI_1]
    rw [i_orp_all i (by omega) (S (2 + 15 * n + f + i)) (hv i (by omega)) _ hlt]
    exact m_codeOf_b hal hR hP hM hn hf hv d (i + 1) fuel (by omega) (by omega)
theorem m_codeOf {f : Nat} (hal : alen r = 107) (hR : RRow F r S) (hP : WFP P) (hM : RPM F P) (hn : n < 5) (hf : f ≤ 6) (hv : ∀ c, c < pPar P → S (2 + 15 * n + f + c) < 4) : s_X9_codeOf F r (nI n) (nI f) = some (nI (cod P S n f)) := by
  have hC := hP.2.1.2
  exact m_codeOf_b hal hR hP hM hn hf hv (pPar P) 0 fu_ (by omega) (fu_lt (by omega))
theorem m_broken_b {code : Nat} (hk : code < 4096) (hP : WFP P) (hM : RPM F P) : ∀ d i fuel, i + d = pRul P → d < fuel →
    s_X9_broken_b4 F fuel (nI code) (nI (bsum (rbk P code) i)) (nI i) = some (nI (brk P code))
  | 0, i, fuel + 1, h, _ => by
    have : i = pRul P := by omega
    subst this
    rw [s_X9_broken_b4, if_pos (by rw [hM.2.2.1, nI_leI (by have := hP.2.2.1; omega) (by have := hP.2.2.1; omega)]; omega)]
    rfl
  | d + 1, i, fuel + 1, h, hfu => by
    have hC := hP.2.2.1
    have h6 := hP.2.1.2
    have ih := m_broken_b hk hP hM d (i + 1) fuel (by omega) (by omega)
    obtain ⟨g0, g1, g2, g3, g4⟩ := hP.2.2.2.2.2.2 i (by omega)
    have l0 := hM.2.2.2.2.2.2 (5 * i) (by omega)
    have l1 := hM.2.2.2.2.2.2 (5 * i + 1) (by omega)
    have l2 := hM.2.2.2.2.2.2 (5 * i + 2) (by omega)
    have l3 := hM.2.2.2.2.2.2 (5 * i + 3) (by omega)
    have l4 := hM.2.2.2.2.2.2 (5 * i + 4) (by omega)
    have hva := vin_lt code (pLaw P (5 * i + 1))
    have hvb := vin_lt code (pLaw P (5 * i + 3))
    rw [s_X9_broken_b4, if_neg (by rw [hM.2.2.1, nI_leI (by omega) (by omega)]; omega)]
    have e5 : (5 : Int32) * nI i = nI (5 * i) := by rw [show (5 : Int32) = nI 5 from rfl, pk_mul]
    have hb1 := bsum_lt (rbk P code) i
    have hstep : nI (bsum (rbk P code) i) ||| ((1 : Int32) <<< (nI i &&& 31)) = nI (bsum (rbk P code) i + 2 ^ i) := i_bit (by omega) hb1
    unfold s_X9_versionOf s_X9_broken_b47 s_X9_versionOf
    simp only [Option.bind_some, e5, ad_k _ 1 (show (1 : Int32) = nI 1 from rfl), ad_k _ 2 (show (2 : Int32) = nI 2 from rfl), ad_k _ 3 (show (3 : Int32) = nI 3 from rfl), ad_k _ 4 (show (4 : Int32) = nI 4 from rfl), inb_nI (show 5 * i + 1 < 50 by omega) (by decide), inb_nI (show 5 * i + 2 < 50 by omega) (by decide), inb_nI (show 5 * i + 3 < 50 by omega) (by decide), inb_nI (show 5 * i + 4 < 50 by omega) (by decide), if_true, ix_nI (show 5 * i + 1 < 2 ^ 31 by omega), ix_nI (show 5 * i + 2 < 2 ^ 31 by omega), ix_nI (show 5 * i + 3 < 2 ^ 31 by omega), ix_nI (show 5 * i + 4 < 2 ^ 31 by omega), l1, l2, l3, l4, i_vin hk (show pLaw P (5 * i + 1) < 6 by omega), i_vin hk (show pLaw P (5 * i + 3) < 6 by omega), nI_ltI (show vin code (pLaw P (5 * i + 1)) < 2 ^ 31 by omega) (show pLaw P (5 * i + 2) < 2 ^ 31 by omega), nI_ltI (show vin code (pLaw P (5 * i + 3)) < 2 ^ 31 by omega) (show pLaw P (5 * i + 4) < 2 ^ 31 by omega)]
    have hk0 : F 167 (ix (nI (5 * i))) = nI (pLaw P (5 * i)) := by rw [ix_nI (by omega)]; exact l0
    have hin0 := inb_nI (show 5 * i < 50 by omega) (by decide)
    have hone : (nI (pLaw P (5 * i)) = 1) ↔ pLaw P (5 * i) = 1 := nI_eq (b := 1) (by omega) (by omega)
    by_cases hA : vin code (pLaw P (5 * i + 1)) < pLaw P (5 * i + 2)
    · rw [if_pos hA]
      have er : rbk P code i = false := by unfold rbk; rw [decide_eq_false (by omega)]; rfl
      have eb : bsum (rbk P code) (i + 1) = bsum (rbk P code) i := by show _ + (if rbk P code i = true then _ else _) = _; rw [er]; simp
      rw [eb] at ih
      by_cases hB : vin code (pLaw P (5 * i + 3)) < pLaw P (5 * i + 4)
      · rw [if_pos hB]; unfold s_X9_broken_b79; simp only [if_true, Option.bind_some, i_or0, nI_1]; exact ih
      · rw [if_neg hB]; unfold s_X9_broken_b79; simp only [if_true, Option.bind_some, i_or0, nI_1]; exact ih
    · rw [if_neg hA]
      have ea : decide (pLaw P (5 * i + 2) ≤ vin code (pLaw P (5 * i + 1))) = true := decide_eq_true (by omega)
      by_cases hB : vin code (pLaw P (5 * i + 3)) < pLaw P (5 * i + 4)
      · rw [if_pos hB]
        have ebb : decide (pLaw P (5 * i + 4) ≤ vin code (pLaw P (5 * i + 3))) = false := decide_eq_false (by omega)
        unfold s_X9_broken_b79
        rw [if_neg (by decide), hin0, if_pos rfl, hk0]
        by_cases hK : pLaw P (5 * i) = 1
        · rw [if_pos (hone.mpr hK)]
          have er : rbk P code i = false := by unfold rbk; rw [ea, ebb, decide_eq_true hK]; rfl
          have eb : bsum (rbk P code) (i + 1) = bsum (rbk P code) i := by show _ + (if rbk P code i = true then _ else _) = _; rw [er]; simp
          rw [eb] at ih
          unfold s_X9_broken_b105
          rw [if_neg (by decide)]
          simp only [Option.bind_some, i_or0, nI_1]; exact ih
        · rw [if_neg (fun e => hK (hone.mp e))]
          have er : rbk P code i = true := by unfold rbk; rw [ea, ebb, decide_eq_false hK]; rfl
          have eb : bsum (rbk P code) (i + 1) = bsum (rbk P code) i + 2 ^ i := by show _ + (if rbk P code i = true then _ else _) = _; rw [er]; simp
          rw [eb] at ih
          unfold s_X9_broken_b105
          rw [if_pos rfl]
          simp only [Option.bind_some, nI_1, hstep]; exact ih
      · rw [if_neg hB]
        have ebb : decide (pLaw P (5 * i + 4) ≤ vin code (pLaw P (5 * i + 3))) = true := decide_eq_true (by omega)
        unfold s_X9_broken_b79
        rw [if_neg (by decide), hin0, if_pos rfl, hk0]
        by_cases hK : pLaw P (5 * i) = 1
        · rw [if_pos (hone.mpr hK)]
          have er : rbk P code i = true := by unfold rbk; rw [ea, ebb, decide_eq_true hK]; rfl
          have eb : bsum (rbk P code) (i + 1) = bsum (rbk P code) i + 2 ^ i := by show _ + (if rbk P code i = true then _ else _) = _; rw [er]; simp
          rw [eb] at ih
          unfold s_X9_broken_b105
          rw [if_pos rfl]
          simp only [Option.bind_some, nI_1, hstep]; exact ih
        · rw [if_neg (fun e => hK (hone.mp e))]
          have er : rbk P code i = false := by unfold rbk; rw [ea, ebb, decide_eq_false hK]; rfl
          have eb : bsum (rbk P code) (i + 1) = bsum (rbk P code) i := by show _ + (if rbk P code i = true then _ else _) = _; rw [er]; simp
          rw [eb] at ih
          unfold s_X9_broken_b105
          rw [if_neg (by decide)]
          simp only [Option.bind_some, i_or0, nI_1]; exact ih
theorem m_broken {code : Nat} (hk : code < 4096) (hP : WFP P) (hM : RPM F P) : s_X9_broken F (nI code) = some (nI (brk P code)) := by
  have hC := hP.2.2.1
  exact m_broken_b hk hP hM (pRul P) 0 fu_ (by omega) (fu_lt (by omega))
theorem wth_lt {code c v m : Nat} (h : code < 4 ^ m) (hc : c < m) (hv : v < 4) : wth code c v < 4 ^ m := by
  unfold wth
  have hp : 0 < 4 ^ c := Nat.pow_pos (by decide)
  have e1 := Nat.div_add_mod code (4 ^ c)
  have e2 := Nat.div_add_mod (code / 4 ^ c) 4
  have hlt := Nat.mod_lt code hp
  have hq : code / 4 ^ c / 4 < 4 ^ (m - c - 1) := by
    rw [Nat.div_div_eq_div_mul, ← Nat.pow_succ]
    refine Nat.div_lt_of_lt_mul ?_
    rw [← Nat.pow_add]
    rw [show c.succ + (m - c - 1) = m by omega]; exact h
  have e3 : 4 ^ m = 4 ^ c * (4 * 4 ^ (m - c - 1)) := by rw [← Nat.pow_succ', ← Nat.pow_add]; congr 1; omega
  generalize code / 4 ^ c / 4 = Q at *
  generalize code / 4 ^ c % 4 = D at *
  generalize code % 4 ^ c = E at *
  generalize 4 ^ (m - c - 1) = Y at *
  have e4 : code = 4 ^ c * (4 * Q + D) + E := by rw [e2]; exact e1.symm
  rw [e3, e4]
  generalize 4 ^ c = X at *
  have h1 : X * (4 * Q + D) = 4 * (X * Q) + D * X := by rw [Nat.mul_add, Nat.mul_comm X D]; congr 1; rw [Nat.mul_left_comm]
  have h2 : X * (4 * Y) = 4 * (X * Y) := Nat.mul_left_comm _ _ _
  have h3 : X * Q + X ≤ X * Y := by rw [← Nat.mul_succ]; exact Nat.mul_le_mul_left _ hq
  have h4 : v * X ≤ 3 * X := Nat.mul_le_mul_right _ (by omega)
  rw [h1, h2]
  omega
theorem m_newlyBroken {v : Nat} (hal : alen r = 107) (hR : RRow F r S) (hP : WFP P) (hM : RPM F P) (hS : WFS P t S) (hn : n < pNod P) (hc : c < pPar P) (hv : v < 4) : s_X9_newlyBroken F r (nI n) (nI c) (nI v) = some (nbk P (cod P S n 0) (wth (cod P S n 0) c v)) := by
  have hN := hP.1.2
  have hC := hP.2.1.2
  have hk := cod_4096 hP hS hn (Or.inl rfl)
  have hw : wth (cod P S n 0) c v < 4096 := Nat.lt_of_lt_of_le (wth_lt (cod_lt hP hS hn (Or.inl rfl)) hc hv) (pow4_le hC)
  unfold s_X9_newlyBroken s_X9_with
  rw [show (0 : Int32) = nI 0 from rfl, m_codeOf hal hR hP hM (by omega) (by omega) (fun c hc => ((hS.2.2.1 n hn).1 c hc).1)]
  simp only [Option.bind_some, i_wth hk (show c < 6 by omega) hv, m_broken hw hP hM, m_broken hk hP hM]
  rfl
theorem WFS.lt31 (hS : WFS P t S) : True := trivial
theorem m_stateOf (hal : alen r = 107) (hR : RRow F r S) (hb : ∀ k, k < 107 → S k < 2 ^ 31) (hP : WFP P) (hM : RPM F P) (hS : WFS P t S) (hn : n < pNod P) (hc : c < pPar P) : s_X9_stateOf F r (nI n) (nI c) = some (nI (stt P S n c)) := by
  have hN := hP.1.2
  have hC := hP.2.1.2
  have i1 := rr_in hal (k := 2 + 15 * n + 6 + c) (by omega)
  have v1 := rr_at hR (k := 2 + 15 * n + 6 + c) (by omega)
  have hw := ((hS.2.2.1 n hn).1 c hc).2
  have hq := hS.2.2.2 c hc
  unfold s_X9_stateOf s_X9_at
  simp only [Option.bind_some, at_nI, nI_add, ad_k _ 6 (show (6 : Int32) = nI 6 from rfl), i1, v1, if_true, m_isDrifted hal hR hb (show n < 5 by omega) (show c < 6 by omega), m_isQuarantined hal hR hb (show n < 5 by omega), m_lacking hal hR hq.1 (hq.2 _ hw) (show c < 6 by omega) hw, m_waits hal hR hb hP hM hn (show c < 6 by omega), m_newlyBroken hal hR hP hM hS hn hc hw]
  unfold stt
  cases drf S n c with
  | false => rfl
  | true =>
    rw [if_neg (by decide), if_pos rfl]
    cases qua S n with
    | true => rfl
    | false =>
      rw [if_pos (show b01 false = 0 by rfl)]
      simp only [Bool.false_eq_true, if_false]
      have hl : lck S c (S (2 + 15 * n + 6 + c)) < 2 ^ 31 := by unfold lck; have := hq.1; omega
      by_cases h3 : 0 < lck S c (S (2 + 15 * n + 6 + c))
      · rw [if_neg (nI_nle h3 hl), if_pos h3]; rfl
      · rw [if_pos (show nI (lck S c (S (2 + 15 * n + 6 + c))) ≤ 0 by rw [show lck S c (S (2 + 15 * n + 6 + c)) = 0 by omega]; decide), if_neg h3]
        cases wai P S n c with
        | true => rfl
        | false =>
          rw [if_pos (show b01 false = 0 by rfl)]
          simp only [Bool.false_eq_true, if_false]
          by_cases h5 : nbk P (cod P S n 0) (wth (cod P S n 0) c (S (2 + 15 * n + 6 + c))) = 0
          · rw [if_pos h5, if_pos h5]; rfl
          · rw [if_neg h5, if_neg h5]; rfl
theorem stt_le (P : PL) (S : RW) (n c : Nat) : stt P S n c ≤ 5 := by
  unfold stt
  repeat' split
  all_goals omega
theorem m_nextOf_b (hal : alen r = 107) (hR : RRow F r S) (hb : ∀ k, k < 107 → S k < 2 ^ 31) (hP : WFP P) (hM : RPM F P) (hS : WFS P t S) (hn : n < pNod P) : ∀ d i fuel, i + d = pPar P → d < fuel →
    s_X9_nextOf_b2 F r fuel (nI n) (nI i) = some (oI9 (fstN (fun c => decide (stt P S n c = 0)) d i))
  | 0, i, fuel + 1, h, _ => by
    have : i = pPar P := by omega
    subst this
    rw [s_X9_nextOf_b2, if_pos (by rw [hM.2.1, nI_leI (by have := hP.2.1.2; omega) (by have := hP.2.1.2; omega)]; omega)]
    rfl
  | d + 1, i, fuel + 1, h, hf => by
    have hC := hP.2.1.2
    rw [s_X9_nextOf_b2, if_neg (by rw [hM.2.1, nI_leI (by omega) (by omega)]; omega), m_stateOf hal hR hb hP hM hS hn (by omega)]
    have hs := stt_le P S n i
    have e0 : (nI (stt P S n i) = 0) ↔ stt P S n i = 0 := nI_eq (b := 0) (by omega) (by omega)
    simp only [Option.bind_some, nI_1]
    unfold fstN
    by_cases h0 : stt P S n i = 0
    · rw [if_pos (e0.mpr h0), if_pos (decide_eq_true h0)]; rfl
    · rw [if_neg (fun e => h0 (e0.mp e)), if_neg (by rw [decide_eq_false h0]; decide)]
      exact m_nextOf_b hal hR hb hP hM hS hn d (i + 1) fuel (by omega) (by omega)
theorem m_nextOf (hal : alen r = 107) (hR : RRow F r S) (hb : ∀ k, k < 107 → S k < 2 ^ 31) (hP : WFP P) (hM : RPM F P) (hS : WFS P t S) (hn : n < pNod P) : s_X9_nextOf F r (nI n) = some (oI9 (nxt P S n)) := by
  have hC := hP.2.1.2
  exact m_nextOf_b hal hR hb hP hM hS hn (pPar P) 0 fu_ (by omega) (fu_lt (by omega))
theorem fstN_lt {p : Nat → Bool} : ∀ d i c, fstN p d i = some c → i ≤ c ∧ c < i + d ∧ p c = true
  | 0, i, c, h => by cases h
  | d + 1, i, c, h => by
    unfold fstN at h
    by_cases hp : p i = true
    · rw [if_pos hp] at h; cases h; exact ⟨Nat.le_refl _, by omega, hp⟩
    · rw [if_neg hp] at h
      obtain ⟨h1, h2, h3⟩ := fstN_lt d (i + 1) c h
      exact ⟨by omega, by omega, h3⟩
theorem nxt_lt {c : Nat} (h : nxt P S n = some c) : c < pPar P ∧ stt P S n c = 0 := by
  obtain ⟨-, h2, h3⟩ := fstN_lt _ _ _ h
  exact ⟨by omega, of_decide_eq_true h3⟩
end MS
