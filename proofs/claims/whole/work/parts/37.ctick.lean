/-! ===== what the class writes in a state; its ticks ===== -/
section CT
variable {F F1 : MM} {P : PL} {S : RW} {a n c t k v u q : Nat}
theorem cod_rup_ne {f : Nat} (h : ∀ c, c < pPar P → k ≠ 2 + 15 * n + f + c) : cod P (rup S k v) n f = cod P S n f := codN_congr _ (fun c hc => rup_n (fun e => h c hc e.symm))
theorem cod_rup_0 (hP : WFP P) (hS : WFS P t S) (hn : n < pNod P) (hc : c < pPar P) : cod P (rup S (2 + 15 * n + c) v) n 0 = wth (cod P S n 0) c v := (codN_wth (b := 2 + 15 * n + 0) (pPar P) (fun c hc => ((hS.2.2.1 n hn).1 c hc).1) c hc).symm
theorem cod_rup_6 (hP : WFP P) (hS : WFS P t S) (hn : n < pNod P) (hc : c < pPar P) : cod P (rup S (2 + 15 * n + 6 + c) v) n 6 = wth (cod P S n 6) c v := (codN_wth (b := 2 + 15 * n + 6) (pPar P) (fun c hc => ((hS.2.2.1 n hn).1 c hc).2) c hc).symm
theorem rst_pres (hP : WFP P) (hS : WFS P t S) (hT : RSt F P a S) (hn : n < pNod P) (hc : c < pPar P) : RSt (mup F (a + 1) n (nI (wth (cod P S n 0) c v))) P a (rup S (2 + 15 * n + c) v) := by
  have hN := hP.1.2
  have hC := hP.2.1.2
  obtain ⟨h1, h2, h3, h4, h5⟩ := hT
  refine ⟨?_, ?_, fun m hm => ?_, fun d hd => ?_, fun k hk hk2 => ?_⟩
  · rw [mup_ne (by omega), rup_n (by omega)]; exact h1
  · rw [mup_ne (by omega), rup_n (by omega)]; exact h2
  · obtain ⟨g1, g2, g3, g4, g5⟩ := h3 m hm
    simp (disch := omega) only [mup_self, mup_ne, rup_n]
    refine ⟨?_, ?_, g3, g4, g5⟩
    · by_cases hmn : m = n
      · subst hmn
        rw [pk_us, cod_rup_0 hP hS hm hc]
      · rw [pk_un hmn, g1, cod_rup_ne (fun c hc => by omega)]
    · rw [g2, cod_rup_ne (fun c hc => by omega)]
  · obtain ⟨g1, g2⟩ := h4 d hd
    simp (disch := omega) only [mup_ne, rup_n]
    exact ⟨g1, g2⟩
  · rw [mup_ne (by omega)]; exact h5 k hk hk2
theorem rst_wish (hP : WFP P) (hS : WFS P t S) (hT : RSt F P a S) (hn : n < pNod P) (hc : c < pPar P) : RSt (mup F (a + 2) n (nI (wth (cod P S n 6) c v))) P a (rup S (2 + 15 * n + 6 + c) v) := by
  have hN := hP.1.2
  have hC := hP.2.1.2
  obtain ⟨h1, h2, h3, h4, h5⟩ := hT
  refine ⟨?_, ?_, fun m hm => ?_, fun d hd => ?_, fun k hk hk2 => ?_⟩
  · rw [mup_ne (by omega), rup_n (by omega)]; exact h1
  · rw [mup_ne (by omega), rup_n (by omega)]; exact h2
  · obtain ⟨g1, g2, g3, g4, g5⟩ := h3 m hm
    simp (disch := omega) only [mup_self, mup_ne, rup_n]
    refine ⟨?_, ?_, g3, g4, g5⟩
    · rw [g1, cod_rup_ne (fun c hc => by omega)]
    · by_cases hmn : m = n
      · subst hmn
        rw [pk_us, cod_rup_6 hP hS hm hc]
      · rw [pk_un hmn, g2, cod_rup_ne (fun c hc => by omega)]
  · obtain ⟨g1, g2⟩ := h4 d hd
    simp (disch := omega) only [mup_ne, rup_n]
    exact ⟨g1, g2⟩
  · rw [mup_ne (by omega)]; exact h5 k hk hk2
theorem rst_node {x y : Nat} (hP : WFP P) (hT : RSt F P a S) (hn : n < pNod P) (hx : (x = 3 ∧ y = 12) ∨ (x = 4 ∧ y = 13) ∨ (x = 5 ∧ y = 14)) : RSt (mup F (a + x) n (nI v)) P a (rup S (2 + 15 * n + y) v) := by
  have hN := hP.1.2
  have hC := hP.2.1.2
  obtain ⟨h1, h2, h3, h4, h5⟩ := hT
  refine ⟨?_, ?_, fun m hm => ?_, fun d hd => ?_, fun k hk hk2 => ?_⟩
  · rw [mup_ne (by omega), rup_n (by omega)]; exact h1
  · rw [mup_ne (by omega), rup_n (by omega)]; exact h2
  · obtain ⟨g1, g2, g3, g4, g5⟩ := h3 m hm
    rw [cod_rup_ne (fun c hc => by omega), cod_rup_ne (fun c hc => by omega), mup_ne (show a + 1 ≠ a + x by omega), mup_ne (show a + 2 ≠ a + x by omega)]
    refine ⟨g1, g2, ?_⟩
    by_cases hmn : m = n
    · subst hmn
      rcases hx with ⟨rfl, rfl⟩ | ⟨rfl, rfl⟩ | ⟨rfl, rfl⟩
      · simp (disch := omega) only [mup_self, mup_ne, rup_n, rup_s, pk_us]; exact ⟨trivial, g4, g5⟩
      · simp (disch := omega) only [mup_self, mup_ne, rup_n, rup_s, pk_us]; exact ⟨g3, trivial, g5⟩
      · simp (disch := omega) only [mup_self, mup_ne, rup_n, rup_s, pk_us]; exact ⟨g3, g4, trivial⟩
    · rcases hx with ⟨rfl, rfl⟩ | ⟨rfl, rfl⟩ | ⟨rfl, rfl⟩ <;>
      · simp (disch := omega) only [mup_self, mup_ne, rup_n, pk_un]; exact ⟨g3, g4, g5⟩
  · obtain ⟨g1, g2⟩ := h4 d hd
    simp (disch := omega) only [mup_ne, rup_n]
    exact ⟨g1, g2⟩
  · rw [mup_ne (by omega)]; exact h5 k hk hk2
theorem rst_top {x y : Nat} (hP : WFP P) (hT : RSt F P a S) (hx : (x = 8 ∧ y = 0) ∨ (x = 9 ∧ y = 1)) : RSt (mup F a x (nI v)) P a (rup S y v) := by
  have hN := hP.1.2
  have hC := hP.2.1.2
  obtain ⟨h1, h2, h3, h4, h5⟩ := hT
  refine ⟨?_, ?_, fun m hm => ?_, fun d hd => ?_, fun k hk hk2 => ?_⟩
  · rcases hx with ⟨rfl, rfl⟩ | ⟨rfl, rfl⟩
    · rw [mup_self, pk_us, rup_s]
    · rw [mup_self, pk_un (by omega), rup_n (by omega)]; exact h1
  · rcases hx with ⟨rfl, rfl⟩ | ⟨rfl, rfl⟩
    · rw [mup_self, pk_un (by omega), rup_n (by omega)]; exact h2
    · rw [mup_self, pk_us, rup_s]
  · rw [cod_rup_ne (fun c hc => by omega), cod_rup_ne (fun c hc => by omega)]
    simp (disch := omega) only [mup_ne, rup_n]
    exact h3 m hm
  · obtain ⟨g1, g2⟩ := h4 d hd
    simp (disch := omega) only [mup_ne, rup_n]
    exact ⟨g1, g2⟩
  · rw [mup_ne (by omega)]; exact h5 k hk hk2
theorem rst_quor (hP : WFP P) (hT : RSt F P a S) (hc : c < pPar P) : RSt (mup F (a + 6) c (nI v)) P a (rup S (77 + 5 * c) v) := by
  have hN := hP.1.2
  have hC := hP.2.1.2
  obtain ⟨h1, h2, h3, h4, h5⟩ := hT
  refine ⟨?_, ?_, fun m hm => ?_, fun d hd => ?_, fun k hk hk2 => ?_⟩
  · rw [mup_ne (by omega), rup_n (by omega)]; exact h1
  · rw [mup_ne (by omega), rup_n (by omega)]; exact h2
  · rw [cod_rup_ne (fun c hc => by omega), cod_rup_ne (fun c hc => by omega)]
    simp (disch := omega) only [mup_ne, rup_n]
    exact h3 m hm
  · obtain ⟨g1, g2⟩ := h4 d hd
    rw [mup_self, mup_ne (show a + 7 ≠ a + 6 by omega)]
    refine ⟨?_, fun w hw => ?_⟩
    · by_cases hdc : d = c
      · subst hdc; rw [pk_us, rup_s]
      · rw [pk_un hdc, rup_n (by omega)]; exact g1
    · rw [rup_n (by omega)]; exact g2 w hw
  · rw [mup_ne (by omega)]; exact h5 k hk hk2
theorem rst_appr (hP : WFP P) (hT : RSt F P a S) (hc : c < pPar P) (hu : u < 4) : RSt (mup F (a + 7) (4 * c + u) (nI v)) P a (rup S (77 + 5 * c + 1 + u) v) := by
  have hN := hP.1.2
  have hC := hP.2.1.2
  obtain ⟨h1, h2, h3, h4, h5⟩ := hT
  refine ⟨?_, ?_, fun m hm => ?_, fun d hd => ?_, fun k hk hk2 => ?_⟩
  · rw [mup_ne (by omega), rup_n (by omega)]; exact h1
  · rw [mup_ne (by omega), rup_n (by omega)]; exact h2
  · rw [cod_rup_ne (fun c hc => by omega), cod_rup_ne (fun c hc => by omega)]
    simp (disch := omega) only [mup_ne, rup_n]
    exact h3 m hm
  · obtain ⟨g1, g2⟩ := h4 d hd
    rw [mup_self, mup_ne (show a + 6 ≠ a + 7 by omega)]
    refine ⟨?_, fun w hw => ?_⟩
    · rw [rup_n (by omega)]; exact g1
    · by_cases hdc : d = c ∧ w = u
      · obtain ⟨rfl, rfl⟩ := hdc; rw [pk_us, rup_s]
      · rw [pk_un (by omega), rup_n (by omega)]; exact g2 w hw
  · rw [mup_self, pk_un (by omega)]; exact h5 k hk hk2
theorem rpc_fr (hC : RPC F P) (hf : ∀ x, 8 ≤ x → x ≤ 12 → F1 x = F x) : RPC F1 P := by
  unfold RPC
  rw [hf 8 (by omega) (by omega), hf 9 (by omega) (by omega), hf 10 (by omega) (by omega), hf 11 (by omega) (by omega), hf 12 (by omega) (by omega)]
  exact hC
theorem rst_fr (hT : RSt F P a S) (hf : ∀ x, a ≤ x → x ≤ a + 7 → F1 x = F x) : RSt F1 P a S := by
  unfold RSt
  rw [hf a (by omega) (by omega), hf (a + 1) (by omega) (by omega), hf (a + 2) (by omega) (by omega), hf (a + 3) (by omega) (by omega), hf (a + 4) (by omega) (by omega), hf (a + 5) (by omega) (by omega), hf (a + 6) (by omega) (by omega), hf (a + 7) (by omega) (by omega)]
  exact hT
theorem c_attempt (ha : 16 ≤ a) (hP : WFP P) (ht : t < 1000000) (hS : WFS P t S) (hC' : RPC F P) (hT : RSt F P a S) (hn : n < pNod P) (hx : nxt P S n = some c) : ∃ F1, s_X5_attempt F a (nI n) (nI c) = some F1 ∧ RSt F1 P a (tckN P S n) ∧ ∀ x, x < a ∨ a + 8 ≤ x → F1 x = F x := by
  have hN := hP.1.2
  have hC := hP.2.1.2
  have hL := hP.2.2.2.1.2
  have hG := hP.2.2.2.2.1.2
  obtain ⟨hc, -⟩ := nxt_lt hx
  obtain ⟨r1, r2, r3, r4, r5⟩ := hT.2.2.1 n hn
  obtain ⟨b1, b2, b3, b4⟩ := hS.2.2.1 n hn
  have hv := (b1 c hc).2
  have s0 := hS.1.1
  have s1 := hS.2.1
  have hxx := cod_4096 hP hS hn (Or.inl rfl)
  have hy := cod_4096 hP hS hn (Or.inr rfl)
  have t8 := hT.1
  have t9 := hT.2.1
  have f2 : F 8 2 = nI (pLim P) := hC'.2.2.2.1
  have f3 : F 8 3 = nI (pLen P) := hC'.2.2.2.2.1
  by_cases hf : S (2 + 15 * n + 12) = 0
  · have e2 : tckN P S n = rup (rup (rup S (2 + 15 * n + c) (S (2 + 15 * n + 6 + c))) (2 + 15 * n + 13) 0) 1 (S 1 + 1) := by unfold tckN; rw [hx]; simp only [hf, if_true]
    refine ⟨mup (mup (mup F (a + 1) n (nI (wth (cod P S n 0) c (S (2 + 15 * n + 6 + c))))) (a + 4) n (nI 0)) a 9 (nI (S 1 + 1)), ?_, ?_, fun x h => by rw [mup_ne (by omega), mup_ne (by omega), mup_ne (by omega)]⟩
    · unfold s_X5_attempt s_X0_versionIn s_X0_with
      simp (disch := omega) only [Option.bind_some, nI_add, nI_1, at_nI, pa_nI, inb_nI, ix_nI, nI_leI, nI_ltI, nI_eq, if_true, if_pos, if_neg, li_0, r1, r2, r3, r4, r5, hf, i_vin hy (show c < 6 by omega), cod_vin6 hP hS hn hc, i_wth hxx (show c < 6 by omega) hv, mup_ne, t9]
    · rw [e2]
      exact rst_top hP (rst_node hP (rst_pres hP hS hT hn hc) hn (by omega)) (by omega)
  · by_cases hl : S (2 + 15 * n + 13) + 1 = pLim P
    · have e2 : tckN P S n = rup (rup (rup S (2 + 15 * n + 12) (S (2 + 15 * n + 12) - 1)) (2 + 15 * n + 13) 0) (2 + 15 * n + 14) (S 0 + pLen P) := by unfold tckN; rw [hx]; simp only [hf, if_false, hl, if_true]
      refine ⟨mup (mup (mup (mup F (a + 3) n (nI (S (2 + 15 * n + 12) - 1))) (a + 4) n (nI (pLim P))) (a + 4) n (nI 0)) (a + 5) n (nI (S 0 + pLen P)), ?_, ?_, fun x h => by rw [mup_ne (by omega), mup_ne (by omega), mup_ne (by omega), mup_ne (by omega)]⟩
      · unfold s_X5_attempt s_X0_versionIn s_X0_with
        simp (disch := omega) only [Option.bind_some, nI_add, nI_1, at_nI, pa_nI, inb_nI, ix_nI, nI_leI, nI_ltI, nI_eq, if_true, if_pos, if_neg, li_0, li_1, r1, r2, r3, r4, r5, hl, mup_ne, mup_self, pk_us, pk_un, pk_sub, t8, f2, f3]
      · rw [e2, mup_mup]
        exact rst_node hP (rst_node hP (rst_node hP hT hn (by omega)) hn (by omega)) hn (by omega)
    · have e2 : tckN P S n = rup (rup S (2 + 15 * n + 12) (S (2 + 15 * n + 12) - 1)) (2 + 15 * n + 13) (S (2 + 15 * n + 13) + 1) := by unfold tckN; rw [hx]; simp only [hf, if_false, hl]
      refine ⟨mup (mup F (a + 3) n (nI (S (2 + 15 * n + 12) - 1))) (a + 4) n (nI (S (2 + 15 * n + 13) + 1)), ?_, ?_, fun x h => by rw [mup_ne (by omega), mup_ne (by omega)]⟩
      · unfold s_X5_attempt s_X0_versionIn s_X0_with
        simp (disch := omega) only [Option.bind_some, nI_add, nI_1, at_nI, pa_nI, inb_nI, ix_nI, nI_leI, nI_ltI, nI_eq, if_true, if_pos, if_neg, li_0, li_1, r1, r2, r3, r4, r5, mup_ne, mup_self, pk_us, pk_un, pk_sub, t8, f2, f3]
      · rw [e2]
        exact rst_node hP (rst_node hP hT hn (by omega)) hn (by omega)
theorem c_pass_b {k2 : MM → Int32 → Int32 → Option MM} {x1 x2 : Int32} (ha : 16 ≤ a) (hP : WFP P) (ht : t < 900000) (hS : WFS P t S) : ∀ d i fuel F, i + d = pNod P → d < fuel → RPC F P → RSt F P a (tckU P S i) →
    ∃ F1, s_X5_passTicks_b19 a k2 fuel F x1 x2 (nI i) = k2 F1 x1 (x2 + 1) ∧ RSt F1 P a (tck P S) ∧ ∀ x, x < a ∨ a + 8 ≤ x → F1 x = F x
  | 0, i, fuel + 1, F, h, _, hC', hT => by
    have hN := hP.1.2
    have : i = pNod P := by omega
    subst this
    refine ⟨F, ?_, hT, fun _ _ => rfl⟩
    rw [s_X5_passTicks_b19, if_pos (by rw [hC'.1, nI_leI (by omega) (by omega)]; omega)]
    rfl
  | d + 1, i, fuel + 1, F, h, hfu, hC', hT => by
    have hN := hP.1.2
    have hC := hP.2.1.2
    obtain ⟨hW, hW1, -⟩ := wfs_tckU hP hS i (by omega)
    have IH := c_pass_b (k2 := k2) (x1 := x1) (x2 := x2) ha hP ht hS d (i + 1) fuel
    have e : tckU P S (i + 1) = tckN P (tckU P S i) i := rfl
    rw [e] at IH
    generalize tckU P S i = T at *
    have hx := c_readyOn hP (by omega) hW hC' hT (n := i) (by omega)
    rw [s_X5_passTicks_b19, if_neg (by rw [hC'.1, nI_leI (by omega) (by omega)]; omega), hx]
    cases hn : nxt P T i with
    | none =>
      have e2 : tckN P T i = T := by unfold tckN; rw [hn]
      rw [e2] at IH
      obtain ⟨F1, g1, g2, g3⟩ := IH F (by omega) (by omega) hC' hT
      refine ⟨F1, ?_, g2, g3⟩
      simp only [Option.bind_some, nI_1]
      rw [if_pos (show oI9 none = -9 from rfl)]
      exact g1
    | some c =>
      obtain ⟨hc, -⟩ := nxt_lt hn
      have h9 : ¬ (oI9 (some c)) = -9 := nI_ne9 (by omega)
      obtain ⟨F2, k1, k2, k3⟩ := c_attempt ha hP (by omega) hW hC' hT (show i < pNod P by omega) hn
      obtain ⟨F1, g1, g2, g3⟩ := IH F2 (by omega) (by omega) (rpc_fr hC' (fun x _ _ => k3 x (by omega))) k2
      refine ⟨F1, ?_, g2, fun x h => (g3 x h).trans (k3 x h)⟩
      simp only [Option.bind_some, nI_1]
      rw [if_neg h9]
      unfold oI9
      rw [k1]
      exact g1
theorem c_passTicks_b {N : Nat} (ha : 16 ≤ a) (hP : WFP P) (ht : t + N < 900000) (hS : WFS P t S) (hNN : N < 4000) : ∀ d i fuel F, i + d = N → d < fuel → RPC F P → RSt F P a (tcks P S i) →
    ∃ F1, s_X5_passTicks_b2 a fuel F (nI N) (nI i) = some F1 ∧ RSt F1 P a (tcks P S N) ∧ ∀ x, x < a ∨ a + 8 ≤ x → F1 x = F x
  | 0, i, fuel + 1, F, h, _, hC', hT => by
    have : i = N := by omega
    subst this
    refine ⟨F, ?_, hT, fun _ _ => rfl⟩
    rw [s_X5_passTicks_b2, if_pos (by rw [nI_leI (by omega) (by omega)]; omega)]
  | d + 1, i, fuel + 1, F, h, hfu, hC', hT => by
    have hN := hP.1.2
    have hW := wfs_tcks hP hS i
    obtain ⟨F2, k1, k2, k3⟩ := c_pass_b (k2 := s_X5_passTicks_b2 a fuel) (x1 := nI N) (x2 := nI i) ha hP (by omega) hW (pNod P) 0 fu_ (mup F a 8 (nI (tcks P S i 0 + 1))) (by omega) (fu_lt (by omega)) (rpc_fr hC' (fun x _ _ => mup_ne (by omega))) (rst_top hP hT (by omega))
    obtain ⟨F1, g1, g2, g3⟩ := c_passTicks_b ha hP ht hS hNN d (i + 1) fuel F2 (by omega) (by omega) (rpc_fr hC' (fun x _ _ => by rw [k3 x (by omega), mup_ne (by omega)])) k2
    refine ⟨F1, ?_, g2, fun x h => by rw [g3 x h, k3 x h, mup_ne (by omega)]⟩
    rw [s_X5_passTicks_b2, if_neg (by rw [nI_leI (by omega) (by omega)]; omega), ← g1, ← nI_1, ← k1, hT.1]
    simp only [Option.bind_some, nI_1]
    rfl
theorem c_passTicks {N : Nat} (ha : 16 ≤ a) (hP : WFP P) (ht : t + N < 900000) (hS : WFS P t S) (hNN : N < 4000) (hC' : RPC F P) (hT : RSt F P a S) : ∃ F1, s_X5_passTicks F a (nI N) = some F1 ∧ RSt F1 P a (tcks P S N) ∧ ∀ x, x < a ∨ a + 8 ≤ x → F1 x = F x :=
  c_passTicks_b ha hP ht hS hNN N 0 fu_ F (by omega) (fu_lt (by omega)) hC' hT
theorem cpy0 {α : Type} {f g : Nat → α} {N j : Nat} (h : j < N) : va_cpy f g 0 0 N j = f j := by
  rw [pk_cpy_in (by omega) (by omega)]
  congr 1; omega
theorem c_copy (hq : a + 8 ≤ q ∨ q + 8 ≤ a) (hT : RSt F P q S) (hP : WFP P) : ∃ F1, s_X5_copy F a q = some F1 ∧ RSt F1 P a S ∧ ∀ x, x < a ∨ a + 8 ≤ x → F1 x = F x := by
  have hN := hP.1.2
  have hC := hP.2.1.2
  refine ⟨_, by unfold s_X5_copy; simp only [show cpok 0 0 5 5 5 = true by decide, show cpok 0 0 6 6 6 = true by decide, show cpok 0 0 24 24 24 = true by decide, if_true, Option.bind_some, show ix 0 = 0 from rfl, show ix 5 = 5 from rfl, show ix 6 = 6 from rfl, show ix 24 = 24 from rfl]; rfl, ?_, ?_⟩
  · obtain ⟨h1, h2, h3, h4, h5⟩ := hT
    simp (disch := omega) only [mup_ne, mrow_ne, mrow_self]
    refine ⟨?_, ?_, fun m hm => ?_, fun d hd => ?_, fun k hk hk2 => ?_⟩
    · simp (disch := omega) only [mup_self, mup_ne, mrow_ne, mrow_self, pk_us, pk_un]; exact h1
    · simp (disch := omega) only [mup_self, mup_ne, mrow_ne, mrow_self, pk_us, pk_un]; exact h2
    · simp (disch := omega) only [mup_self, mup_ne, mrow_ne, mrow_self, pk_us, pk_un, cpy0]; exact h3 m hm
    · obtain ⟨g1, g2⟩ := h4 d hd
      simp (disch := omega) only [mup_self, mup_ne, mrow_ne, mrow_self, pk_us, pk_un, cpy0]
      refine ⟨g1, fun w hw => ?_⟩
      simp (disch := omega) only [mup_self, mup_ne, mrow_ne, mrow_self, pk_us, pk_un, cpy0]
      exact g2 w hw
    · simp (disch := omega) only [mup_self, mup_ne, mrow_ne, mrow_self, pk_us, pk_un, cpy0]; exact h5 k hk hk2
  · intro x hx
    simp (disch := omega) only [mup_self, mup_ne, mrow_ne, mrow_self]
end CT
