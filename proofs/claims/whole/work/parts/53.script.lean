/-! ===== commands ===== -/
theorem z01_ : (0 : Int32) &&& 1 = 0 := by decide
theorem z11_ : (1 : Int32) &&& 1 = 1 := by decide
theorem i107_ : inb 1 107 = true := by decide
theorem ix1_ : ix 1 = 1 := by decide
section CM
variable {F F1 : MM} {P : PL} {S : RW} {a n c t k v : Nat}
theorem mN_b (hP : WFP P) (hM : RPM F P) (hn : n < 1000) : s_X9_isNode F (nI n) = some (b01 (decide (n < pNod P))) := by
  by_cases h : n < pNod P
  · rw [mN_ok hP hM h, decide_eq_true h]; rfl
  · rw [mN_no hP hM (Or.inr (nI_le (by omega) (by omega))), decide_eq_false h]; rfl
theorem mP_b (hP : WFP P) (hM : RPM F P) (hn : n < 1000) : s_X9_isPart F (nI n) = some (b01 (decide (n < pPar P))) := by
  by_cases h : n < pPar P
  · rw [mP_ok hP hM h, decide_eq_true h]; rfl
  · rw [mP_no hP hM (Or.inr (nI_le (by omega) (by omega))), decide_eq_false h]; rfl
theorem mV_b (hn : n < 1000) : s_X9_isVersion F (nI n) = some (b01 (decide (n < 4))) := by
  by_cases h : n < 4
  · rw [mV_ok h, decide_eq_true h]; rfl
  · rw [mV_no (Or.inr (nI_le (by omega) (by omega))), decide_eq_false h]; rfl
theorem c_hasT (hP : WFP P) (hC' : RPC F P) (hn : n < pNod P) (hc : c < pPar P) : s_X3_has F (nI n) (nI c) = some 1 := by
  have h1 := hP.1.2
  have h2 := hP.2.1.2
  unfold s_X3_has
  rw [if_neg (nI_pos (by omega)), hC'.1, if_neg (by rw [nI_leI (by omega) (by omega)]; omega), if_neg (nI_pos (by omega)), hC'.2.1, if_neg (by rw [nI_leI (by omega) (by omega)]; omega)]
theorem c_hasF (hP : WFP P) (hC' : RPC F P) (h9 : n < 1000) (h8 : c < 1000) (h : ¬ (n < pNod P ∧ c < pPar P)) : s_X3_has F (nI n) (nI c) = some 0 := by
  have h1 := hP.1.2
  have h2 := hP.2.1.2
  unfold s_X3_has
  rw [if_neg (nI_pos (by omega)), hC'.1]
  by_cases hn : n < pNod P
  · rw [if_neg (by rw [nI_leI (by omega) (by omega)]; omega), if_neg (nI_pos (by omega)), hC'.2.1, if_pos (by rw [nI_leI (by omega) (by omega)]; omega)]
  · rw [if_pos (by rw [nI_leI (by omega) (by omega)]; omega)]
/-- a command on both sides -/
def CmdR (P : PL) (S : RW) (t a : Nat) (F : MM) (cm : Option (Int32 × MM)) (mm : MM → Option (Int32 × MM)) : Prop := ∃ b F1 S1, cm = some (b01 b, F1) ∧ (∀ x, x < a ∨ a + 8 ≤ x → F1 x = F x) ∧ (b = true → RSt F1 P a S1 ∧ WFS P (t + 50) S1) ∧ ∀ G, RPM G P → RRow G 172 S → ∃ G1, mm G = some (b01 b, G1) ∧ (∀ x, x ≠ 172 → G1 x = G x) ∧ (b = true → RRow G1 172 S1)
theorem cmd_no {cm : Option (Int32 × MM)} {mm : MM → Option (Int32 × MM)} (h1 : cm = some (0, F)) (h2 : ∀ G, RPM G P → RRow G 172 S → mm G = some (0, G)) : CmdR P S t a F cm mm := ⟨false, F, S, h1, fun _ _ => rfl, fun h => absurd h (by decide), fun G g1 g2 => ⟨G, h2 G g1 g2, fun _ _ => rfl, fun h => absurd h (by decide)⟩⟩
theorem cmd_ask {cm : Option (Int32 × MM)} {mm : MM → Option (Int32 × MM)} (b : Bool) (hT : RSt F P a S) (hS : WFS P t S) (h1 : cm = some (b01 b, F)) (h2 : ∀ G, RPM G P → RRow G 172 S → mm G = some (b01 b, G)) : CmdR P S t a F cm mm := ⟨b, F, S, h1, fun _ _ => rfl, fun _ => ⟨hT, wfs_mono hS (by omega)⟩, fun G g1 g2 => ⟨G, h2 G g1 g2, fun _ _ => rfl, fun _ => g2⟩⟩
theorem cmd_do {cm : Option (Int32 × MM)} {mm : MM → Option (Int32 × MM)} {b x : Nat} {w : Int32} {k v : Nat} (hx : 1 ≤ x ∧ x ≤ 7) (h1 : cm = some (1, mup F (a + x) b w)) (hT : RSt (mup F (a + x) b w) P a (rup S k v)) (hS : WFS P t (rup S k v)) (h2 : ∀ G, RPM G P → RRow G 172 S → mm G = some (1, mup G 172 k (nI v))) : CmdR P S t a F cm mm := ⟨true, _, rup S k v, h1, fun y hy => mup_ne (by omega), fun _ => ⟨hT, wfs_mono hS (by omega)⟩, fun G g1 g2 => ⟨_, h2 G g1 g2, fun y hy => mup_ne hy, fun _ => rr_up g2⟩⟩
theorem m_cmd198 {N : Nat} (hP : WFP P) (ht : t + N < 900000) (hS : WFS P t S) (hN : N ≤ 50) (hN1 : 1 ≤ N) : ∀ d i fuel F, i + d = N → d < fuel → RPM F P → RRow F 172 (tcks P S i) →
    ∃ F1, s_X9_command_b198 fuel F (nI 0) (nI N) (nI i) = some (1, F1) ∧ RRow F1 172 (tcks P S N) ∧ ∀ a, a ≠ 172 → F1 a = F a
  | 0, i, fuel + 1, F, h, _, hM, hR => by
    have : i = N := by omega
    subst this
    refine ⟨F, ?_, hR, fun _ _ => rfl⟩
    have d0 := (in_ok (a := 1) (b := 50) (by decide) (by decide) (by omega) hN1 hN : s_X9_in F (Int32.toInt64 (nI i)) 1 50 = some 1)
    rw [s_X9_command_b198, if_pos (by rw [nI_leI (by omega) (by omega)]; omega)]
    unfold s_X9_command_b230
    rw [if_pos (show nI 0 = 0 from rfl), d0]
    simp only [bnd_, ite_10, if_false]
  | d + 1, i, fuel + 1, F, h, hf, hM, hR => by
    obtain ⟨F1, e1, t1, f1⟩ := m_tickOn (r := 172) alen172 (by omega) hP (show t + i < 900000 by omega) (wfs_tcks hP hS i) hM hR
    obtain ⟨F2, e2, t2, f2⟩ := m_cmd198 hP ht hS hN hN1 d (i + 1) fuel F1 (by omega) (by omega) (rpm_fr hM (by omega) f1) t1
    refine ⟨F2, ?_, t2, fun x hx => by rw [f2 x hx, f1 x hx]⟩
    rw [← e2, s_X9_command_b198, if_neg (by rw [nI_leI (by omega) (by omega)]; omega), if_pos (show nI 0 = 0 from rfl), if_neg (by rw [li_50, nI_ltI (by omega) (by omega)]; omega), e1]
    simp only [bnd_, nI_1]
theorem m_cmd198_no {A N : Nat} (hA : A < 10) (hN : N < 100) (h : ¬ (A = 0 ∧ 1 ≤ N ∧ N ≤ 50)) : s_X9_command_b198 fu_ F (nI A) (nI N) 0 = some (0, F) := by
  have h230 : s_X9_command_b230 F (nI A) (nI N) = some (0, F) := by
    unfold s_X9_command_b230
    by_cases h0 : A = 0
    · subst h0
      have l1 : (1 : Int64).toInt = 1 := by decide
      have l50 : (50 : Int64).toInt = 50 := by decide
      have d0 := (in_0 (by rw [l1, l50, nI_toInt (by omega)]; omega) : s_X9_in F (Int32.toInt64 (nI N)) 1 50 = some 0)
      rw [if_pos (show nI 0 = 0 from rfl), d0]
      simp only [bnd_, ite_00, if_true]
    · rw [if_neg (nI_ne0 (by omega) (by omega))]
  rw [show fu_ = 4999 + 1 from rfl, s_X9_command_b198]
  by_cases hz : N = 0
  · rw [if_pos (by rw [hz]; decide), h230]
  · rw [if_neg (nI_nle (by omega) (by omega))]
    by_cases h0 : A = 0
    · rw [if_pos (by rw [h0]; rfl), if_pos (by rw [li_50, nI_ltI (by omega) (by omega)]; omega), h230]
    · rw [if_neg (nI_ne0 (by omega) (by omega)), h230]
set_option maxHeartbeats 2000000 in
theorem ag_cmd {g : Nat} (ha : 16 ≤ a) (h1 : alen (a + 1) = 5) (h2 : alen (a + 2) = 5) (hP : WFP P) (ht : t + 50 < 900000) (hS : WFS P t S) (hC' : RPC F P) (hT : RSt F P a S) (hg : g < 10000) : CmdR P S t a F (s_X1_succeeds F a (nI g)) (fun G => s_X9_command G (nI g)) := by
  have hN5 := hP.1.2
  have hC6 := hP.2.1.2
  have a0 : nI g / 1000 = nI (g / 1000) := by rw [li_1000]; exact pk_div (by omega) (by omega) (by omega)
  have a1 : (nI g / 100) - (nI g / 100) / 10 * 10 = nI (g / 100 % 10) := by rw [li_100, pk_div (by omega) (by omega) (by omega), li_10]; exact pk_rem (by omega) (by omega) (by omega)
  have a2 : (nI g / 10) - (nI g / 10) / 10 * 10 = nI (g / 10 % 10) := by rw [li_10, pk_div (by omega) (by omega) (by omega)]; exact pk_rem (by omega) (by omega) (by omega)
  have a3 : nI g - nI g / 10 * 10 = nI (g % 10) := by rw [li_10]; exact pk_rem (by omega) (by omega) (by omega)
  have a4 : nI g - nI g / 100 * 100 = nI (g % 100) := by rw [li_100]; exact pk_rem (by omega) (by omega) (by omega)
  obtain ⟨A, hA⟩ : ∃ A, A = g / 100 % 10 := ⟨_, rfl⟩
  obtain ⟨B, hB⟩ : ∃ B, B = g / 10 % 10 := ⟨_, rfl⟩
  obtain ⟨C, hC⟩ : ∃ C, C = g % 10 := ⟨_, rfl⟩
  obtain ⟨N, hN⟩ : ∃ N, N = g % 100 := ⟨_, rfl⟩
  obtain ⟨K, hK⟩ : ∃ K, K = g / 1000 := ⟨_, rfl⟩
  rw [← hA] at a1
  rw [← hB] at a2
  rw [← hC] at a3
  rw [← hN] at a4
  rw [← hK] at a0
  have lA : A < 10 := by omega
  have lB : B < 10 := by omega
  have lC : C < 10 := by omega
  have lN : N < 100 := by omega
  have hBC : N = 10 * B + C := by omega
  have e10 : (10 : Int32) * nI B + nI C = nI N := by rw [li_10, pk_mul, nI_add, hBC]
  have lK : K < 10 := by omega
  clear hA hB hC hN hK
  have hGT : A < pNod P ∧ B < pPar P → ∀ G, RPM G P → s_X9_command G (nI g) = s_X9_command_b49 G (nI g) (nI A) (nI B) (nI C) (nI N) 1 := fun hq G hM => by
    unfold s_X9_command
    simp only [bnd_, a1, a2, a3, a4, mN_ok hP hM hq.1, mP_ok hP hM hq.2, ite_10, if_false]
  have hGF : ¬ (A < pNod P ∧ B < pPar P) → ∀ G, RPM G P → s_X9_command G (nI g) = s_X9_command_b49 G (nI g) (nI A) (nI B) (nI C) (nI N) 0 := fun hq G hM => by
    unfold s_X9_command
    simp only [bnd_, a1, a2, a3, a4]
    by_cases q1 : A < pNod P
    · simp only [mN_ok hP hM q1, mP_no hP hM (x := nI B) (Or.inr (nI_le (show pPar P ≤ B by omega) (by omega))), bnd_, ite_10, if_false, ite_00, if_true]
    · simp only [mN_no hP hM (x := nI A) (Or.inr (nI_le (show pNod P ≤ A by omega) (by omega))), bnd_, ite_00, if_true]
  have hGE : ∀ G, RPM G P → ∃ e, s_X9_command G (nI g) = s_X9_command_b49 G (nI g) (nI A) (nI B) (nI C) (nI N) e := fun G hM => by
    by_cases hq : A < pNod P ∧ B < pPar P
    · exact ⟨1, hGT hq G hM⟩
    · exact ⟨0, hGF hq G hM⟩
  have lC3 : (nI C ≤ 3) ↔ C ≤ 3 := by rw [li_3]; exact nI_leI (by omega) (by omega)
  rcases (show K = 1 ∨ K = 2 ∨ K = 3 ∨ K = 4 ∨ K = 5 ∨ K = 6 ∨ K = 7 ∨ K = 8 ∨ K = 0 ∨ K = 9 by omega) with rfl | rfl | rfl | rfl | rfl | rfl | rfl | rfl | rfl | rfl
  · by_cases hq : A < pNod P ∧ B < pPar P
    · obtain ⟨q1, q2⟩ := id hq
      by_cases hc : C ≤ 3
      · obtain ⟨r1, r2, -⟩ := hT.2.2.1 A q1
        have hy := cod_4096 hP hS q1 (Or.inr rfl)
        refine cmd_do (x := 2) (b := A) (w := nI (wth (cod P S A 6) B C)) (k := 2 + 15 * A + 6 + B) (v := C) (by omega) ?_ (rst_wish hP hS hT q1 q2) (wfs_rup hS (by omega) (fun h => by omega) (fun h => by omega) (fun n c hn hc h => by omega) (fun n hn h => by omega) (fun n hn h => by omega) (fun n hn h => by omega) (fun c hc h => by omega) (fun c u hc hu h => by omega)) (fun G hM hR => ?_)
        · unfold s_X1_succeeds s_X1_setVersion s_X0_with
          simp (disch := omega) only [bnd_, a0, a1, a2, a3, if_pos (show nI 1 = 1 by decide), if_true, if_false, ite_00, ite_10, z01_, z11_, c_hasT hP hC' q1 q2, lC3, if_pos hc, h2, inb_nI, ix_nI, r2, i_wth hy (show B < 6 by omega) (show C < 4 by omega)]
        · show s_X9_command G (nI g) = _
          rw [hGT hq G hM]
          unfold s_X9_command_b49 s_X9_at
          simp (disch := omega) only [bnd_, a0, if_pos (show nI 1 = 1 by decide), if_true, if_false, ite_00, ite_10, if_neg i10_, mV_ok (show C < 4 by omega), at_nI, li_6, Int32.add_zero, nI_add, inb_nI, ix_nI]
      · refine cmd_no ?_ (fun G hM hR => ?_)
        · unfold s_X1_succeeds s_X1_setVersion
          simp only [bnd_, a0, a1, a2, a3, if_pos (show nI 1 = 1 by decide), if_true, if_false, ite_00, ite_10, z01_, z11_, c_hasT hP hC' q1 q2, lC3, if_neg hc]
        · show s_X9_command G (nI g) = _
          rw [hGT hq G hM]
          unfold s_X9_command_b49
          simp only [bnd_, a0, if_pos (show nI 1 = 1 by decide), if_true, if_false, ite_00, ite_10, if_neg i10_, mV_no (x := nI C) (Or.inr (nI_le (show 4 ≤ C by omega) (by omega)))]
    · refine cmd_no ?_ (fun G hM hR => ?_)
      · unfold s_X1_succeeds s_X1_setVersion
        simp only [bnd_, a0, a1, a2, a3, if_pos (show nI 1 = 1 by decide), if_true, if_false, ite_00, ite_10, z01_, z11_, c_hasF hP hC' (show A < 1000 by omega) (show B < 1000 by omega) hq]
      · show s_X9_command G (nI g) = _
        rw [hGF hq G hM]
        unfold s_X9_command_b49
        simp only [bnd_, a0, if_pos (show nI 1 = 1 by decide), if_true, if_false, ite_00, ite_10]
  · by_cases hq : A < pNod P ∧ B < pPar P
    · obtain ⟨q1, q2⟩ := id hq
      by_cases hc : C ≤ 3
      · obtain ⟨r1, r2, -⟩ := hT.2.2.1 A q1
        have hy := cod_4096 hP hS q1 (Or.inl rfl)
        refine cmd_do (x := 1) (b := A) (w := nI (wth (cod P S A 0) B C)) (k := 2 + 15 * A + B) (v := C) (by omega) ?_ (rst_pres hP hS hT q1 q2) (wfs_rup hS (by omega) (fun h => by omega) (fun h => by omega) (fun n c hn hc h => by omega) (fun n hn h => by omega) (fun n hn h => by omega) (fun n hn h => by omega) (fun c hc h => by omega) (fun c u hc hu h => by omega)) (fun G hM hR => ?_)
        · unfold s_X1_succeeds s_X1_setVersion s_X0_with
          simp (disch := omega) only [bnd_, a0, a1, a2, a3, if_neg (show ¬ nI 2 = 1 by decide), if_pos (show nI 2 = 2 by decide), if_true, if_false, ite_00, ite_10, z01_, z11_, c_hasT hP hC' q1 q2, lC3, if_pos hc, h1, inb_nI, ix_nI, r1, i_wth hy (show B < 6 by omega) (show C < 4 by omega)]
        · show s_X9_command G (nI g) = _
          rw [hGT hq G hM]
          unfold s_X9_command_b49 s_X9_at
          simp (disch := omega) only [bnd_, a0, if_neg (show ¬ nI 2 = 1 by decide), if_pos (show nI 2 = 2 by decide), if_true, if_false, ite_00, ite_10, if_neg i10_, mV_ok (show C < 4 by omega), at_nI, Int32.add_zero, nI_add, inb_nI, ix_nI]
      · refine cmd_no ?_ (fun G hM hR => ?_)
        · unfold s_X1_succeeds s_X1_setVersion
          simp only [bnd_, a0, a1, a2, a3, if_neg (show ¬ nI 2 = 1 by decide), if_pos (show nI 2 = 2 by decide), if_true, if_false, ite_00, ite_10, z01_, z11_, c_hasT hP hC' q1 q2, lC3, if_neg hc]
        · show s_X9_command G (nI g) = _
          rw [hGT hq G hM]
          unfold s_X9_command_b49
          simp only [bnd_, a0, if_neg (show ¬ nI 2 = 1 by decide), if_pos (show nI 2 = 2 by decide), if_true, if_false, ite_00, ite_10, if_neg i10_, mV_no (x := nI C) (Or.inr (nI_le (show 4 ≤ C by omega) (by omega)))]
    · refine cmd_no ?_ (fun G hM hR => ?_)
      · unfold s_X1_succeeds s_X1_setVersion
        simp only [bnd_, a0, a1, a2, a3, if_neg (show ¬ nI 2 = 1 by decide), if_pos (show nI 2 = 2 by decide), if_true, if_false, ite_00, ite_10, z01_, z11_, c_hasF hP hC' (show A < 1000 by omega) (show B < 1000 by omega) hq]
      · show s_X9_command G (nI g) = _
        rw [hGF hq G hM]
        unfold s_X9_command_b49
        simp only [bnd_, a0, if_neg (show ¬ nI 2 = 1 by decide), if_pos (show nI 2 = 2 by decide), if_true, if_false, ite_00, ite_10]
  · by_cases hq : A < pPar P ∧ B < 4 ∧ C < 5
    · obtain ⟨q1, q2, q3⟩ := id hq
      have r2 := (hT.2.2.2.1 A q1).2 B q2
      have w2 := (hS.2.2.2 A q1).2 B q2
      obtain ⟨-, i2, i3⟩ := i_apr _ w2 C q3
      refine cmd_do (x := 7) (b := 4 * A + B) (w := nI (S (77 + 5 * A + 1 + B) ||| 2 ^ C)) (k := 77 + 5 * A + 1 + B) (v := S (77 + 5 * A + 1 + B) ||| 2 ^ C) (by omega) ?_ (rst_appr hP hT q1 q2) (wfs_rup hS (by omega) (fun h => by omega) (fun h => by omega) (fun n c hn hc h => by omega) (fun n hn h => by omega) (fun n hn h => by omega) (fun n hn h => by omega) (fun c hc h => by omega) (fun c u hc hu h => by omega)) (fun G hM hR => ?_)
      · unfold s_X1_succeeds s_X1_addApproval s_X0_change
        simp (disch := omega) only [bnd_, a0, a1, a2, a3, if_neg (show ¬ nI 3 = 1 by decide), if_neg (show ¬ nI 3 = 2 by decide), if_pos (show nI 3 = 3 by decide), if_true, if_false, ite_00, ite_10, z01_, z11_, hC'.2.1, if_neg (show ¬ nI (pPar P) ≤ nI A by rw [nI_leI (by omega) (by omega)]; omega), if_neg (show ¬ (3 : Int32) < nI B by rw [li_3, nI_ltI (by omega) (by omega)]; omega), if_pos (show nI C < 5 by rw [li_5, nI_ltI (by omega) (by omega)]; omega), li_4, pk_mul, nI_add, inb_nI, ix_nI, r2, i2]
      · show s_X9_command G (nI g) = _
        have v2 := hR (77 + 5 * A + 1 + B) (by omega)
        obtain ⟨e, he⟩ := hGE G hM
        rw [he]
        unfold s_X9_command_b49 s_X9_partAt
        simp (disch := omega) only [bnd_, a0, if_neg (show ¬ nI 3 = 1 by decide), if_neg (show ¬ nI 3 = 2 by decide), if_pos (show nI 3 = 3 by decide), if_true, if_false, ite_00, ite_10, mP_ok hP hM q1, mV_ok q2, if_pos (show nI C < 5 by rw [li_5, nI_ltI (by omega) (by omega)]; omega), pa_nI, nI_1, nI_add, inb_nI, ix_nI, v2, i2]
    · refine cmd_no ?_ (fun G hM hR => ?_)
      · unfold s_X1_succeeds s_X1_addApproval
        simp only [bnd_, a0, a1, a2, a3, if_neg (show ¬ nI 3 = 1 by decide), if_neg (show ¬ nI 3 = 2 by decide), if_pos (show nI 3 = 3 by decide), if_true, if_false, ite_00, ite_10, z01_, z11_, hC'.2.1]
        by_cases q1 : A < pPar P
        · rw [if_neg (show ¬ nI (pPar P) ≤ nI A by rw [nI_leI (by omega) (by omega)]; omega)]
          by_cases q2 : B < 4
          · rw [if_neg (show ¬ (3 : Int32) < nI B by rw [li_3, nI_ltI (by omega) (by omega)]; omega), if_neg (show ¬ nI C < 5 by rw [li_5, nI_ltI (by omega) (by omega)]; omega)]
            simp only [bnd_, z01_, if_true]
          · rw [if_pos (show (3 : Int32) < nI B by rw [li_3, nI_ltI (by omega) (by omega)]; omega)]
            simp only [bnd_, z01_, if_true]
        · rw [if_pos (show nI (pPar P) ≤ nI A by rw [nI_leI (by omega) (by omega)]; omega)]
          simp only [bnd_, z01_, if_true]
      · show s_X9_command G (nI g) = _
        obtain ⟨e, he⟩ := hGE G hM
        rw [he]
        unfold s_X9_command_b49
        simp only [bnd_, a0, if_neg (show ¬ nI 3 = 1 by decide), if_neg (show ¬ nI 3 = 2 by decide), if_pos (show nI 3 = 3 by decide), if_true, if_false, ite_00, ite_10]
        by_cases q1 : A < pPar P
        · by_cases q2 : B < 4
          · simp only [mP_ok hP hM q1, mV_ok q2, bnd_, ite_10, if_false, if_neg (show ¬ nI C < 5 by rw [li_5, nI_ltI (by omega) (by omega)]; omega)]
          · simp only [mP_ok hP hM q1, mV_no (x := nI B) (Or.inr (nI_le (show 4 ≤ B by omega) (by omega))), bnd_, ite_10, if_false, ite_00, if_true]
        · simp only [mP_no hP hM (x := nI A) (Or.inr (nI_le (show pPar P ≤ A by omega) (by omega))), bnd_, ite_00, if_true]
  · by_cases hq : A = 0 ∧ 1 ≤ N ∧ N ≤ 50
    · obtain ⟨q1, q2, q3⟩ := id hq
      subst q1
      obtain ⟨F1, e1, t1, f1⟩ := c_passTicks (N := N) ha hP (show t + N < 900000 by omega) hS (by omega) hC' hT
      refine ⟨true, F1, tcks P S N, ?_, f1, fun _ => ⟨t1, wfs_mono (wfs_tcks hP hS N) (by omega)⟩, fun G hM hR => ?_⟩
      · unfold s_X1_succeeds
        simp only [bnd_, a0, a1, a2, a3, if_neg (show ¬ nI 4 = 1 by decide), if_neg (show ¬ nI 4 = 2 by decide), if_neg (show ¬ nI 4 = 3 by decide), if_pos (show nI 4 = 4 by decide), if_true, if_false, ite_00, ite_10, z01_, z11_, e10, if_pos (show nI 0 = 0 from rfl), if_neg (show ¬ nI N < 1 by rw [li_1, nI_ltI (by omega) (by omega)]; omega), if_pos (show nI N ≤ 50 by rw [li_50, nI_leI (by omega) (by omega)]; omega), e1]
        rfl
      · obtain ⟨G1, g1, g2, g3⟩ := m_cmd198 hP (show t + N < 900000 by omega) hS q3 q2 N 0 fu_ G (by omega) (fu_lt (by omega)) hM hR
        have g1 : s_X9_command_b198 fu_ G (nI 0) (nI N) 0 = some (1, G1) := g1
        refine ⟨G1, ?_, g3, fun _ => g2⟩
        show s_X9_command G (nI g) = _
        obtain ⟨e, he⟩ := hGE G hM
        rw [he]
        unfold s_X9_command_b49
        simp only [bnd_, a0, if_neg (show ¬ nI 4 = 1 by decide), if_neg (show ¬ nI 4 = 2 by decide), if_neg (show ¬ nI 4 = 3 by decide), if_pos (show nI 4 = 4 by decide), if_true, if_false, ite_00, ite_10, g1]
        rfl
    · refine cmd_no ?_ (fun G hM hR => ?_)
      · unfold s_X1_succeeds
        simp only [bnd_, a0, a1, a2, a3, if_neg (show ¬ nI 4 = 1 by decide), if_neg (show ¬ nI 4 = 2 by decide), if_neg (show ¬ nI 4 = 3 by decide), if_pos (show nI 4 = 4 by decide), if_true, if_false, ite_00, ite_10, z01_, z11_, e10]
        by_cases q1 : A = 0
        · rw [if_pos (show nI A = 0 by rw [q1]; rfl)]
          by_cases q2 : N < 1
          · rw [if_pos (show nI N < 1 by rw [li_1, nI_ltI (by omega) (by omega)]; omega)]
          · rw [if_neg (show ¬ nI N < 1 by rw [li_1, nI_ltI (by omega) (by omega)]; omega), if_neg (show ¬ nI N ≤ 50 by rw [li_50, nI_leI (by omega) (by omega)]; omega)]
        · rw [if_neg (nI_ne0 (by omega) (by omega))]
      · show s_X9_command G (nI g) = _
        obtain ⟨e, he⟩ := hGE G hM
        rw [he]
        unfold s_X9_command_b49
        simp only [bnd_, a0, if_neg (show ¬ nI 4 = 1 by decide), if_neg (show ¬ nI 4 = 2 by decide), if_neg (show ¬ nI 4 = 3 by decide), if_pos (show nI 4 = 4 by decide), if_true, if_false, ite_00, ite_10, m_cmd198_no lA lN hq]
  · by_cases hq : A < pNod P ∧ B = 0
    · obtain ⟨q1, q2⟩ := id hq
      refine cmd_do (x := 3) (b := A) (w := nI C) (k := 2 + 15 * A + 12) (v := C) (by omega) ?_ (rst_node hP hT q1 (Or.inl ⟨rfl, rfl⟩)) (wfs_rup hS (by omega) (fun h => by omega) (fun h => by omega) (fun n c hn hc h => by omega) (fun n hn h => by omega) (fun n hn h => by omega) (fun n hn h => by omega) (fun c hc h => by omega) (fun c u hc hu h => by omega)) (fun G hM hR => ?_)
      · unfold s_X1_succeeds s_X1_giveFaults
        simp (disch := omega) only [bnd_, a0, a1, a2, a3, if_neg (show ¬ nI 5 = 1 by decide), if_neg (show ¬ nI 5 = 2 by decide), if_neg (show ¬ nI 5 = 3 by decide), if_neg (show ¬ nI 5 = 4 by decide), if_pos (show nI 5 = 5 by decide), if_true, if_false, ite_00, ite_10, z01_, z11_, if_pos (show nI B = 0 by rw [q2]; rfl), hC'.1, if_pos (show nI A < nI (pNod P) by rw [nI_ltI (by omega) (by omega)]; omega), inb_nI, ix_nI]
      · show s_X9_command G (nI g) = _
        obtain ⟨e, he⟩ := hGE G hM
        rw [he]
        unfold s_X9_command_b49 s_X9_at
        simp (disch := omega) only [bnd_, a0, if_neg (show ¬ nI 5 = 1 by decide), if_neg (show ¬ nI 5 = 2 by decide), if_neg (show ¬ nI 5 = 3 by decide), if_neg (show ¬ nI 5 = 4 by decide), if_pos (show nI 5 = 5 by decide), if_true, if_false, ite_00, ite_10, mN_ok hP hM q1, if_pos (show nI B = 0 by rw [q2]; rfl), at_nI, li_12, nI_add, inb_nI, ix_nI]
    · refine cmd_no ?_ (fun G hM hR => ?_)
      · unfold s_X1_succeeds s_X1_giveFaults
        simp only [bnd_, a0, a1, a2, a3, if_neg (show ¬ nI 5 = 1 by decide), if_neg (show ¬ nI 5 = 2 by decide), if_neg (show ¬ nI 5 = 3 by decide), if_neg (show ¬ nI 5 = 4 by decide), if_pos (show nI 5 = 5 by decide), if_true, if_false, ite_00, ite_10, z01_, z11_, hC'.1]
        by_cases q2 : B = 0
        · rw [if_pos (show nI B = 0 by rw [q2]; rfl), if_neg (show ¬ nI A < nI (pNod P) by rw [nI_ltI (by omega) (by omega)]; omega)]
          simp only [bnd_, if_true]
        · rw [if_neg (nI_ne0 (by omega) (by omega))]
      · show s_X9_command G (nI g) = _
        obtain ⟨e, he⟩ := hGE G hM
        rw [he]
        unfold s_X9_command_b49
        simp only [bnd_, a0, if_neg (show ¬ nI 5 = 1 by decide), if_neg (show ¬ nI 5 = 2 by decide), if_neg (show ¬ nI 5 = 3 by decide), if_neg (show ¬ nI 5 = 4 by decide), if_pos (show nI 5 = 5 by decide), if_true, if_false, ite_00, ite_10]
        by_cases q1 : A < pNod P
        · simp only [mN_ok hP hM q1, bnd_, ite_10, if_false, if_neg (nI_ne0 (show 0 < B by omega) (show B < 2 ^ 31 by omega))]
        · simp only [mN_no hP hM (x := nI A) (Or.inr (nI_le (show pNod P ≤ A by omega) (by omega))), bnd_, ite_00, if_true]
  · by_cases hq : A < pNod P ∧ B < pPar P
    · obtain ⟨q1, q2⟩ := id hq
      obtain ⟨r1, -⟩ := hT.2.2.1 A q1
      have hy := cod_4096 hP hS q1 (Or.inl rfl)
      have w1 := ((hS.2.2.1 A q1).1 B q2).1
      have hsp : (if nI (S (2 + 15 * A + B)) = nI C then some ((1 : Int32), F) else some (0, F)) = some (b01 (decide (S (2 + 15 * A + B) = C)), F) := by
        by_cases h9 : S (2 + 15 * A + B) = C
        · rw [if_pos (by rw [h9]), decide_eq_true h9]; rfl
        · rw [if_neg (by rw [nI_eq (by omega) (by omega)]; exact h9), decide_eq_false h9]; rfl
      have hsq : ∀ G : MM, (if nI (S (2 + 15 * A + B)) = nI C then some ((1 : Int32), G) else some (0, G)) = some (b01 (decide (S (2 + 15 * A + B) = C)), G) := fun G => by
        by_cases h9 : S (2 + 15 * A + B) = C
        · rw [if_pos (by rw [h9]), decide_eq_true h9]; rfl
        · rw [if_neg (by rw [nI_eq (by omega) (by omega)]; exact h9), decide_eq_false h9]; rfl
      refine cmd_ask (decide (S (2 + 15 * A + B) = C)) hT hS ?_ (fun G hM hR => ?_)
      · unfold s_X1_succeeds s_X0_versionIn
        simp (disch := omega) only [bnd_, a0, a1, a2, a3, if_neg (show ¬ nI 6 = 1 by decide), if_neg (show ¬ nI 6 = 2 by decide), if_neg (show ¬ nI 6 = 3 by decide), if_neg (show ¬ nI 6 = 4 by decide), if_neg (show ¬ nI 6 = 5 by decide), if_pos (show nI 6 = 6 by decide), if_true, if_false, ite_00, ite_10, z01_, z11_, c_hasT hP hC' q1 q2, inb_nI, ix_nI, r1, i_vin hy (show B < 6 by omega), cod_vin0 hP hS q1 q2]
        exact hsp
      · show s_X9_command G (nI g) = _
        have v2 := hR (2 + 15 * A + B) (by omega)
        rw [hGT hq G hM]
        unfold s_X9_command_b49 s_X9_at
        simp (disch := omega) only [bnd_, a0, if_neg (show ¬ nI 6 = 1 by decide), if_neg (show ¬ nI 6 = 2 by decide), if_neg (show ¬ nI 6 = 3 by decide), if_neg (show ¬ nI 6 = 4 by decide), if_neg (show ¬ nI 6 = 5 by decide), if_pos (show nI 6 = 6 by decide), if_true, if_false, ite_00, ite_10, if_neg i10_, at_nI, nI_add, inb_nI, ix_nI, v2]
        exact hsq G
    · refine cmd_no ?_ (fun G hM hR => ?_)
      · unfold s_X1_succeeds
        simp only [bnd_, a0, a1, a2, a3, if_neg (show ¬ nI 6 = 1 by decide), if_neg (show ¬ nI 6 = 2 by decide), if_neg (show ¬ nI 6 = 3 by decide), if_neg (show ¬ nI 6 = 4 by decide), if_neg (show ¬ nI 6 = 5 by decide), if_pos (show nI 6 = 6 by decide), if_true, if_false, ite_00, ite_10, z01_, z11_, c_hasF hP hC' (show A < 1000 by omega) (show B < 1000 by omega) hq]
      · show s_X9_command G (nI g) = _
        rw [hGF hq G hM]
        unfold s_X9_command_b49
        simp only [bnd_, a0, if_neg (show ¬ nI 6 = 1 by decide), if_neg (show ¬ nI 6 = 2 by decide), if_neg (show ¬ nI 6 = 3 by decide), if_neg (show ¬ nI 6 = 4 by decide), if_neg (show ¬ nI 6 = 5 by decide), if_pos (show nI 6 = 6 by decide), if_true, if_false, ite_00, ite_10]
  · by_cases hq : A < pNod P ∧ B < pPar P
    · obtain ⟨q1, q2⟩ := id hq
      have w1 := stt_le P S A B
      have hsp : (if nI (stt P S A B) = nI C then some ((1 : Int32), F) else some (0, F)) = some (b01 (decide (stt P S A B = C)), F) := by
        by_cases h9 : stt P S A B = C
        · rw [if_pos (by rw [h9]), decide_eq_true h9]; rfl
        · rw [if_neg (by rw [nI_eq (by omega) (by omega)]; exact h9), decide_eq_false h9]; rfl
      have hsq : ∀ G : MM, (if nI (stt P S A B) = nI C then some ((1 : Int32), G) else some (0, G)) = some (b01 (decide (stt P S A B = C)), G) := fun G => by
        by_cases h9 : stt P S A B = C
        · rw [if_pos (by rw [h9]), decide_eq_true h9]; rfl
        · rw [if_neg (by rw [nI_eq (by omega) (by omega)]; exact h9), decide_eq_false h9]; rfl
      refine cmd_ask (decide (stt P S A B = C)) hT hS ?_ (fun G hM hR => ?_)
      · unfold s_X1_succeeds
        simp (disch := omega) only [bnd_, a0, a1, a2, a3, if_neg (show ¬ nI 7 = 1 by decide), if_neg (show ¬ nI 7 = 2 by decide), if_neg (show ¬ nI 7 = 3 by decide), if_neg (show ¬ nI 7 = 4 by decide), if_neg (show ¬ nI 7 = 5 by decide), if_neg (show ¬ nI 7 = 6 by decide), if_pos (show nI 7 = 7 by decide), if_true, if_false, ite_00, ite_10, z01_, z11_, c_hasT hP hC' q1 q2, c_stateOf hP (show t < 1000000 by omega) hS hC' hT q1 q2]
        exact hsp
      · show s_X9_command G (nI g) = _
        rw [hGT hq G hM]
        unfold s_X9_command_b49
        simp (disch := omega) only [bnd_, a0, if_neg (show ¬ nI 7 = 1 by decide), if_neg (show ¬ nI 7 = 2 by decide), if_neg (show ¬ nI 7 = 3 by decide), if_neg (show ¬ nI 7 = 4 by decide), if_neg (show ¬ nI 7 = 5 by decide), if_neg (show ¬ nI 7 = 6 by decide), if_pos (show nI 7 = 7 by decide), if_true, if_false, ite_00, ite_10, if_neg i10_, m_stateOf alen172 hR (wfs_b hS (show t < 1000000 by omega)) hP hM hS q1 q2]
        exact hsq G
    · refine cmd_no ?_ (fun G hM hR => ?_)
      · unfold s_X1_succeeds
        simp only [bnd_, a0, a1, a2, a3, if_neg (show ¬ nI 7 = 1 by decide), if_neg (show ¬ nI 7 = 2 by decide), if_neg (show ¬ nI 7 = 3 by decide), if_neg (show ¬ nI 7 = 4 by decide), if_neg (show ¬ nI 7 = 5 by decide), if_neg (show ¬ nI 7 = 6 by decide), if_pos (show nI 7 = 7 by decide), if_true, if_false, ite_00, ite_10, z01_, z11_, c_hasF hP hC' (show A < 1000 by omega) (show B < 1000 by omega) hq]
      · show s_X9_command G (nI g) = _
        rw [hGF hq G hM]
        unfold s_X9_command_b49
        simp only [bnd_, a0, if_neg (show ¬ nI 7 = 1 by decide), if_neg (show ¬ nI 7 = 2 by decide), if_neg (show ¬ nI 7 = 3 by decide), if_neg (show ¬ nI 7 = 4 by decide), if_neg (show ¬ nI 7 = 5 by decide), if_neg (show ¬ nI 7 = 6 by decide), if_pos (show nI 7 = 7 by decide), if_true, if_false, ite_00, ite_10]
  · have b1 : S 1 < 2 ^ 31 := wfs_b hS (show t < 1000000 by omega) 1 (by omega)
    by_cases hq : A = 0
    · have hsq : ∀ G : MM, (if nI (S 1) < nI N then some ((0 : Int32), G) else some (1, G)) = some (b01 (decide (N ≤ S 1)), G) := fun G => by
        by_cases h9 : S 1 < N
        · rw [if_pos (by rw [nI_ltI b1 (by omega)]; exact h9), decide_eq_false (by omega)]; rfl
        · rw [if_neg (by rw [nI_ltI b1 (by omega)]; exact h9), decide_eq_true (by omega)]; rfl
      refine cmd_ask (decide (N ≤ S 1)) hT hS ?_ (fun G hM hR => ?_)
      · unfold s_X1_succeeds
        simp only [bnd_, a0, a1, a2, a3, if_neg (show ¬ nI 8 = 1 by decide), if_neg (show ¬ nI 8 = 2 by decide), if_neg (show ¬ nI 8 = 3 by decide), if_neg (show ¬ nI 8 = 4 by decide), if_neg (show ¬ nI 8 = 5 by decide), if_neg (show ¬ nI 8 = 6 by decide), if_neg (show ¬ nI 8 = 7 by decide), if_pos (show nI 8 = 8 by decide), if_true, if_false, ite_00, ite_10, z01_, z11_, e10, if_pos (show nI A = 0 by rw [hq]; rfl), hT.2.1]
        exact hsq F
      · show s_X9_command G (nI g) = _
        have v2 : G 172 1 = nI (S 1) := hR 1 (by omega)
        obtain ⟨e, he⟩ := hGE G hM
        rw [he]
        unfold s_X9_command_b49
        simp only [bnd_, a0, if_neg (show ¬ nI 8 = 1 by decide), if_neg (show ¬ nI 8 = 2 by decide), if_neg (show ¬ nI 8 = 3 by decide), if_neg (show ¬ nI 8 = 4 by decide), if_neg (show ¬ nI 8 = 5 by decide), if_neg (show ¬ nI 8 = 6 by decide), if_neg (show ¬ nI 8 = 7 by decide), if_pos (show nI 8 = 8 by decide), if_true, if_false, ite_00, ite_10, if_pos (show nI A = 0 by rw [hq]; rfl), i107_, ix1_, v2]
        exact hsq G
    · refine cmd_no ?_ (fun G hM hR => ?_)
      · unfold s_X1_succeeds
        simp only [bnd_, a0, a1, a2, a3, if_neg (show ¬ nI 8 = 1 by decide), if_neg (show ¬ nI 8 = 2 by decide), if_neg (show ¬ nI 8 = 3 by decide), if_neg (show ¬ nI 8 = 4 by decide), if_neg (show ¬ nI 8 = 5 by decide), if_neg (show ¬ nI 8 = 6 by decide), if_neg (show ¬ nI 8 = 7 by decide), if_pos (show nI 8 = 8 by decide), if_true, if_false, ite_00, ite_10, z01_, z11_, if_neg (nI_ne0 (show 0 < A by omega) (show A < 2 ^ 31 by omega))]
      · show s_X9_command G (nI g) = _
        obtain ⟨e, he⟩ := hGE G hM
        rw [he]
        unfold s_X9_command_b49
        simp only [bnd_, a0, if_neg (show ¬ nI 8 = 1 by decide), if_neg (show ¬ nI 8 = 2 by decide), if_neg (show ¬ nI 8 = 3 by decide), if_neg (show ¬ nI 8 = 4 by decide), if_neg (show ¬ nI 8 = 5 by decide), if_neg (show ¬ nI 8 = 6 by decide), if_neg (show ¬ nI 8 = 7 by decide), if_pos (show nI 8 = 8 by decide), if_true, if_false, ite_00, ite_10, if_neg (nI_ne0 (show 0 < A by omega) (show A < 2 ^ 31 by omega))]
  · refine cmd_no ?_ (fun G hM hR => ?_)
    · unfold s_X1_succeeds
      simp only [bnd_, a0, a1, a2, a3, if_neg (show ¬ nI 0 = 1 by decide), if_neg (show ¬ nI 0 = 2 by decide), if_neg (show ¬ nI 0 = 3 by decide), if_neg (show ¬ nI 0 = 4 by decide), if_neg (show ¬ nI 0 = 5 by decide), if_neg (show ¬ nI 0 = 6 by decide), if_neg (show ¬ nI 0 = 7 by decide), if_neg (show ¬ nI 0 = 8 by decide), if_true, if_false, ite_00, ite_10, z01_, z11_]
    · show s_X9_command G (nI g) = _
      obtain ⟨e, he⟩ := hGE G hM
      rw [he]
      unfold s_X9_command_b49
      simp only [bnd_, a0, if_neg (show ¬ nI 0 = 1 by decide), if_neg (show ¬ nI 0 = 2 by decide), if_neg (show ¬ nI 0 = 3 by decide), if_neg (show ¬ nI 0 = 4 by decide), if_neg (show ¬ nI 0 = 5 by decide), if_neg (show ¬ nI 0 = 6 by decide), if_neg (show ¬ nI 0 = 7 by decide), if_neg (show ¬ nI 0 = 8 by decide), if_true, if_false, ite_00, ite_10]
  · refine cmd_no ?_ (fun G hM hR => ?_)
    · unfold s_X1_succeeds
      simp only [bnd_, a0, a1, a2, a3, if_neg (show ¬ nI 9 = 1 by decide), if_neg (show ¬ nI 9 = 2 by decide), if_neg (show ¬ nI 9 = 3 by decide), if_neg (show ¬ nI 9 = 4 by decide), if_neg (show ¬ nI 9 = 5 by decide), if_neg (show ¬ nI 9 = 6 by decide), if_neg (show ¬ nI 9 = 7 by decide), if_neg (show ¬ nI 9 = 8 by decide), if_true, if_false, ite_00, ite_10, z01_, z11_]
    · show s_X9_command G (nI g) = _
      obtain ⟨e, he⟩ := hGE G hM
      rw [he]
      unfold s_X9_command_b49
      simp only [bnd_, a0, if_neg (show ¬ nI 9 = 1 by decide), if_neg (show ¬ nI 9 = 2 by decide), if_neg (show ¬ nI 9 = 3 by decide), if_neg (show ¬ nI 9 = 4 by decide), if_neg (show ¬ nI 9 = 5 by decide), if_neg (show ¬ nI 9 = 6 by decide), if_neg (show ¬ nI 9 = 7 by decide), if_neg (show ¬ nI 9 = 8 by decide), if_true, if_false, ite_00, ite_10]
/-! ===== scripts ===== -/
theorem p10k {n : Nat} (h : n ≤ 4) : 1 ≤ 10000 ^ n ∧ 10000 ^ n ≤ 10000000000000000 := by
  rcases (show n = 0 ∨ n = 1 ∨ n = 2 ∨ n = 3 ∨ n = 4 by omega) with rfl | rfl | rfl | rfl | rfl <;> decide
theorem l10k : (10000 : Int64) = lN 10000 := by decide
theorem m_groups_b {n : Nat} (hn : n ≤ 4) : ∀ d i fuel, i + d = n → d < fuel → s_X9_groups_b4 F fuel (nI n) (lN (10000 ^ i)) (nI i) = some (lN (10000 ^ n))
  | 0, i, fuel + 1, h, _ => by
    have : i = n := by omega
    subst this
    rw [s_X9_groups_b4, if_pos (Int32.le_refl _)]
  | d + 1, i, fuel + 1, h, hf => by
    rw [s_X9_groups_b4, if_neg (by rw [nI_leI (by omega) (by omega)]; omega)]
    simp only [bnd_, nI_1, l10k, lN_mul]
    rw [← Nat.pow_succ]
    exact m_groups_b hn d (i + 1) fuel (by omega) (by omega)
theorem m_groups {n : Nat} (hn : n ≤ 4) : s_X9_groups F (nI n) = some (lN (10000 ^ n)) := m_groups_b hn n 0 fu_ (by omega) (fu_lt (by omega))
theorem alen25 : alen (24 + 1) = 5 := by decide
theorem alen26 : alen (24 + 2) = 5 := by decide
theorem scr_loop {n X : Nat} (hP : WFP P) (hn : n ≤ 4) (hX : X < 10000 ^ n) : ∀ d i fuel F S t, i + d = n → d < fuel → t + 50 * d < 890000 → WFS P t S → RPC F P → RSt F P 24 S →
    ∃ r F1, s_X8_runScript_b70 fuel F (nI n) (lN X) (lN (10000 ^ d)) (nI i) = some (.inl r, F1) ∧ (∀ x, x < 24 ∨ 32 ≤ x → F1 x = F x) ∧ ∀ G fuel2, d < fuel2 → RPM G P → RRow G 172 S → ∃ G1, s_X9_runScript_b58 fuel2 G (nI n) (lN X) (nI i) = some (r, G1) ∧ ∀ x, x ≠ 172 → G1 x = G x
  | 0, i, fuel + 1, F, S, t, h, _, ht, hS, hC', hT => by
    have : i = n := by omega
    subst this
    refine ⟨-9, F, ?_, fun _ _ => rfl, fun G fuel2 h2 hM hR => ?_⟩
    · rw [s_X8_runScript_b70, if_pos (Int32.le_refl _)]
    · obtain ⟨f2, rfl⟩ : ∃ f2, fuel2 = f2 + 1 := ⟨fuel2 - 1, by omega⟩
      exact ⟨G, by rw [s_X9_runScript_b58, if_pos (Int32.le_refl _)], fun _ _ => rfl⟩
  | d + 1, i, fuel + 1, F, S, t, h, hf, ht, hS, hC', hT => by
    obtain ⟨p1, p2⟩ := p10k (n := d) (by omega)
    obtain ⟨p3, p4⟩ := p10k hn
    obtain ⟨p5, p6⟩ := p10k (n := d + 1) (by omega)
    have hXb : X < 2 ^ 63 := by omega
    have u1 : lN (10000 ^ (d + 1)) / 10000 = lN (10000 ^ d) := by
      rw [l10k, pk_lDiv (by omega) (by omega) (by omega), Nat.pow_succ, Nat.mul_div_cancel _ (by omega)]
    have hd : X / 10000 ^ d ≤ X := Nat.div_le_self _ _
    have u2 : Int64.toInt32 ((lN X / lN (10000 ^ d)) - (lN X / lN (10000 ^ d)) / 10000 * 10000) = nI (X / 10000 ^ d % 10000) := by
      rw [pk_lDiv hXb (by omega) (by omega), l10k, pk_lRem (by omega) (by omega) (by omega), lN_i]
    have u3 : ¬ (lg_cmp (lN (10000 ^ d)) 0) ≤ 0 := by
      rw [lg_cmp_le, show (0 : Int64) = lN 0 from rfl, pk_lLE (by omega) (by omega)]; omega
    have u4 : ¬ lN (10000 ^ d) = 0 := by rw [show (0 : Int64) = lN 0 from rfl, pk_lEQ (by omega) (by omega)]; omega
    have hg : X / 10000 ^ d % 10000 < 10000 := Nat.mod_lt _ (by omega)
    have w1 : (nI n - 1) - nI i = nI d := by
      rw [show nI n - 1 = nI (n - 1) by rw [li_1, pk_sub (by omega)], pk_sub (by omega)]
      exact congrArg nI (by omega)
    obtain ⟨b, F1, S1, e1, f1, s1, m1⟩ := ag_cmd (a := 24) (t := t) (g := X / 10000 ^ d % 10000) (by omega) alen25 alen26 hP (by omega) hS hC' hT hg
    rw [s_X8_runScript_b70, if_neg (by rw [nI_leI (by omega) (by omega)]; omega), u1]
    simp only [bnd_, if_neg u3, u2, e1, nI_1]
    rw [if_pos u4]
    cases b with
    | false =>
      refine ⟨nI i, F1, ?_, f1, fun G fuel2 h2 hM hR => ?_⟩
      · rw [if_pos b01_f]
      · obtain ⟨f2, rfl⟩ : ∃ f2, fuel2 = f2 + 1 := ⟨fuel2 - 1, by omega⟩
        obtain ⟨G1, g1, g2, -⟩ := m1 G hM hR
        have g1 : s_X9_command G (nI (X / 10000 ^ d % 10000)) = some (b01 false, G1) := g1
        refine ⟨G1, ?_, g2⟩
        rw [s_X9_runScript_b58, if_neg (by rw [nI_leI (by omega) (by omega)]; omega), w1, m_groups (by omega)]
        simp only [bnd_]
        rw [if_pos u4, u2, g1]
        simp only [bnd_]
        rw [if_pos b01_f]
    | true =>
      obtain ⟨t1, t2⟩ := s1 rfl
      obtain ⟨r, F2, e2, f2, m2⟩ := scr_loop hP hn hX d (i + 1) fuel F1 S1 (t + 50) (by omega) (by omega) (by omega) t2 (rpc_fr hC' (fun x _ _ => f1 x (by omega))) t1
      refine ⟨r, F2, ?_, fun x hx => by rw [f2 x hx, f1 x (by omega)], fun G fuel2 h2 hM hR => ?_⟩
      · rw [if_neg b01_t]
        exact e2
      · obtain ⟨f3, rfl⟩ : ∃ f2, fuel2 = f2 + 1 := ⟨fuel2 - 1, by omega⟩
        obtain ⟨G1, g1, g2, g3⟩ := m1 G hM hR
        have g1 : s_X9_command G (nI (X / 10000 ^ d % 10000)) = some (b01 true, G1) := g1
        obtain ⟨G2, k1, k2⟩ := m2 G1 f3 (by omega) (rpm_fr hM (r := 172) (by omega) g2) (g3 rfl)
        refine ⟨G2, ?_, fun x hx => by rw [k2 x hx, g2 x hx]⟩
        rw [s_X9_runScript_b58, if_neg (by rw [nI_leI (by omega) (by omega)]; omega), w1, m_groups (by omega)]
        simp only [bnd_]
        rw [if_pos u4, u2, g1]
        simp only [bnd_, nI_1]
        rw [if_neg b01_t]
        exact k1
theorem c_unit {n : Nat} {x2 : Int64} {R : Option ((Int32 ⊕ String) × MM)} (hn : n ≤ 4) (hR : ∀ fuel, s_X8_runScript_b12 (fuel + 1) F (nI n) x2 (lN (10000 ^ n)) (nI n) = R) : ∀ d i fuel, i + d = n → d < fuel → s_X8_runScript_b12 fuel F (nI n) x2 (lN (10000 ^ i)) (nI i) = R
  | 0, i, fuel + 1, h, _ => by
    have : i = n := by omega
    subst this
    exact hR fuel
  | d + 1, i, fuel + 1, h, hf => by
    rw [s_X8_runScript_b12, if_neg (by rw [nI_leI (by omega) (by omega)]; omega)]
    simp only [bnd_, nI_1, l10k, lN_mul]
    rw [← Nat.pow_succ]
    exact c_unit hn hR d (i + 1) fuel (by omega) (by omega)
theorem in_l1 {x lo hi : Int64} (h1 : ¬ x < lo) (h2 : ¬ hi < x) : s_X9_in F x lo hi = some 1 := by
  unfold s_X9_in
  rw [if_neg (by rw [lg_cmp_lt]; exact h1), if_neg (by rw [lg_cmp_gt]; exact h2)]
theorem in_l0 {x lo hi : Int64} (h : x < lo ∨ hi < x) : s_X9_in F x lo hi = some 0 := by
  unfold s_X9_in
  by_cases h1 : x < lo
  · rw [if_pos (by rw [lg_cmp_lt]; exact h1)]
  · rw [if_neg (by rw [lg_cmp_lt]; exact h1), if_pos (by rw [lg_cmp_gt]; exact h.resolve_left h1)]
end CM
theorem ag_runScript {F : MM} {t : Nat} (ht : t < 800000) (hI : INV t F) (n : Int32) (x : Int64) : AgW t [ex_iae] (s_X8_runScript F n x) (fun G => s_X9_runScript G n x) := by
  obtain ⟨P, S, L, T, m, H, kp, K, hA, hCI, hMI⟩ := id hI
  obtain ⟨hP, hS, ⟨hL, hT⟩, ⟨hm, hH⟩, hK⟩ := id hA
  obtain ⟨cP, cS, cT, cH, cK, cW⟩ := id hCI
  obtain ⟨mP, mS, mT, mH, mK⟩ := id hMI
  obtain ⟨m0, n0, -⟩ := invm_0 hMI 0
  have hN5 := hP.1.2
  have hC6 := hP.2.1.2
  have hR10 := hP.2.2.1
  have al : alen 171 = 107 := by decide
  have hb := wfs_b hS (by omega)
  unfold s_X8_runScript
  have i1 : (1 : Int32).toInt = 1 := by decide
  have i4 : (4 : Int32).toInt = 4 := by decide
  have l1 : (1 : Int64).toInt = 1 := by decide
  have l4 : (4 : Int64).toInt = 4 := by decide
  rcases arg1_ n 4 (by omega) with ⟨j, hj1, hj2, rfl⟩ | h
  · have c0 := (cG_ok (a := 1) (b := 4) rfl rfl (by omega) hj1 hj2 : s_X8_requireRange F (nI j) 1 4 = some (.inl ()))
    have d0 : ∀ G, s_X9_in G (Int32.toInt64 (nI j)) 1 4 = some 1 := fun G => in_ok (a := 1) (b := 4) l1 l4 (by omega) hj1 hj2
    obtain ⟨p1, p2⟩ := p10k hj2
    have eu : lN (10000 ^ j) - 1 = lN (10000 ^ j - 1) := by rw [show (1 : Int64) = lN 1 from rfl, lN_sub p1]
    have hbad : x < 0 ∨ lN (10000 ^ j) ≤ x → AgW t [ex_iae] (tbW F (s_X8_requireRange F (nI j) 1 4) (fun u2 => s_X8_runScript_b12 fu_ F (nI j) x 1 0)) (fun G => s_X9_runScript G (nI j) x) := fun hb9 => by
      have ec : s_X8_runScript_b12 fu_ F (nI j) x 1 0 = some (.inr ex_iae, F) := c_unit (R := some (.inr ex_iae, F)) hj2 (fun fuel => by
        rw [s_X8_runScript_b12, if_pos (Int32.le_refl _)]
        by_cases hx : x < 0
        · rw [if_pos (by rw [lg_cmp_lt]; exact hx)]
        · rw [if_neg (by rw [lg_cmp_lt]; exact hx), if_neg (by rw [lg_cmp_lt]; exact Int64.not_lt.mpr (hb9.resolve_left hx))]) j 0 fu_ (by omega) (fu_lt (by omega))
      have d1 : s_X9_in F x 0 (lN (10000 ^ j - 1)) = some 0 := in_l0 (by
        rcases hb9 with h9 | h9
        · exact Or.inl h9
        · refine Or.inr (Int64.lt_iff_toInt_lt.mpr ?_)
          rw [Int64.le_iff_toInt_le, pk_lT (by omega)] at h9
          rw [pk_lT (by omega)]
          omega)
      simp only [c0, tbW_l, ec]
      exact agW_no (k := 1) hI (by decide) (by decide) (by
        show s_X9_runScript F (nI j) x = _
        unfold s_X9_runScript s_X9_runScript_b32
        simp only [d0, bnd_, ite_10, if_false, m_groups hj2, eu, d1, ite_00, if_true, rf_1])
    by_cases hx : x < 0
    · exact hbad (Or.inl hx)
    · obtain ⟨X, hX1, rfl⟩ := pk_lOf hx
      by_cases hX : X < 10000 ^ j
      · obtain ⟨F1, e1, t1, f1⟩ := c_copy (a := 24) (q := 16) (by omega) cS hP
        obtain ⟨r, G, eG, fG, mG⟩ := scr_loop hP hj2 hX j 0 fu_ F1 S t (by omega) (fu_lt (by omega)) (by omega) hS (rpc_fr cP (fun x _ _ => f1 x (by omega))) t1
        have eG : s_X8_runScript_b70 fu_ F1 (nI j) (lN X) (lN (10000 ^ j)) 0 = some (.inl r, G) := eG
        have ec : s_X8_runScript_b12 fu_ F (nI j) (lN X) 1 0 = some (.inl r, G) := c_unit (R := some (.inl r, G)) hj2 (fun fuel => by
          rw [s_X8_runScript_b12, if_pos (Int32.le_refl _), if_neg (by rw [lg_cmp_lt]; exact hx), if_pos (by rw [lg_cmp_lt, pk_lLT (by omega) (by omega)]; exact hX), e1]
          simp only [bnd_]
          exact eG) j 0 fu_ (by omega) (fu_lt (by omega))
        have j1 := invm_cl (F1 := G) hMI (fun x hx => by rw [fG x (by omega), f1 x (by omega)])
        have d1 : s_X9_in G (lN X) 0 (lN (10000 ^ j - 1)) = some 1 := in_l1 hx (by rw [pk_lLT (by omega) (by omega)]; omega)
        obtain ⟨k1, k2, -⟩ := id (invm_0 j1 0)
        obtain ⟨F2, e2, t2, f2⟩ := m_cpT k2
        obtain ⟨F3, e3, f3⟩ := mG F2 fu_ (fu_lt (by omega)) (rpm_fr k1 (r := 172) (by omega) f2) t2
        have e3 : s_X9_runScript_b58 fu_ F2 (nI j) (lN X) 0 = some (r, F3) := e3
        simp only [c0, tbW_l, ec]
        exact agW_ok (F2 := F3) (by
          show s_X9_runScript G (nI j) (lN X) = _
          unfold s_X9_runScript s_X9_runScript_b32
          simp only [d0, bnd_, ite_10, if_false, m_groups hj2, eu, d1, rf_0, e2, e3]) (by rw [f3 164 (by omega), f2 164 (by omega)]; exact mup_00 G 0) (inv_tri hI (F1 := G) (fun x hx => by rw [fG x (by omega), f1 x (by omega)]) (fun x h1 h2 => by rw [f3 x h2, f2 x h2, mup_ne h1]) (fun j hj => by rw [f3 164 (by omega), f2 164 (by omega), mup_self, pk_un hj]))
      · exact hbad (Or.inr (by rw [pk_lLE (by omega) (by omega)]; omega))
  · have c0 := (cG_no (by rw [i1, i4]; exact h) : s_X8_requireRange F n 1 4 = some (.inr ex_iae))
    have d0 := (in_0 (by rw [l1, l4]; exact h) : s_X9_in F (Int32.toInt64 n) 1 4 = some 0)
    simp only [c0, tbW_r]
    exact agW_no (k := 1) hI (by decide) (by decide) (by
      show s_X9_runScript F n x = _
      unfold s_X9_runScript s_X9_runScript_b32
      simp only [d0, bnd_, ite_00, if_true, rf_1])
