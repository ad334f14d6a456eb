/-! ===== simulations ===== -/
def rOf (y : Int64) : Nat := ((Int64.toUInt64 y) >>> ((Int32.toInt64 33).toUInt64 &&& Int64.toUInt64 63)).toNat
theorem rOf_lt (y : Int64) : rOf y < 2 ^ 31 := by
  have e : ((Int32.toInt64 33).toUInt64 &&& Int64.toUInt64 63) = 33 := by decide
  have e2 : (33 : UInt64).toNat % 64 = 33 := by decide
  unfold rOf
  rw [e, UInt64.toNat_shiftRight, e2, Nat.shiftRight_eq_div_pow]
  exact Nat.div_lt_of_lt_mul (Nat.lt_of_lt_of_le (UInt64.toNat_lt _) (by decide))
theorem rOf_e (y : Int64) : Int64.toInt32 (((Int64.toUInt64 y) >>> ((Int32.toInt64 33).toUInt64 &&& Int64.toUInt64 63)).toInt64) = nI (rOf y) := by
  unfold rOf
  generalize (Int64.toUInt64 y) >>> ((Int32.toInt64 33).toUInt64 &&& Int64.toUInt64 63) = w
  have h := @UInt64.ofNat_toNat w
  have h2 : w.toInt64 = lN w.toNat := by
    calc w.toInt64 = (UInt64.ofNat w.toNat).toInt64 := by rw [h]
      _ = lN w.toNat := rfl
  rw [h2]
  exact lN_i _
def dst (P : PL) (S : RW) (R : Nat) : RW := if R % 3 = 0 then rup S (2 + 15 * (R / 64 % pNod P) + R / 4 % pPar P) (R / 1024 % 4) else if R % 3 = 1 then rup S (2 + 15 * (R / 64 % pNod P) + 12) (R / 4096 % 4) else S
def sim (P : PL) : Nat → Int64 → RW → RW
  | 0, _, S => S
  | d + 1, x, S => sim P d ((x * 6364136223846793005) + 1442695040888963407) (tck P (dst P S (rOf ((x * 6364136223846793005) + 1442695040888963407))))
section SM
variable {F F1 : MM} {P : PL} {S : RW} {a t : Nat}
theorem c_disturb {R : Nat} (ha : 16 ≤ a) (hR : R < 2 ^ 31) (hP : WFP P) (hS : WFS P t S) (hC' : RPC F P) (hT : RSt F P a S) : ∃ F1, s_X5_disturb F a (nI R) = some F1 ∧ RSt F1 P a (dst P S R) ∧ WFS P t (dst P S R) ∧ ∀ x, x < a ∨ a + 8 ≤ x → F1 x = F x := by
  have hN5 := hP.1
  have hC6 := hP.2.1
  have y3 : nI R - nI R / 3 * 3 = nI (R % 3) := by rw [li_3]; exact pk_rem hR (by omega) (by omega)
  have y4 : (nI R / 64) - (nI R / 64) / nI (pNod P) * nI (pNod P) = nI (R / 64 % pNod P) := by rw [li_64, pk_div hR (by omega) (by omega)]; exact pk_rem (by omega) (by omega) (by omega)
  have y7 : (nI R / 4) - (nI R / 4) / nI (pPar P) * nI (pPar P) = nI (R / 4 % pPar P) := by rw [li_4, pk_div hR (by omega) (by omega)]; exact pk_rem (by omega) (by omega) (by omega)
  have y1 : (nI R / 1024) - (nI R / 1024) / 4 * 4 = nI (R / 1024 % 4) := by rw [li_1024, pk_div hR (by omega) (by omega), li_4]; exact pk_rem (by omega) (by omega) (by omega)
  have y9 : (nI R / 4096) - (nI R / 4096) / 4 * 4 = nI (R / 4096 % 4) := by rw [li_4096, pk_div hR (by omega) (by omega), li_4]; exact pk_rem (by omega) (by omega) (by omega)
  obtain ⟨n, hn⟩ : ∃ n, n = R / 64 % pNod P := ⟨_, rfl⟩
  obtain ⟨c, hc⟩ : ∃ c, c = R / 4 % pPar P := ⟨_, rfl⟩
  obtain ⟨v, hv⟩ : ∃ v, v = R / 1024 % 4 := ⟨_, rfl⟩
  obtain ⟨u, hu⟩ : ∃ u, u = R / 4096 % 4 := ⟨_, rfl⟩
  obtain ⟨q, hq⟩ : ∃ q, q = R % 3 := ⟨_, rfl⟩
  have ln : n < pNod P := by rw [hn]; exact Nat.mod_lt _ (by omega)
  have lc : c < pPar P := by rw [hc]; exact Nat.mod_lt _ (by omega)
  have lv : v < 4 := by omega
  have lu : u < 4 := by omega
  have lq : q < 3 := by omega
  have ed : dst P S R = if q = 0 then rup S (2 + 15 * n + c) v else if q = 1 then rup S (2 + 15 * n + 12) u else S := by rw [hn, hc, hv, hu, hq]; rfl
  rw [← hq] at y3
  rw [← hn] at y4
  rw [← hc] at y7
  rw [← hv] at y1
  rw [← hu] at y9
  rw [ed]
  obtain ⟨r1, -⟩ := hT.2.2.1 n ln
  have hy := cod_4096 hP hS ln (Or.inl rfl)
  unfold s_X5_disturb s_X0_with
  rw [hC'.1, hC'.2.1]
  simp only [bnd_, y3, y4, y7, y1, y9, if_neg (nI_nle (show 0 < pNod P by omega) (show pNod P < 2 ^ 31 by omega)), if_pos (show (0 : Int32) < nI (pPar P) by rw [li_0, nI_ltI (by omega) (by omega)]; omega)]
  rw [if_pos (nI_ne0 (show 0 < pNod P by omega) (by omega)), if_pos (nI_ne0 (show 0 < pPar P by omega) (by omega))]
  by_cases h0 : q = 0
  · rw [if_pos h0, if_pos (show nI q = 0 by rw [h0]; rfl)]
    refine ⟨mup F (a + 1) n (nI (wth (cod P S n 0) c v)), ?_, rst_pres hP hS hT ln lc, wfs_rup hS (by omega) (fun h => by omega) (fun h => by omega) (fun n c hn hc h => by omega) (fun n hn h => by omega) (fun n hn h => by omega) (fun n hn h => by omega) (fun c hc h => by omega) (fun c u hc hu h => by omega), fun x hx => mup_ne (by omega)⟩
    simp (disch := omega) only [inb_nI, ix_nI, if_true, bnd_, r1, i_wth hy (show c < 6 by omega) lv]
  · rw [if_neg h0, if_neg (nI_ne0 (show 0 < q by omega) (by omega))]
    by_cases h1 : q = 1
    · rw [if_pos h1, if_pos (show nI q = 1 by rw [h1]; rfl)]
      refine ⟨mup F (a + 3) n (nI u), ?_, rst_node hP hT ln (Or.inl ⟨rfl, rfl⟩), wfs_rup hS (by omega) (fun h => by omega) (fun h => by omega) (fun n c hn hc h => by omega) (fun n hn h => by omega) (fun n hn h => by omega) (fun n hn h => by omega) (fun c hc h => by omega) (fun c u hc hu h => by omega), fun x hx => mup_ne (by omega)⟩
      simp (disch := omega) only [inb_nI, ix_nI, if_true, bnd_]
    · rw [if_neg h1, if_neg (show ¬ nI q = 1 by rw [li_1, nI_eq (by omega) (by omega)]; exact h1)]
      exact ⟨F, rfl, hT, hS, fun _ _ => rfl⟩
theorem m_disturb {R M fuel : Nat} {x4 : Int64} {x6 x7 : Int32} (hR : R < 2 ^ 31) (hP : WFP P) (hS : WFS P t S) (hM : RPM F P) (hT : RRow F 172 S) (hx : ¬ nI M ≤ x7) (he : rOf ((x4 * 6364136223846793005) + 1442695040888963407) = R) : ∃ F1, s_X9_simulate_b55 (fuel + 1) F (nI M) x4 x6 x7 = (s_X9_tickOn F1 172).bind (fun G => s_X9_simulate_b55 fuel G (nI M) ((x4 * 6364136223846793005) + 1442695040888963407) x6 (x7 + 1)) ∧ RRow F1 172 (dst P S R) ∧ ∀ x, x ≠ 172 → F1 x = F x := by
  have hN5 := hP.1
  have hC6 := hP.2.1
  have y3 : nI R - nI R / 3 * 3 = nI (R % 3) := by rw [li_3]; exact pk_rem hR (by omega) (by omega)
  have y4 : (nI R / 64) - (nI R / 64) / nI (pNod P) * nI (pNod P) = nI (R / 64 % pNod P) := by rw [li_64, pk_div hR (by omega) (by omega)]; exact pk_rem (by omega) (by omega) (by omega)
  have y7 : (nI R / 4) - (nI R / 4) / nI (pPar P) * nI (pPar P) = nI (R / 4 % pPar P) := by rw [li_4, pk_div hR (by omega) (by omega)]; exact pk_rem (by omega) (by omega) (by omega)
  have y1 : (nI R / 1024) - (nI R / 1024) / 4 * 4 = nI (R / 1024 % 4) := by rw [li_1024, pk_div hR (by omega) (by omega), li_4]; exact pk_rem (by omega) (by omega) (by omega)
  have y9 : (nI R / 4096) - (nI R / 4096) / 4 * 4 = nI (R / 4096 % 4) := by rw [li_4096, pk_div hR (by omega) (by omega), li_4]; exact pk_rem (by omega) (by omega) (by omega)
  obtain ⟨n, hn⟩ : ∃ n, n = R / 64 % pNod P := ⟨_, rfl⟩
  obtain ⟨c, hc⟩ : ∃ c, c = R / 4 % pPar P := ⟨_, rfl⟩
  obtain ⟨v, hv⟩ : ∃ v, v = R / 1024 % 4 := ⟨_, rfl⟩
  obtain ⟨u, hu⟩ : ∃ u, u = R / 4096 % 4 := ⟨_, rfl⟩
  obtain ⟨q, hq⟩ : ∃ q, q = R % 3 := ⟨_, rfl⟩
  have ln : n < pNod P := by rw [hn]; exact Nat.mod_lt _ (by omega)
  have lc : c < pPar P := by rw [hc]; exact Nat.mod_lt _ (by omega)
  have lv : v < 4 := by omega
  have lu : u < 4 := by omega
  have lq : q < 3 := by omega
  have ed : dst P S R = if q = 0 then rup S (2 + 15 * n + c) v else if q = 1 then rup S (2 + 15 * n + 12) u else S := by rw [hn, hc, hv, hu, hq]; rfl
  rw [← hq] at y3
  rw [← hn] at y4
  rw [← hc] at y7
  rw [← hv] at y1
  rw [← hu] at y9
  rw [ed]
  have f5 := hM.2.1
  have f4 := hM.1
  rw [s_X9_simulate_b55, if_neg hx, bnd_, rOf_e, he]
  simp only [bnd_, f4, y3, y4]
  rw [if_pos (nI_ne0 (show 0 < pNod P by omega) (by omega))]
  unfold s_X9_at
  simp only [bnd_, f5, y7, y1, if_pos (nI_ne0 (show 0 < pPar P by omega) (show pPar P < 2 ^ 31 by omega))]
  by_cases h0 : q = 0
  · rw [if_pos h0, if_pos (show nI q = 0 by rw [h0]; rfl)]
    refine ⟨mup F 172 (2 + 15 * n + c) (nI v), ?_, rr_up hT, fun x hx => mup_ne hx⟩
    simp (disch := omega) only [inb_nI, ix_nI, if_true, bnd_, at_nI, nI_add]
    unfold s_X9_simulate_b128
    simp only [y3, if_neg (show ¬ nI q = 1 by rw [h0]; decide), bnd_]
  · rw [if_neg h0, if_neg (nI_ne0 (show 0 < q by omega) (by omega))]
    by_cases h1 : q = 1
    · rw [if_pos h1]
      refine ⟨mup F 172 (2 + 15 * n + 12) (nI u), ?_, rr_up hT, fun x hx => mup_ne hx⟩
      unfold s_X9_simulate_b128 s_X9_at
      simp (disch := omega) only [y3, if_pos (show nI q = 1 by rw [h1]; rfl), bnd_, at_nI, li_12, nI_add, y9, inb_nI, ix_nI, if_true]
    · rw [if_neg h1]
      refine ⟨F, ?_, hT, fun _ _ => rfl⟩
      unfold s_X9_simulate_b128
      simp only [y3, if_neg (show ¬ nI q = 1 by rw [li_1, nI_eq (by omega) (by omega)]; exact h1), bnd_]
theorem wfs_dst {R : Nat} (hP : WFP P) (hS : WFS P t S) : WFS P t (dst P S R) := by
  have hN5 := hP.1
  have hC6 := hP.2.1
  have ln : R / 64 % pNod P < pNod P := Nat.mod_lt _ (by omega)
  have lc : R / 4 % pPar P < pPar P := Nat.mod_lt _ (by omega)
  have lv : R / 1024 % 4 < 4 := by omega
  have lu : R / 4096 % 4 < 4 := by omega
  unfold dst
  generalize R / 64 % pNod P = n at *
  generalize R / 4 % pPar P = c at *
  generalize R / 1024 % 4 = v at *
  generalize R / 4096 % 4 = u at *
  by_cases h0 : R % 3 = 0
  · rw [if_pos h0]; exact wfs_rup hS (by omega) (fun h => by omega) (fun h => by omega) (fun n c hn hc h => by omega) (fun n hn h => by omega) (fun n hn h => by omega) (fun n hn h => by omega) (fun c hc h => by omega) (fun c u hc hu h => by omega)
  · rw [if_neg h0]
    by_cases h1 : R % 3 = 1
    · rw [if_pos h1]; exact wfs_rup hS (by omega) (fun h => by omega) (fun h => by omega) (fun n c hn hc h => by omega) (fun n hn h => by omega) (fun n hn h => by omega) (fun n hn h => by omega) (fun c hc h => by omega) (fun c u hc hu h => by omega)
    · rw [if_neg h1]; exact hS
theorem wfs_sim (hP : WFP P) : ∀ d x t S, WFS P t S → WFS P (t + d) (sim P d x S)
  | 0, x, t, S, h => h
  | d + 1, x, t, S, h => by
    have := wfs_sim hP d ((x * 6364136223846793005) + 1442695040888963407) (t + 1) _ (wfs_tck hP (wfs_dst (R := rOf ((x * 6364136223846793005) + 1442695040888963407)) hP h))
    rw [show t + (d + 1) = t + 1 + d by omega]
    exact this
theorem c_sim {M : Nat} (hM : M ≤ 60) (hP : WFP P) : ∀ d i fuel F x S t, i + d = M → d < fuel → t + d < 900000 → WFS P t S → RPC F P → RSt F P 24 S →
    ∃ F1, s_X8_simulate_b24 fuel F (nI M) x (nI i) = some (.inl ((nI (sim P d x S 1) - F 16 9) + (1000 * nI (popc (dnod P (sim P d x S)) 30))), F1) ∧ ∀ x, x < 24 ∨ 32 ≤ x → F1 x = F x
  | 0, i, fuel + 1, F, x, S, t, h, _, ht, hS, hC', hT => by
    have : i = M := by omega
    subst this
    have hd := dnod_lt hP S
    have e9 : F 24 9 = nI (S 1) := hT.2.1
    refine ⟨F, ?_, fun _ _ => rfl⟩
    rw [s_X8_simulate_b24, if_pos (Int32.le_refl _), c_driftedNodes hP hS hC' hT]
    simp only [bnd_, c_bitCount (F := F) (show dnod P S < 1024 by omega), e9]
    rfl
  | d + 1, i, fuel + 1, F, x, S, t, h, hf, ht, hS, hC', hT => by
    obtain ⟨F1, e1, t1, w1, f1⟩ := c_disturb (R := rOf ((x * 6364136223846793005) + 1442695040888963407)) (a := 24) (by omega) (rOf_lt _) hP hS hC' hT
    have p1 := rpc_fr hC' (F1 := F1) (fun x _ _ => f1 x (by omega))
    obtain ⟨F2, e2, t2, f2⟩ := c_passTicks (a := 24) (N := 1) (by omega) hP (show t + 1 < 900000 by omega) w1 (by omega) p1 t1
    have e2 : s_X5_passTicks F1 24 1 = some F2 := e2
    obtain ⟨F3, e3, f3⟩ := c_sim hM hP d (i + 1) fuel F2 ((x * 6364136223846793005) + 1442695040888963407) _ (t + 1) (by omega) (by omega) (by omega) (wfs_tck hP w1) (rpc_fr p1 (fun x _ _ => f2 x (by omega))) t2
    refine ⟨F3, ?_, fun x hx => by rw [f3 x hx, f2 x (by omega), f1 x (by omega)]⟩
    rw [f2 16 (by omega), f1 16 (by omega)] at e3
    rw [s_X8_simulate_b24, if_neg (by rw [nI_leI (by omega) (by omega)]; omega)]
    simp only [bnd_]
    rw [rOf_e, e1, bnd_, e2, bnd_, nI_1]
    exact e3
theorem m_sim {M : Nat} {x6 : Int32} (hM : M ≤ 60) (hP : WFP P) : ∀ d i fuel F x S t, i + d = M → d < fuel → t + d < 900000 → WFS P t S → RPM F P → RRow F 172 S →
    ∃ F1, s_X9_simulate_b55 fuel F (nI M) x x6 (nI i) = some ((nI (sim P d x S 1) - x6) + (1000 * nI (popc (dnod P (sim P d x S)) 30)), F1) ∧ ∀ x, x ≠ 172 → F1 x = F x
  | 0, i, fuel + 1, F, x, S, t, h, _, ht, hS, hM', hT => by
    have : i = M := by omega
    subst this
    have hN5 := hP.1.2
    have hd := bsum_lt (fun n => !(decide (dset P S n = 0))) (pNod P)
    have hd : dnod P S < 2 ^ pNod P := hd
    have hc := calm_lt P hP S
    have e9 : F 172 1 = nI (S 1) := hT 1 (by omega)
    have hp := i_pop_all (pNod P) (by omega) (dnod P S) hd
    rw [← dnod_calm] at hp
    refine ⟨F, ?_, fun _ _ => rfl⟩
    rw [s_X9_simulate_b55, if_pos (Int32.le_refl _), if_pos i107_, m_calmNodes alen172 hT (wfs_b hS (by omega)) hP hM']
    simp only [bnd_, m_ones (F := F) (show calm P S < 2 ^ 30 by omega), ix1_, e9, hM'.1]
    rw [pk_sub (by omega), show pNod P - popc (calm P S) 30 = popc (dnod P S) 30 by omega]
    rfl
  | d + 1, i, fuel + 1, F, x, S, t, h, hf, ht, hS, hM', hT => by
    obtain ⟨F1, e1, t1, f1⟩ := m_disturb (R := rOf ((x * 6364136223846793005) + 1442695040888963407)) (M := M) (fuel := fuel) (x4 := x) (x6 := x6) (x7 := nI i) (rOf_lt _) hP hS hM' hT (by rw [nI_leI (by omega) (by omega)]; omega) rfl
    have p1 := rpm_fr hM' (r := 172) (by omega) f1
    have w1 := wfs_dst (R := rOf ((x * 6364136223846793005) + 1442695040888963407)) hP hS
    obtain ⟨F2, e2, t2, f2⟩ := m_tickOn (r := 172) alen172 (by omega) hP (show t < 900000 by omega) w1 p1 t1
    obtain ⟨F3, e3, f3⟩ := m_sim (x6 := x6) hM hP d (i + 1) fuel F2 ((x * 6364136223846793005) + 1442695040888963407) _ (t + 1) (by omega) (by omega) (by omega) (wfs_tck hP w1) (rpm_fr p1 (by omega) f2) t2
    refine ⟨F3, ?_, fun x hx => by rw [f3 x hx, f2 x hx, f1 x hx]⟩
    rw [e1, e2, bnd_, nI_1]
    exact e3
end SM
theorem ag_simulate {F : MM} {t : Nat} (ht : t < 800000) (hI : INV t F) (x : Int64) (n : Int32) : AgW t [ex_iae] (s_X8_simulate F x n) (fun G => s_X9_simulate G x n) := by
  obtain ⟨P, S, L, T, m, H, kp, K, hA, hCI, hMI⟩ := id hI
  obtain ⟨hP, hS, ⟨hL, hT⟩, ⟨hm, hH⟩, hK⟩ := id hA
  obtain ⟨cP, cS, cT, cH, cK, cW⟩ := id hCI
  obtain ⟨mP, mS, mT, mH, mK⟩ := id hMI
  obtain ⟨m0, n0, -⟩ := invm_0 hMI 0
  have hN5 := hP.1.2
  have hC6 := hP.2.1.2
  have hR10 := hP.2.2.1
  have al : alen 171 = 107 := by decide
  have hb := wfs_b hS (by omega)
  unfold s_X8_simulate
  have i1 : (1 : Int32).toInt = 1 := by decide
  have i60 : (60 : Int32).toInt = 60 := by decide
  have l1 : (1 : Int64).toInt = 1 := by decide
  have l60 : (60 : Int64).toInt = 60 := by decide
  rcases arg1_ n 60 (by omega) with ⟨j, hj1, hj2, rfl⟩ | h
  · have c0 := (cG_ok (a := 1) (b := 60) rfl rfl (by omega) hj1 hj2 : s_X8_requireRange F (nI j) 1 60 = some (.inl ()))
    have d0 : ∀ G, s_X9_in G (Int32.toInt64 (nI j)) 1 60 = some 1 := fun G => in_ok (a := 1) (b := 60) l1 l60 (by omega) hj1 hj2
    obtain ⟨F1, e1, t1, f1⟩ := c_copy (a := 24) (q := 16) (by omega) cS hP
    obtain ⟨G, eG, fG⟩ := c_sim hj2 hP j 0 fu_ F1 x S t (by omega) (fu_lt (by omega)) (by omega) hS (rpc_fr cP (fun x _ _ => f1 x (by omega))) t1
    have y9 : F1 16 9 = nI (S 1) := by rw [f1 16 (by omega)]; exact cS.2.1
    rw [y9] at eG
    have eG : s_X8_simulate_b24 fu_ F1 (nI j) x 0 = _ := eG
    have j1 := invm_cl (F1 := G) hMI (fun x hx => by rw [fG x (by omega), f1 x (by omega)])
    obtain ⟨k1, k2, -⟩ := id (invm_0 j1 0)
    obtain ⟨F2, e2, t2, f2⟩ := m_cpT k2
    have v9 : F2 172 1 = nI (S 1) := t2 1 (by omega)
    obtain ⟨F3, e3, f3⟩ := m_sim (x6 := nI (S 1)) hj2 hP j 0 fu_ F2 x S t (by omega) (fu_lt (by omega)) (by omega) hS (rpm_fr k1 (r := 172) (by omega) f2) t2
    have e3 : s_X9_simulate_b55 fu_ F2 (nI j) x (nI (S 1)) 0 = _ := e3
    simp only [c0, tbW_l, e1, bnd_, eG]
    exact agW_ok (F2 := F3) (by
      show s_X9_simulate G x (nI j) = _
      unfold s_X9_simulate s_X9_simulate_b18
      simp only [d0, bnd_, ite_10, if_false, rf_0, e2, i107_, if_true, ix1_, v9, e3]) (by rw [f3 164 (by omega), f2 164 (by omega)]; exact mup_00 G 0) (inv_tri hI (F1 := G) (fun x hx => by rw [fG x (by omega), f1 x (by omega)]) (fun x h1 h2 => by rw [f3 x h2, f2 x h2, mup_ne h1]) (fun j hj => by rw [f3 164 (by omega), f2 164 (by omega), mup_self, pk_un hj]))
  · have c0 := (cG_no (by rw [i1, i60]; exact h) : s_X8_requireRange F n 1 60 = some (.inr ex_iae))
    have d0 := (in_0 (by rw [l1, l60]; exact h) : s_X9_in F (Int32.toInt64 n) 1 60 = some 0)
    simp only [c0, tbW_r]
    exact agW_no (k := 1) hI (by decide) (by decide) (by
      show s_X9_simulate F x n = _
      unfold s_X9_simulate s_X9_simulate_b18
      simp only [d0, bnd_, ite_00, if_true, rf_1])
