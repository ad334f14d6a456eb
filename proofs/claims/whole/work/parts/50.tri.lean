/-! ===== on a copy of the state ===== -/
section TR
variable {F F1 F2 : MM} {P : PL} {S S' : RW} {a n c t k v g w m : Nat}
theorem inv_tri (hI : INV t F) (h1 : ∀ x, x < 24 ∨ 32 ≤ x → F1 x = F x) (h2 : ∀ x, x ≠ 164 → x ≠ 172 → F2 x = F1 x) (h3 : ∀ j, j ≠ 0 → F2 164 j = F1 164 j) : INV t F2 := by
  obtain ⟨P, S, L, T, m, H, kp, K, hA, hC, hM⟩ := hI
  refine ⟨P, S, L, T, m, H, kp, K, hA, invc_fr hC (fun x hx => by rw [h2 x (by omega) (by omega), h1 x (by omega)]), invm_fr hM (fun j hj => by rw [h3 j (by omega), h1 164 (by omega)]) (fun x hx => by rw [h2 x (by omega) (by omega), h1 x (by omega)])⟩
theorem alen172 : alen 172 = 107 := by decide
theorem m_cpT (hR : RRow F 171 S) : ∃ F1, s_X9_copy F 171 0 172 0 107 = some F1 ∧ RRow F1 172 S ∧ ∀ x, x ≠ 172 → F1 x = F x := by
  have al1 := alen171
  have al2 := alen172
  have e : s_X9_copy F 171 0 172 0 107 = some (mrow F 172 (va_cpy (F 171) (F 172) 0 0 107)) := m_copy (F := F) (q0 := 171) (q2 := 172) (a := 0) (b := 0) (N := 107) (by omega) (by omega) (by omega) (by omega) (by omega) (by omega)
  refine ⟨_, e, fun k hk => ?_, fun x hx => mrow_ne hx⟩
  rw [mrow_self, cpy0 hk]
  exact hR k hk
theorem m_ah68 {N : Nat} (hP : WFP P) (ht : t + N < 900000) (hS : WFS P t S) (hN : N < 4000) (hn : n < pNod P) (hw : w < 7) : ∀ d i fuel F, i + d = N → d < fuel → RPM F P → RRow F 172 (tcks P S i) →
    ∃ F1, s_X9_ahead_b68 fuel F (nI N) (nI n) (nI w) (nI i) = some (tel P (tcks P S N) n w, F1) ∧ ∀ a, a ≠ 172 → F1 a = F a
  | 0, i, fuel + 1, F, h, _, hM, hR => by
    have : i = N := by omega
    subst this
    refine ⟨F, ?_, fun _ _ => rfl⟩
    rw [s_X9_ahead_b68, if_pos (by rw [nI_leI (by omega) (by omega)]; omega), m_tell (t := t + i) alen172 hR (by omega) (wfs_tcks hP hS i) hP hM hn hw]
    simp only [bnd_]
  | d + 1, i, fuel + 1, F, h, hf, hM, hR => by
    obtain ⟨F1, e1, t1, f1⟩ := m_tickOn (r := 172) alen172 (by omega) hP (show t + i < 900000 by omega) (wfs_tcks hP hS i) hM hR
    obtain ⟨F2, e2, f2⟩ := m_ah68 hP ht hS hN hn hw d (i + 1) fuel F1 (by omega) (by omega) (rpm_fr hM (by omega) f1) t1
    refine ⟨F2, ?_, fun x hx => by rw [f2 x hx, f1 x hx]⟩
    rw [← e2, s_X9_ahead_b68, if_neg (by rw [nI_leI (by omega) (by omega)]; omega), e1]
    simp only [bnd_, nI_1]
/-- when all is calm -/
def clm (P : PL) (S : RW) : Nat → Nat → Int32
  | 0, _ => -9
  | d + 1, i => if dnod P (tcks P S i) = 0 then nI i else clm P S d (i + 1)
theorem c_calm (hP : WFP P) (ht : t + 100 < 900000) (hS : WFS P t S) : ∀ d i fuel F, i + d = 100 → d < fuel → RPC F P → RSt F P 24 (tcks P S i) →
    ∃ F1, s_X8_calmAfter_b13 fuel F (nI i) = some (clm P S d i, F1) ∧ ∀ x, x < 24 ∨ 32 ≤ x → F1 x = F x
  | 0, i, fuel + 1, F, h, _, hC', hT => by
    have : i = 100 := by omega
    subst this
    exact ⟨F, by rw [s_X8_calmAfter_b13, if_pos (by decide)]; rfl, fun _ _ => rfl⟩
  | d + 1, i, fuel + 1, F, h, hf, hC', hT => by
    have hW := wfs_tcks hP hS i
    have hd := dnod_lt hP (tcks P S i)
    have e0 : clm P S (d + 1) i = if dnod P (tcks P S i) = 0 then nI i else clm P S d (i + 1) := rfl
    rw [s_X8_calmAfter_b13, if_neg (by rw [li_99, nI_ltI (by omega) (by omega)]; omega), c_driftedNodes hP hW hC' hT, e0]
    simp only [bnd_]
    by_cases h9 : dnod P (tcks P S i) = 0
    · rw [if_pos (by rw [h9]; rfl), if_pos h9]
      exact ⟨F, rfl, fun _ _ => rfl⟩
    · rw [if_neg (nI_ne0 (by omega) (by omega)), if_neg h9]
      obtain ⟨F1, e1, t1, f1⟩ := c_passTicks (a := 24) (N := 1) (by omega) hP (show t + i + 1 < 900000 by omega) hW (by omega) hC' hT
      have e1 : s_X5_passTicks F 24 1 = some F1 := e1
      obtain ⟨F2, e2, f2⟩ := c_calm hP ht hS d (i + 1) fuel F1 (by omega) (by omega) (rpc_fr hC' (fun x _ _ => f1 x (by omega))) t1
      refine ⟨F2, ?_, fun x hx => by rw [f2 x hx, f1 x (by omega)]⟩
      rw [← e2, e1]
      simp only [bnd_, nI_1]
theorem m_calm (hP : WFP P) (ht : t + 100 < 900000) (hS : WFS P t S) : ∀ d i fuel F, i + d = 100 → d < fuel → RPM F P → RRow F 172 (tcks P S i) →
    ∃ F1, s_X9_calmAfter_b22 fuel F (nI i) = some (clm P S d i, F1) ∧ ∀ x, x ≠ 172 → F1 x = F x
  | 0, i, fuel + 1, F, h, _, hM, hR => by
    have : i = 100 := by omega
    subst this
    exact ⟨F, by rw [s_X9_calmAfter_b22, if_pos (by decide)]; rfl, fun _ _ => rfl⟩
  | d + 1, i, fuel + 1, F, h, hf, hM, hR => by
    have hN := hP.1.2
    have hW := wfs_tcks hP hS i
    have hd := bsum_lt (fun n => !(decide (dset P (tcks P S i) n = 0))) (pNod P)
    have hc := dnod_calm P (tcks P S i)
    have hcl := calm_lt P hP (tcks P S i)
    have h32 : 2 ^ pNod P ≤ 32 := Nat.le_trans (Nat.pow_le_pow_right (by decide) hN) (by decide)
    have e0 : clm P S (d + 1) i = if dnod P (tcks P S i) = 0 then nI i else clm P S d (i + 1) := rfl
    rw [s_X9_calmAfter_b22, if_neg (by rw [li_100, nI_leI (by omega) (by omega)]; omega), m_calmNodes alen172 hR (wfs_b hW (by omega)) hP hM, hM.1, i_full_all (pNod P) (by omega), e0]
    simp only [bnd_]
    have hd : dnod P (tcks P S i) < 2 ^ pNod P := hd
    by_cases h9 : dnod P (tcks P S i) = 0
    · rw [if_pos (by rw [hc, h9]; rfl), if_pos h9]
      exact ⟨F, rfl, fun _ _ => rfl⟩
    · rw [if_neg (by rw [nI_eq (by omega) (by omega)]; omega), if_neg h9]
      obtain ⟨F1, e1, t1, f1⟩ := m_tickOn (r := 172) alen172 (by omega) hP (show t + i < 900000 by omega) hW hM hR
      obtain ⟨F2, e2, f2⟩ := m_calm hP ht hS d (i + 1) fuel F1 (by omega) (by omega) (rpm_fr hM (by omega) f1) t1
      refine ⟨F2, ?_, fun x hx => by rw [f2 x hx, f1 x hx]⟩
      rw [← e2, e1]
      simp only [bnd_, nI_1]
end TR
/-! ===== they agree ===== -/
theorem ag_ahead {F : MM} {t : Nat} (ht : t < 800000) (hI : INV t F) (s n w : Int32) : AgW (t) [ex_ioo, ex_iae] (s_X8_ahead F s n w) (fun G => s_X9_ahead G s n w) := by
  obtain ⟨P, S, L, T, m, H, kp, K, hA, hCI, hMI⟩ := id hI
  obtain ⟨hP, hS, ⟨hL, hT⟩, ⟨hm, hH⟩, hK⟩ := id hA
  obtain ⟨cP, cS, cT, cH, cK, cW⟩ := id hCI
  obtain ⟨mP, mS, mT, mH, mK⟩ := id hMI
  obtain ⟨m0, n0, -⟩ := invm_0 hMI 0
  have hN5 := hP.1.2
  have hC6 := hP.2.1.2
  have hR10 := hP.2.2.1
  have al : alen 171 = 107 := by decide
  have hb := wfs_b hS (by omega)
  have hI2 : INV (t) F := inv_mono hI (by omega)
  unfold s_X8_ahead
  rcases arg_ n (n := pNod P) (by have := hP.1.2; omega) with ⟨jn, hn, rfl⟩ | on
  · have c0 := (cN_ok hP cP hn : s_X8_requireNode F (nI jn) = some (.inl ()))
    have d0 := (mN_ok hP mP hn : s_X9_isNode F (nI jn) = some 1)
    rcases arg_ s (n := 100) (by omega) with ⟨js, hs, rfl⟩ | os
    · have c1 := (cG_ok (a := 0) (b := 99) rfl rfl (by omega) (by omega) (by omega) : s_X8_requireRange F (nI js) 0 99 = some (.inl ()))
      have d1 := (in_ok (a := 0) (b := 99) (by decide) (by decide) (by omega) (by omega) (by omega) : s_X9_in F (Int32.toInt64 (nI js)) 0 99 = some 1)
      rcases arg_ w (n := 7) (by omega) with ⟨jw, hw, rfl⟩ | ow
      · have c2 := (cG_ok (a := 0) (b := 6) rfl rfl (by omega) (by omega) (by omega) : s_X8_requireRange F (nI jw) 0 6 = some (.inl ()))
        have d2 := (in_ok (a := 0) (b := 6) (by decide) (by decide) (by omega) (by omega) (by omega) : s_X9_in F (Int32.toInt64 (nI jw)) 0 6 = some 1)
        obtain ⟨F1, e1, t1, f1⟩ := c_copy (a := 24) (q := 16) (by omega) cS hP
        obtain ⟨G, eG, tG, fG⟩ := c_passTicks (a := 24) (N := js) (by omega) hP (show t + js < 900000 by omega) hS (by omega) (rpc_fr cP (fun x _ _ => f1 x (by omega))) t1
        have pG : RPC G P := rpc_fr cP (fun x _ _ => by rw [fG x (by omega), f1 x (by omega)])
        have q1 := c_numberOf (t := t + js) hP (by omega) (wfs_tcks hP hS js) pG tG hn hw
        have j1 := invm_cl (F1 := G) hMI (fun x hx => by rw [fG x (by omega), f1 x (by omega)])
        have mP1 := j1.1
        have d0 := (mN_ok hP mP1 hn : s_X9_isNode G (nI jn) = some 1)
        have d1 := (in_ok (a := 0) (b := 99) (by decide) (by decide) (by omega) (by omega) (by omega) : s_X9_in G (Int32.toInt64 (nI js)) 0 99 = some 1)
        have d2 := (in_ok (a := 0) (b := 6) (by decide) (by decide) (by omega) (by omega) (by omega) : s_X9_in G (Int32.toInt64 (nI jw)) 0 6 = some 1)
        obtain ⟨k1, k2, -⟩ := id (invm_0 j1 0)
        obtain ⟨F2, e2, t2, f2⟩ := m_cpT k2
        obtain ⟨F3, e3, f3⟩ := m_ah68 (N := js) hP (show t + js < 900000 by omega) hS (by omega) hn hw js 0 fu_ F2 (by omega) (fu_lt (by omega)) (rpm_fr k1 (r := 172) (by omega) f2) t2
        have e3 : s_X9_ahead_b68 fu_ F2 (nI js) (nI jn) (nI jw) 0 = _ := e3
        simp only [c0, c1, c2, tbW_l, e1, eG, bnd_, q1]
        exact agW_ok (F2 := F3) (by
          show s_X9_ahead G (nI js) (nI jn) (nI jw) = _
          unfold s_X9_ahead s_X9_ahead_b42
          simp only [d0, d1, d2, bnd_, ite_10, ite_00, if_true, rf_0, e2, e3]) (by rw [f3 164 (by omega), f2 164 (by omega)]; exact mup_00 G 0) (inv_tri hI2 (F1 := G) (fun x hx => by rw [fG x (by omega), f1 x (by omega)]) (fun x h1 h2 => by rw [f3 x h2, f2 x h2, mup_ne h1]) (fun j hj => by rw [f3 164 (by omega), f2 164 (by omega), mup_self, pk_un hj]))
      · have c2 := (cV_no (b := 6) (by decide) (by omega) ow : s_X8_requireRange F w 0 6 = some (.inr ex_iae))
        have d2 := (in_no (b := 6) (by decide) (by omega) ow : s_X9_in F (Int32.toInt64 w) 0 6 = some 0)
        simp only [c0, c1, c2, tbW_l, tbW_r]
        exact agW_no (k := 2) hI2 (by decide) (by decide) (by
          show s_X9_ahead F (nI js) (nI jn) w = _
          unfold s_X9_ahead s_X9_ahead_b42
          simp only [d0, d1, d2, bnd_, ite_10, ite_00, if_true, rf_0, rf_1, rf_2, rf_3])
    · have c1 := (cV_no (b := 99) (by decide) (by omega) os : s_X8_requireRange F s 0 99 = some (.inr ex_iae))
      have d1 := (in_no (b := 99) (by decide) (by omega) os : s_X9_in F (Int32.toInt64 s) 0 99 = some 0)
      simp only [c0, c1, tbW_l, tbW_r]
      exact agW_no (k := 2) hI2 (by decide) (by decide) (by
        show s_X9_ahead F s (nI jn) w = _
        unfold s_X9_ahead s_X9_ahead_b42
        simp only [d0, d1, bnd_, ite_10, ite_00, if_true, rf_0, rf_1, rf_2, rf_3])
  · have c0 := (cN_no cP on : s_X8_requireNode F n = some (.inr ex_ioo))
    have d0 := (mN_no hP mP on : s_X9_isNode F n = some 0)
    simp only [c0, tbW_l, tbW_r]
    exact agW_no (k := 1) hI2 (by decide) (by decide) (by
      show s_X9_ahead F s n w = _
      unfold s_X9_ahead s_X9_ahead_b42
      simp only [d0, bnd_, ite_10, ite_00, if_true, rf_0, rf_1, rf_2, rf_3])
theorem ag_calmAfter {F : MM} {t : Nat} (ht : t < 800000) (hI : INV t F) : AgN t (s_X8_calmAfter F) (fun G => s_X9_calmAfter G) := by
  obtain ⟨P, S, L, T, m, H, kp, K, hA, hCI, hMI⟩ := id hI
  obtain ⟨hP, hS, ⟨hL, hT⟩, ⟨hm, hH⟩, hK⟩ := id hA
  obtain ⟨cP, cS, cT, cH, cK, cW⟩ := id hCI
  obtain ⟨mP, mS, mT, mH, mK⟩ := id hMI
  obtain ⟨m0, n0, -⟩ := invm_0 hMI 0
  have hN5 := hP.1.2
  have hC6 := hP.2.1.2
  have hR10 := hP.2.2.1
  have al : alen 171 = 107 := by decide
  have hb := wfs_b hS (by omega)
  obtain ⟨F1, e1, t1, f1⟩ := c_copy (a := 24) (q := 16) (by omega) cS hP
  obtain ⟨G, eG, fG⟩ := c_calm hP (show t + 100 < 900000 by omega) hS 100 0 fu_ F1 (by omega) (fu_lt (by omega)) (rpc_fr cP (fun x _ _ => f1 x (by omega))) t1
  have eG : s_X8_calmAfter_b13 fu_ F1 0 = _ := eG
  have j1 := invm_cl (F1 := G) hMI (fun x hx => by rw [fG x (by omega), f1 x (by omega)])
  obtain ⟨k1, k2, -⟩ := id (invm_0 j1 0)
  obtain ⟨F2, e2, t2, f2⟩ := m_cpT k2
  obtain ⟨F3, e3, f3⟩ := m_calm hP (show t + 100 < 900000 by omega) hS 100 0 fu_ F2 (by omega) (fu_lt (by omega)) (rpm_fr k1 (r := 172) (by omega) f2) t2
  have e3 : s_X9_calmAfter_b22 fu_ F2 0 = _ := e3
  refine ⟨clm P S 100 0, G, F3, ?_, ?_, inv_tri hI (F1 := G) (fun x hx => by rw [fG x hx, f1 x (by omega)]) (fun x h1 h2 => by rw [f3 x h2, f2 x h2, mup_ne h1]) (fun j hj => by rw [f3 164 (by omega), f2 164 (by omega), mup_self, pk_un hj])⟩
  · unfold s_X8_calmAfter
    rw [e1, bnd_]
    exact eG
  · show s_X9_calmAfter G = _
    unfold s_X9_calmAfter
    rw [bnd_, e2, bnd_]
    exact e3
