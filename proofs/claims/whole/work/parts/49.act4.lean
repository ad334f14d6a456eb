/-! ===== actions with loops, and what is kept ===== -/
theorem ag_wishRing {F : MM} {t : Nat} (ht : t < 800000) (hI : INV t F) (g c v : Int32) : AgW (t) [ex_ioo, ex_iae] (s_X8_wishRing F g c v) (fun G => s_X9_wishRing G g c v) := by
  obtain ⟨P, S, L, T, m, H, kp, K, hA, hCI, hMI⟩ := id hI
  obtain ⟨hP, hS, ⟨hL, hT⟩, ⟨hm, hH⟩, hK⟩ := id hA
  obtain ⟨cP, cS, cT, cH, cK, cW⟩ := id hCI
  obtain ⟨mP, mS, mT, mH, mK⟩ := id hMI
  obtain ⟨m0, n0, -⟩ := invm_0 hMI 0
  have hN5 := hP.1.2
  have hC6 := hP.2.1.2
  have hR10 := hP.2.2.1
  have al : alen 171 = 107 := by decide
  have hb := wfs_b hS (by omega)
  have hI2 : INV (t) F := inv_mono hI (by omega)
  unfold s_X8_wishRing
  rcases arg_ c (n := pPar P) (by have := hP.2.1.2; omega) with ⟨jc, hc, rfl⟩ | oc
  · have c0 := (cP_ok hP cP hc : s_X8_requireComponent F (nI jc) = some (.inl ()))
    have d0 := (mP_ok hP mP hc : s_X9_isPart F (nI jc) = some 1)
    rcases arg_ g (n := 3) (by omega) with ⟨jg, hg, rfl⟩ | og
    · have c1 := (cG_ok (a := 0) (b := 2) rfl rfl (by omega) (by omega) (by omega) : s_X8_requireRange F (nI jg) 0 2 = some (.inl ()))
      have d1 := (in_ok (a := 0) (b := 2) (by decide) (by decide) (by omega) (by omega) (by omega) : s_X9_in F (Int32.toInt64 (nI jg)) 0 2 = some 1)
      rcases arg_ v (n := 4) (by omega) with ⟨jv, hv, rfl⟩ | ov
      · have c2 := (cG_ok (a := 0) (b := 3) rfl rfl (by omega) (by omega) (by omega) : s_X8_requireRange F (nI jv) 0 3 = some (.inl ()))
        have d2 := (mV_ok hv : s_X9_isVersion F (nI jv) = some 1)
        obtain ⟨F1, e1, i1, f1⟩ := invc_rem hCI hP hm
        obtain ⟨p1, s1, -⟩ := id i1
        obtain ⟨G, eG, tG, fG⟩ := c_wr (g := jg) hP hS hc hv (by omega) (pNod P) 0 fu_ F1 (by omega) (fu_lt (by omega)) p1 s1
        have i2 := invc_st i1 tG fG
        have j1 := invm_cl (F1 := G) hMI (fun x hx => by rw [fG x (by omega), f1 x (by omega)])
        have mP1 := j1.1
        have d0 := (mP_ok hP mP1 hc : s_X9_isPart G (nI jc) = some 1)
        have d1 := (in_ok (a := 0) (b := 2) (by decide) (by decide) (by omega) (by omega) (by omega) : s_X9_in G (Int32.toInt64 (nI jg)) 0 2 = some 1)
        have d2 := (mV_ok hv : s_X9_isVersion G (nI jv) = some 1)
        obtain ⟨F2, e2, k2, z2, f2⟩ := invm_note (invm_0 j1 0) hm
        obtain ⟨F3, e3, t3, f3⟩ := m_wr (g := jg) hP hS hc hv (by omega) (pNod P) 0 fu_ F2 (by omega) (fu_lt (by omega)) k2.1 k2.2.1
        have eG : s_X8_wishRing_b34 fu_ F1 (nI jg) (nI jc) (nI jv) 0 0 = _ := eG
        have e3 : s_X9_wishRing_b55 fu_ F2 (nI jg) (nI jc) (nI jv) 0 0 = _ := e3
        simp only [c0, c1, c2, tbW_l, e1, bnd_, eG]
        exact agW_ok (F2 := F3) (by
          show s_X9_wishRing G (nI jg) (nI jc) (nI jv) = _
          unfold s_X9_wishRing
          simp only [d0, d1, d2, bnd_, ite_10, ite_00, if_true, rf_0, e2, e3]) (by rw [f3 164 (by omega)]; exact z2) (inv_act hA (wfs_wrN hP hS hc hv _ (Nat.le_refl _)) (Nat.le_refl _) i2 (invm_row k2 t3 f3) (fun x hx => by rw [f3 x (by omega), f2 x hx, mup_ne (by omega)]))
      · have c2 := (cV_no (b := 3) (by decide) (by omega) ov : s_X8_requireRange F v 0 3 = some (.inr ex_iae))
        have d2 := (mV_no ov : s_X9_isVersion F v = some 0)
        simp only [c0, c1, c2, tbW_l, tbW_r]
        exact agW_no (k := 2) hI2 (by decide) (by decide) (by
          show s_X9_wishRing F (nI jg) (nI jc) v = _
          unfold s_X9_wishRing
          simp only [d0, d1, d2, bnd_, ite_10, ite_00, if_true, rf_0, rf_1, rf_2, rf_3])
    · have c1 := (cV_no (b := 2) (by decide) (by omega) og : s_X8_requireRange F g 0 2 = some (.inr ex_iae))
      have d1 := (in_no (b := 2) (by decide) (by omega) og : s_X9_in F (Int32.toInt64 g) 0 2 = some 0)
      simp only [c0, c1, tbW_l, tbW_r]
      exact agW_no (k := 2) hI2 (by decide) (by decide) (by
        show s_X9_wishRing F g (nI jc) v = _
        unfold s_X9_wishRing
        simp only [d0, d1, bnd_, ite_10, ite_00, if_true, rf_0, rf_1, rf_2, rf_3])
  · have c0 := (cP_no cP oc : s_X8_requireComponent F c = some (.inr ex_ioo))
    have d0 := (mP_no hP mP oc : s_X9_isPart F c = some 0)
    simp only [c0, tbW_l, tbW_r]
    exact agW_no (k := 1) hI2 (by decide) (by decide) (by
      show s_X9_wishRing F g c v = _
      unfold s_X9_wishRing
      simp only [d0, bnd_, ite_10, ite_00, if_true, rf_0, rf_1, rf_2, rf_3])
theorem ag_dismiss {F : MM} {t : Nat} (ht : t < 800000) (hI : INV t F) (w : Int32) : AgW (t) [ex_ioo] (s_X8_dismiss F w) (fun G => s_X9_dismiss G w) := by
  obtain ⟨P, S, L, T, m, H, kp, K, hA, hCI, hMI⟩ := id hI
  obtain ⟨hP, hS, ⟨hL, hT⟩, ⟨hm, hH⟩, hK⟩ := id hA
  obtain ⟨cP, cS, cT, cH, cK, cW⟩ := id hCI
  obtain ⟨mP, mS, mT, mH, mK⟩ := id hMI
  obtain ⟨m0, n0, -⟩ := invm_0 hMI 0
  have hN5 := hP.1.2
  have hC6 := hP.2.1.2
  have hR10 := hP.2.2.1
  have al : alen 171 = 107 := by decide
  have hb := wfs_b hS (by omega)
  have hI2 : INV (t) F := inv_mono hI (by omega)
  unfold s_X8_dismiss
  rcases arg_ w (n := 5) (by omega) with ⟨jw, hw, rfl⟩ | ow
  · have c0 := (cA_ok hw : s_X8_requireApprover F (nI jw) = some (.inl ()))
    have d0 := (in_ok (a := 0) (b := 4) (by decide) (by decide) (by omega) (by omega) (by omega) : s_X9_in F (Int32.toInt64 (nI jw)) 0 4 = some 1)
    obtain ⟨F1, e1, i1, f1⟩ := invc_rem hCI hP hm
    obtain ⟨p1, s1, -⟩ := id i1
    obtain ⟨G, eG, tG, fG⟩ := c_ds hP hS hw (4 * pPar P) 0 fu_ F1 (by omega) (fu_lt (by omega)) s1
    have i2 := invc_st i1 tG fG
    have j1 := invm_cl (F1 := G) hMI (fun x hx => by rw [fG x (by omega), f1 x (by omega)])
    have mP1 := j1.1
    have d0 := (in_ok (a := 0) (b := 4) (by decide) (by decide) (by omega) (by omega) (by omega) : s_X9_in G (Int32.toInt64 (nI jw)) 0 4 = some 1)
    obtain ⟨F2, e2, k2, z2, f2⟩ := invm_note (invm_0 j1 0) hm
    obtain ⟨F3, e3, t3, f3⟩ := m_ds34 hP hS hw (pPar P) 0 fu_ F2 (by omega) (fu_lt (by omega)) k2.1 k2.2.1
    have eG : s_X8_dismiss_b19 fu_ F1 (nI jw) 0 0 = _ := eG
    have e3 : s_X9_dismiss_b34 fu_ F2 (nI jw) 0 0 = _ := e3
    simp only [c0, tbW_l, e1, bnd_, eG]
    exact agW_ok (F2 := F3) (by
      show s_X9_dismiss G (nI jw) = _
      unfold s_X9_dismiss
      simp only [d0, bnd_, ite_10, ite_00, if_true, rf_0, e2, e3]) (by rw [f3 164 (by omega)]; exact z2) (inv_act hA (wfs_dsm hP hS hw _ (Nat.le_refl _)) (Nat.le_refl _) i2 (invm_row k2 t3 f3) (fun x hx => by rw [f3 x (by omega), f2 x hx, mup_ne (by omega)]))
  · have c0 := (cA_no ow : s_X8_requireApprover F w = some (.inr ex_ioo))
    have d0 := (in_no (b := 4) (by decide) (by omega) ow : s_X9_in F (Int32.toInt64 w) 0 4 = some 0)
    simp only [c0, tbW_l, tbW_r]
    exact agW_no (k := 1) hI2 (by decide) (by decide) (by
      show s_X9_dismiss F w = _
      unfold s_X9_dismiss
      simp only [d0, bnd_, ite_10, ite_00, if_true, rf_0, rf_1, rf_2, rf_3])
theorem arg1_ (x : Int32) (b : Nat) (hb : b < 2 ^ 30) : (∃ j, 1 ≤ j ∧ j ≤ b ∧ x = nI j) ∨ (x.toInt < 1 ∨ (b : Int) < x.toInt) := by
  rcases arg_ x (n := b + 1) (by omega) with ⟨j, hj, rfl⟩ | h
  · by_cases h0 : j = 0
    · subst h0
      exact Or.inr (Or.inl (by rw [nI_toInt (by omega)]; omega))
    · exact Or.inl ⟨j, by omega, by omega, rfl⟩
  · have := out_toInt (by omega) h
    exact Or.inr (by omega)
theorem ag_tick {F : MM} {t : Nat} (ht : t < 800000) (hI : INV t F) (n : Int32) : AgW (t + 50) [ex_iae] (s_X8_tick F n) (fun G => s_X9_tick G n) := by
  obtain ⟨P, S, L, T, m, H, kp, K, hA, hCI, hMI⟩ := id hI
  obtain ⟨hP, hS, ⟨hL, hT⟩, ⟨hm, hH⟩, hK⟩ := id hA
  obtain ⟨cP, cS, cT, cH, cK, cW⟩ := id hCI
  obtain ⟨mP, mS, mT, mH, mK⟩ := id hMI
  obtain ⟨m0, n0, -⟩ := invm_0 hMI 0
  have hN5 := hP.1.2
  have hC6 := hP.2.1.2
  have hR10 := hP.2.2.1
  have al : alen 171 = 107 := by decide
  have hb := wfs_b hS (by omega)
  have hI2 : INV (t + 50) F := inv_mono hI (by omega)
  unfold s_X8_tick
  have i1 : (1 : Int32).toInt = 1 := by decide
  have i50 : (50 : Int32).toInt = 50 := by decide
  have l1 : (1 : Int64).toInt = 1 := by decide
  have l50 : (50 : Int64).toInt = 50 := by decide
  rcases arg1_ n 50 (by omega) with ⟨j, hj1, hj2, rfl⟩ | h
  · have c0 := (cG_ok (a := 1) (b := 50) rfl rfl (by omega) hj1 hj2 : s_X8_requireRange F (nI j) 1 50 = some (.inl ()))
    obtain ⟨F1, e1, i1, f1⟩ := invc_rem hCI hP hm
    obtain ⟨p1, s1, -⟩ := id i1
    obtain ⟨G, eG, tG, fG⟩ := c_passTicks (a := 16) (N := j) (by omega) hP (show t + j < 900000 by omega) hS (by omega) p1 s1
    have i2 := invc_st i1 tG fG
    have j1 := invm_cl (F1 := G) hMI (fun x hx => by rw [fG x (by omega), f1 x (by omega)])
    have d0 := (in_ok (a := 1) (b := 50) l1 l50 (by omega) hj1 hj2 : s_X9_in G (Int32.toInt64 (nI j)) 1 50 = some 1)
    obtain ⟨F2, e2, k2, z2, f2⟩ := invm_note (invm_0 j1 0) hm
    obtain ⟨F3, e3, t3, f3⟩ := m_tick39 (N := j) (x2 := nI (S 1)) hP (show t + j < 900000 by omega) hS (by omega) j 0 fu_ F2 (by omega) (fu_lt (by omega)) k2.1 k2.2.1
    have e3 : s_X9_tick_b39 fu_ F2 (nI j) (nI (S 1)) 0 = _ := e3
    have y9 : F1 16 9 = nI (S 1) := s1.2.1
    have x9 : G 16 9 = nI (tcks P S j 1) := tG.2.1
    have v9 : F2 171 1 = nI (S 1) := k2.2.1 1 (by omega)
    simp only [c0, tbW_l, e1, bnd_, eG, y9, x9]
    exact agW_ok (F2 := F3) (by
      show s_X9_tick G (nI j) = _
      unfold s_X9_tick
      simp only [d0, bnd_, ite_10, ite_00, if_true, rf_0, e2, show inb 1 107 = true by decide, if_true, show ix 1 = 1 from rfl, v9, e3]) (by rw [f3 164 (by omega)]; exact z2) (inv_act hA (wfs_mono (wfs_tcks hP hS j) (by omega)) (by omega) i2 (invm_row k2 t3 f3) (fun x hx => by rw [f3 x (by omega), f2 x hx, mup_ne (by omega)]))
  · have c0 := (cG_no (by rw [i1, i50]; exact h) : s_X8_requireRange F n 1 50 = some (.inr ex_iae))
    have d0 := (in_0 (by rw [l1, l50]; exact h) : s_X9_in F (Int32.toInt64 n) 1 50 = some 0)
    simp only [c0, tbW_r]
    exact agW_no (k := 1) hI2 (by decide) (by decide) (by
      show s_X9_tick F n = _
      unfold s_X9_tick
      simp only [d0, bnd_, ite_10, ite_00, if_true, rf_1])
theorem ag_undo {F : MM} {t : Nat} (ht : t < 800000) (hI : INV t F) : AgW t [ex_ise] (s_X8_undo F) (fun G => s_X9_undo G) := by
  obtain ⟨P, S, L, T, m, H, kp, K, hA, hCI, hMI⟩ := id hI
  obtain ⟨hP, hS, ⟨hL, hT⟩, ⟨hm, hH⟩, hK⟩ := id hA
  obtain ⟨cP, cS, cT, cH, cK, cW⟩ := id hCI
  obtain ⟨mP, mS, mT, mH, mK⟩ := id hMI
  obtain ⟨m0, n0, -⟩ := invm_0 hMI 0
  have hN5 := hP.1.2
  have hC6 := hP.2.1.2
  have hR10 := hP.2.2.1
  have al : alen 171 = 107 := by decide
  have hb := wfs_b hS (by omega)
  unfold s_X8_undo
  have q1 : F 32 2 = nI m := cH.1
  have q2 : F 164 22 = nI m := mH.1
  by_cases h0 : m = 0
  · subst h0
    rw [q1, if_pos (by decide)]
    exact agW_no (k := 1) hI (by decide) (by decide) (by
      show s_X9_undo F = _
      unfold s_X9_undo s_X9_undo_b13
      rw [q2, if_pos (by decide), rf_1])
  · obtain ⟨m, rfl⟩ : ∃ m2, m = m2 + 1 := ⟨m - 1, by omega⟩
    rw [q1, if_neg (nI_ne0 (by omega) (by omega))]
    obtain ⟨G, eG, tG, kG, fG⟩ := c_takeBack hP hm cH
    have i2 : INVC G P (H 0) L T m (fun d => H (d + 1)) kp K := by
      refine ⟨rpc_fr cP (fun x _ _ => fG x (by omega)), tG, ?_, kG, rsl_fr cK (fun x _ _ => fG x (by omega)), rwy_fr cW (fun x _ _ => fG x (by omega))⟩
      unfold RTC
      rw [fG 0 (by omega), fG 1 (by omega)]
      exact cT
    have j1 := invm_cl (F1 := G) hMI (fun x hx => fG x (by omega))
    have g2 : G 164 22 = nI (m + 1) := j1.2.2.2.1.1
    have gd := j1.2.2.2.1.2
    have al3 := alen173
    simp only [eG, bnd_]
    rw [show G 32 2 = nI m from kG.1]
    obtain ⟨F6, hF6⟩ : ∃ F6, F6 = mup (mup G 164 0 0) 164 22 (nI m) := ⟨_, rfl⟩
    have g6 : F6 164 22 = nI m := by rw [hF6, mup_self, pk_us]
    have n6 : ∀ x, x ≠ 164 → F6 x = G x := fun x hx => by rw [hF6, mup_ne hx, mup_ne hx]
    have j6 : ∀ j, j ≠ 0 → j ≠ 22 → F6 164 j = G 164 j := fun j h1 h2 => by rw [hF6, mup_self, pk_un h2, mup_self, pk_un h1]
    have e9 : s_X9_copy F6 173 (nI (107 * m)) 171 0 107 = some (mrow F6 171 (va_cpy (F6 173) (F6 171) (107 * m) 0 107)) := m_copy (F := F6) (q0 := 173) (q2 := 171) (a := 107 * m) (b := 0) (N := 107) (by omega) (by omega) (by omega) (by omega) (by omega) (by omega)
    refine agW_ok (F2 := mrow F6 171 (va_cpy (F6 173) (F6 171) (107 * m) 0 107)) ?_ (by rw [mrow_ne (by omega), hF6, mup_self, pk_un (by omega), mup_self, pk_us]) ⟨P, H 0, L, T, m, fun d => H (d + 1), kp, K, ⟨hP, hH 0 (by omega), ⟨hL, hT⟩, ⟨by omega, fun d hd => hH (d + 1) (by omega)⟩, hK⟩, invc_m i2 (fun x hx => by rw [mrow_ne (by omega), n6 x (by omega)]), ?_⟩
    · show s_X9_undo G = _
      unfold s_X9_undo s_X9_undo_b13
      rw [g2, if_neg (nI_ne0 (by omega) (by omega)), rf_0]
      simp only [bnd_]
      rw [mup_self (mup G 164 0 0) 164 22, pk_us, mup_self G 164 0 0, pk_un (by omega), g2, show nI (m + 1) - 1 = nI m from nI_pred m, ← hF6, li_107, pk_mul, ← li_107, e9]
      simp only [bnd_]
      rw [mrow_ne (by omega), g6]
    · obtain ⟨k1, k2, k3, k4, k5⟩ := id j1
      refine ⟨?_, fun k hk => ?_, ?_, ⟨by rw [mrow_ne (by omega)]; exact g6, fun d k hd hk => ?_⟩, ?_⟩
      · unfold RPM
        rw [mrow_ne (show (164 : Nat) ≠ 171 by omega), mrow_ne (show (166 : Nat) ≠ 171 by omega), mrow_ne (show (167 : Nat) ≠ 171 by omega), n6 166 (by omega), n6 167 (by omega), j6 4 (by omega) (by omega), j6 5 (by omega) (by omega), j6 6 (by omega) (by omega), j6 7 (by omega) (by omega), j6 8 (by omega) (by omega)]
        exact k1
      · rw [mrow_self, pk_cpy_in (by omega) (by omega), n6 173 (by omega), show 107 * m + (k - 0) = 107 * (m + 1 - 1 - 0) + k by omega]
        exact gd 0 k (by omega) hk
      · unfold RTM
        rw [mrow_ne (show (164 : Nat) ≠ 171 by omega), mrow_ne (show (165 : Nat) ≠ 171 by omega), n6 165 (by omega), j6 2 (by omega) (by omega)]
        exact k3
      · rw [mrow_ne (by omega), n6 173 (by omega), show m - 1 - d = m + 1 - 1 - (d + 1) by omega]
        exact gd (d + 1) k (by omega) hk
      · unfold RKe
        rw [mrow_ne (show (174 : Nat) ≠ 171 by omega), mrow_ne (show (175 : Nat) ≠ 171 by omega), n6 174 (by omega), n6 175 (by omega)]
        exact k5
theorem ag_save {F : MM} {t : Nat} (ht : t < 800000) (hI : INV t F) (s : Int32) : AgW (t) [ex_ioo] (s_X8_save F s) (fun G => s_X9_save G s) := by
  obtain ⟨P, S, L, T, m, H, kp, K, hA, hCI, hMI⟩ := id hI
  obtain ⟨hP, hS, ⟨hL, hT⟩, ⟨hm, hH⟩, hK⟩ := id hA
  obtain ⟨cP, cS, cT, cH, cK, cW⟩ := id hCI
  obtain ⟨mP, mS, mT, mH, mK⟩ := id hMI
  obtain ⟨m0, n0, -⟩ := invm_0 hMI 0
  have hN5 := hP.1.2
  have hC6 := hP.2.1.2
  have hR10 := hP.2.2.1
  have al : alen 171 = 107 := by decide
  have hb := wfs_b hS (by omega)
  have hI2 : INV (t) F := inv_mono hI (by omega)
  unfold s_X8_save
  rcases arg_ s (n := 2) (by omega) with ⟨js, hs, rfl⟩ | os
  · have c0 := (cS_ok hs : s_X8_requireSlot F (nI js) = some (.inl ()))
    have d0 := (in_ok (a := 0) (b := 1) (by decide) (by decide) (by omega) (by omega) (by omega) : s_X9_in F (Int32.toInt64 (nI js)) 0 1 = some 1)
    obtain ⟨F6, e6, t6, f6⟩ := c_copy (a := 148 + 8 * js) (q := 16) (by omega) cS hP
    obtain ⟨G, hG⟩ : ∃ G, G = mup F6 147 js 1 := ⟨_, rfl⟩
    have fG : ∀ x, x < 147 ∨ 164 ≤ x → G x = F x := fun x hx => by rw [hG, mup_ne (by omega), f6 x (by omega)]
    have g8 : G 16 8 = nI (S 0) := by rw [fG 16 (by omega)]; exact cS.1
    have b1 : vp_nar .boolean 1 = 1 := by decide
    obtain ⟨kp2, hkp⟩ : ∃ kp2 : Nat → Bool, kp2 = fun j => if j = js then true else kp j := ⟨_, rfl⟩
    obtain ⟨K2, hK2⟩ : ∃ K2 : Nat → RW, K2 = fun j => if j = js then S else K j := ⟨_, rfl⟩
    have i2 : INVC G P S L T m H kp2 K2 := by
      refine ⟨rpc_fr cP (fun x _ _ => fG x (by omega)), rst_fr cS (fun x _ _ => fG x (by omega)), ?_, rme_fr cH (fun x _ _ => fG x (by omega)), fun j hj => ?_, rwy_fr cW (fun x _ _ => fG x (by omega))⟩
      · unfold RTC
        rw [fG 0 (by omega), fG 1 (by omega)]
        exact cT
      · by_cases h9 : j = js
        · subst h9
          rw [hkp, hK2, hG]
          simp only [if_true]
          exact ⟨by rw [mup_self, pk_us]; rfl, fun _ => rst_fr t6 (fun x _ _ => mup_ne (by omega))⟩
        · obtain ⟨q1, q2⟩ := cK j hj
          rw [hkp, hK2, hG]
          simp only [if_neg h9]
          exact ⟨by rw [mup_self, pk_un h9, f6 147 (by omega)]; exact q1, fun hk => rst_fr (q2 hk) (fun x _ _ => by rw [mup_ne (by omega), f6 x (by omega)])⟩
    have j1 := invm_cl (F1 := G) hMI (fun x hx => fG x (by omega))
    have d0 := (in_ok (a := 0) (b := 1) (by decide) (by decide) (by omega) (by omega) (by omega) : s_X9_in G (Int32.toInt64 (nI js)) 0 1 = some 1)
    simp only [c0, tbW_l]
    rw [inb_nI hs (by omega), ix_nI (by omega), if_pos rfl, e6]
    simp only [bnd_, if_true, b1]
    rw [← hG, g8]
    obtain ⟨k1, k2, k3, k4, k5⟩ := id (invm_0 j1 0)
    have al4 : alen 174 = 214 := by decide
    have al1 := alen171
    obtain ⟨F9, hF9⟩ : ∃ F9, F9 = mup (mup G 164 0 0) 175 js 1 := ⟨_, rfl⟩
    have e9 : s_X9_copy F9 171 0 174 (nI (107 * js)) 107 = some (mrow F9 174 (va_cpy (F9 171) (F9 174) 0 (107 * js) 107)) := m_copy (F := F9) (q0 := 171) (q2 := 174) (a := 0) (b := 107 * js) (N := 107) (by omega) (by omega) (by omega) (by omega) (by omega) (by omega)
    have n9 : ∀ x, x ≠ 175 → F9 x = (mup G 164 0 0) x := fun x hx => by rw [hF9, mup_ne hx]
    refine agW_ok (F2 := mrow F9 174 (va_cpy (F9 171) (F9 174) 0 (107 * js) 107)) ?_ (by rw [mrow_ne (by omega), n9 164 (by omega)]; exact mup_00 G 0) ⟨P, S, L, T, m, H, kp2, K2, ⟨hP, hS, ⟨hL, hT⟩, ⟨hm, hH⟩, fun j hj hk => ?_⟩, invc_m i2 (fun x hx => by rw [mrow_ne (by omega), n9 x (by omega), mup_ne (by omega)]), ?_⟩
    · show s_X9_save G (nI js) = _
      unfold s_X9_save s_X9_save_b16
      simp only [d0, bnd_, ite_10, ite_00, if_true, rf_0]
      rw [inb_nI hs (by omega), ix_nI (by omega), if_pos rfl, b1, ← hF9, li_107, pk_mul, ← li_107, e9]
      simp only [bnd_]
      rw [if_pos (by decide), show ix 0 = 0 from rfl, mrow_ne (by omega), n9 171 (by omega), k2 0 (by omega)]
    · by_cases h9 : j = js
      · subst h9
        rw [hK2]
        simp only [if_true]
        exact hS
      · rw [hkp] at hk
        rw [hK2]
        simp only [if_neg h9] at hk ⊢
        exact hK j hj hk
    · refine ⟨?_, fun k hk => ?_, ?_, ?_, fun j hj => ?_⟩
      · unfold RPM
        rw [mrow_ne (show (164 : Nat) ≠ 174 by omega), mrow_ne (show (166 : Nat) ≠ 174 by omega), mrow_ne (show (167 : Nat) ≠ 174 by omega), n9 164 (by omega), n9 166 (by omega), n9 167 (by omega)]
        exact k1
      · rw [mrow_ne (by omega), n9 171 (by omega)]
        exact k2 k hk
      · unfold RTM
        rw [mrow_ne (show (164 : Nat) ≠ 174 by omega), mrow_ne (show (165 : Nat) ≠ 174 by omega), n9 164 (by omega), n9 165 (by omega)]
        exact k3
      · unfold RDia
        rw [mrow_ne (show (164 : Nat) ≠ 174 by omega), mrow_ne (show (173 : Nat) ≠ 174 by omega), n9 164 (by omega), n9 173 (by omega)]
        exact k4
      · rw [mrow_ne (show (175 : Nat) ≠ 174 by omega), mrow_self]
        by_cases h9 : j = js
        · subst h9
          rw [hkp, hK2]
          simp only [if_true]
          refine ⟨by rw [hF9, mup_self, pk_us]; rfl, fun _ k hk => ?_⟩
          rw [pk_cpy_in (by omega) (by omega), n9 171 (by omega), show 0 + (107 * j + k - 107 * j) = k by omega]
          exact k2 k hk
        · obtain ⟨q1, q2⟩ := k5 j hj
          rw [hkp, hK2]
          simp only [if_neg h9]
          refine ⟨by rw [hF9, mup_self, pk_un h9]; exact q1, fun hk k hk2 => ?_⟩
          rw [pk_cpy_out (by omega), n9 174 (by omega)]
          exact q2 hk k hk2
  · have c0 := (cS_no os : s_X8_requireSlot F s = some (.inr ex_ioo))
    have d0 := (in_no (b := 1) (by decide) (by omega) os : s_X9_in F (Int32.toInt64 s) 0 1 = some 0)
    simp only [c0, tbW_l, tbW_r]
    exact agW_no (k := 1) hI2 (by decide) (by decide) (by
      show s_X9_save F s = _
      unfold s_X9_save s_X9_save_b16
      simp only [d0, bnd_, ite_10, ite_00, if_true, rf_0, rf_1, rf_2, rf_3])
theorem ag_restore {F : MM} {t : Nat} (ht : t < 800000) (hI : INV t F) (s : Int32) : AgW (t) [ex_ioo, ex_ise] (s_X8_restore F s) (fun G => s_X9_restore G s) := by
  obtain ⟨P, S, L, T, m, H, kp, K, hA, hCI, hMI⟩ := id hI
  obtain ⟨hP, hS, ⟨hL, hT⟩, ⟨hm, hH⟩, hK⟩ := id hA
  obtain ⟨cP, cS, cT, cH, cK, cW⟩ := id hCI
  obtain ⟨mP, mS, mT, mH, mK⟩ := id hMI
  obtain ⟨m0, n0, -⟩ := invm_0 hMI 0
  have hN5 := hP.1.2
  have hC6 := hP.2.1.2
  have hR10 := hP.2.2.1
  have al : alen 171 = 107 := by decide
  have hb := wfs_b hS (by omega)
  have hI2 : INV (t) F := inv_mono hI (by omega)
  unfold s_X8_restore
  rcases arg_ s (n := 2) (by omega) with ⟨js, hs, rfl⟩ | os
  · have c0 := (cS_ok hs : s_X8_requireSlot F (nI js) = some (.inl ()))
    have d0 := (in_ok (a := 0) (b := 1) (by decide) (by decide) (by omega) (by omega) (by omega) : s_X9_in F (Int32.toInt64 (nI js)) 0 1 = some 1)
    obtain ⟨q1, q2⟩ := cK js hs
    obtain ⟨v1, v2⟩ := mK js hs
    simp only [c0, tbW_l]
    rw [inb_nI hs (by omega), ix_nI (by omega), if_pos rfl, q1]
    cases hk : kp js with
    | false =>
      rw [if_pos b01_f]
      rw [hk] at v1
      exact agW_no (k := 2) hI2 (by decide) (by decide) (by
        show s_X9_restore F (nI js) = _
        unfold s_X9_restore s_X9_restore_b29
        simp only [d0, bnd_, ite_10, ite_00, if_true, rf_2]
        rw [inb_nI hs (by omega), ix_nI (by omega), if_pos rfl, v1, if_pos b01_f])
    | true =>
      rw [if_neg b01_t]
      obtain ⟨F8, e8, t8, f8⟩ := c_copy (a := 16) (q := 148 + 8 * js) (by omega) (q2 hk) hP
      obtain ⟨G, hG⟩ : ∃ G, G = mup F8 32 2 0 := ⟨_, rfl⟩
      have fG : ∀ x, x < 16 ∨ (24 ≤ x ∧ x ≠ 32) → G x = F x := fun x hx => by rw [hG, mup_ne (by omega), f8 x (by omega)]
      have tG : RSt G P 16 (K js) := rst_fr t8 (fun x _ _ => by rw [hG, mup_ne (by omega)])
      have i2 : INVC G P (K js) L T 0 H kp K := by
        refine ⟨rpc_fr cP (fun x _ _ => fG x (by omega)), tG, ?_, ?_, rsl_fr cK (fun x _ _ => fG x (by omega)), rwy_fr cW (fun x _ _ => fG x (by omega))⟩
        · unfold RTC
          rw [fG 0 (by omega), fG 1 (by omega)]
          exact cT
        · obtain ⟨-, w, hw, h2, -⟩ := cH
          exact ⟨by rw [hG, mup_self, pk_us]; rfl, w, hw, by rw [hG, mup_self, pk_un (by omega), f8 32 (by omega)]; exact h2, fun d hd => absurd hd (by omega)⟩
      have j1 := invm_cl (F1 := G) hMI (fun x hx => fG x (by omega))
      have d0 := (in_ok (a := 0) (b := 1) (by decide) (by decide) (by omega) (by omega) (by omega) : s_X9_in G (Int32.toInt64 (nI js)) 0 1 = some 1)
      have al4 : alen 174 = 214 := by decide
      have al1 := alen171
      obtain ⟨k1, k2, k3, k4, k5⟩ := id (invm_0 j1 0)
      obtain ⟨v3, v4⟩ := k5 js hs
      have v4 := v4 hk
      have v5 : G 175 js = b01 true := by
        have := (j1.2.2.2.2 js hs).1
        rw [hk] at this; exact this
      have e9 : s_X9_copy (mup G 164 0 0) 174 (nI (107 * js)) 171 0 107 = some (mrow (mup G 164 0 0) 171 (va_cpy ((mup G 164 0 0) 174) ((mup G 164 0 0) 171) (107 * js) 0 107)) := m_copy (F := mup G 164 0 0) (q0 := 174) (q2 := 171) (a := 107 * js) (b := 0) (N := 107) (by omega) (by omega) (by omega) (by omega) (by omega) (by omega)
      obtain ⟨F9, hF9⟩ : ∃ F9, F9 = mrow (mup G 164 0 0) 171 (va_cpy ((mup G 164 0 0) 174) ((mup G 164 0 0) 171) (107 * js) 0 107) := ⟨_, rfl⟩
      rw [← hF9] at e9
      have n9 : ∀ x, x ≠ 171 → F9 x = (mup G 164 0 0) x := fun x hx => by rw [hF9, mrow_ne hx]
      have r9 : ∀ k, k < 107 → F9 171 k = nI (K js k) := fun k hk => by
        rw [hF9, mrow_self, pk_cpy_in (by omega) (by omega), show 107 * js + (k - 0) = 107 * js + k by omega]
        exact v4 k hk
      rw [if_pos rfl, e8]
      unfold s_X2_forget
      simp only [bnd_]
      rw [← hG, show G 16 8 = nI (K js 0) from tG.1]
      refine agW_ok (F2 := mup F9 164 22 0) ?_ (by rw [mup_self, pk_un (by omega), n9 164 (by omega)]; exact mup_00 G 0) ⟨P, K js, L, T, 0, H, kp, K, ⟨hP, hK js hs hk, ⟨hL, hT⟩, ⟨by omega, fun d hd => absurd hd (by omega)⟩, hK⟩, invc_m i2 (fun x hx => by rw [mup_ne (by omega), n9 x (by omega), mup_ne (by omega)]), ?_⟩
      · show s_X9_restore G (nI js) = _
        unfold s_X9_restore s_X9_restore_b29
        simp only [d0, bnd_, ite_10, ite_00, if_true]
        rw [inb_nI hs (by omega), ix_nI (by omega), if_pos rfl, v5, if_neg b01_t, rf_0, li_107, pk_mul, ← li_107, e9]
        simp only [bnd_]
        rw [if_pos (by decide), show ix 0 = 0 from rfl, mup_ne (by omega), r9 0 (by omega)]
      · refine ⟨?_, fun k hk => by rw [mup_ne (by omega)]; exact r9 k hk, ?_, ⟨by rw [mup_self, pk_us]; rfl, fun d k hd => absurd hd (by omega)⟩, ?_⟩
        · unfold RPM
          rw [mup_self, pk_un (show (4 : Nat) ≠ 22 by omega), pk_un (show (5 : Nat) ≠ 22 by omega), pk_un (show (6 : Nat) ≠ 22 by omega), pk_un (show (7 : Nat) ≠ 22 by omega), pk_un (show (8 : Nat) ≠ 22 by omega), mup_ne (show (166 : Nat) ≠ 164 by omega), mup_ne (show (167 : Nat) ≠ 164 by omega), n9 164 (by omega), n9 166 (by omega), n9 167 (by omega)]
          exact k1
        · unfold RTM
          rw [mup_self, pk_un (show (2 : Nat) ≠ 22 by omega), mup_ne (show (165 : Nat) ≠ 164 by omega), n9 164 (by omega), n9 165 (by omega)]
          exact k3
        · unfold RKe
          rw [mup_ne (show (174 : Nat) ≠ 164 by omega), mup_ne (show (175 : Nat) ≠ 164 by omega), n9 174 (by omega), n9 175 (by omega)]
          exact k5
  · have c0 := (cS_no os : s_X8_requireSlot F s = some (.inr ex_ioo))
    have d0 := (in_no (b := 1) (by decide) (by omega) os : s_X9_in F (Int32.toInt64 s) 0 1 = some 0)
    simp only [c0, tbW_l, tbW_r]
    exact agW_no (k := 1) hI2 (by decide) (by decide) (by
      show s_X9_restore F s = _
      unfold s_X9_restore s_X9_restore_b29
      simp only [d0, bnd_, ite_10, ite_00, if_true, rf_0, rf_1, rf_2, rf_3])
theorem ag_append {F : MM} {t : Nat} (ht : t < 800000) (hI : INV t F) (c : Int32) : AgW t [ex_iae, ex_ise] (s_X8_append F c) (fun G => s_X9_append G c) := by
  obtain ⟨P, S, L, T, m, H, kp, K, hA, hCI, hMI⟩ := id hI
  obtain ⟨hP, hS, ⟨hL, hT⟩, ⟨hm, hH⟩, hK⟩ := id hA
  obtain ⟨cP, cS, cT, cH, cK, cW⟩ := id hCI
  obtain ⟨mP, mS, mT, mH, mK⟩ := id hMI
  obtain ⟨m0, n0, -⟩ := invm_0 hMI 0
  have hN5 := hP.1.2
  have hC6 := hP.2.1.2
  have hR10 := hP.2.2.1
  have al : alen 171 = 107 := by decide
  have hb := wfs_b hS (by omega)
  unfold s_X8_append
  have q1 : F 0 1 = nI L := cT.1
  have q2 : F 164 2 = nI L := mT.1
  rcases arg_ c (n := 256) (by omega) with ⟨jc, hc, rfl⟩ | oc
  · have c0 := (cG_ok (a := 0) (b := 255) rfl rfl (by omega) (by omega) (by omega) : s_X8_requireRange F (nI jc) 0 255 = some (.inl ()))
    have d0 := (in_ok (a := 0) (b := 255) (by decide) (by decide) (by omega) (by omega) (by omega) : s_X9_in F (Int32.toInt64 (nI jc)) 0 255 = some 1)
    simp only [c0, tbW_l]
    rw [q1, li_160]
    by_cases h9 : L < 160
    · rw [if_pos (by rw [nI_ltI (by omega) (by omega)]; exact h9), show inb (nI L) 160 = true from inb_nI h9 (by omega), ix_nI (by omega), if_pos rfl, pk_vc, pk_char, pk_tn (by omega), Nat.mod_eq_of_lt (by omega)]
      simp only [bnd_]
      rw [mup_self, pk_us, mup_ne (by omega), q1, nI_1]
      obtain ⟨G, hG⟩ : ∃ G, G = mup (mup F 1 L (nI jc)) 0 1 (nI (L + 1)) := ⟨_, rfl⟩
      rw [← hG]
      have fG : ∀ x, 2 ≤ x → G x = F x := fun x hx => by rw [hG, mup_ne (by omega), mup_ne (by omega)]
      have g0 : G 0 1 = nI (L + 1) := by rw [hG, mup_self, pk_us]
      have g1 : G 1 = upd (F 1) L (nI jc) := by rw [hG, mup_ne (by omega), mup_self]
      obtain ⟨T2, hT2⟩ : ∃ T2 : Nat → Nat, T2 = fun k => if k = L then jc else T k := ⟨_, rfl⟩
      have tL : T2 L = jc := by rw [hT2]; exact if_pos rfl
      have tn : ∀ k, k < L → T2 k = T k := fun k hk => by rw [hT2]; exact if_neg (by omega)
      have i2 : INVC G P S (L + 1) T2 m H kp K := by
        refine ⟨rpc_fr cP (fun x _ _ => fG x (by omega)), rst_fr cS (fun x _ _ => fG x (by omega)), ⟨g0, fun k hk => ?_⟩, rme_fr cH (fun x _ _ => fG x (by omega)), rsl_fr cK (fun x _ _ => fG x (by omega)), rwy_fr cW (fun x _ _ => fG x (by omega))⟩
        by_cases hk2 : k = L
        · subst hk2; rw [g1, pk_us, tL]
        · rw [g1, pk_un hk2, tn k (by omega)]; exact cT.2 k (by omega)
      have j1 := invm_cl (F1 := G) hMI (fun x hx => fG x (by omega))
      have d1 := (in_ok (a := 0) (b := 255) (by decide) (by decide) (by omega) (by omega) (by omega) : s_X9_in G (Int32.toInt64 (nI jc)) 0 255 = some 1)
      have g2 : G 164 2 = nI L := j1.2.2.1.1
      obtain ⟨k1, k2, k3, k4, k5⟩ := id (invm_0 j1 0)
      obtain ⟨E, hE⟩ : ∃ E, E = mup G 164 0 0 := ⟨_, rfl⟩
      have z0 : E 164 0 = 0 := by rw [hE]; exact mup_00 G 0
      have nE : ∀ x, x < 164 → E x = G x := fun x hx => by rw [hE, mup_ne (by omega)]
      rw [← hE] at k1 k2 k3 k4 k5
      have e2 : E 164 2 = nI L := k3.1
      refine agW_ok (F2 := mup (mup E 165 L (nI jc)) 164 2 (nI (L + 1))) ?_ (by rw [mup_self, pk_un (by omega), mup_ne (by omega)]; exact z0) ⟨P, S, L + 1, T2, m, H, kp, K, ⟨hP, hS, ⟨by omega, fun k hk => ?_⟩, ⟨hm, hH⟩, hK⟩, invc_m i2 (fun x hx => by rw [mup_ne (by omega), mup_ne (by omega), nE x hx]), ?_⟩
      · show s_X9_append G (nI jc) = _
        unfold s_X9_append s_X9_append_b32
        simp only [d1, bnd_, ite_10, ite_00, if_true]
        rw [g2, if_neg (by rw [li_160, nI_eq (by omega) (by omega)]; omega), rf_0, ← hE]
        simp only [e2]
        rw [inb_nI h9 (by omega), ix_nI (by omega), if_pos rfl]
        try simp only [bnd_]
        rw [mup_self (mup E 165 L (nI jc)) 164 2, pk_us, mup_ne (show (164 : Nat) ≠ 165 by omega), e2, nI_1]
      · by_cases hk2 : k = L
        · subst hk2; rw [tL]; exact hc
        · rw [tn k (by omega)]; exact hT k (by omega)
      · refine ⟨?_, fun k hk => by rw [mup_ne (by omega), mup_ne (by omega)]; exact k2 k hk, ⟨by rw [mup_self, pk_us], fun k hk => ?_⟩, ?_, ?_⟩
        · unfold RPM
          rw [mup_self, pk_un (show (4 : Nat) ≠ 2 by omega), pk_un (show (5 : Nat) ≠ 2 by omega), pk_un (show (6 : Nat) ≠ 2 by omega), pk_un (show (7 : Nat) ≠ 2 by omega), pk_un (show (8 : Nat) ≠ 2 by omega), mup_ne (show (164 : Nat) ≠ 165 by omega), mup_ne (show (166 : Nat) ≠ 164 by omega), mup_ne (show (166 : Nat) ≠ 165 by omega), mup_ne (show (167 : Nat) ≠ 164 by omega), mup_ne (show (167 : Nat) ≠ 165 by omega)]
          exact k1
        · rw [mup_ne (by omega), mup_self]
          by_cases hk2 : k = L
          · subst hk2; rw [pk_us, tL]
          · rw [pk_un hk2, tn k (by omega)]; exact k3.2 k (by omega)
        · unfold RDia
          rw [mup_self, pk_un (show (22 : Nat) ≠ 2 by omega), mup_ne (show (164 : Nat) ≠ 165 by omega), mup_ne (show (173 : Nat) ≠ 164 by omega), mup_ne (show (173 : Nat) ≠ 165 by omega)]
          exact k4
        · unfold RKe
          rw [mup_ne (show (174 : Nat) ≠ 164 by omega), mup_ne (show (174 : Nat) ≠ 165 by omega), mup_ne (show (175 : Nat) ≠ 164 by omega), mup_ne (show (175 : Nat) ≠ 165 by omega)]
          exact k5
    · rw [if_neg (by rw [nI_ltI (by omega) (by omega)]; exact h9)]
      exact agW_no (k := 2) hI (by decide) (by decide) (by
        show s_X9_append F (nI jc) = _
        unfold s_X9_append s_X9_append_b32
        simp only [d0, bnd_, ite_10, ite_00, if_true]
        rw [q2, if_pos (by rw [li_160, nI_eq (by omega) (by omega)]; omega), rf_2])
  · have c0 := (cV_no (b := 255) (by decide) (by omega) oc : s_X8_requireRange F c 0 255 = some (.inr ex_iae))
    have d0 := (in_no (b := 255) (by decide) (by omega) oc : s_X9_in F (Int32.toInt64 c) 0 255 = some 0)
    simp only [c0, tbW_r]
    exact agW_no (k := 1) hI (by decide) (by decide) (by
      show s_X9_append F c = _
      unfold s_X9_append s_X9_append_b32
      simp only [d0, bnd_, ite_10, ite_00, if_true, rf_1])
/-- calls that throw nothing -/
def AgN (t : Nat) (cm : Option (Int32 × MM)) (mm : MM → Option (Int32 × MM)) : Prop := ∃ r F1 F2, cm = some (r, F1) ∧ mm F1 = some (r, F2) ∧ INV t F2
theorem ag_clearText {F : MM} {t : Nat} (hI : INV t F) : AgN t (s_X8_clearText F) (fun G => s_X9_clearText G) := by
  obtain ⟨P, S, L, T, m, H, kp, K, hA, hCI, hMI⟩ := id hI
  obtain ⟨hP, hS, ⟨hL, hT⟩, ⟨hm, hH⟩, hK⟩ := id hA
  obtain ⟨cP, cS, cT, cH, cK, cW⟩ := id hCI
  have q1 : F 0 1 = nI L := cT.1
  obtain ⟨G, hG⟩ : ∃ G, G = mup F 0 1 0 := ⟨_, rfl⟩
  have fG : ∀ x, 1 ≤ x → G x = F x := fun x hx => by rw [hG, mup_ne (by omega)]
  have i2 : INVC G P S 0 T m H kp K := ⟨rpc_fr cP (fun x _ _ => fG x (by omega)), rst_fr cS (fun x _ _ => fG x (by omega)), ⟨by rw [hG, mup_self, pk_us]; rfl, fun k hk => absurd hk (by omega)⟩, rme_fr cH (fun x _ _ => fG x (by omega)), rsl_fr cK (fun x _ _ => fG x (by omega)), rwy_fr cW (fun x _ _ => fG x (by omega))⟩
  have j1 := invm_cl (F1 := G) hMI (fun x hx => fG x (by omega))
  obtain ⟨k1, k2, k3, k4, k5⟩ := id (invm_0 j1 0)
  obtain ⟨E, hE⟩ : ∃ E, E = mup G 164 0 0 := ⟨_, rfl⟩
  have nE : ∀ x, x < 164 → E x = G x := fun x hx => by rw [hE, mup_ne (by omega)]
  rw [← hE] at k1 k2 k3 k4 k5
  refine ⟨nI L, G, mup E 164 2 0, ?_, ?_, ⟨P, S, 0, T, m, H, kp, K, ⟨hP, hS, ⟨by omega, fun k hk => absurd hk (by omega)⟩, ⟨hm, hH⟩, hK⟩, invc_m i2 (fun x hx => by rw [mup_ne (by omega), nE x hx]), ?_⟩⟩
  · unfold s_X8_clearText
    simp only [bnd_]
    rw [← hG, q1]
  · show s_X9_clearText G = _
    unfold s_X9_clearText
    simp only [bnd_]
    rw [← hE, k3.1]
  · refine ⟨?_, fun k hk => by rw [mup_ne (by omega)]; exact k2 k hk, ⟨by rw [mup_self, pk_us]; rfl, fun k hk => absurd hk (by omega)⟩, ?_, ?_⟩
    · unfold RPM
      rw [mup_self, pk_un (show (4 : Nat) ≠ 2 by omega), pk_un (show (5 : Nat) ≠ 2 by omega), pk_un (show (6 : Nat) ≠ 2 by omega), pk_un (show (7 : Nat) ≠ 2 by omega), pk_un (show (8 : Nat) ≠ 2 by omega), mup_ne (show (166 : Nat) ≠ 164 by omega), mup_ne (show (167 : Nat) ≠ 164 by omega)]
      exact k1
    · unfold RDia
      rw [mup_self, pk_un (show (22 : Nat) ≠ 2 by omega), mup_ne (show (173 : Nat) ≠ 164 by omega)]
      exact k4
    · unfold RKe
      rw [mup_ne (show (174 : Nat) ≠ 164 by omega), mup_ne (show (175 : Nat) ≠ 164 by omega)]
      exact k5
