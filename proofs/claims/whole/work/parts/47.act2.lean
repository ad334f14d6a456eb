/-! ===== actions ===== -/
theorem ag_wish {F : MM} {t : Nat} (ht : t < 800000) (hI : INV t F) (n c v : Int32) : AgW (t) [ex_ioo, ex_iae] (s_X8_wish F n c v) (fun G => s_X9_wish G n c v) := by
  obtain ⟨P, S, L, T, m, H, kp, K, hA, hCI, hMI⟩ := id hI
  obtain ⟨hP, hS, ⟨hL, hT⟩, ⟨hm, hH⟩, hK⟩ := id hA
  obtain ⟨cP, cS, cT, cH, cK, cW⟩ := id hCI
  obtain ⟨mP, mS, mT, mH, mK⟩ := id hMI
  obtain ⟨m0, n0, -⟩ := invm_0 hMI 0
  have hN5 := hP.1.2
  have hC6 := hP.2.1.2
  have hR10 := hP.2.2.1
  have al : alen 171 = 107 := by decide
  have hb := wfs_b hS (by omega)
  have hI2 : INV (t) F := inv_mono hI (by omega)
  unfold s_X8_wish
  rcases arg_ n (n := pNod P) (by have := hP.1.2; omega) with ⟨jn, hn, rfl⟩ | on
  · have c0 := (cN_ok hP cP hn : s_X8_requireNode F (nI jn) = some (.inl ()))
    have d0 := (mN_ok hP mP hn : s_X9_isNode F (nI jn) = some 1)
    rcases arg_ c (n := pPar P) (by have := hP.2.1.2; omega) with ⟨jc, hc, rfl⟩ | oc
    · have c1 := (cP_ok hP cP hc : s_X8_requireComponent F (nI jc) = some (.inl ()))
      have d1 := (mP_ok hP mP hc : s_X9_isPart F (nI jc) = some 1)
      rcases arg_ v (n := 4) (by omega) with ⟨jv, hv, rfl⟩ | ov
      · have c2 := (cG_ok (a := 0) (b := 3) rfl rfl (by omega) (by omega) (by omega) : s_X8_requireRange F (nI jv) 0 3 = some (.inl ()))
        have d2 := (mV_ok hv : s_X9_isVersion F (nI jv) = some 1)
        obtain ⟨F1, e1, i1, f1⟩ := invc_rem hCI hP hm
        obtain ⟨-, s1, -⟩ := id i1
        obtain ⟨-, r2, -⟩ := s1.2.2.1 jn hn
        have r2 : F1 18 jn = nI (cod P S jn 6) := r2
        have hy := cod_4096 hP hS hn (Or.inr rfl)
        obtain ⟨G, hG⟩ : ∃ G, G = mup F1 18 jn (nI (wth (cod P S jn 6) jc jv)) := ⟨_, rfl⟩
        have i2 : INVC G P (rup S (2 + 15 * jn + 6 + jc) jv) L T (mm1 m) (hpush S H) kp K := by
          rw [hG]
          exact invc_st i1 (rst_wish hP hS s1 hn hc) (fun x hx => mup_ne (by omega))
        have j1 := invm_cl (F1 := G) hMI (fun x hx => by rw [hG, mup_ne (by omega), f1 x (by omega)])
        have mP1 := j1.1
        have d0 := (mN_ok hP mP1 hn : s_X9_isNode G (nI jn) = some 1)
        have d1 := (mP_ok hP mP1 hc : s_X9_isPart G (nI jc) = some 1)
        have d2 := (mV_ok hv : s_X9_isVersion G (nI jv) = some 1)
        obtain ⟨F3, e3, i3, z3, f3⟩ := m_change (k := 2 + 15 * jn + 6 + jc) (v := jv) (invm_0 j1 0) hm (by omega)
        have w1 : WFS P t (rup S (2 + 15 * jn + 6 + jc) jv) := wfs_rup hS (by omega) (fun h => by omega) (fun h => by omega) (fun n c hn hc h => by omega) (fun n hn h => by omega) (fun n hn h => by omega) (fun n hn h => by omega) (fun c hc h => by omega) (fun c u hc hu h => by omega)
        simp only [c0, c1, c2, tbW_l, e1]
        unfold s_X0_versionIn s_X0_with
        simp (disch := omega) only [bnd_, nI_add, nI_1, at_nI, pa_nI, inb_nI, ix_nI, nI_leI, nI_ltI, nI_eq, if_true, r2, i_vin hy (show jc < 6 by omega), cod_vin6 hP hS hn hc, i_wth hy (show jc < 6 by omega) hv]
        rw [← hG]
        exact agW_ok (F2 := F3) (by
          show s_X9_wish G (nI jn) (nI jc) (nI jv) = _
          unfold s_X9_wish s_X9_wish_b17
          simp only [d0, d1, d2, bnd_, ite_10, ite_00, if_true, rf_0]
          unfold s_X9_at
          simp (disch := omega) only [bnd_, nI_add, nI_1, at_nI, pa_nI, inb_nI, ix_nI, nI_leI, nI_ltI, nI_eq, if_true, li_6, e3]) z3 (inv_act hA w1 (Nat.le_refl _) i2 i3 (fun x hx => by rw [f3 x hx, mup_ne (by omega)]))
      · have c2 := (cV_no (b := 3) (by decide) (by omega) ov : s_X8_requireRange F v 0 3 = some (.inr ex_iae))
        have d2 := (mV_no ov : s_X9_isVersion F v = some 0)
        simp only [c0, c1, c2, tbW_l, tbW_r]
        exact agW_no (k := 2) hI2 (by decide) (by decide) (by
          show s_X9_wish F (nI jn) (nI jc) v = _
          unfold s_X9_wish s_X9_wish_b17
          simp only [d0, d1, d2, bnd_, ite_10, ite_00, if_true, rf_0, rf_1, rf_2, rf_3])
    · have c1 := (cP_no cP oc : s_X8_requireComponent F c = some (.inr ex_ioo))
      have d1 := (mP_no hP mP oc : s_X9_isPart F c = some 0)
      simp only [c0, c1, tbW_l, tbW_r]
      exact agW_no (k := 1) hI2 (by decide) (by decide) (by
        show s_X9_wish F (nI jn) c v = _
        unfold s_X9_wish s_X9_wish_b17
        simp only [d0, d1, bnd_, ite_10, ite_00, if_true, rf_0, rf_1, rf_2, rf_3])
  · have c0 := (cN_no cP on : s_X8_requireNode F n = some (.inr ex_ioo))
    have d0 := (mN_no hP mP on : s_X9_isNode F n = some 0)
    simp only [c0, tbW_l, tbW_r]
    exact agW_no (k := 1) hI2 (by decide) (by decide) (by
      show s_X9_wish F n c v = _
      unfold s_X9_wish s_X9_wish_b17
      simp only [d0, bnd_, ite_10, ite_00, if_true, rf_0, rf_1, rf_2, rf_3])
theorem ag_drift {F : MM} {t : Nat} (ht : t < 800000) (hI : INV t F) (n c v : Int32) : AgW (t) [ex_ioo, ex_iae] (s_X8_drift F n c v) (fun G => s_X9_drift G n c v) := by
  obtain ⟨P, S, L, T, m, H, kp, K, hA, hCI, hMI⟩ := id hI
  obtain ⟨hP, hS, ⟨hL, hT⟩, ⟨hm, hH⟩, hK⟩ := id hA
  obtain ⟨cP, cS, cT, cH, cK, cW⟩ := id hCI
  obtain ⟨mP, mS, mT, mH, mK⟩ := id hMI
  obtain ⟨m0, n0, -⟩ := invm_0 hMI 0
  have hN5 := hP.1.2
  have hC6 := hP.2.1.2
  have hR10 := hP.2.2.1
  have al : alen 171 = 107 := by decide
  have hb := wfs_b hS (by omega)
  have hI2 : INV (t) F := inv_mono hI (by omega)
  unfold s_X8_drift
  rcases arg_ n (n := pNod P) (by have := hP.1.2; omega) with ⟨jn, hn, rfl⟩ | on
  · have c0 := (cN_ok hP cP hn : s_X8_requireNode F (nI jn) = some (.inl ()))
    have d0 := (mN_ok hP mP hn : s_X9_isNode F (nI jn) = some 1)
    rcases arg_ c (n := pPar P) (by have := hP.2.1.2; omega) with ⟨jc, hc, rfl⟩ | oc
    · have c1 := (cP_ok hP cP hc : s_X8_requireComponent F (nI jc) = some (.inl ()))
      have d1 := (mP_ok hP mP hc : s_X9_isPart F (nI jc) = some 1)
      rcases arg_ v (n := 4) (by omega) with ⟨jv, hv, rfl⟩ | ov
      · have c2 := (cG_ok (a := 0) (b := 3) rfl rfl (by omega) (by omega) (by omega) : s_X8_requireRange F (nI jv) 0 3 = some (.inl ()))
        have d2 := (mV_ok hv : s_X9_isVersion F (nI jv) = some 1)
        obtain ⟨F1, e1, i1, f1⟩ := invc_rem hCI hP hm
        obtain ⟨-, s1, -⟩ := id i1
        obtain ⟨r2, -⟩ := s1.2.2.1 jn hn
        have r2 : F1 17 jn = nI (cod P S jn 0) := r2
        have hy := cod_4096 hP hS hn (Or.inl rfl)
        obtain ⟨G, hG⟩ : ∃ G, G = mup F1 17 jn (nI (wth (cod P S jn 0) jc jv)) := ⟨_, rfl⟩
        have i2 : INVC G P (rup S (2 + 15 * jn + jc) jv) L T (mm1 m) (hpush S H) kp K := by
          rw [hG]
          exact invc_st i1 (rst_pres hP hS s1 hn hc) (fun x hx => mup_ne (by omega))
        have j1 := invm_cl (F1 := G) hMI (fun x hx => by rw [hG, mup_ne (by omega), f1 x (by omega)])
        have mP1 := j1.1
        have d0 := (mN_ok hP mP1 hn : s_X9_isNode G (nI jn) = some 1)
        have d1 := (mP_ok hP mP1 hc : s_X9_isPart G (nI jc) = some 1)
        have d2 := (mV_ok hv : s_X9_isVersion G (nI jv) = some 1)
        obtain ⟨F3, e3, i3, z3, f3⟩ := m_change (k := 2 + 15 * jn + jc) (v := jv) (invm_0 j1 0) hm (by omega)
        have w1 : WFS P t (rup S (2 + 15 * jn + jc) jv) := wfs_rup hS (by omega) (fun h => by omega) (fun h => by omega) (fun n c hn hc h => by omega) (fun n hn h => by omega) (fun n hn h => by omega) (fun n hn h => by omega) (fun c hc h => by omega) (fun c u hc hu h => by omega)
        simp only [c0, c1, c2, tbW_l, e1]
        unfold s_X0_versionIn s_X0_with
        simp (disch := omega) only [bnd_, nI_add, nI_1, at_nI, pa_nI, inb_nI, ix_nI, nI_leI, nI_ltI, nI_eq, if_true, r2, i_vin hy (show jc < 6 by omega), cod_vin0 hP hS hn hc, i_wth hy (show jc < 6 by omega) hv]
        rw [← hG]
        exact agW_ok (F2 := F3) (by
          show s_X9_drift G (nI jn) (nI jc) (nI jv) = _
          unfold s_X9_drift
          simp only [d0, d1, d2, bnd_, ite_10, ite_00, if_true, rf_0]
          unfold s_X9_at
          simp (disch := omega) only [bnd_, nI_add, nI_1, at_nI, pa_nI, inb_nI, ix_nI, nI_leI, nI_ltI, nI_eq, if_true, e3]) z3 (inv_act hA w1 (Nat.le_refl _) i2 i3 (fun x hx => by rw [f3 x hx, mup_ne (by omega)]))
      · have c2 := (cV_no (b := 3) (by decide) (by omega) ov : s_X8_requireRange F v 0 3 = some (.inr ex_iae))
        have d2 := (mV_no ov : s_X9_isVersion F v = some 0)
        simp only [c0, c1, c2, tbW_l, tbW_r]
        exact agW_no (k := 2) hI2 (by decide) (by decide) (by
          show s_X9_drift F (nI jn) (nI jc) v = _
          unfold s_X9_drift
          simp only [d0, d1, d2, bnd_, ite_10, ite_00, if_true, rf_0, rf_1, rf_2, rf_3])
    · have c1 := (cP_no cP oc : s_X8_requireComponent F c = some (.inr ex_ioo))
      have d1 := (mP_no hP mP oc : s_X9_isPart F c = some 0)
      simp only [c0, c1, tbW_l, tbW_r]
      exact agW_no (k := 1) hI2 (by decide) (by decide) (by
        show s_X9_drift F (nI jn) c v = _
        unfold s_X9_drift
        simp only [d0, d1, bnd_, ite_10, ite_00, if_true, rf_0, rf_1, rf_2, rf_3])
  · have c0 := (cN_no cP on : s_X8_requireNode F n = some (.inr ex_ioo))
    have d0 := (mN_no hP mP on : s_X9_isNode F n = some 0)
    simp only [c0, tbW_l, tbW_r]
    exact agW_no (k := 1) hI2 (by decide) (by decide) (by
      show s_X9_drift F n c v = _
      unfold s_X9_drift
      simp only [d0, bnd_, ite_10, ite_00, if_true, rf_0, rf_1, rf_2, rf_3])
theorem ag_setQuorum {F : MM} {t : Nat} (ht : t < 800000) (hI : INV t F) (c v : Int32) : AgW (t) [ex_ioo, ex_iae] (s_X8_setQuorum F c v) (fun G => s_X9_setQuorum G c v) := by
  obtain ⟨P, S, L, T, m, H, kp, K, hA, hCI, hMI⟩ := id hI
  obtain ⟨hP, hS, ⟨hL, hT⟩, ⟨hm, hH⟩, hK⟩ := id hA
  obtain ⟨cP, cS, cT, cH, cK, cW⟩ := id hCI
  obtain ⟨mP, mS, mT, mH, mK⟩ := id hMI
  obtain ⟨m0, n0, -⟩ := invm_0 hMI 0
  have hN5 := hP.1.2
  have hC6 := hP.2.1.2
  have hR10 := hP.2.2.1
  have al : alen 171 = 107 := by decide
  have hb := wfs_b hS (by omega)
  have hI2 : INV (t) F := inv_mono hI (by omega)
  unfold s_X8_setQuorum
  rcases arg_ c (n := pPar P) (by have := hP.2.1.2; omega) with ⟨jc, hc, rfl⟩ | oc
  · have c0 := (cP_ok hP cP hc : s_X8_requireComponent F (nI jc) = some (.inl ()))
    have d0 := (mP_ok hP mP hc : s_X9_isPart F (nI jc) = some 1)
    rcases arg_ v (n := 6) (by omega) with ⟨jv, hv, rfl⟩ | ov
    · have c1 := (cG_ok (a := 0) (b := 5) rfl rfl (by omega) (by omega) (by omega) : s_X8_requireRange F (nI jv) 0 5 = some (.inl ()))
      have d1 := (in_ok (a := 0) (b := 5) (by decide) (by decide) (by omega) (by omega) (by omega) : s_X9_in F (Int32.toInt64 (nI jv)) 0 5 = some 1)
      obtain ⟨F1, e1, i1, f1⟩ := invc_rem hCI hP hm
      obtain ⟨-, s1, -⟩ := id i1
      obtain ⟨r2, -⟩ := s1.2.2.2.1 jc hc
      have r2 : F1 22 jc = nI (S (77 + 5 * jc)) := r2
      obtain ⟨G, hG⟩ : ∃ G, G = mup F1 22 jc (nI jv) := ⟨_, rfl⟩
      have i2 : INVC G P (rup S (77 + 5 * jc) jv) L T (mm1 m) (hpush S H) kp K := by
        rw [hG]
        exact invc_st i1 (rst_quor hP s1 hc) (fun x hx => mup_ne (by omega))
      have j1 := invm_cl (F1 := G) hMI (fun x hx => by rw [hG, mup_ne (by omega), f1 x (by omega)])
      have mP1 := j1.1
      have d0 := (mP_ok hP mP1 hc : s_X9_isPart G (nI jc) = some 1)
      have d1 := (in_ok (a := 0) (b := 5) (by decide) (by decide) (by omega) (by omega) (by omega) : s_X9_in G (Int32.toInt64 (nI jv)) 0 5 = some 1)
      obtain ⟨F3, e3, i3, z3, f3⟩ := m_change (k := 77 + 5 * jc) (v := jv) (invm_0 j1 0) hm (by omega)
      have w1 : WFS P t (rup S (77 + 5 * jc) jv) := wfs_rup hS (by omega) (fun h => by omega) (fun h => by omega) (fun n c hn hc h => by omega) (fun n hn h => by omega) (fun n hn h => by omega) (fun n hn h => by omega) (fun c hc h => by omega) (fun c u hc hu h => by omega)
      simp only [c0, c1, tbW_l, e1]
      simp (disch := omega) only [bnd_, nI_add, nI_1, at_nI, pa_nI, inb_nI, ix_nI, nI_leI, nI_ltI, nI_eq, if_true, r2]
      rw [← hG]
      exact agW_ok (F2 := F3) (by
        show s_X9_setQuorum G (nI jc) (nI jv) = _
        unfold s_X9_setQuorum
        simp only [d0, d1, bnd_, ite_10, ite_00, if_true, rf_0]
        unfold s_X9_partAt
        simp (disch := omega) only [bnd_, nI_add, nI_1, at_nI, pa_nI, inb_nI, ix_nI, nI_leI, nI_ltI, nI_eq, if_true, e3]) z3 (inv_act hA w1 (Nat.le_refl _) i2 i3 (fun x hx => by rw [f3 x hx, mup_ne (by omega)]))
    · have c1 := (cV_no (b := 5) (by decide) (by omega) ov : s_X8_requireRange F v 0 5 = some (.inr ex_iae))
      have d1 := (in_no (b := 5) (by decide) (by omega) ov : s_X9_in F (Int32.toInt64 v) 0 5 = some 0)
      simp only [c0, c1, tbW_l, tbW_r]
      exact agW_no (k := 2) hI2 (by decide) (by decide) (by
        show s_X9_setQuorum F (nI jc) v = _
        unfold s_X9_setQuorum
        simp only [d0, d1, bnd_, ite_10, ite_00, if_true, rf_0, rf_1, rf_2, rf_3])
  · have c0 := (cP_no cP oc : s_X8_requireComponent F c = some (.inr ex_ioo))
    have d0 := (mP_no hP mP oc : s_X9_isPart F c = some 0)
    simp only [c0, tbW_l, tbW_r]
    exact agW_no (k := 1) hI2 (by decide) (by decide) (by
      show s_X9_setQuorum F c v = _
      unfold s_X9_setQuorum
      simp only [d0, bnd_, ite_10, ite_00, if_true, rf_0, rf_1, rf_2, rf_3])
theorem ag_setFaults {F : MM} {t : Nat} (ht : t < 800000) (hI : INV t F) (n v : Int32) : AgW (t) [ex_ioo, ex_iae] (s_X8_setFaults F n v) (fun G => s_X9_setFaults G n v) := by
  obtain ⟨P, S, L, T, m, H, kp, K, hA, hCI, hMI⟩ := id hI
  obtain ⟨hP, hS, ⟨hL, hT⟩, ⟨hm, hH⟩, hK⟩ := id hA
  obtain ⟨cP, cS, cT, cH, cK, cW⟩ := id hCI
  obtain ⟨mP, mS, mT, mH, mK⟩ := id hMI
  obtain ⟨m0, n0, -⟩ := invm_0 hMI 0
  have hN5 := hP.1.2
  have hC6 := hP.2.1.2
  have hR10 := hP.2.2.1
  have al : alen 171 = 107 := by decide
  have hb := wfs_b hS (by omega)
  have hI2 : INV (t) F := inv_mono hI (by omega)
  unfold s_X8_setFaults
  rcases arg_ n (n := pNod P) (by have := hP.1.2; omega) with ⟨jn, hn, rfl⟩ | on
  · have c0 := (cN_ok hP cP hn : s_X8_requireNode F (nI jn) = some (.inl ()))
    have d0 := (mN_ok hP mP hn : s_X9_isNode F (nI jn) = some 1)
    rcases arg_ v (n := 10) (by omega) with ⟨jv, hv, rfl⟩ | ov
    · have c1 := (cG_ok (a := 0) (b := 9) rfl rfl (by omega) (by omega) (by omega) : s_X8_requireRange F (nI jv) 0 9 = some (.inl ()))
      have d1 := (in_ok (a := 0) (b := 9) (by decide) (by decide) (by omega) (by omega) (by omega) : s_X9_in F (Int32.toInt64 (nI jv)) 0 9 = some 1)
      obtain ⟨F1, e1, i1, f1⟩ := invc_rem hCI hP hm
      obtain ⟨-, s1, -⟩ := id i1
      obtain ⟨-, -, r2, -⟩ := s1.2.2.1 jn hn
      have r2 : F1 19 jn = nI (S (2 + 15 * jn + 12)) := r2
      obtain ⟨G, hG⟩ : ∃ G, G = mup F1 19 jn (nI jv) := ⟨_, rfl⟩
      have i2 : INVC G P (rup S (2 + 15 * jn + 12) jv) L T (mm1 m) (hpush S H) kp K := by
        rw [hG]
        exact invc_st i1 (rst_node (x := 3) (y := 12) hP s1 hn (by omega)) (fun x hx => mup_ne (by omega))
      have j1 := invm_cl (F1 := G) hMI (fun x hx => by rw [hG, mup_ne (by omega), f1 x (by omega)])
      have mP1 := j1.1
      have d0 := (mN_ok hP mP1 hn : s_X9_isNode G (nI jn) = some 1)
      have d1 := (in_ok (a := 0) (b := 9) (by decide) (by decide) (by omega) (by omega) (by omega) : s_X9_in G (Int32.toInt64 (nI jv)) 0 9 = some 1)
      obtain ⟨F3, e3, i3, z3, f3⟩ := m_change (k := 2 + 15 * jn + 12) (v := jv) (invm_0 j1 0) hm (by omega)
      have w1 : WFS P t (rup S (2 + 15 * jn + 12) jv) := wfs_rup hS (by omega) (fun h => by omega) (fun h => by omega) (fun n c hn hc h => by omega) (fun n hn h => by omega) (fun n hn h => by omega) (fun n hn h => by omega) (fun c hc h => by omega) (fun c u hc hu h => by omega)
      simp only [c0, c1, tbW_l, e1]
      simp (disch := omega) only [bnd_, nI_add, nI_1, at_nI, pa_nI, inb_nI, ix_nI, nI_leI, nI_ltI, nI_eq, if_true, r2]
      rw [← hG]
      exact agW_ok (F2 := F3) (by
        show s_X9_setFaults G (nI jn) (nI jv) = _
        unfold s_X9_setFaults
        simp only [d0, d1, bnd_, ite_10, ite_00, if_true, rf_0]
        unfold s_X9_at
        simp (disch := omega) only [bnd_, nI_add, nI_1, at_nI, pa_nI, inb_nI, ix_nI, nI_leI, nI_ltI, nI_eq, if_true, li_12, e3]) z3 (inv_act hA w1 (Nat.le_refl _) i2 i3 (fun x hx => by rw [f3 x hx, mup_ne (by omega)]))
    · have c1 := (cV_no (b := 9) (by decide) (by omega) ov : s_X8_requireRange F v 0 9 = some (.inr ex_iae))
      have d1 := (in_no (b := 9) (by decide) (by omega) ov : s_X9_in F (Int32.toInt64 v) 0 9 = some 0)
      simp only [c0, c1, tbW_l, tbW_r]
      exact agW_no (k := 2) hI2 (by decide) (by decide) (by
        show s_X9_setFaults F (nI jn) v = _
        unfold s_X9_setFaults
        simp only [d0, d1, bnd_, ite_10, ite_00, if_true, rf_0, rf_1, rf_2, rf_3])
  · have c0 := (cN_no cP on : s_X8_requireNode F n = some (.inr ex_ioo))
    have d0 := (mN_no hP mP on : s_X9_isNode F n = some 0)
    simp only [c0, tbW_l, tbW_r]
    exact agW_no (k := 1) hI2 (by decide) (by decide) (by
      show s_X9_setFaults F n v = _
      unfold s_X9_setFaults
      simp only [d0, bnd_, ite_10, ite_00, if_true, rf_0, rf_1, rf_2, rf_3])
theorem ag_pardon {F : MM} {t : Nat} (ht : t < 800000) (hI : INV t F) (n : Int32) : AgW (t) [ex_ioo, ex_ise] (s_X8_pardon F n) (fun G => s_X9_pardon G n) := by
  obtain ⟨P, S, L, T, m, H, kp, K, hA, hCI, hMI⟩ := id hI
  obtain ⟨hP, hS, ⟨hL, hT⟩, ⟨hm, hH⟩, hK⟩ := id hA
  obtain ⟨cP, cS, cT, cH, cK, cW⟩ := id hCI
  obtain ⟨mP, mS, mT, mH, mK⟩ := id hMI
  obtain ⟨m0, n0, -⟩ := invm_0 hMI 0
  have hN5 := hP.1.2
  have hC6 := hP.2.1.2
  have hR10 := hP.2.2.1
  have al : alen 171 = 107 := by decide
  have hb := wfs_b hS (by omega)
  have hI2 : INV (t) F := inv_mono hI (by omega)
  unfold s_X8_pardon
  rcases arg_ n (n := pNod P) (by have := hP.1.2; omega) with ⟨jn, hn, rfl⟩ | on
  · have c0 := (cN_ok hP cP hn : s_X8_requireNode F (nI jn) = some (.inl ()))
    have d0 := (mN_ok hP mP hn : s_X9_isNode F (nI jn) = some 1)
    have q1 := c_isQuarantined hP (show t < 1000000 by omega) hS cS hn
    have q2 := m_isQuarantined al mS hb (show jn < 5 by omega)
    cases hq : qua S jn with
    | false =>
      rw [hq] at q1 q2
      simp only [c0, tbW_l, q1, bnd_]
      rw [if_pos b01_f]
      exact agW_no (k := 2) hI2 (by decide) (by decide) (by
        show s_X9_pardon F (nI jn) = _
        unfold s_X9_pardon s_X9_pardon_b29
        simp only [d0, q2, bnd_, ite_10, ite_00, if_true, rf_2, b01_f])
    | true =>
      have hlt : S 0 < S (2 + 15 * jn + 14) := of_decide_eq_true hq
      rw [hq] at q1
      obtain ⟨F1, e1, i1, f1⟩ := invc_rem hCI hP hm
      obtain ⟨-, s1, -⟩ := id i1
      obtain ⟨-, -, -, -, r2⟩ := s1.2.2.1 jn hn
      have r2 : F1 21 jn = nI (S (2 + 15 * jn + 14)) := r2
      have r3 : F1 16 8 = nI (S 0) := s1.1
      have s0 := hS.1.1
      have hl1 := hP.2.2.2.1.1
      obtain ⟨G, hG⟩ : ∃ G, G = mup (mup F1 21 jn (nI (S 0))) 20 jn (nI 0) := ⟨_, rfl⟩
      have i2 : INVC G P (rup (rup S (2 + 15 * jn + 14) (S 0)) (2 + 15 * jn + 13) 0) L T (mm1 m) (hpush S H) kp K := by
        rw [hG]
        exact invc_st i1 (rst_node (x := 4) (y := 13) hP (rst_node (x := 5) (y := 14) hP s1 hn (by omega)) hn (by omega)) (fun x hx => by rw [mup_ne (by omega), mup_ne (by omega)])
      have j1 := invm_cl (F1 := G) hMI (fun x hx => by rw [hG, mup_ne (by omega), mup_ne (by omega), f1 x (by omega)])
      have mP1 := j1.1
      have d0 := (mN_ok hP mP1 hn : s_X9_isNode G (nI jn) = some 1)
      have q3 := m_isQuarantined al j1.2.1 hb (show jn < 5 by omega)
      rw [hq] at q3
      obtain ⟨F2, e2, k2, z2, f2⟩ := invm_note (invm_0 j1 0) hm
      have r4 : ∀ k, k < 107 → F2 171 k = nI (S k) := k2.2.1
      have w1 : WFS P t (rup S (2 + 15 * jn + 14) (S 0)) := wfs_rup hS (by omega) (fun h => by omega) (fun h => by omega) (fun n c hn hc h => by omega) (fun n hn h => by omega) (fun n hn h => by omega) (fun n hn h => by omega) (fun c hc h => by omega) (fun c u hc hu h => by omega)
      have w2 : WFS P t (rup (rup S (2 + 15 * jn + 14) (S 0)) (2 + 15 * jn + 13) 0) := wfs_rup w1 (by omega) (fun h => by omega) (fun h => by omega) (fun n c hn hc h => by omega) (fun n hn h => by omega) (fun n hn h => by omega) (fun n hn h => by omega) (fun c hc h => by omega) (fun c u hc hu h => by omega)
      simp only [c0, tbW_l, q1, e1, bnd_]
      rw [if_neg b01_t]
      simp (disch := omega) only [bnd_, nI_add, nI_1, at_nI, pa_nI, inb_nI, ix_nI, nI_leI, nI_ltI, nI_eq, if_true, li_0, r2, r3, mup_ne, pk_sub]
      rw [← hG]
      refine agW_ok (F2 := mup (mup F2 171 (2 + 15 * jn + 14) (nI (S 0))) 171 (2 + 15 * jn + 13) (nI 0)) ?_ (by rw [mup_ne (by omega), mup_ne (by omega)]; exact z2) (inv_act hA w2 (Nat.le_refl _) i2 (invm_row k2 (rr_up (rr_up k2.2.1)) (fun x hx => by rw [mup_ne hx, mup_ne hx])) (fun x hx => by rw [mup_ne (by omega), mup_ne (by omega), f2 x hx, mup_ne (by omega)]))
      show s_X9_pardon G (nI jn) = _
      unfold s_X9_pardon s_X9_pardon_b29
      simp only [d0, q3, bnd_, ite_10, ite_00, if_true, rf_0]
      rw [if_neg b01_t]
      simp only [rf_0, e2, bnd_]
      unfold s_X9_at
      simp (disch := omega) only [bnd_, nI_add, nI_1, at_nI, pa_nI, inb_nI, ix_nI, nI_leI, nI_ltI, nI_eq, if_true, li_0, li_13, li_14, r4, pk_sub]
  · have c0 := (cN_no cP on : s_X8_requireNode F n = some (.inr ex_ioo))
    have d0 := (mN_no hP mP on : s_X9_isNode F n = some 0)
    simp only [c0, tbW_l, tbW_r]
    exact agW_no (k := 1) hI2 (by decide) (by decide) (by
      show s_X9_pardon F n = _
      unfold s_X9_pardon s_X9_pardon_b29
      simp only [d0, bnd_, ite_10, ite_00, if_true, rf_0, rf_1, rf_2, rf_3])
theorem i_apr : ∀ A, A < 32 → ∀ w, w < 5 → ((nI A &&& ((1 : Int32) <<< (nI w &&& 31)) = 0 ↔ ¬ ((nI A >>> (nI w &&& 31)) &&& 1) = 1) ∧ nI A ||| ((1 : Int32) <<< (nI w &&& 31)) = nI (A ||| 2 ^ w) ∧ A ||| 2 ^ w < 32) := by decide +kernel
theorem ag_approve {F : MM} {t : Nat} (ht : t < 800000) (hI : INV t F) (c v w : Int32) : AgW (t) [ex_ioo, ex_iae, ex_ise] (s_X8_approve F c v w) (fun G => s_X9_approve G c v w) := by
  obtain ⟨P, S, L, T, m, H, kp, K, hA, hCI, hMI⟩ := id hI
  obtain ⟨hP, hS, ⟨hL, hT⟩, ⟨hm, hH⟩, hK⟩ := id hA
  obtain ⟨cP, cS, cT, cH, cK, cW⟩ := id hCI
  obtain ⟨mP, mS, mT, mH, mK⟩ := id hMI
  obtain ⟨m0, n0, -⟩ := invm_0 hMI 0
  have hN5 := hP.1.2
  have hC6 := hP.2.1.2
  have hR10 := hP.2.2.1
  have al : alen 171 = 107 := by decide
  have hb := wfs_b hS (by omega)
  have hI2 : INV (t) F := inv_mono hI (by omega)
  unfold s_X8_approve
  rcases arg_ c (n := pPar P) (by have := hP.2.1.2; omega) with ⟨jc, hc, rfl⟩ | oc
  · have c0 := (cP_ok hP cP hc : s_X8_requireComponent F (nI jc) = some (.inl ()))
    have d0 := (mP_ok hP mP hc : s_X9_isPart F (nI jc) = some 1)
    rcases arg_ w (n := 5) (by omega) with ⟨jw, hw, rfl⟩ | ow
    · have c1 := (cA_ok hw : s_X8_requireApprover F (nI jw) = some (.inl ()))
      have d1 := (in_ok (a := 0) (b := 4) (by decide) (by decide) (by omega) (by omega) (by omega) : s_X9_in F (Int32.toInt64 (nI jw)) 0 4 = some 1)
      rcases arg_ v (n := 4) (by omega) with ⟨jv, hv, rfl⟩ | ov
      · have c2 := (cG_ok (a := 0) (b := 3) rfl rfl (by omega) (by omega) (by omega) : s_X8_requireRange F (nI jv) 0 3 = some (.inl ()))
        have d2 := (mV_ok hv : s_X9_isVersion F (nI jv) = some 1)
        have hA32 := (hS.2.2.2 jc hc).2 jv hv
        obtain ⟨p1, p2, p3⟩ := i_apr _ hA32 jw hw
        obtain ⟨-, x2⟩ := cS.2.2.2.1 jc hc
        have x2 : F 23 (4 * jc + jv) = nI (S (77 + 5 * jc + 1 + jv)) := x2 jv hv
        have x3 : ∀ k, k < 107 → F 171 k = nI (S k) := mS
        by_cases hz : (nI (S (77 + 5 * jc + 1 + jv)) &&& ((1 : Int32) <<< (nI jw &&& 31))) = 0
        · obtain ⟨F1, e1, i1, f1⟩ := invc_rem hCI hP hm
          obtain ⟨-, s1, -⟩ := id i1
          obtain ⟨-, y2⟩ := s1.2.2.2.1 jc hc
          have y2 : F1 23 (4 * jc + jv) = nI (S (77 + 5 * jc + 1 + jv)) := y2 jv hv
          obtain ⟨V, hV⟩ : ∃ V, V = S (77 + 5 * jc + 1 + jv) ||| 2 ^ jw := ⟨_, rfl⟩
          rw [← hV] at p2 p3
          obtain ⟨G, hG⟩ : ∃ G, G = mup F1 23 (4 * jc + jv) (nI V) := ⟨_, rfl⟩
          have i2 : INVC G P (rup S (77 + 5 * jc + 1 + jv) V) L T (mm1 m) (hpush S H) kp K := by
            rw [hG]
            exact invc_st i1 (rst_appr hP s1 hc hv) (fun x hx => mup_ne (by omega))
          have j1 := invm_cl (F1 := G) hMI (fun x hx => by rw [hG, mup_ne (by omega), f1 x (by omega)])
          have mP1 := j1.1
          have d0 := (mP_ok hP mP1 hc : s_X9_isPart G (nI jc) = some 1)
          have d1 := (in_ok (a := 0) (b := 4) (by decide) (by decide) (by omega) (by omega) (by omega) : s_X9_in G (Int32.toInt64 (nI jw)) 0 4 = some 1)
          have d2 := (mV_ok hv : s_X9_isVersion G (nI jv) = some 1)
          have g1 : ∀ k, k < 107 → G 171 k = nI (S k) := j1.2.1
          obtain ⟨F2, e2, k2, z2, f2⟩ := invm_note (invm_0 j1 0) hm
          have r4 : ∀ k, k < 107 → F2 171 k = nI (S k) := k2.2.1
          have w1 : WFS P t (rup S (77 + 5 * jc + 1 + jv) V) := wfs_rup hS (by omega) (fun h => by omega) (fun h => by omega) (fun n c hn hc h => by omega) (fun n hn h => by omega) (fun n hn h => by omega) (fun n hn h => by omega) (fun c hc h => by omega) (fun c u hc hu h => by omega)
          have b1 := c_bitCount (F := G) (show V < 1024 by omega)
          have g23 : G 23 (4 * jc + jv) = nI V := by rw [hG, mup_self, pk_us]
          obtain ⟨G2, hG2⟩ : ∃ G2, G2 = mup F2 171 (77 + 5 * jc + 1 + jv) (nI V) := ⟨_, rfl⟩
          have b2 := m_ones (F := G2) (show V < 2 ^ 30 by omega)
          have g24 : G2 171 (77 + 5 * jc + 1 + jv) = nI V := by rw [hG2, mup_self, pk_us]
          simp only [c0, c1, c2, tbW_l]
          unfold s_X0_change
          simp (disch := omega) only [bnd_, nI_add, nI_1, at_nI, pa_nI, inb_nI, ix_nI, nI_leI, nI_ltI, nI_eq, if_true, li_4, pk_mul, x2]
          rw [if_pos hz, e1]
          simp (disch := omega) only [bnd_, nI_add, nI_1, at_nI, pa_nI, inb_nI, ix_nI, nI_leI, nI_ltI, nI_eq, if_true, y2, p2]
          rw [← hG, g23, b1]
          simp only [bnd_]
          refine agW_ok (F2 := G2) ?_ (by rw [hG2, mup_ne (by omega)]; exact z2) (inv_act hA w1 (Nat.le_refl _) i2 (by rw [hG2]; exact invm_row k2 (rr_up k2.2.1) (fun x hx => by rw [mup_ne hx])) (fun x hx => by rw [hG2, mup_ne (by omega), f2 x hx, mup_ne (by omega)]))
          show s_X9_approve G (nI jc) (nI jv) (nI jw) = _
          unfold s_X9_approve s_X9_approve_b25
          simp only [d0, d1, d2, bnd_, ite_10, ite_00, if_true]
          unfold s_X9_partAt
          rw [li_77, li_5, pk_mul, nI_add]
          simp only [bnd_]
          rw [show nI (77 + 5 * jc) + 1 + nI jv = nI (77 + 5 * jc + 1 + jv) by rw [nI_1, nI_add], inb_nI (show 77 + 5 * jc + 1 + jv < 107 by omega) (by omega), ix_nI (by omega), g1 _ (by omega), if_pos rfl, if_neg (p1.mp hz)]
          unfold s_X9_approve_b74
          rw [rf_0]
          simp only [e2, bnd_]
          unfold s_X9_partAt
          rw [li_77, li_5, pk_mul, nI_add]
          simp only [bnd_]
          rw [show nI (77 + 5 * jc) + 1 + nI jv = nI (77 + 5 * jc + 1 + jv) by rw [nI_1, nI_add], inb_nI (show 77 + 5 * jc + 1 + jv < 107 by omega) (by omega), ix_nI (by omega), r4 _ (by omega), if_pos rfl, if_pos rfl, p2, ← hG2, if_pos rfl, g24, b2]
          simp only [bnd_]
        · simp only [c0, c1, c2, tbW_l]
          unfold s_X0_change
          simp (disch := omega) only [bnd_, nI_add, nI_1, at_nI, pa_nI, inb_nI, ix_nI, nI_leI, nI_ltI, nI_eq, if_true, li_4, pk_mul, x2]
          rw [if_neg hz]
          exact agW_no (k := 3) hI2 (by decide) (by decide) (by
            show s_X9_approve F (nI jc) (nI jv) (nI jw) = _
            unfold s_X9_approve s_X9_approve_b25
            simp only [d0, d1, d2, bnd_, ite_10, ite_00, if_true]
            unfold s_X9_partAt
            rw [li_77, li_5, pk_mul, nI_add]
            simp only [bnd_]
            rw [show nI (77 + 5 * jc) + 1 + nI jv = nI (77 + 5 * jc + 1 + jv) by rw [nI_1, nI_add], inb_nI (show 77 + 5 * jc + 1 + jv < 107 by omega) (by omega), ix_nI (by omega), x3 _ (by omega), if_pos rfl, if_pos (Classical.byContradiction (fun h9 => hz (p1.mpr h9)))]
            unfold s_X9_approve_b74
            rw [rf_3])
      · have c2 := (cV_no (b := 3) (by decide) (by omega) ov : s_X8_requireRange F v 0 3 = some (.inr ex_iae))
        have d2 := (mV_no ov : s_X9_isVersion F v = some 0)
        simp only [c0, c1, c2, tbW_l, tbW_r]
        exact agW_no (k := 2) hI2 (by decide) (by decide) (by
          show s_X9_approve F (nI jc) v (nI jw) = _
          unfold s_X9_approve s_X9_approve_b25 s_X9_approve_b74
          simp only [d0, d1, d2, bnd_, ite_10, ite_00, if_true, rf_0, rf_1, rf_2, rf_3])
    · have c1 := (cA_no ow : s_X8_requireApprover F w = some (.inr ex_ioo))
      have d1 := (in_no (b := 4) (by decide) (by omega) ow : s_X9_in F (Int32.toInt64 w) 0 4 = some 0)
      simp only [c0, c1, tbW_l, tbW_r]
      exact agW_no (k := 1) hI2 (by decide) (by decide) (by
        show s_X9_approve F (nI jc) v w = _
        unfold s_X9_approve s_X9_approve_b25 s_X9_approve_b74
        simp only [d0, d1, bnd_, ite_10, ite_00, if_true, rf_0, rf_1, rf_2, rf_3])
  · have c0 := (cP_no cP oc : s_X8_requireComponent F c = some (.inr ex_ioo))
    have d0 := (mP_no hP mP oc : s_X9_isPart F c = some 0)
    simp only [c0, tbW_l, tbW_r]
    exact agW_no (k := 1) hI2 (by decide) (by decide) (by
      show s_X9_approve F c v w = _
      unfold s_X9_approve s_X9_approve_b25 s_X9_approve_b74
      simp only [d0, bnd_, ite_10, ite_00, if_true, rf_0, rf_1, rf_2, rf_3])
