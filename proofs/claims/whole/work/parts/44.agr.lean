/-! ===== methods that only read ===== -/
theorem alen171 : alen 171 = 107 := by decide
theorem ag_node {F : MM} {t : Nat} (ht : t < 900000) (hI : INV t F) (n w : Int32) : AgR t [ex_ioo, ex_iae] (s_X8_node F n w) (s_X9_node F n w) := by
  obtain ⟨P, S, L, T, m, H, kp, K, hA, hCI, hMI⟩ := id hI
  obtain ⟨hP, hS, ⟨hL, hT⟩, ⟨hm, hH⟩, hK⟩ := hA
  obtain ⟨cP, cS, cT, cH, cK, cW⟩ := id hCI
  obtain ⟨mP, mS, mT, mH, mK⟩ := id hMI
  obtain ⟨m0, n0, -⟩ := invm_0 hMI 0
  have hN5 := hP.1.2
  have hC6 := hP.2.1.2
  have hR10 := hP.2.2.1
  have al : alen 171 = 107 := by decide
  have hb := wfs_b hS (by omega)
  unfold s_X8_node s_X9_node
  rcases arg_ n (n := pNod P) (by have := hP.1.2; omega) with ⟨jn, hn, rfl⟩ | on
  · have c0 := (show _ from (cN_ok hP cP hn : s_X8_requireNode F (nI jn) = some (.inl ())))
    have d0 := (show _ from (mN_ok hP mP hn : s_X9_isNode F (nI jn) = some 1))
    rcases arg_ w (n := 7) (by omega) with ⟨jw, hw, rfl⟩ | ow
    · have c1 := (show _ from (cG_ok (a := 0) (b := 6) rfl rfl (by omega) (by omega) (by omega) : s_X8_requireRange F (nI jw) 0 6 = some (.inl ())))
      have d1 := (show _ from (in_ok (a := 0) (b := 6) (by decide) (by decide) (by omega) (by omega) (by omega) : s_X9_in F (Int32.toInt64 (nI jw)) 0 6 = some 1))
      simp only [c0, d0, c1, d1, tbR_l, tbR_r, bnd_, ite_10, ite_00, rf_0, rf_1, rf_2, c_numberOf hP (by omega) hS cP cS hn hw, m_tell al n0 (by omega) hS hP m0 hn hw]
      exact agR_ok hI
    · have c1 := (show _ from (cV_no (b := 6) (by decide) (by omega) ow : s_X8_requireRange F w 0 6 = some (.inr ex_iae)))
      have d1 := (show _ from (in_no (b := 6) (by decide) (by omega) ow : s_X9_in F (Int32.toInt64 w) 0 6 = some 0))
      simp only [c0, d0, c1, d1, tbR_l, tbR_r, bnd_, ite_10, ite_00, rf_0, rf_1, rf_2]
      exact agR_no (k := 2) hI (by decide) (by decide)
  · have c0 := (show _ from (cN_no cP on : s_X8_requireNode F n = some (.inr ex_ioo)))
    have d0 := (show _ from (mN_no hP mP on : s_X9_isNode F n = some 0))
    simp only [c0, d0, tbR_l, tbR_r, bnd_, ite_10, ite_00, rf_0, rf_1, rf_2]
    exact agR_no (k := 1) hI (by decide) (by decide)
theorem ag_state {F : MM} {t : Nat} (ht : t < 900000) (hI : INV t F) (n c : Int32) : AgR t [ex_ioo] (s_X8_state F n c) (s_X9_state F n c) := by
  obtain ⟨P, S, L, T, m, H, kp, K, hA, hCI, hMI⟩ := id hI
  obtain ⟨hP, hS, ⟨hL, hT⟩, ⟨hm, hH⟩, hK⟩ := hA
  obtain ⟨cP, cS, cT, cH, cK, cW⟩ := id hCI
  obtain ⟨mP, mS, mT, mH, mK⟩ := id hMI
  obtain ⟨m0, n0, -⟩ := invm_0 hMI 0
  have hN5 := hP.1.2
  have hC6 := hP.2.1.2
  have hR10 := hP.2.2.1
  have al : alen 171 = 107 := by decide
  have hb := wfs_b hS (by omega)
  unfold s_X8_state s_X9_state
  rcases arg_ n (n := pNod P) (by have := hP.1.2; omega) with ⟨jn, hn, rfl⟩ | on
  · have c0 := (show _ from (cN_ok hP cP hn : s_X8_requireNode F (nI jn) = some (.inl ())))
    have d0 := (show _ from (mN_ok hP mP hn : s_X9_isNode F (nI jn) = some 1))
    rcases arg_ c (n := pPar P) (by have := hP.2.1.2; omega) with ⟨jc, hc, rfl⟩ | oc
    · have c1 := (show _ from (cP_ok hP cP hc : s_X8_requireComponent F (nI jc) = some (.inl ())))
      have d1 := (show _ from (mP_ok hP mP hc : s_X9_isPart F (nI jc) = some 1))
      simp only [c0, d0, c1, d1, tbR_l, tbR_r, bnd_, ite_10, ite_00, rf_0, rf_1, rf_2, c_stateOf hP (by omega) hS cP cS hn hc, m_stateOf al n0 hb hP m0 hS hn hc]
      exact agR_ok hI
    · have c1 := (show _ from (cP_no cP oc : s_X8_requireComponent F c = some (.inr ex_ioo)))
      have d1 := (show _ from (mP_no hP mP oc : s_X9_isPart F c = some 0))
      simp only [c0, d0, c1, d1, tbR_l, tbR_r, bnd_, ite_10, ite_00, rf_0, rf_1, rf_2]
      exact agR_no (k := 1) hI (by decide) (by decide)
  · have c0 := (show _ from (cN_no cP on : s_X8_requireNode F n = some (.inr ex_ioo)))
    have d0 := (show _ from (mN_no hP mP on : s_X9_isNode F n = some 0))
    simp only [c0, d0, tbR_l, tbR_r, bnd_, ite_10, ite_00, rf_0, rf_1, rf_2]
    exact agR_no (k := 1) hI (by decide) (by decide)
theorem ag_next {F : MM} {t : Nat} (ht : t < 900000) (hI : INV t F) (n : Int32) : AgR t [ex_ioo] (s_X8_next F n) (s_X9_next F n) := by
  obtain ⟨P, S, L, T, m, H, kp, K, hA, hCI, hMI⟩ := id hI
  obtain ⟨hP, hS, ⟨hL, hT⟩, ⟨hm, hH⟩, hK⟩ := hA
  obtain ⟨cP, cS, cT, cH, cK, cW⟩ := id hCI
  obtain ⟨mP, mS, mT, mH, mK⟩ := id hMI
  obtain ⟨m0, n0, -⟩ := invm_0 hMI 0
  have hN5 := hP.1.2
  have hC6 := hP.2.1.2
  have hR10 := hP.2.2.1
  have al : alen 171 = 107 := by decide
  have hb := wfs_b hS (by omega)
  unfold s_X8_next s_X9_next
  rcases arg_ n (n := pNod P) (by have := hP.1.2; omega) with ⟨jn, hn, rfl⟩ | on
  · have c0 := (show _ from (cN_ok hP cP hn : s_X8_requireNode F (nI jn) = some (.inl ())))
    have d0 := (show _ from (mN_ok hP mP hn : s_X9_isNode F (nI jn) = some 1))
    simp only [c0, d0, tbR_l, tbR_r, bnd_, ite_10, ite_00, rf_0, rf_1, rf_2, c_readyOn hP (by omega) hS cP cS hn, m_nextOf al n0 hb hP m0 hS hn]
    exact agR_ok hI
  · have c0 := (show _ from (cN_no cP on : s_X8_requireNode F n = some (.inr ex_ioo)))
    have d0 := (show _ from (mN_no hP mP on : s_X9_isNode F n = some 0))
    simp only [c0, d0, tbR_l, tbR_r, bnd_, ite_10, ite_00, rf_0, rf_1, rf_2]
    exact agR_no (k := 1) hI (by decide) (by decide)
theorem ag_breaks {F : MM} {t : Nat} (ht : t < 900000) (hI : INV t F) (n c v : Int32) : AgR t [ex_ioo, ex_iae] (s_X8_breaks F n c v) (s_X9_breaks F n c v) := by
  obtain ⟨P, S, L, T, m, H, kp, K, hA, hCI, hMI⟩ := id hI
  obtain ⟨hP, hS, ⟨hL, hT⟩, ⟨hm, hH⟩, hK⟩ := hA
  obtain ⟨cP, cS, cT, cH, cK, cW⟩ := id hCI
  obtain ⟨mP, mS, mT, mH, mK⟩ := id hMI
  obtain ⟨m0, n0, -⟩ := invm_0 hMI 0
  have hN5 := hP.1.2
  have hC6 := hP.2.1.2
  have hR10 := hP.2.2.1
  have al : alen 171 = 107 := by decide
  have hb := wfs_b hS (by omega)
  unfold s_X8_breaks s_X9_breaks
  rcases arg_ n (n := pNod P) (by have := hP.1.2; omega) with ⟨jn, hn, rfl⟩ | on
  · have c0 := (show _ from (cN_ok hP cP hn : s_X8_requireNode F (nI jn) = some (.inl ())))
    have d0 := (show _ from (mN_ok hP mP hn : s_X9_isNode F (nI jn) = some 1))
    rcases arg_ c (n := pPar P) (by have := hP.2.1.2; omega) with ⟨jc, hc, rfl⟩ | oc
    · have c1 := (show _ from (cP_ok hP cP hc : s_X8_requireComponent F (nI jc) = some (.inl ())))
      have d1 := (show _ from (mP_ok hP mP hc : s_X9_isPart F (nI jc) = some 1))
      rcases arg_ v (n := 4) (by omega) with ⟨jv, hv, rfl⟩ | ov
      · have c2 := (show _ from (cG_ok (a := 0) (b := 3) rfl rfl (by omega) (by omega) (by omega) : s_X8_requireRange F (nI jv) 0 3 = some (.inl ())))
        have d2 := (show _ from (mV_ok hv : s_X9_isVersion F (nI jv) = some 1))
        have hx := cod_4096 hP hS hn (Or.inl rfl)
        have hw := wth_lt (cod_lt hP hS hn (Or.inl rfl)) hc hv
        obtain ⟨r1, -⟩ := cS.2.2.1 jn hn
        simp only [c0, d0, c1, d1, c2, d2, tbR_l, tbR_r, bnd_, ite_10, ite_00, rf_0, rf_1, rf_2, m_newlyBroken al n0 hP m0 hS hn hc hv]
        unfold s_X0_with
        simp (disch := omega) only [bnd_, nI_add, nI_1, at_nI, pa_nI, inb_nI, ix_nI, nI_leI, nI_ltI, nI_eq, if_true, r1, i_wth hx (show jc < 6 by omega) hv, c_newlyBroken hP cP (cod_lt hP hS hn (Or.inl rfl)) hw]
        exact agR_ok hI
      · have c2 := (show _ from (cV_no (b := 3) (by decide) (by omega) ov : s_X8_requireRange F v 0 3 = some (.inr ex_iae)))
        have d2 := (show _ from (mV_no ov : s_X9_isVersion F v = some 0))
        simp only [c0, d0, c1, d1, c2, d2, tbR_l, tbR_r, bnd_, ite_10, ite_00, rf_0, rf_1, rf_2]
        exact agR_no (k := 2) hI (by decide) (by decide)
    · have c1 := (show _ from (cP_no cP oc : s_X8_requireComponent F c = some (.inr ex_ioo)))
      have d1 := (show _ from (mP_no hP mP oc : s_X9_isPart F c = some 0))
      simp only [c0, d0, c1, d1, tbR_l, tbR_r, bnd_, ite_10, ite_00, rf_0, rf_1, rf_2]
      exact agR_no (k := 1) hI (by decide) (by decide)
  · have c0 := (show _ from (cN_no cP on : s_X8_requireNode F n = some (.inr ex_ioo)))
    have d0 := (show _ from (mN_no hP mP on : s_X9_isNode F n = some 0))
    simp only [c0, d0, tbR_l, tbR_r, bnd_, ite_10, ite_00, rf_0, rf_1, rf_2]
    exact agR_no (k := 1) hI (by decide) (by decide)
theorem ag_approvals {F : MM} {t : Nat} (ht : t < 900000) (hI : INV t F) (c v : Int32) : AgR t [ex_ioo, ex_iae] (s_X8_approvals F c v) (s_X9_approvals F c v) := by
  obtain ⟨P, S, L, T, m, H, kp, K, hA, hCI, hMI⟩ := id hI
  obtain ⟨hP, hS, ⟨hL, hT⟩, ⟨hm, hH⟩, hK⟩ := hA
  obtain ⟨cP, cS, cT, cH, cK, cW⟩ := id hCI
  obtain ⟨mP, mS, mT, mH, mK⟩ := id hMI
  obtain ⟨m0, n0, -⟩ := invm_0 hMI 0
  have hN5 := hP.1.2
  have hC6 := hP.2.1.2
  have hR10 := hP.2.2.1
  have al : alen 171 = 107 := by decide
  have hb := wfs_b hS (by omega)
  unfold s_X8_approvals s_X9_approvals
  rcases arg_ c (n := pPar P) (by have := hP.2.1.2; omega) with ⟨jc, hc, rfl⟩ | oc
  · have c0 := (show _ from (cP_ok hP cP hc : s_X8_requireComponent F (nI jc) = some (.inl ())))
    have d0 := (show _ from (mP_ok hP mP hc : s_X9_isPart F (nI jc) = some 1))
    rcases arg_ v (n := 4) (by omega) with ⟨jv, hv, rfl⟩ | ov
    · have c1 := (show _ from (cG_ok (a := 0) (b := 3) rfl rfl (by omega) (by omega) (by omega) : s_X8_requireRange F (nI jv) 0 3 = some (.inl ())))
      have d1 := (show _ from (mV_ok hv : s_X9_isVersion F (nI jv) = some 1))
      obtain ⟨-, r2⟩ := cS.2.2.2.1 jc hc
      have r2 : F 23 (4 * jc + jv) = nI (S (77 + 5 * jc + 1 + jv)) := r2 jv hv
      have r3 : ∀ k, k < 107 → (mup F 164 0 0) 171 k = nI (S k) := n0
      simp only [c0, d0, c1, d1, tbR_l, tbR_r, bnd_, ite_10, ite_00, rf_0, rf_1, rf_2]
      unfold s_X0_change s_X9_partAt
      simp (disch := omega) only [bnd_, nI_add, nI_1, at_nI, pa_nI, inb_nI, ix_nI, nI_leI, nI_ltI, nI_eq, if_true, li_4, pk_mul, r2, r3]
      exact agR_ok hI
    · have c1 := (show _ from (cV_no (b := 3) (by decide) (by omega) ov : s_X8_requireRange F v 0 3 = some (.inr ex_iae)))
      have d1 := (show _ from (mV_no ov : s_X9_isVersion F v = some 0))
      simp only [c0, d0, c1, d1, tbR_l, tbR_r, bnd_, ite_10, ite_00, rf_0, rf_1, rf_2]
      exact agR_no (k := 2) hI (by decide) (by decide)
  · have c0 := (show _ from (cP_no cP oc : s_X8_requireComponent F c = some (.inr ex_ioo)))
    have d0 := (show _ from (mP_no hP mP oc : s_X9_isPart F c = some 0))
    simp only [c0, d0, tbR_l, tbR_r, bnd_, ite_10, ite_00, rf_0, rf_1, rf_2]
    exact agR_no (k := 1) hI (by decide) (by decide)
theorem ag_quorum {F : MM} {t : Nat} (ht : t < 900000) (hI : INV t F) (c : Int32) : AgR t [ex_ioo] (s_X8_quorum F c) (s_X9_quorum F c) := by
  obtain ⟨P, S, L, T, m, H, kp, K, hA, hCI, hMI⟩ := id hI
  obtain ⟨hP, hS, ⟨hL, hT⟩, ⟨hm, hH⟩, hK⟩ := hA
  obtain ⟨cP, cS, cT, cH, cK, cW⟩ := id hCI
  obtain ⟨mP, mS, mT, mH, mK⟩ := id hMI
  obtain ⟨m0, n0, -⟩ := invm_0 hMI 0
  have hN5 := hP.1.2
  have hC6 := hP.2.1.2
  have hR10 := hP.2.2.1
  have al : alen 171 = 107 := by decide
  have hb := wfs_b hS (by omega)
  unfold s_X8_quorum s_X9_quorum
  rcases arg_ c (n := pPar P) (by have := hP.2.1.2; omega) with ⟨jc, hc, rfl⟩ | oc
  · have c0 := (show _ from (cP_ok hP cP hc : s_X8_requireComponent F (nI jc) = some (.inl ())))
    have d0 := (show _ from (mP_ok hP mP hc : s_X9_isPart F (nI jc) = some 1))
    obtain ⟨r2, -⟩ := cS.2.2.2.1 jc hc
    have r2 : F 22 jc = nI (S (77 + 5 * jc)) := r2
    have r3 : ∀ k, k < 107 → (mup F 164 0 0) 171 k = nI (S k) := n0
    simp only [c0, d0, tbR_l, tbR_r, bnd_, ite_10, ite_00, rf_0, rf_1, rf_2]
    unfold s_X9_partAt
    simp (disch := omega) only [bnd_, nI_add, nI_1, at_nI, pa_nI, inb_nI, ix_nI, nI_leI, nI_ltI, nI_eq, if_true, r2, r3]
    exact agR_ok hI
  · have c0 := (show _ from (cP_no cP oc : s_X8_requireComponent F c = some (.inr ex_ioo)))
    have d0 := (show _ from (mP_no hP mP oc : s_X9_isPart F c = some 0))
    simp only [c0, d0, tbR_l, tbR_r, bnd_, ite_10, ite_00, rf_0, rf_1, rf_2]
    exact agR_no (k := 1) hI (by decide) (by decide)
theorem ag_rule {F : MM} {t : Nat} (ht : t < 900000) (hI : INV t F) (r w : Int32) : AgR t [ex_ioo, ex_iae] (s_X8_rule F r w) (s_X9_rule F r w) := by
  obtain ⟨P, S, L, T, m, H, kp, K, hA, hCI, hMI⟩ := id hI
  obtain ⟨hP, hS, ⟨hL, hT⟩, ⟨hm, hH⟩, hK⟩ := hA
  obtain ⟨cP, cS, cT, cH, cK, cW⟩ := id hCI
  obtain ⟨mP, mS, mT, mH, mK⟩ := id hMI
  obtain ⟨m0, n0, -⟩ := invm_0 hMI 0
  have hN5 := hP.1.2
  have hC6 := hP.2.1.2
  have hR10 := hP.2.2.1
  have al : alen 171 = 107 := by decide
  have hb := wfs_b hS (by omega)
  unfold s_X8_rule s_X9_rule
  rcases arg_ r (n := pRul P) (by have := hP.2.2.1; omega) with ⟨jr, hr, rfl⟩ | or
  · have c0 := (show _ from (cR_ok hP cP hr : s_X8_requireRule F (nI jr) = some (.inl ())))
    have d0 := (show _ from (lm_ok mP.2.2.1 hr (by have := hP.2.2.1; omega) : s_X9_in F (Int32.toInt64 (nI jr)) 0 (Int32.toInt64 ((F 164 6) - 1)) = some 1))
    rcases arg_ w (n := 5) (by omega) with ⟨jw, hw, rfl⟩ | ow
    · have c1 := (show _ from (cG_ok (a := 0) (b := 4) rfl rfl (by omega) (by omega) (by omega) : s_X8_requireRange F (nI jw) 0 4 = some (.inl ())))
      have d1 := (show _ from (in_ok (a := 0) (b := 4) (by decide) (by decide) (by omega) (by omega) (by omega) : s_X9_in F (Int32.toInt64 (nI jw)) 0 4 = some 1))
      have r2 : F 11 (5 * jr + jw) = nI (pLaw P (5 * jr + jw)) := cP.2.2.2.2.2.2.1 _ (by omega)
      have r3 : (mup F 164 0 0) 167 (5 * jr + jw) = nI (pLaw P (5 * jr + jw)) := m0.2.2.2.2.2.2 _ (by omega)
      simp only [c0, d0, c1, d1, tbR_l, tbR_r, bnd_, ite_10, ite_00, rf_0, rf_1, rf_2]
      unfold s_X4_part
      rw [show nI jr * 5 = nI (5 * jr) by rw [li_5, pk_mul, Nat.mul_comm], show (5 : Int32) * nI jr = nI (5 * jr) by rw [li_5, pk_mul]]
      simp (disch := omega) only [bnd_, nI_add, nI_1, at_nI, pa_nI, inb_nI, ix_nI, nI_leI, nI_ltI, nI_eq, if_true, r2, r3]
      exact agR_ok hI
    · have c1 := (show _ from (cV_no (b := 4) (by decide) (by omega) ow : s_X8_requireRange F w 0 4 = some (.inr ex_iae)))
      have d1 := (show _ from (in_no (b := 4) (by decide) (by omega) ow : s_X9_in F (Int32.toInt64 w) 0 4 = some 0))
      simp only [c0, d0, c1, d1, tbR_l, tbR_r, bnd_, ite_10, ite_00, rf_0, rf_1, rf_2]
      exact agR_no (k := 2) hI (by decide) (by decide)
  · have c0 := (show _ from (cR_no cP or : s_X8_requireRule F r = some (.inr ex_ioo)))
    have d0 := (show _ from (lm_no mP.2.2.1 or (by have := hP.2.2.1; omega) : s_X9_in F (Int32.toInt64 r) 0 (Int32.toInt64 ((F 164 6) - 1)) = some 0))
    simp only [c0, d0, tbR_l, tbR_r, bnd_, ite_10, ite_00, rf_0, rf_1, rf_2]
    exact agR_no (k := 1) hI (by decide) (by decide)
theorem ag_version {F : MM} {t : Nat} (ht : t < 900000) (hI : INV t F) (n c w : Int32) : AgR t [ex_ioo] (s_X8_version F n c w) (s_X9_version F n c w) := by
  obtain ⟨P, S, L, T, m, H, kp, K, hA, hCI, hMI⟩ := id hI
  obtain ⟨hP, hS, ⟨hL, hT⟩, ⟨hm, hH⟩, hK⟩ := hA
  obtain ⟨cP, cS, cT, cH, cK, cW⟩ := id hCI
  obtain ⟨mP, mS, mT, mH, mK⟩ := id hMI
  obtain ⟨m0, n0, -⟩ := invm_0 hMI 0
  have hN5 := hP.1.2
  have hC6 := hP.2.1.2
  have hR10 := hP.2.2.1
  have al : alen 171 = 107 := by decide
  have hb := wfs_b hS (by omega)
  unfold s_X8_version s_X9_version s_X9_version_b22
  rcases arg_ n (n := pNod P) (by have := hP.1.2; omega) with ⟨jn, hn, rfl⟩ | on
  · have c0 := (show _ from (cN_ok hP cP hn : s_X8_requireNode F (nI jn) = some (.inl ())))
    have d0 := (show _ from (mN_ok hP mP hn : s_X9_isNode F (nI jn) = some 1))
    rcases arg_ c (n := pPar P) (by have := hP.2.1.2; omega) with ⟨jc, hc, rfl⟩ | oc
    · have c1 := (show _ from (cP_ok hP cP hc : s_X8_requireComponent F (nI jc) = some (.inl ())))
      have d1 := (show _ from (mP_ok hP mP hc : s_X9_isPart F (nI jc) = some 1))
      obtain ⟨r1, r2, -⟩ := cS.2.2.1 jn hn
      have r1 : F 17 jn = nI (cod P S jn 0) := r1
      have r2 : F 18 jn = nI (cod P S jn 6) := r2
      have r3 : ∀ k, k < 107 → (mup F 164 0 0) 171 k = nI (S k) := n0
      have hx := cod_4096 hP hS hn (Or.inl rfl)
      have hy := cod_4096 hP hS hn (Or.inr rfl)
      simp only [c0, d0, c1, d1, tbR_l, tbR_r, bnd_, ite_10, ite_00, rf_0, rf_1, rf_2]
      unfold s_X9_at s_X0_versionIn
      by_cases hw : w = 0
      · simp only [hw, if_true]
        simp (disch := omega) only [bnd_, nI_add, nI_1, at_nI, pa_nI, inb_nI, ix_nI, nI_leI, nI_ltI, nI_eq, if_true, r1, i_vin hx (show jc < 6 by omega), cod_vin0 hP hS hn hc, r3, Int32.add_zero]
        exact agR_ok hI
      · simp only [hw, if_false]
        simp (disch := omega) only [bnd_, nI_add, nI_1, at_nI, pa_nI, inb_nI, ix_nI, nI_leI, nI_ltI, nI_eq, if_true, li_6, r2, i_vin hy (show jc < 6 by omega), cod_vin6 hP hS hn hc, r3]
        exact agR_ok hI
    · have c1 := (show _ from (cP_no cP oc : s_X8_requireComponent F c = some (.inr ex_ioo)))
      have d1 := (show _ from (mP_no hP mP oc : s_X9_isPart F c = some 0))
      simp only [c0, d0, c1, d1, tbR_l, tbR_r, bnd_, ite_10, ite_00, rf_0, rf_1, rf_2]
      exact agR_no (k := 1) hI (by decide) (by decide)
  · have c0 := (show _ from (cN_no cP on : s_X8_requireNode F n = some (.inr ex_ioo)))
    have d0 := (show _ from (mN_no hP mP on : s_X9_isNode F n = some 0))
    simp only [c0, d0, tbR_l, tbR_r, bnd_, ite_10, ite_00, rf_0, rf_1, rf_2]
    exact agR_no (k := 1) hI (by decide) (by decide)
