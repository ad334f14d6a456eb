/-! ===== ways: they agree ===== -/
section WY
variable {F F1 : MM} {P : PL} {S : RW} {L m t g : Nat} {T : Nat → Nat} {H K : Nat → RW} {kp : Nat → Bool}
theorem invc_wy (h : INVC F P S L T m H kp K) (hf : ∀ a, a ≠ 13 → a ≠ 14 → a ≠ 15 → F1 a = F a) (hw : RWy F1 P) : INVC F1 P S L T m H kp K := by
  obtain ⟨h1, h2, h3, h4, h5, h6⟩ := h
  refine ⟨rpc_fr h1 (fun x _ _ => hf x (by omega) (by omega) (by omega)), rst_fr h2 (fun x _ _ => hf x (by omega) (by omega) (by omega)), ?_, rme_fr h4 (fun x _ _ => hf x (by omega) (by omega) (by omega)), rsl_fr h5 (fun x _ _ => hf x (by omega) (by omega) (by omega)), hw⟩
  unfold RTC
  rw [hf 0 (by omega) (by omega) (by omega), hf 1 (by omega) (by omega) (by omega)]
  exact h3
theorem m_stepW {s idx : Nat} (hidx : idx < 2 ^ 31) (hP : WFP P) (hM : RPM F P) (hW : FW F P g) (hs : s < 4 ^ pPar P) : ∃ r, (if nI idx < F 177 s then (s_X9_firstStep F (nI s)).bind (fun r18 => s_X9_step_b79 fu_ F (nI idx) (nI s) r18 0) else some ((-9 : Int32), F)) = some (r, F) ∧ stp P g s idx r := by
  rcases hW.2 s hs with ⟨k, hk, hx, e⟩ | ⟨e, hn⟩
  · by_cases hi : idx < k
    · obtain ⟨k1, rfl⟩ : ∃ k1, k = k1 + 1 := ⟨k - 1, by omega⟩
      obtain ⟨q0, g1, g2⟩ := m_firstStep (k := k1) hP hM hW hs (by omega) hx
      obtain ⟨q, h1, h2⟩ := m_step_b (idx := idx) hidx hP hM hW idx k1 s 0 q0 fu_ (by omega) (fu_lt (by omega)) (by omega) (by omega) hs g2
      have h1 : s_X9_step_b79 fu_ F (nI idx) (nI s) (nI q0) 0 = some (nI q, F) := h1
      refine ⟨nI q, ?_, Or.inl ⟨k1, q, hx, by omega, h2, rfl⟩⟩
      rw [e, if_pos (by rw [nI_ltI (by omega) (by omega)]; exact hi), g1, bnd_, h1]
    · refine ⟨-9, ?_, Or.inr ⟨rfl, fun k2 h2 => by rw [xct_uniq h2 hx]; omega⟩⟩
      rw [e, if_neg (by rw [nI_ltI (by omega) (by omega)]; exact hi)]
  · refine ⟨-9, ?_, Or.inr ⟨rfl, fun k2 h2 => absurd h2.1 (hn k2)⟩⟩
    rw [e, if_neg (fun h9 => by
      rw [Int32.lt_iff_toInt_lt, nI_toInt hidx] at h9
      have h8 : (-9 : Int32).toInt = -9 := by decide
      omega)]
end WY
theorem ag_fewest {F : MM} {t : Nat} (ht : t < 800000) (hI : INV t F) (n : Int32) : AgW (t) [ex_ioo] (s_X8_fewest F n) (fun G => s_X9_fewest G n) := by
  obtain ⟨P, S, L, T, m, H, kp, K, hA, hCI, hMI⟩ := id hI
  obtain ⟨hP, hS, ⟨hL, hT⟩, ⟨hm, hH⟩, hK⟩ := id hA
  obtain ⟨cP, cS, cT, cH, cK, cW⟩ := id hCI
  obtain ⟨mP, mS, mT, mH, mK⟩ := id hMI
  obtain ⟨m0, n0, -⟩ := invm_0 hMI 0
  have hN5 := hP.1.2
  have hC6 := hP.2.1.2
  have hR10 := hP.2.2.1
  have al : alen 171 = 107 := by decide
  have hb := wfs_b hS (by omega)
  have hI2 : INV (t) F := inv_mono hI (by omega)
  unfold s_X8_fewest
  rcases arg_ n (n := pNod P) (by have := hP.1.2; omega) with ⟨jn, hn, rfl⟩ | on
  · have c0 := (cN_ok hP cP hn : s_X8_requireNode F (nI jn) = some (.inl ()))
    have d0 := (mN_ok hP mP hn : s_X9_isNode F (nI jn) = some 1)
    have hx := cod_lt hP hS hn (Or.inl rfl)
    have hy := cod_lt hP hS hn (Or.inr rfl)
    have h6 := pow4_le hC6
    have hx2 : cod P S jn 0 < 4096 := by omega
    obtain ⟨r1, r2, -⟩ := cS.2.2.1 jn hn
    have r1 : F 17 jn = nI (cod P S jn 0) := r1
    have r2 : F 18 jn = nI (cod P S jn 6) := r2
    obtain ⟨r, F1, Q1, d1, h1, l1, e1, f1, u1, b1, v1⟩ := c_distance hP hx hy cP cW
    have w1 : RWy F1 P := Or.inr ⟨cod P S jn 6, Q1, d1, h1, l1, hy, u1, b1⟩
    have z1 := c_dis hP hx b1 v1
    have i1 := invc_wy hCI f1 w1
    have j1 := invm_cl (F1 := F1) hMI (fun x hx => f1 x (by omega) (by omega) (by omega))
    have mP1 := j1.1
    have d0 := (mN_ok hP mP1 hn : s_X9_isNode F1 (nI jn) = some 1)
    obtain ⟨k1, k2, -⟩ := id (invm_0 j1 0)
    have q6 : s_X9_codeOf (mup F1 164 0 0) 171 (nI jn) 6 = some (nI (cod P S jn 6)) := m_codeOf (f := 6) al k2 hP k1 (by omega) (by omega) (fun c hc => ((hS.2.2.1 jn hn).1 c hc).2)
    obtain ⟨F2, e2, f2, w2⟩ := m_layWays (g := cod P S jn 6) hP hy k1
    have k3 : RPM F2 P := (invm_fr (invm_0 j1 0) (F1 := F2) (fun j _ => by rw [f2 164 (by omega) (by omega) (by omega)]) (fun x hx => f2 x (by omega) (by omega) (by omega))).1
    have k4 : INVM F2 P S L T m H kp K := invm_fr (invm_0 j1 0) (F1 := F2) (fun j _ => by rw [f2 164 (by omega) (by omega) (by omega)]) (fun x hx => f2 x (by omega) (by omega) (by omega))
    have q0 : s_X9_codeOf F2 171 (nI jn) 0 = some (nI (cod P S jn 0)) := m_codeOf (f := 0) al k4.2.1 hP k3 (by omega) (by omega) (fun c hc => ((hS.2.2.1 jn hn).1 c hc).1)
    have er : F2 177 (cod P S jn 0) = r := dis_uniq (w2.2 _ hx) z1
    simp (disch := omega) only [c0, tbW_l, inb_nI, ix_nI, if_true, r1, r2, e1, bnd_]
    exact agW_ok (F2 := F2) (by
      show s_X9_fewest F1 (nI jn) = _
      unfold s_X9_fewest s_X9_fewest_b14
      simp only [d0, bnd_, ite_10, rf_0, q6, e2, q0, inb_nI hx2 (show 4096 < 2 ^ 31 by omega), ix_nI (show cod P S jn 0 < 2 ^ 31 by omega), if_true, er]) (by rw [f2 164 (by omega) (by omega) (by omega)]; exact mup_00 F1 0) ⟨P, S, L, T, m, H, kp, K, hA, invc_m i1 (fun x hx => by rw [f2 x (by omega) (by omega) (by omega), mup_ne (by omega)]), k4⟩
  · have c0 := (cN_no cP on : s_X8_requireNode F n = some (.inr ex_ioo))
    have d0 := (mN_no hP mP on : s_X9_isNode F n = some 0)
    simp only [c0, tbW_l, tbW_r]
    exact agW_no (k := 1) hI2 (by decide) (by decide) (by
      show s_X9_fewest F n = _
      unfold s_X9_fewest s_X9_fewest_b14
      simp only [d0, bnd_, ite_10, ite_00, if_true, rf_0, rf_1, rf_2, rf_3])
theorem ag_step {F : MM} {t : Nat} (ht : t < 800000) (hI : INV t F) (n i : Int32) : AgW t [ex_ioo, ex_iae] (s_X8_step F n i) (fun G => s_X9_step G n i) := by
  obtain ⟨P, S, L, T, m, H, kp, K, hA, hCI, hMI⟩ := id hI
  obtain ⟨hP, hS, ⟨hL, hT⟩, ⟨hm, hH⟩, hK⟩ := id hA
  obtain ⟨cP, cS, cT, cH, cK, cW⟩ := id hCI
  obtain ⟨mP, mS, mT, mH, mK⟩ := id hMI
  obtain ⟨m0, n0, -⟩ := invm_0 hMI 0
  have hN5 := hP.1.2
  have hC6 := hP.2.1.2
  have hR10 := hP.2.2.1
  have al : alen 171 = 107 := by decide
  have hb := wfs_b hS (by omega)
  unfold s_X8_step
  rcases arg_ n (n := pNod P) (by omega) with ⟨jn, hn, rfl⟩ | on
  · have c0 := (cN_ok hP cP hn : s_X8_requireNode F (nI jn) = some (.inl ()))
    have d0 := (mN_ok hP mP hn : s_X9_isNode F (nI jn) = some 1)
    by_cases hi : i < 0
    · have hi2 : ¬ (0 : Int32) ≤ i := Int32.not_le.mpr hi
      simp only [c0, tbW_l, if_neg hi2]
      exact agW_no (k := 2) hI (by decide) (by decide) (by
        show s_X9_step F (nI jn) i = _
        unfold s_X9_step s_X9_step_b22
        simp only [d0, bnd_, ite_10, if_neg hi2, rf_2])
    · obtain ⟨ji, hji, rfl⟩ := nI_of hi
      have hi2 : (0 : Int32) ≤ nI ji := nI_pos' hji
      have hx := cod_lt hP hS hn (Or.inl rfl)
      have hy := cod_lt hP hS hn (Or.inr rfl)
      have h6 := pow4_le hC6
      have hx2 : cod P S jn 0 < 4096 := by omega
      obtain ⟨r1, r2, -⟩ := cS.2.2.1 jn hn
      have r1 : F 17 jn = nI (cod P S jn 0) := r1
      have r2 : F 18 jn = nI (cod P S jn 6) := r2
      obtain ⟨r, F1, e1, f1, w1, z1⟩ := c_changeOfBest (idx := ji) hP hx hy hji cP cW
      have i1 := invc_wy hCI f1 w1
      have j1 := invm_cl (F1 := F1) hMI (fun x hx => f1 x (by omega) (by omega) (by omega))
      have mP1 := j1.1
      have d0 := (mN_ok hP mP1 hn : s_X9_isNode F1 (nI jn) = some 1)
      obtain ⟨k1, k2, -⟩ := id (invm_0 j1 0)
      have q6 : s_X9_codeOf (mup F1 164 0 0) 171 (nI jn) 6 = some (nI (cod P S jn 6)) := m_codeOf (f := 6) al k2 hP k1 (by omega) (by omega) (fun c hc => ((hS.2.2.1 jn hn).1 c hc).2)
      obtain ⟨F2, e2, f2, w2⟩ := m_layWays (g := cod P S jn 6) hP hy k1
      have k3 : RPM F2 P := (invm_fr (invm_0 j1 0) (F1 := F2) (fun j _ => by rw [f2 164 (by omega) (by omega) (by omega)]) (fun x hx => f2 x (by omega) (by omega) (by omega))).1
      have k4 : INVM F2 P S L T m H kp K := invm_fr (invm_0 j1 0) (F1 := F2) (fun j _ => by rw [f2 164 (by omega) (by omega) (by omega)]) (fun x hx => f2 x (by omega) (by omega) (by omega))
      have q0 : s_X9_codeOf F2 171 (nI jn) 0 = some (nI (cod P S jn 0)) := m_codeOf (f := 0) al k4.2.1 hP k3 (by omega) (by omega) (fun c hc => ((hS.2.2.1 jn hn).1 c hc).1)
      obtain ⟨r3, e3, z3⟩ := m_stepW (s := cod P S jn 0) hji hP k3 w2 hx
      have er : r3 = r := stp_uniq z3 z1
      rw [er] at e3
      simp (disch := omega) only [c0, tbW_l, inb_nI, ix_nI, if_true, if_pos hi2, r1, r2, e1, bnd_]
      exact agW_ok (F2 := F2) (by
        show s_X9_step F1 (nI jn) (nI ji) = _
        unfold s_X9_step s_X9_step_b22
        simp only [d0, bnd_, ite_10, rf_0, if_pos hi2, q6, e2, q0, inb_nI hx2 (show 4096 < 2 ^ 31 by omega), ix_nI (show cod P S jn 0 < 2 ^ 31 by omega), if_true]
        exact e3) (by rw [f2 164 (by omega) (by omega) (by omega)]; exact mup_00 F1 0) ⟨P, S, L, T, m, H, kp, K, hA, invc_m i1 (fun x hx => by rw [f2 x (by omega) (by omega) (by omega), mup_ne (by omega)]), k4⟩
  · have c0 := (cN_no cP on : s_X8_requireNode F n = some (.inr ex_ioo))
    have d0 := (mN_no hP mP on : s_X9_isNode F n = some 0)
    simp only [c0, tbW_l, tbW_r]
    exact agW_no (k := 1) hI (by decide) (by decide) (by
      show s_X9_step F n i = _
      unfold s_X9_step s_X9_step_b22
      simp only [d0, bnd_, ite_00, if_true, rf_1])
