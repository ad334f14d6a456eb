/-! ===== a wish of a ring ===== -/
def wrN (P : PL) (S : RW) (g c v : Nat) : Nat → RW
  | 0 => S
  | n + 1 => if pRin P n = g then rup (wrN P S g c v n) (2 + 15 * n + 6 + c) v else wrN P S g c v n
def wrc (P : PL) (g : Nat) (n : Nat) : Bool := decide (pRin P n = g)
section WR
variable {F F1 : MM} {P : PL} {S S' : RW} {a n c t k v g w m : Nat} {H : Nat → RW}
theorem wrN_t {i : Nat} (h : pRin P i = g) : wrN P S g c v (i + 1) = rup (wrN P S g c v i) (2 + 15 * i + 6 + c) v := if_pos h
theorem wrN_f {i : Nat} (h : ¬ pRin P i = g) : wrN P S g c v (i + 1) = wrN P S g c v i := if_neg h
theorem wfs_wrN (hP : WFP P) (hS : WFS P t S) (hc : c < pPar P) (hv : v < 4) : ∀ i, i ≤ pNod P → WFS P t (wrN P S g c v i)
  | 0, _ => hS
  | i + 1, h => by
    have ih := wfs_wrN hP hS hc hv i (by omega)
    have hN := hP.1.2
    have hC := hP.2.1.2
    by_cases h9 : pRin P i = g
    · rw [wrN_t h9]
      exact wfs_rup ih (by omega) (fun h => by omega) (fun h => by omega) (fun n c hn hc h => by omega) (fun n hn h => by omega) (fun n hn h => by omega) (fun n hn h => by omega) (fun c hc h => by omega) (fun c u hc hu h => by omega)
    · rw [wrN_f h9]; exact ih
theorem c_wr (hP : WFP P) (hS : WFS P t S) (hc : c < pPar P) (hv : v < 4) (hg : g < 3) : ∀ d i fuel F, i + d = pNod P → d < fuel → RPC F P → RSt F P 16 (wrN P S g c v i) →
    ∃ F1, s_X8_wishRing_b34 fuel F (nI g) (nI c) (nI v) (nI (cntN (wrc P g) i)) (nI i) = some (.inl (nI (cntN (wrc P g) (pNod P))), F1) ∧ RSt F1 P 16 (wrN P S g c v (pNod P)) ∧ ∀ x, x < 16 ∨ 24 ≤ x → F1 x = F x
  | 0, i, fuel + 1, F, h, _, hC', hT => by
    have hN := hP.1.2
    have : i = pNod P := by omega
    subst this
    rw [s_X8_wishRing_b34, if_pos (by rw [hC'.1, nI_leI (by omega) (by omega)]; omega)]
    exact ⟨F, rfl, hT, fun _ _ => rfl⟩
  | d + 1, i, fuel + 1, F, h, hf, hC', hT => by
    have hN := hP.1.2
    have hC := hP.2.1.2
    have hi : i < pNod P := by omega
    have ih := c_wr hP hS hc hv hg d (i + 1) fuel
    have hWi := wfs_wrN (g := g) hP hS hc hv i (by omega)
    have r9 : F 9 i = nI (pRin P i) := hC'.2.2.2.2.2.1 i hi
    have q9 := hP.2.2.2.2.2.1 i hi
    obtain ⟨-, r2, -⟩ := hT.2.2.1 i hi
    have r2 : F 18 i = nI (cod P (wrN P S g c v i) i 6) := r2
    have hy := cod_4096 hP hWi hi (Or.inr rfl)
    rw [s_X8_wishRing_b34, if_neg (by rw [hC'.1, nI_leI (by omega) (by omega)]; omega)]
    unfold s_X0_with
    simp (disch := omega) only [bnd_, nI_add, nI_1, at_nI, pa_nI, inb_nI, ix_nI, nI_leI, nI_ltI, nI_eq, if_true, r9, r2, i_wth hy (show c < 6 by omega) hv]
    by_cases h9 : pRin P i = g
    · rw [if_pos h9]
      have ih := ih (mup F 18 i (nI (wth (cod P (wrN P S g c v i) i 6) c v))) (by omega) (by omega) (rpc_fr hC' (fun x _ _ => mup_ne (by omega))) (by rw [wrN_t h9]; exact rst_wish hP hWi hT hi hc)
      rw [cntN_t (p := wrc P g) (decide_eq_true h9)] at ih
      obtain ⟨F1, e1, t1, f1⟩ := ih
      exact ⟨F1, e1, t1, fun x hx => by rw [f1 x hx, mup_ne (by omega)]⟩
    · rw [if_neg h9]
      have ih := ih F (by omega) (by omega) hC' (by rw [wrN_f h9]; exact hT)
      rw [cntN_f (p := wrc P g) (decide_eq_false h9)] at ih
      exact ih
theorem m_wr (hP : WFP P) (hS : WFS P t S) (hc : c < pPar P) (hv : v < 4) (hg : g < 3) : ∀ d i fuel F, i + d = pNod P → d < fuel → RPM F P → RRow F 171 (wrN P S g c v i) →
    ∃ F1, s_X9_wishRing_b55 fuel F (nI g) (nI c) (nI v) (nI (cntN (wrc P g) i)) (nI i) = some (nI (cntN (wrc P g) (pNod P)), F1) ∧ RRow F1 171 (wrN P S g c v (pNod P)) ∧ ∀ x, x ≠ 171 → F1 x = F x
  | 0, i, fuel + 1, F, h, _, hM, hR => by
    have hN := hP.1.2
    have : i = pNod P := by omega
    subst this
    rw [s_X9_wishRing_b55, if_pos (by rw [hM.1, nI_leI (by omega) (by omega)]; omega)]
    exact ⟨F, rfl, hR, fun _ _ => rfl⟩
  | d + 1, i, fuel + 1, F, h, hf, hM, hR => by
    have hN := hP.1.2
    have hC := hP.2.1.2
    have hi : i < pNod P := by omega
    have ih := m_wr hP hS hc hv hg d (i + 1) fuel
    have r9 : F 166 i = nI (pRin P i) := hM.2.2.2.2.2.1 i hi
    have q9 := hP.2.2.2.2.2.1 i hi
    rw [s_X9_wishRing_b55, if_neg (by rw [hM.1, nI_leI (by omega) (by omega)]; omega)]
    unfold s_X9_at
    simp (disch := omega) only [bnd_, nI_add, nI_1, at_nI, pa_nI, inb_nI, ix_nI, nI_leI, nI_ltI, nI_eq, if_true, li_6, r9]
    by_cases h9 : pRin P i = g
    · rw [if_pos h9]
      have ih := ih (mup F 171 (2 + 15 * i + 6 + c) (nI v)) (by omega) (by omega) (rpm_fr hM (by omega) (fun x hx => mup_ne hx)) (by rw [wrN_t h9]; exact rr_up hR)
      rw [cntN_t (p := wrc P g) (decide_eq_true h9)] at ih
      obtain ⟨F1, e1, t1, f1⟩ := ih
      exact ⟨F1, e1, t1, fun x hx => by rw [f1 x hx, mup_ne hx]⟩
    · rw [if_neg h9]
      have ih := ih F (by omega) (by omega) hM (by rw [wrN_f h9]; exact hR)
      rw [cntN_f (p := wrc P g) (decide_eq_false h9)] at ih
      exact ih
end WR
/-! ===== a dismissal ===== -/
def clr (A w : Nat) : Nat := A - A / 2 ^ w % 2 * 2 ^ w
theorem i_clr : ∀ A, A < 32 → ∀ w, w < 5 → ((nI A &&& (((1 : Int32) <<< (nI w &&& 31)) ^^^ (-1))) = nI (clr A w) ∧ clr A w < 32 ∧ ((nI A &&& ((1 : Int32) <<< (nI w &&& 31))) = 0 ↔ A / 2 ^ w % 2 = 0) ∧ ((nI A >>> (nI w &&& 31)) &&& 1) = nI (A / 2 ^ w % 2)) := by decide +kernel
def dsk (k : Nat) : Nat := 77 + 5 * (k / 4) + 1 + k % 4
def dsm (S : RW) (w : Nat) : Nat → RW
  | 0 => S
  | k + 1 => rup (dsm S w k) (dsk k) (clr (S (dsk k)) w)
def dsc (S : RW) (w : Nat) : Nat → Nat
  | 0 => 0
  | k + 1 => dsc S w k + S (dsk k) / 2 ^ w % 2
theorem rup_id (S : RW) (k : Nat) : rup S k (S k) = S := by
  funext j
  by_cases h : j = k
  · subst h; exact rup_s _ _ _
  · exact rup_n h
section DS
variable {F F1 : MM} {P : PL} {S S' : RW} {a n c t k v g w m : Nat} {H : Nat → RW}
theorem dsm_at : ∀ k j, k ≤ j → dsm S w k (dsk j) = S (dsk j)
  | 0, _, _ => rfl
  | k + 1, j, h => by
    show rup (dsm S w k) (dsk k) (clr (S (dsk k)) w) (dsk j) = _
    rw [rup_n (by unfold dsk; omega)]
    exact dsm_at k j (by omega)
theorem wfs_dsm (hP : WFP P) (hS : WFS P t S) (hw : w < 5) : ∀ k, k ≤ 4 * pPar P → WFS P t (dsm S w k)
  | 0, _ => hS
  | k + 1, h => by
    have ih := wfs_dsm hP hS hw k (by omega)
    have hN := hP.1.2
    have hC := hP.2.1.2
    have hA : S (dsk k) < 32 := (hS.2.2.2 (k / 4) (by omega)).2 (k % 4) (by omega)
    obtain ⟨-, h2, -⟩ := i_clr _ hA w hw
    show WFS P t (rup (dsm S w k) (dsk k) (clr (S (dsk k)) w))
    generalize clr (S (dsk k)) w = v at h2
    unfold dsk
    exact wfs_rup ih (by omega) (fun h => by omega) (fun h => by omega) (fun n c hn hc h => by omega) (fun n hn h => by omega) (fun n hn h => by omega) (fun n hn h => by omega) (fun c hc h => by omega) (fun c u hc hu h => by omega)
theorem c_ds_z {x2 : Int32} (hT : RSt F P 16 S') : ∀ d i fuel, i + d = 24 → 4 * pPar P ≤ i → d < fuel → s_X8_dismiss_b19 fuel F (nI w) x2 (nI i) = some (.inl x2, F)
  | 0, i, fuel + 1, h, _, _ => by
    have : i = 24 := by omega
    subst this
    rw [s_X8_dismiss_b19, if_pos (by decide)]
  | d + 1, i, fuel + 1, h, h4, hf => by
    have ih := c_ds_z (x2 := x2) hT d (i + 1) fuel (by omega) (by omega) (by omega)
    have r : F 23 i = 0 := hT.2.2.2.2 i h4 (by omega)
    rw [s_X8_dismiss_b19, show Int32.ofNat 24 = nI 24 from rfl]
    simp (disch := omega) only [bnd_, nI_add, nI_1, at_nI, pa_nI, inb_nI, ix_nI, nI_leI, nI_ltI, nI_eq, if_true, r, Int32.zero_and]
    rw [if_neg (by omega)]
    exact ih
theorem c_ds (hP : WFP P) (hS : WFS P t S) (hw : w < 5) : ∀ d i fuel F, i + d = 4 * pPar P → d + 24 < fuel → RSt F P 16 (dsm S w i) →
    ∃ F1, s_X8_dismiss_b19 fuel F (nI w) (nI (dsc S w i)) (nI i) = some (.inl (nI (dsc S w (4 * pPar P))), F1) ∧ RSt F1 P 16 (dsm S w (4 * pPar P)) ∧ ∀ x, x < 16 ∨ 24 ≤ x → F1 x = F x
  | 0, i, fuel, F, h, hf, hT => by
    have hC := hP.2.1.2
    have : i = 4 * pPar P := by omega
    subst this
    exact ⟨F, c_ds_z hT (24 - 4 * pPar P) (4 * pPar P) fuel (by omega) (by omega) (by omega), hT, fun _ _ => rfl⟩
  | d + 1, i, fuel + 1, F, h, hf, hT => by
    have hC := hP.2.1.2
    have ih := c_ds hP hS hw d (i + 1) fuel
    have hA : S (dsk i) < 32 := (hS.2.2.2 (i / 4) (by omega)).2 (i % 4) (by omega)
    obtain ⟨p1, p2, p3, p4⟩ := i_clr _ hA w hw
    obtain ⟨-, r⟩ := hT.2.2.2.1 (i / 4) (by omega)
    have r := r (i % 4) (by omega)
    have r : F 23 i = nI (S (dsk i)) := by
      rw [show 4 * (i / 4) + i % 4 = i by omega] at r
      rw [← dsm_at (S := S) (w := w) i i (Nat.le_refl _)]
      exact r
    have ed : dsm S w (i + 1) = rup (dsm S w i) (dsk i) (clr (S (dsk i)) w) := rfl
    have ec : dsc S w (i + 1) = dsc S w i + S (dsk i) / 2 ^ w % 2 := rfl
    rw [s_X8_dismiss_b19, show Int32.ofNat 24 = nI 24 from rfl]
    simp (disch := omega) only [bnd_, nI_add, nI_1, at_nI, pa_nI, inb_nI, ix_nI, nI_leI, nI_ltI, nI_eq, if_true, r, p1, p3]
    rw [if_neg (by omega)]
    by_cases h9 : S (dsk i) / 2 ^ w % 2 = 0
    · rw [if_pos h9]
      have e0 : clr (S (dsk i)) w = dsm S w i (dsk i) := by
        rw [dsm_at i i (Nat.le_refl _)]
        unfold clr
        rw [h9]; omega
      rw [ec, ed, e0, rup_id, h9] at ih
      exact ih F (by omega) (by omega) hT
    · rw [if_neg h9]
      have h1 : S (dsk i) / 2 ^ w % 2 = 1 := by omega
      rw [ec, h1, ed] at ih
      have g := rst_appr (v := clr (S (dsk i)) w) hP hT (show i / 4 < pPar P by omega) (show i % 4 < 4 by omega)
      rw [show 4 * (i / 4) + i % 4 = i by omega] at g
      obtain ⟨F1, e1, t1, f1⟩ := ih (mup F 23 i (nI (clr (S (dsk i)) w))) (by omega) (by omega) g
      exact ⟨F1, e1, t1, fun x hx => by rw [f1 x hx, mup_ne (by omega)]⟩
theorem m_ds45 {k34 : MM → Int32 → Int32 → Int32 → Option (Int32 × MM)} (hP : WFP P) (hS : WFS P t S) (hw : w < 5) (hc : c < pPar P) : ∀ d v fuel F, v + d = 4 → d < fuel → RRow F 171 (dsm S w (4 * c + v)) →
    ∃ F1, s_X9_dismiss_b45 k34 fuel F (nI w) (nI (dsc S w (4 * c + v))) (nI c) (nI v) = k34 F1 (nI w) (nI (dsc S w (4 * (c + 1)))) (nI (c + 1)) ∧ RRow F1 171 (dsm S w (4 * (c + 1))) ∧ ∀ x, x ≠ 171 → F1 x = F x
  | 0, v, fuel + 1, F, h, _, hR => by
    have : v = 4 := by omega
    subst this
    refine ⟨F, ?_, hR, fun _ _ => rfl⟩
    rw [s_X9_dismiss_b45, if_pos (by decide)]
    simp only [bnd_, nI_1]
    rfl
  | d + 1, v, fuel + 1, F, h, hf, hR => by
    have hC := hP.2.1.2
    have ih := m_ds45 (k34 := k34) hP hS hw hc d (v + 1) fuel
    have hk : dsk (4 * c + v) = 77 + 5 * c + 1 + v := by unfold dsk; omega
    have hA : S (77 + 5 * c + 1 + v) < 32 := (hS.2.2.2 c hc).2 v (by omega)
    obtain ⟨p1, p2, p3, p4⟩ := i_clr _ hA w hw
    have r : F 171 (77 + 5 * c + 1 + v) = nI (S (77 + 5 * c + 1 + v)) := by
      rw [hR _ (by omega), ← hk, dsm_at (4 * c + v) (4 * c + v) (Nat.le_refl _)]
    have ed : dsm S w (4 * c + (v + 1)) = rup (dsm S w (4 * c + v)) (77 + 5 * c + 1 + v) (clr (S (77 + 5 * c + 1 + v)) w) := by
      rw [← hk]; rfl
    have ec : dsc S w (4 * c + (v + 1)) = dsc S w (4 * c + v) + S (77 + 5 * c + 1 + v) / 2 ^ w % 2 := by
      rw [← hk]; rfl
    rw [ed, ec] at ih
    obtain ⟨F1, e1, t1, f1⟩ := ih (mup F 171 (77 + 5 * c + 1 + v) (nI (clr (S (77 + 5 * c + 1 + v)) w))) (by omega) (by omega) (rr_up hR)
    refine ⟨F1, ?_, t1, fun x hx => by rw [f1 x hx, mup_ne hx]⟩
    rw [← e1, s_X9_dismiss_b45, if_neg (by rw [li_4, nI_leI (by omega) (by omega)]; omega)]
    unfold s_X9_partAt
    simp (disch := omega) only [bnd_, nI_add, nI_1, at_nI, pa_nI, inb_nI, ix_nI, nI_leI, nI_ltI, nI_eq, if_true, r, p1, p4]
theorem m_ds34 (hP : WFP P) (hS : WFS P t S) (hw : w < 5) : ∀ d c fuel F, c + d = pPar P → d < fuel → RPM F P → RRow F 171 (dsm S w (4 * c)) →
    ∃ F1, s_X9_dismiss_b34 fuel F (nI w) (nI (dsc S w (4 * c))) (nI c) = some (nI (dsc S w (4 * pPar P)), F1) ∧ RRow F1 171 (dsm S w (4 * pPar P)) ∧ ∀ x, x ≠ 171 → F1 x = F x
  | 0, c, fuel + 1, F, h, _, hM, hR => by
    have hC := hP.2.1.2
    have : c = pPar P := by omega
    subst this
    refine ⟨F, ?_, hR, fun _ _ => rfl⟩
    rw [s_X9_dismiss_b34, if_pos (by rw [hM.2.1, nI_leI (by omega) (by omega)]; omega)]
  | d + 1, c, fuel + 1, F, h, hf, hM, hR => by
    have hC := hP.2.1.2
    obtain ⟨F1, e1, t1, f1⟩ := m_ds45 (k34 := s_X9_dismiss_b34 fuel) hP hS hw (show c < pPar P by omega) 4 0 fu_ F (by omega) (fu_lt (by omega)) hR
    obtain ⟨F2, e2, t2, f2⟩ := m_ds34 hP hS hw d (c + 1) fuel F1 (by omega) (by omega) (rpm_fr hM (by omega) f1) t1
    refine ⟨F2, ?_, t2, fun x hx => by rw [f2 x hx, f1 x hx]⟩
    rw [← e2, ← e1, s_X9_dismiss_b34, if_neg (by rw [hM.2.1, nI_leI (by omega) (by omega)]; omega)]
    rfl
end DS
/-! ===== ticks ===== -/
section TK
variable {F F1 : MM} {P : PL} {S S' : RW} {a n c t k v g w m : Nat} {H : Nat → RW}
theorem m_tick39 {N : Nat} {x2 : Int32} (hP : WFP P) (ht : t + N < 900000) (hS : WFS P t S) (hN : N < 4000) : ∀ d i fuel F, i + d = N → d < fuel → RPM F P → RRow F 171 (tcks P S i) →
    ∃ F1, s_X9_tick_b39 fuel F (nI N) x2 (nI i) = some (nI (tcks P S N 1) - x2, F1) ∧ RRow F1 171 (tcks P S N) ∧ ∀ a, a ≠ 171 → F1 a = F a
  | 0, i, fuel + 1, F, h, _, hM, hR => by
    have : i = N := by omega
    subst this
    refine ⟨F, ?_, hR, fun _ _ => rfl⟩
    have r : F 171 1 = nI (tcks P S i 1) := hR 1 (by omega)
    rw [s_X9_tick_b39, if_pos (by rw [nI_leI (by omega) (by omega)]; omega), if_pos (by decide), show ix 1 = 1 from rfl, r]
  | d + 1, i, fuel + 1, F, h, hf, hM, hR => by
    have hW := wfs_tcks hP hS i
    obtain ⟨F1, e1, t1, f1⟩ := m_tickOn (r := 171) alen171 (by omega) hP (show t + i < 900000 by omega) hW hM hR
    obtain ⟨F2, e2, t2, f2⟩ := m_tick39 (x2 := x2) hP ht hS hN d (i + 1) fuel F1 (by omega) (by omega) (rpm_fr hM (by omega) f1) t1
    refine ⟨F2, ?_, t2, fun x hx => by rw [f2 x hx, f1 x hx]⟩
    rw [← e2, s_X9_tick_b39, if_neg (by rw [nI_leI (by omega) (by omega)]; omega), e1]
    simp only [bnd_, nI_1]
/-! ===== undo ===== -/
theorem c_takeBack (hP : WFP P) (hm : m + 1 ≤ 14) (hM : RMe F P (m + 1) H) : ∃ F1, s_X2_takeBack F 16 = some F1 ∧ RSt F1 P 16 (H 0) ∧ RMe F1 P m (fun d => H (d + 1)) ∧ ∀ x, x < 16 ∨ (24 ≤ x ∧ x ≠ 32) → F1 x = F x := by
  obtain ⟨h1, w, hw, h2, h3⟩ := hM
  have h0 := h3 0 (by omega)
  rw [show (w + 14 - 0) % 14 = w by omega] at h0
  obtain ⟨F4, e4, t4, f4⟩ := c_copy (a := 16) (q := 34 + 8 * w) (by omega) h0 hP
  have g1 : F4 32 1 = nI w := by rw [f4 32 (by omega)]; exact h2
  have g2 : F4 32 2 = nI (m + 1) := by rw [f4 32 (by omega)]; exact h1
  obtain ⟨w2, hw2⟩ : ∃ w2, w2 = (w + 13) % 14 := ⟨_, rfl⟩
  refine ⟨mup (mup F4 32 1 (nI w2)) 32 2 (nI m), ?_, rst_fr t4 (fun x hx hx2 => by rw [mup_ne (by omega), mup_ne (by omega)]), ⟨by rw [mup_self, pk_us], w2, by omega, by rw [mup_self, pk_un (by omega), mup_self, pk_us], fun d hd => ?_⟩, fun x hx => by rw [mup_ne (by omega), mup_ne (by omega), f4 x (by omega)]⟩
  · unfold s_X2_takeBack
    rw [h1, if_neg (nI_ne0 (by omega) (by omega)), h2, inb_nI hw (by omega), ix_nI (by omega), if_pos rfl, e4]
    simp only [bnd_]
    rw [g1]
    by_cases h9 : w = 0
    · subst h9
      rw [if_pos (by decide), mup_self, pk_un (by omega), g2, show nI (m + 1) - 1 = nI m from nI_pred m, show w2 = 13 by omega]
      rfl
    · rw [if_neg (nI_nle (by omega) (by omega)), mup_self, pk_un (by omega), g2, show nI (m + 1) - 1 = nI m from nI_pred m, show nI w - 1 = nI w2 by rw [li_1, pk_sub (by omega)]; congr 1; omega]
  · show RSt _ P (34 + 8 * ((w2 + 14 - d) % 14)) (H (d + 1))
    rw [show (w2 + 14 - d) % 14 = (w + 14 - (d + 1)) % 14 by omega]
    refine rst_fr (h3 (d + 1) (by omega)) (fun x hx hx2 => ?_)
    rw [mup_ne (by omega), mup_ne (by omega), f4 x (by omega)]
end TK
