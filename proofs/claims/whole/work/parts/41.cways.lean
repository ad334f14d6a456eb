/-! ===== ways of the class ===== -/
def RWQ (F : MM) (g : Nat) (Q d : Nat → Nat) (h l : Nat) : Prop := F 13 3 = nI g ∧ F 13 4 = nI h ∧ F 13 5 = nI l ∧ (∀ i, i < l → F 15 i = nI (Q i) ∧ F 14 (Q i) = nI (d i)) ∧ ∀ x, x < 4096 → (∀ i, i < l → Q i ≠ x) → F 14 x = -9
def RWy (F : MM) (P : PL) : Prop := F 13 3 = -1 ∨ ∃ g Q d h l, g < 4 ^ pPar P ∧ RWQ F g Q d h l ∧ BI P g Q d h l
/-- what a distance is -/
def dis (P : PL) (g s : Nat) (r : Int32) : Prop := (∃ k, k < 4096 ∧ xct P g k s ∧ r = nI k) ∨ (r = -9 ∧ ∀ k, ¬ lev P g k s)
theorem c_fill_b {q N : Nat} {v : Int32} (hal : alen q = N) (hN : N < 5000) : ∀ d i fuel F, i + d = N → d < fuel → ∃ F1, s_J7_fill_53178_b5 q fuel F v (nI i) (nI N) = some F1 ∧ (∀ a, a ≠ q → F1 a = F a) ∧ (∀ j, j < i → F1 q j = F q j) ∧ ∀ j, i ≤ j → j < N → F1 q j = v
  | 0, i, fuel + 1, F, h, _ => by
    have : i = N := by omega
    subst this
    refine ⟨F, ?_, fun _ _ => rfl, fun _ _ => rfl, fun j h1 h2 => absurd h1 (by omega)⟩
    rw [s_J7_fill_53178_b5, if_pos (by rw [nI_leI (by omega) (by omega)]; omega)]
  | d + 1, i, fuel + 1, F, h, hf => by
    obtain ⟨F1, g1, g2, g3, g4⟩ := c_fill_b (v := v) hal hN d (i + 1) fuel (mup F q i v) (by omega) (by omega)
    refine ⟨F1, ?_, fun a ha => by rw [g2 a ha, mup_ne ha], fun j hj => by rw [g3 j (by omega), mup_self, pk_un (by omega)], fun j h1 h2 => ?_⟩
    · rw [s_J7_fill_53178_b5, if_neg (by rw [nI_leI (by omega) (by omega)]; omega), ← g1]
      simp (disch := omega) only [Option.bind_some, nI_add, nI_1, at_nI, pa_nI, inb_nI, ix_nI, nI_leI, nI_ltI, nI_eq, if_true, hal]
    · by_cases hji : j = i
      · subst hji; rw [g3 j (by omega), mup_self, pk_us]
      · exact g4 j (by omega) h2
theorem c_fill {q N : Nat} {v : Int32} {F : MM} (hal : alen q = N) (hN : N < 5000) : ∃ F1, s_J7_fill_53178 F q v = some F1 ∧ (∀ a, a ≠ q → F1 a = F a) ∧ ∀ j, j < N → F1 q j = v := by
  obtain ⟨F1, g1, g2, -, g4⟩ := c_fill_b (v := v) hal hN N 0 fu_ F (by omega) (fu_lt hN)
  refine ⟨F1, ?_, g2, fun j hj => g4 j (by omega) hj⟩
  unfold s_J7_fill_53178
  have e : Int32.ofNat N = nI N := rfl
  rw [hal, e, li_0]
  simp only [Option.bind_some]
  exact g1
section CW
variable {F F1 : MM} {P : PL} {g h l : Nat} {Q d : Nat → Nat}
theorem rwq_in (hP : WFP P) (hW : RWQ F g Q d h l) (hB : BI P g Q d h l) {x : Nat} (hx : x < 4096) : (F 14 x = -9 ∧ ∀ i, i < l → Q i ≠ x) ∨ ∃ i, i < l ∧ Q i = x ∧ F 14 x = nI (d i) ∧ ¬ F 14 x = -9 := by
  by_cases hi : ∃ i, i < l ∧ Q i = x
  · obtain ⟨i, h1, h2⟩ := hi
    have e := (hW.2.2.2.1 i h1).2
    rw [h2] at e
    have hd := hB.1.2 i h1
    have hl := inj_le _ _ _ hB.2.2.1 hB.2.2.2.1
    have h6 := pow4_le hP.2.1.2
    exact Or.inr ⟨i, h1, h2, e, by rw [e]; exact nI_ne9 (by omega)⟩
  · have hn : ∀ i, i < l → Q i ≠ x := fun i h1 h2 => hi ⟨i, h1, h2⟩
    exact Or.inl ⟨hW.2.2.2.2 x hx hn, hn⟩
theorem c_distanceOf {x : Nat} (hx : x < 4096) : s_X7_distanceOf F (nI x) = some (F 14 x) := by
  unfold s_X7_distanceOf
  rw [i_4095 hx]
  simp (disch := omega) only [Option.bind_some, nI_add, nI_1, at_nI, pa_nI, inb_nI, ix_nI, nI_leI, nI_ltI, nI_eq, if_true]
theorem c_enqueue {x m : Nat} (hW : RWQ F g Q d h l) (hl : l < 4096) (hx : x < 4096) (hn : ∀ i, i < l → Q i ≠ x) : ∃ F1, s_X7_enqueue F (nI x) (nI m) = some F1 ∧ RWQ F1 g (fun i => if i = l then x else Q i) (fun i => if i = l then m else d i) h (l + 1) ∧ ∀ a, a ≠ 13 → a ≠ 14 → a ≠ 15 → F1 a = F a := by
  have h5 := hW.2.2.1
  refine ⟨mup (mup (mup F 14 x (nI m)) 15 l (nI x)) 13 5 (nI (l + 1)), ?_, ⟨?_, ?_, ?_, fun i hi => ?_, fun y hy hny => ?_⟩, fun a h1 h2 h3 => by rw [mup_ne h1, mup_ne h3, mup_ne h2]⟩
  · unfold s_X7_enqueue
    rw [i_4095 hx]
    simp (disch := omega) only [Option.bind_some, nI_add, nI_1, at_nI, pa_nI, inb_nI, ix_nI, nI_leI, nI_ltI, nI_eq, if_true, if_pos, if_neg, li_4096, h5, mup_ne]
  · simp (disch := omega) only [mup_self, pk_un, mup_ne]; exact hW.1
  · simp (disch := omega) only [mup_self, pk_un, mup_ne]; exact hW.2.1
  · simp (disch := omega) only [mup_self, pk_us]
  · simp (disch := omega) only [mup_self, mup_ne]
    by_cases hil : i = l
    · subst hil
      simp only [if_true]
      exact ⟨pk_us, pk_us⟩
    · simp only [if_neg hil]
      rw [pk_un hil, pk_un (hn i (by omega))]
      exact hW.2.2.2.1 i (by omega)
  · have hne : ∀ i, i < l + 1 → (if i = l then x else Q i) ≠ y := hny
    have h1 := hne l (by omega)
    rw [if_pos rfl] at h1
    simp (disch := omega) only [mup_self, mup_ne]
    rw [pk_un (fun e => h1 e.symm)]
    refine hW.2.2.2.2 y hy (fun i hi => ?_)
    have h2 := hne i (by omega)
    rw [if_neg (by omega)] at h2
    exact h2
theorem c_reach24 {k10 : MM → Int32 → Int32 → Int32 → Option MM} {y c : Nat} (hP : WFP P) (hc : c < pPar P) : ∀ dd df fuel F Q d l, df + dd = 4 → 1 ≤ df → dd < fuel → RPC F P → RWQ F g Q d h l → BI P g Q d h l → h < l → y = Q h →
    (∀ c' v', c' < pPar P → v' < 4 → (c' < c ∨ (c' = c ∧ vin y c ^^^ v' < df)) → nbk P (wth y c' v') y = 0 → ∃ j, j < l ∧ Q j = wth y c' v') →
    ∃ F1 Q1 d1 l1, s_X7_reachFrom_b24 k10 fuel F (nI y) (nI (d h + 1)) (nI c) (nI df) = k10 F1 (nI y) (nI (d h + 1)) (nI (c + 1)) ∧ (∀ a, a ≠ 13 → a ≠ 14 → a ≠ 15 → F1 a = F a) ∧ RWQ F1 g Q1 d1 h l1 ∧ BI P g Q1 d1 h l1 ∧ h < l1 ∧ Q1 h = y ∧ d1 h = d h ∧
      ∀ c' v', c' < pPar P → v' < 4 → c' < c + 1 → nbk P (wth y c' v') y = 0 → ∃ j, j < l1 ∧ Q1 j = wth y c' v'
  | 0, df, fuel + 1, F, Q, d, l, h1, _, _, hC', hW, hB, hh, hy, hp => by
    have : df = 4 := by omega
    subst this
    refine ⟨F, Q, d, l, ?_, fun _ _ _ _ => rfl, hW, hB, hh, hy.symm, rfl, fun c' v' hc' hv' hcc hs => hp c' v' hc' hv' ?_ hs⟩
    · rw [s_X7_reachFrom_b24, if_pos (by decide)]
      simp only [Option.bind_some, nI_1]
    · by_cases e : c' = c
      · exact Or.inr ⟨e, xor_4 (vin_lt _ _) hv'⟩
      · exact Or.inl (by omega)
  | dd + 1, df, fuel + 1, F, Q, d, l, h1, h0, hfu, hC', hW, hB, hh, hy, hp => by
    have hC := hP.2.1.2
    have h6 := pow4_le hC
    have hyl : y < 4 ^ pPar P := by rw [hy]; exact hB.2.2.1 h hh
    have hdf : df < 4 := by omega
    have hv : vin y c ^^^ df < 4 := xor_4 (vin_lt _ _) hdf
    have hxl : wth y c (vin y c ^^^ df) < 4 ^ pPar P := wth_lt hyl hc hv
    have IH := c_reach24 (k10 := k10) (y := y) hP hc dd (df + 1) fuel
    rw [s_X7_reachFrom_b24, if_neg (by rw [li_4, nI_leI (by omega) (by omega)]; omega)]
    simp only [Option.bind_some, nI_1]
    rw [i_xsh (by omega) (by omega) hdf]
    have hpn : ∀ {l' : Nat} {Q' : Nat → Nat}, (∀ c' v', c' < pPar P → v' < 4 → (c' < c ∨ (c' = c ∧ vin y c ^^^ v' < df)) → nbk P (wth y c' v') y = 0 → ∃ j, j < l' ∧ Q' j = wth y c' v') → (nbk P (wth y c (vin y c ^^^ df)) y = 0 → ∃ j, j < l' ∧ Q' j = wth y c (vin y c ^^^ df)) → ∀ c' v', c' < pPar P → v' < 4 → (c' < c ∨ (c' = c ∧ vin y c ^^^ v' < df + 1)) → nbk P (wth y c' v') y = 0 → ∃ j, j < l' ∧ Q' j = wth y c' v' := fun ho hx c' v' hc' hv' hcc hs => by
      by_cases hold : c' < c ∨ (c' = c ∧ vin y c ^^^ v' < df)
      · exact ho c' v' hc' hv' hold hs
      · have e1 : c' = c := by omega
        have e2 : vin y c ^^^ v' = df := by omega
        subst e1
        have e3 : v' = vin y c' ^^^ df := by rw [← e2, xor_xor4 (vin_lt _ _) hv']
        rw [e3]
        rw [e3] at hs
        exact hx hs
    generalize hx : wth y c (vin y c ^^^ df) = x at *
    rw [c_distanceOf (by omega), c_newlyBroken hP hC' hxl hyl]
    simp only [Option.bind_some]
    rcases rwq_in hP hW hB (show x < 4096 by omega) with ⟨e9, hn⟩ | ⟨i, hi, hQi, ei, e9⟩
    · rw [if_pos e9]
      by_cases hs : nbk P x y = 0
      · rw [if_pos hs]
        obtain ⟨hl, hB2⟩ := bi_new hB hh hc hv (by rw [← hy]; exact hx.symm) (by rw [← hy]; exact hs) hn
        obtain ⟨F2, k1, k2, k3⟩ := c_enqueue (m := d h + 1) hW (by omega) (by omega) hn
        have eQ : ∀ i, i < l → (if i = l then x else Q i) = Q i := fun i hi => if_neg (by omega)
        have ed : (if h = l then d h + 1 else d h) = d h := if_neg (by omega)
        obtain ⟨F1, Q1, d1, l1, g1, g2, g3, g4, g5, g6, g7, g8⟩ := IH F2 _ _ (l + 1) (by omega) (by omega) (by omega) (rpc_fr hC' (fun a _ _ => k3 a (by omega) (by omega) (by omega))) k2 hB2 (by omega) (by rw [eQ h hh]; exact hy)
          (hpn (fun c' v' hc' hv' hcc hs' => by
            obtain ⟨j, j1, j2⟩ := hp c' v' hc' hv' hcc hs'
            exact ⟨j, by omega, by rw [eQ j j1]; exact j2⟩) (fun _ => ⟨l, by omega, if_pos rfl⟩))
        refine ⟨F1, Q1, d1, l1, ?_, fun a a1 a2 a3 => (g2 a a1 a2 a3).trans (k3 a a1 a2 a3), g3, g4, g5, g6, g7.trans ed, g8⟩
        rw [k1]
        simp only [Option.bind_some]
        rw [ed] at g1
        exact g1
      · rw [if_neg hs]
        exact IH F Q d l (by omega) (by omega) (by omega) hC' hW hB hh hy (hpn hp (fun h9 => absurd h9 hs))
    · rw [if_neg e9]
      exact IH F Q d l (by omega) (by omega) (by omega) hC' hW hB hh hy (hpn hp (fun _ => ⟨i, hi, hQi⟩))
theorem c_reach10 {y dh : Nat} (hP : WFP P) : ∀ dd c fuel F Q d l, c + dd = pPar P → dd < fuel → RPC F P → RWQ F g Q d h l → BI P g Q d h l → h < l → y = Q h → dh = d h →
    (∀ c' v', c' < pPar P → v' < 4 → c' < c → nbk P (wth y c' v') y = 0 → ∃ j, j < l ∧ Q j = wth y c' v') →
    ∃ F1 Q1 d1 l1, s_X7_reachFrom_b10 fuel F (nI y) (nI (dh + 1)) (nI c) = some F1 ∧ (∀ a, a ≠ 13 → a ≠ 14 → a ≠ 15 → F1 a = F a) ∧ RWQ F1 g Q1 d1 h l1 ∧ BI P g Q1 d1 (h + 1) l1
  | 0, c, fuel + 1, F, Q, d, l, h1, _, hC', hW, hB, hh, hy, hd, hp => by
    have hC := hP.2.1.2
    have : c = pPar P := by omega
    subst this
    refine ⟨F, Q, d, l, ?_, fun _ _ _ _ => rfl, hW, bi_step hB hh (fun c v hc hv hs => by rw [← hy]; rw [← hy] at hs; exact hp c v hc hv hc hs)⟩
    rw [s_X7_reachFrom_b10, if_pos (by rw [hC'.2.1, nI_leI (by omega) (by omega)]; omega)]
  | dd + 1, c, fuel + 1, F, Q, d, l, h1, hfu, hC', hW, hB, hh, hy, hd, hp => by
    have hC := hP.2.1.2
    have hyl : y < 4 ^ pPar P := by rw [hy]; exact hB.2.2.1 h hh
    obtain ⟨F2, Q2, d2, l2, k1, k2, k3, k4, k5, k6, k7, k8⟩ := c_reach24 (g := g) (h := h) (k10 := s_X7_reachFrom_b10 fuel) (y := y) hP (show c < pPar P by omega) 3 1 fu_ F Q d l (by omega) (by omega) (fu_lt (by omega)) hC' hW hB hh hy (fun c' v' hc' hv' hcc hs => by
      by_cases hlt : c' < c
      · exact hp c' v' hc' hv' hlt hs
      · have e1 : c' = c := by omega
        subst e1
        have e2 : vin y c' ^^^ v' = 0 := by omega
        have e3 : v' = vin y c' := by rw [← xor_xor4 (vin_lt y c') hv', e2, Nat.xor_zero]
        exact ⟨h, hh, by rw [e3, wth_self]; exact hy.symm⟩)
    obtain ⟨F1, Q1, d1, l1, g1, g2, g3, g4⟩ := c_reach10 (y := y) (dh := dh) hP dd (c + 1) fuel F2 Q2 d2 l2 (by omega) (by omega) (rpc_fr hC' (fun a _ _ => k2 a (by omega) (by omega) (by omega))) k3 k4 k5 k6.symm (hd.trans k7.symm) k8
    refine ⟨F1, Q1, d1, l1, ?_, fun a a1 a2 a3 => (g2 a a1 a2 a3).trans (k2 a a1 a2 a3), g3, g4⟩
    rw [s_X7_reachFrom_b10, if_neg (by rw [hC'.2.1, nI_leI (by omega) (by omega)]; omega), hd, show (1 : Int32) = nI 1 from rfl, k1, ← hd]
    exact g1
theorem c_reachFrom (hP : WFP P) (hC' : RPC F P) (hW : RWQ F g Q d h l) (hB : BI P g Q d h l) (hh : h < l) : ∃ F1 Q1 d1 l1, s_X7_reachFrom F (F 15 h) = some F1 ∧ (∀ a, a ≠ 13 → a ≠ 14 → a ≠ 15 → F1 a = F a) ∧ RWQ F1 g Q1 d1 h l1 ∧ BI P g Q1 d1 (h + 1) l1 := by
  have hC := hP.2.1.2
  have h6 := pow4_le hC
  have hyl := hB.2.2.1 h hh
  obtain ⟨e1, e2⟩ := hW.2.2.2.1 h hh
  obtain ⟨F1, Q1, d1, l1, g1, g2, g3, g4⟩ := c_reach10 (g := g) (h := h) (y := Q h) (dh := d h) hP (pPar P) 0 fu_ F Q d l (by omega) (fu_lt (by omega)) hC' hW hB hh rfl rfl (fun _ _ _ _ h9 => absurd h9 (by omega))
  refine ⟨F1, Q1, d1, l1, ?_, g2, g3, g4⟩
  unfold s_X7_reachFrom
  rw [e1, c_distanceOf (by omega), e2]
  simp only [Option.bind_some, nI_1]
  exact g1
theorem c_aimAt {x : Nat} (hx : x < 4096) (h4 : alen 14 = 4096) : ∃ F1, s_X7_aimAt F (nI x) = some F1 ∧ RWQ F1 x (fun _ => x) (fun _ => 0) 0 1 ∧ ∀ a, a ≠ 13 → a ≠ 14 → a ≠ 15 → F1 a = F a := by
  obtain ⟨F4, k1, k2, k3⟩ := c_fill (F := mup F 13 3 (nI x)) (v := -9) h4 (by omega)
  have hW : RWQ (mup (mup F4 13 4 (nI 0)) 13 5 (nI 0)) x (fun _ => x) (fun _ => 0) 0 0 := by
    refine ⟨?_, ?_, ?_, fun i hi => absurd hi (by omega), fun y hy _ => ?_⟩
    · simp (disch := omega) only [mup_self, pk_un]
      rw [k2 13 (by omega), mup_self, pk_us]
    · simp (disch := omega) only [mup_self, pk_un, pk_us]
    · simp (disch := omega) only [mup_self, pk_us]
    · simp (disch := omega) only [mup_ne]; exact k3 y hy
  obtain ⟨F1, g1, g2, g3⟩ := c_enqueue (x := x) (m := 0) hW (by omega) hx (fun i hi => absurd hi (by omega))
  refine ⟨F1, ?_, ?_, fun a a1 a2 a3 => by rw [g3 a a1 a2 a3, mup_ne a1, mup_ne a1, k2 a a2, mup_ne a1]⟩
  · unfold s_X7_aimAt
    simp only [Option.bind_some]
    rw [k1]
    simp only [Option.bind_some]
    rw [li_0, g1]
    rfl
  · have e1 : (fun i => if i = 0 then x else (fun _ : Nat => x) i) = (fun _ : Nat => x) := by funext i; by_cases h : i = 0 <;> simp [h]
    have e2 : (fun i => if i = 0 then 0 else (fun _ : Nat => 0) i) = (fun _ : Nat => 0) := by funext i; by_cases h : i = 0 <;> simp [h]
    rw [e1, e2] at g2
    exact g2
theorem c_dist_b {s : Nat} (hP : WFP P) (hs : s < 4 ^ pPar P) : ∀ m fuel F Q d h l i, 4096 - i ≤ m → m < fuel → i ≤ h → RPC F P → RWQ F g Q d h l → BI P g Q d h l →
    ∃ r F1 Q1 d1 h1 l1, s_X7_distance_b15 fuel F (nI s) (nI i) = some (r, F1) ∧ (∀ a, a ≠ 13 → a ≠ 14 → a ≠ 15 → F1 a = F a) ∧ RWQ F1 g Q1 d1 h1 l1 ∧ BI P g Q1 d1 h1 l1 ∧ ((∃ j, j < l1 ∧ Q1 j = s ∧ r = nI (d1 j)) ∨ (h1 = l1 ∧ r = -9 ∧ ∀ j, j < l1 → Q1 j ≠ s))
  | m, fuel + 1, F, Q, d, h, l, i, hm, hfu, hi, hC', hW, hB => by
    have h6 := pow4_le hP.2.1.2
    have hl := inj_le _ _ _ hB.2.2.1 hB.2.2.2.1
    have hhl := hB.1.1
    have hds := c_distanceOf (F := F) (show s < 4096 by omega)
    have fin : h = l ∨ ¬ F 14 s = -9 → ∃ r F1 Q1 d1 h1 l1, (some (F 14 s, F) : Option (Int32 × MM)) = some (r, F1) ∧ (∀ a, a ≠ 13 → a ≠ 14 → a ≠ 15 → F1 a = F a) ∧ RWQ F1 g Q1 d1 h1 l1 ∧ BI P g Q1 d1 h1 l1 ∧ ((∃ j, j < l1 ∧ Q1 j = s ∧ r = nI (d1 j)) ∨ (h1 = l1 ∧ r = -9 ∧ ∀ j, j < l1 → Q1 j ≠ s)) := fun hf => by
      refine ⟨F 14 s, F, Q, d, h, l, rfl, fun _ _ _ _ => rfl, hW, hB, ?_⟩
      rcases rwq_in hP hW hB (show s < 4096 by omega) with ⟨e9, hn⟩ | ⟨j, hj, hQj, ej, e9⟩
      · rcases hf with hf | hf
        · exact Or.inr ⟨hf, e9, hn⟩
        · exact absurd e9 hf
      · exact Or.inl ⟨j, hj, hQj, ej⟩
    rw [s_X7_distance_b15]
    by_cases hi4 : 4096 ≤ i
    · rw [if_pos (by rw [li_4096, nI_leI (by omega) (by omega)]; exact hi4), hds]
      exact fin (Or.inl (by omega))
    · rw [if_neg (by rw [li_4096, nI_leI (by omega) (by omega)]; exact hi4), hW.2.1, hW.2.2.1]
      by_cases hlh : l ≤ h
      · rw [if_pos (by rw [nI_leI (by omega) (by omega)]; exact hlh), hds]
        exact fin (Or.inl (by omega))
      · rw [if_neg (by rw [nI_leI (by omega) (by omega)]; exact hlh), hds]
        simp only [Option.bind_some]
        by_cases e9 : F 14 s = -9
        · rw [if_pos e9]
          obtain ⟨F2, Q2, d2, l2, k1, k2, k3, k4⟩ := c_reachFrom hP hC' hW hB (by omega)
          have hW2 : RWQ (mup F2 13 4 (nI (h + 1))) g Q2 d2 (h + 1) l2 := by
            refine ⟨?_, ?_, ?_, fun i hi => ?_, fun x hx hn => ?_⟩
            · rw [mup_self, pk_un (by omega)]; exact k3.1
            · rw [mup_self, pk_us]
            · rw [mup_self, pk_un (by omega)]; exact k3.2.2.1
            · rw [mup_ne (by omega), mup_ne (by omega)]; exact k3.2.2.2.1 i hi
            · rw [mup_ne (by omega)]; exact k3.2.2.2.2 x hx hn
          have hm0 : ∃ m0, m = m0 + 1 := ⟨m - 1, by omega⟩
          obtain ⟨m0, rfl⟩ := hm0
          obtain ⟨r, F1, Q1, d1, h1, l1, g1, g2, g3⟩ := c_dist_b hP hs m0 fuel (mup F2 13 4 (nI (h + 1))) Q2 d2 (h + 1) l2 (i + 1) (by omega) (by omega) (by omega) (rpc_fr hC' (fun a _ _ => by rw [mup_ne (by omega), k2 a (by omega) (by omega) (by omega)])) hW2 k4
          refine ⟨r, F1, Q1, d1, h1, l1, ?_, fun a a1 a2 a3 => by rw [g2 a a1 a2 a3, mup_ne a1, k2 a a1 a2 a3], g3⟩
          rw [inb_nI (show h < 4096 by omega) (by decide), if_pos rfl, ix_nI (by omega), k1]
          simp only [Option.bind_some, k3.2.1, nI_1]
          exact g1
        · rw [if_neg e9]
          exact fin (Or.inr e9)
theorem c_distance {s g : Nat} (hP : WFP P) (hs : s < 4 ^ pPar P) (hg : g < 4 ^ pPar P) (hC' : RPC F P) (hW : RWy F P) : ∃ r F1 Q1 d1 h1 l1, s_X7_distance F (nI s) (nI g) = some (r, F1) ∧ (∀ a, a ≠ 13 → a ≠ 14 → a ≠ 15 → F1 a = F a) ∧ RWQ F1 g Q1 d1 h1 l1 ∧ BI P g Q1 d1 h1 l1 ∧ ((∃ j, j < l1 ∧ Q1 j = s ∧ r = nI (d1 j)) ∨ (h1 = l1 ∧ r = -9 ∧ ∀ j, j < l1 → Q1 j ≠ s)) := by
  have h6 := pow4_le hP.2.1.2
  have aim : ∀ {F : MM}, RPC F P → ∃ r F1 Q1 d1 h1 l1, (s_X7_aimAt F (nI g)).bind (fun F3 => s_X7_distance_b15 fu_ F3 (nI s) 0) = some (r, F1) ∧ (∀ a, a ≠ 13 → a ≠ 14 → a ≠ 15 → F1 a = F a) ∧ RWQ F1 g Q1 d1 h1 l1 ∧ BI P g Q1 d1 h1 l1 ∧ ((∃ j, j < l1 ∧ Q1 j = s ∧ r = nI (d1 j)) ∨ (h1 = l1 ∧ r = -9 ∧ ∀ j, j < l1 → Q1 j ≠ s)) := fun {F} hC' => by
    obtain ⟨F2, k1, k2, k3⟩ := c_aimAt (F := F) (x := g) (by omega) (by decide)
    obtain ⟨r, F1, Q1, d1, h1, l1, g1, g2, g3⟩ := c_dist_b (s := s) hP hs 4096 fu_ F2 _ _ 0 1 0 (by omega) (fu_lt (by omega)) (by omega) (rpc_fr hC' (fun a _ _ => k3 a (by omega) (by omega) (by omega))) k2 (bi_start P hg)
    refine ⟨r, F1, Q1, d1, h1, l1, ?_, fun a a1 a2 a3 => (g2 a a1 a2 a3).trans (k3 a a1 a2 a3), g3⟩
    rw [k1]
    exact g1
  unfold s_X7_distance
  rcases hW with hW | ⟨g0, Q, d, h, l, hg0, hW, hB⟩
  · rw [if_neg (fun e => by rw [hW] at e; exact absurd e.symm (by
      intro e
      have h1 := nI_toInt (n := g) (by omega)
      rw [e] at h1
      have h2 : (-1 : Int32).toInt = -1 := by decide
      rw [h2] at h1
      omega))]
    exact aim hC'
  · by_cases e : g0 = g
    · subst e
      rw [if_pos hW.1]
      exact c_dist_b (s := s) hP hs 4096 fu_ F Q d h l 0 (by omega) (fu_lt (by omega)) (by omega) hC' hW hB
    · rw [if_neg (by rw [hW.1, nI_eq (by omega) (by omega)]; exact e)]
      exact aim hC'
theorem c_dis {s : Nat} {r : Int32} (hP : WFP P) (hs : s < 4 ^ pPar P) (hB : BI P g Q d h l) (hr : (∃ j, j < l ∧ Q j = s ∧ r = nI (d j)) ∨ (h = l ∧ r = -9 ∧ ∀ j, j < l → Q j ≠ s)) : dis P g s r := by
  have h6 := pow4_le hP.2.1.2
  have hl := inj_le _ _ _ hB.2.2.1 hB.2.2.2.1
  rcases hr with ⟨j, h1, h2, h3⟩ | ⟨h1, h2, h3⟩
  · have hd := hB.1.2 j h1
    have := hB.2.2.2.2.2.2.1 j h1
    rw [h2] at this
    exact Or.inl ⟨d j, by omega, this, h3⟩
  · refine Or.inr ⟨h2, fun k hk => ?_⟩
    obtain ⟨i, k1, k2, -⟩ := bi_comp hB k s (fun h9 => by omega) hs hk
    exact h3 i k1 k2
theorem dis_uniq {s : Nat} {r r2 : Int32} (h1 : dis P g s r) (h2 : dis P g s r2) : r = r2 := by
  rcases h1 with ⟨k, -, x1, e1⟩ | ⟨e1, n1⟩
  · rcases h2 with ⟨k2, -, x2, e2⟩ | ⟨e2, n2⟩
    · rw [e1, e2, xct_uniq x1 x2]
    · exact absurd x1.1 (n2 k)
  · rcases h2 with ⟨k2, -, x2, e2⟩ | ⟨e2, n2⟩
    · exact absurd x2.1 (n1 k2)
    · rw [e1, e2]
/-- the first change of the best way from a code that is k + 1 changes from g -/
def fit (P : PL) (g k x q : Nat) : Prop := xct P g k (wth x (q / 4) (q % 4)) ∧ nbk P x (wth x (q / 4) (q % 4)) = 0
def lst (p : Nat → Prop) (N q : Nat) : Prop := q < N ∧ p q ∧ ∀ j, j < q → ¬ p j
theorem lst_uniq {p : Nat → Prop} {N q q2 : Nat} (h1 : lst p N q) (h2 : lst p N q2) : q = q2 := by
  have a : ¬ q < q2 := fun h => h2.2.2 q h h1.2.1
  have b : ¬ q2 < q := fun h => h1.2.2 q2 h h2.2.1
  omega
theorem fit_ex {k x : Nat} (hx : xct P g (k + 1) x) : ∃ q, q < 4 * pPar P ∧ fit P g k x q := by
  rcases hx.1 with h | ⟨c, v, hc, hv, hs, hl⟩
  · exact absurd h (hx.2 k (by omega))
  · have e1 : (4 * c + v) / 4 = c := by omega
    have e2 : (4 * c + v) % 4 = v := by omega
    refine ⟨4 * c + v, by omega, ?_, ?_⟩
    · rw [e1, e2]
      refine ⟨hl, fun j hj h9 => hx.2 (j + 1) (by omega) (Or.inr ⟨c, v, hc, hv, hs, h9⟩)⟩
    · rw [e1, e2]; exact hs
/-- the change with number n of the best way -/
def pat (P : PL) (g : Nat) : Nat → Nat → Nat → Nat → Prop
  | k, x, 0, q => lst (fit P g k x) (4 * pPar P) q
  | k, x, n + 1, q => ∃ q0, lst (fit P g k x) (4 * pPar P) q0 ∧ pat P g (k - 1) (wth x (q0 / 4) (q0 % 4)) n q
theorem pat_uniq : ∀ {n k x q q2 : Nat}, pat P g k x n q → pat P g k x n q2 → q = q2
  | 0, _, _, _, _, h1, h2 => lst_uniq h1 h2
  | n + 1, k, x, q, q2, ⟨a, a1, a2⟩, ⟨b, b1, b2⟩ => by
    have e := lst_uniq a1 b1
    subst e
    exact pat_uniq a2 b2
theorem i_q (q : Nat) (h : q < 24) : (nI q >>> (2 &&& 31)) = nI (q / 4) ∧ (nI q &&& 3) = nI (q % 4) ∧ nI q / 4 = nI (q / 4) ∧ nI q - nI q / 4 * 4 = nI (q % 4) := by
  have hall : ∀ q, q < 24 → (nI q >>> (2 &&& 31)) = nI (q / 4) ∧ (nI q &&& 3) = nI (q % 4) ∧ nI q / 4 = nI (q / 4) ∧ nI q - nI q / 4 * 4 = nI (q % 4) := by decide +kernel
  exact hall q h
/-- distances that are known well enough from K down -/
def D14 (F : MM) (P : PL) (g K : Nat) : Prop := (∀ x j, x < 4 ^ pPar P → j < 5000 → F 14 x = nI j → xct P g j x) ∧ ∀ x j, x < 4 ^ pPar P → j < K → xct P g j x → F 14 x = nI j
theorem rwq_D14 {s j : Nat} (hP : WFP P) (hW : RWQ F g Q d h l) (hB : BI P g Q d h l) (hj : j < l) : D14 F P g (d j) := by
  have h6 := pow4_le hP.2.1.2
  have hl := inj_le _ _ _ hB.2.2.1 hB.2.2.2.1
  refine ⟨fun x m hx hm e => ?_, fun x m hx hm hxx => ?_⟩
  · rcases rwq_in hP hW hB (show x < 4096 by omega) with ⟨e9, -⟩ | ⟨i, hi, hQi, ei, -⟩
    · rw [e9] at e; exact absurd e.symm (nI_ne9 (by omega))
    · have hd := hB.1.2 i hi
      rw [ei] at e
      have := nI_inj (by omega) (by omega) e
      have h7 := hB.2.2.2.2.2.2.1 i hi
      rw [hQi, this] at h7
      exact h7
  · obtain ⟨i, k1, k2, k3⟩ := bi_comp hB m x (fun h9 => by
      by_cases hjh : j < h
      · have := hB.2.2.2.2.2.2.2.1 j h (by omega) h9; omega
      · have := hB.2.2.2.2.2.2.2.2.1 h9 j hj; omega) hx hxx.1
    have h7 := hB.2.2.2.2.2.2.1 i k1
    rw [k2] at h7
    have e := xct_uniq h7 hxx
    have h8 := (hW.2.2.2.1 i k1).2
    rw [k2, e] at h8
    exact h8
theorem c_best_b {k x K : Nat} (hP : WFP P) (hC' : RPC F P) (hD : D14 F P g K) (hx : x < 4 ^ pPar P) (hk : k < K) (hK : K < 5000) : ∀ dd q fuel, q + dd = 4 * pPar P → dd < fuel → (∀ j, j < q → ¬ fit P g k x j) → (∃ j, j < 4 * pPar P ∧ fit P g k x j) → ∃ q1, s_X7_bestChange_b10 F fuel (nI x) (nI k) (nI q) = some (nI q1) ∧ lst (fit P g k x) (4 * pPar P) q1
  | 0, q, fuel + 1, h1, _, hn, ⟨j, j1, j2⟩ => absurd j2 (hn j (by omega))
  | dd + 1, q, fuel + 1, h1, hf, hn, hex => by
    have hC := hP.2.1.2
    have h6 := pow4_le hC
    obtain ⟨e1, e2, -, -⟩ := i_q q (by omega)
    have hw : wth x (q / 4) (q % 4) < 4 ^ pPar P := wth_lt hx (by omega) (by omega)
    have ih := c_best_b hP hC' hD hx hk hK dd (q + 1) fuel (by omega) (by omega)
    rw [s_X7_bestChange_b10, hC'.2.1, li_4, pk_mul, if_neg (by rw [nI_leI (by omega) (by omega)]; omega)]
    unfold s_X7_afterChange s_X0_with
    rw [e1, e2, i_wth (by omega) (by omega) (by omega)]
    simp only [Option.bind_some, nI_1]
    rw [c_distanceOf (by omega), c_newlyBroken hP hC' hx hw]
    simp only [Option.bind_some]
    by_cases hfit : fit P g k x q
    · rw [if_pos (hD.2 _ k hw hk hfit.1), if_pos hfit.2]
      exact ⟨q, rfl, by omega, hfit, hn⟩
    · have hn2 : ∀ j, j < q + 1 → ¬ fit P g k x j := fun j hj => by
        by_cases hjq : j = q
        · rw [hjq]; exact hfit
        · exact hn j (by omega)
      by_cases h14 : F 14 (wth x (q / 4) (q % 4)) = nI k
      · rw [if_pos h14]
        by_cases hs : nbk P x (wth x (q / 4) (q % 4)) = 0
        · exact absurd ⟨hD.1 _ k hw (by omega) h14, hs⟩ hfit
        · rw [if_neg hs]; exact ih hn2 hex
      · rw [if_neg h14]; exact ih hn2 hex
theorem c_bestChange {k x K : Nat} (hP : WFP P) (hC' : RPC F P) (hD : D14 F P g K) (hx : x < 4 ^ pPar P) (hk : k < K) (hK : K < 5000) (he : F 14 x = nI (k + 1)) : ∃ q, s_X7_bestChange F (nI x) = some (nI q) ∧ lst (fit P g k x) (4 * pPar P) q := by
  have hC := hP.2.1.2
  have h6 := pow4_le hC
  have hxx := hD.1 x (k + 1) hx (by omega) he
  obtain ⟨q, g1, g2⟩ := c_best_b hP hC' hD hx hk hK (4 * pPar P) 0 fu_ (by omega) (fu_lt (by omega)) (fun j hj => absurd hj (by omega)) (fit_ex hxx)
  refine ⟨q, ?_, g2⟩
  unfold s_X7_bestChange
  rw [c_distanceOf (by omega), he]
  simp only [Option.bind_some, nI_pred]
  exact g1
theorem c_cob_b {K idx : Nat} (hidx : idx < 2 ^ 31) (hP : WFP P) (hC' : RPC F P) (hD : D14 F P g K) (hK : K < 5000) : ∀ n k x i fuel, i + n = idx → n < fuel → n ≤ k → k < K → x < 4 ^ pPar P → F 14 x = nI (k + 1) → ∃ q, s_X7_changeOfBest_b19 fuel F (nI idx) (nI x) (nI i) = some (nI q, F) ∧ pat P g k x n q
  | 0, k, x, i, fuel + 1, h1, _, hnk, hk, hx, he => by
    have : i = idx := by omega
    subst this
    obtain ⟨q, g1, g2⟩ := c_bestChange hP hC' hD hx hk hK he
    refine ⟨q, ?_, g2⟩
    rw [s_X7_changeOfBest_b19, if_pos (Int32.le_refl _), g1]
    rfl
  | n + 1, k, x, i, fuel + 1, h1, hf, hnk, hk, hx, he => by
    have hC := hP.2.1.2
    have h6 := pow4_le hC
    obtain ⟨q0, g1, g2⟩ := c_bestChange hP hC' hD hx hk hK he
    obtain ⟨e1, e2, -, -⟩ := i_q q0 (by have := g2.1; omega)
    have hq := g2.1
    have hw : wth x (q0 / 4) (q0 % 4) < 4 ^ pPar P := wth_lt hx (by omega) (by omega)
    have hk1 : k - 1 + 1 = k := by omega
    obtain ⟨q, k1, k2⟩ := c_cob_b (idx := idx) hidx hP hC' hD hK n (k - 1) (wth x (q0 / 4) (q0 % 4)) (i + 1) fuel (by omega) (by omega) (by omega) (by omega) hw (by rw [hk1]; exact hD.2 _ k hw hk g2.2.1.1)
    refine ⟨q, ?_, q0, g2, k2⟩
    rw [s_X7_changeOfBest_b19, if_neg (by rw [nI_leI (by omega) (by omega)]; omega), g1]
    unfold s_X7_afterChange s_X0_with
    simp only [Option.bind_some, nI_1]
    rw [e1, e2, i_wth (by omega) (by omega) (by omega)]
    exact k1
def stp (P : PL) (g s idx : Nat) (r : Int32) : Prop := (∃ k q, xct P g (k + 1) s ∧ idx ≤ k ∧ pat P g k s idx q ∧ r = nI q) ∨ (r = -9 ∧ ∀ k, xct P g k s → k ≤ idx)
theorem stp_uniq {s idx : Nat} {r r2 : Int32} (h1 : stp P g s idx r) (h2 : stp P g s idx r2) : r = r2 := by
  rcases h1 with ⟨k, q, x1, i1, p1, e1⟩ | ⟨e1, n1⟩
  · rcases h2 with ⟨k2, q2, x2, i2, p2, e2⟩ | ⟨e2, n2⟩
    · have := xct_uniq x1 x2
      have : k = k2 := by omega
      subst this
      rw [e1, e2, pat_uniq p1 p2]
    · have := n2 _ x1; omega
  · rcases h2 with ⟨k2, q2, x2, i2, p2, e2⟩ | ⟨e2, n2⟩
    · have := n1 _ x2; omega
    · rw [e1, e2]
theorem c_changeOfBest {s g idx : Nat} (hP : WFP P) (hs : s < 4 ^ pPar P) (hg : g < 4 ^ pPar P) (hidx : idx < 2 ^ 31) (hC' : RPC F P) (hW : RWy F P) : ∃ r F1, s_X7_changeOfBest F (nI s) (nI g) (nI idx) = some (r, F1) ∧ (∀ a, a ≠ 13 → a ≠ 14 → a ≠ 15 → F1 a = F a) ∧ RWy F1 P ∧ stp P g s idx r := by
  have h6 := pow4_le hP.2.1.2
  obtain ⟨r, F1, Q, d, h, l, g1, g2, g3, g4, g5⟩ := c_distance hP hs hg hC' hW
  have hWy : RWy F1 P := Or.inr ⟨g, Q, d, h, l, hg, g3, g4⟩
  have hl := inj_le _ _ _ g4.2.2.1 g4.2.2.2.1
  have hC2 : RPC F1 P := rpc_fr hC' (fun a _ _ => g2 a (by omega) (by omega) (by omega))
  unfold s_X7_changeOfBest
  rw [g1]
  simp only [Option.bind_some]
  rcases id g5 with ⟨j, h1, h2, h3⟩ | ⟨h1, h2, h3⟩
  · have hd := g4.1.2 j h1
    have hx := g4.2.2.2.2.2.2.1 j h1
    rw [h2] at hx
    rw [h3]
    by_cases hlt : idx < d j
    · rw [if_pos (by rw [nI_ltI hidx (by omega)]; exact hlt)]
      have he := (g3.2.2.2.1 j h1).2
      rw [h2] at he
      have e1 : d j - 1 + 1 = d j := by omega
      obtain ⟨q, k1, k2⟩ := c_cob_b (idx := idx) hidx hP hC2 (rwq_D14 (s := s) hP g3 g4 h1) (by omega) idx (d j - 1) s 0 fu_ (by omega) (fu_lt (by omega)) (by omega) (by omega) hs (by rw [e1]; exact he)
      exact ⟨nI q, F1, k1, g2, hWy, Or.inl ⟨d j - 1, q, by rw [e1]; exact hx, by omega, k2, rfl⟩⟩
    · rw [if_neg (by rw [nI_ltI hidx (by omega)]; exact hlt)]
      exact ⟨-9, F1, rfl, g2, hWy, Or.inr ⟨rfl, fun k hk => by have := xct_uniq hk hx; omega⟩⟩
  · have hn := c_dis hP hs g4 g5
    rw [h2, if_neg (fun e => by
      rw [Int32.lt_iff_toInt_lt, nI_toInt hidx] at e
      have h9 : (-9 : Int32).toInt = -9 := by decide
      rw [h9] at e
      omega)]
    refine ⟨-9, F1, rfl, g2, hWy, Or.inr ⟨rfl, fun k hk => ?_⟩⟩
    rcases hn with ⟨k2, hk2, -, e⟩ | ⟨-, n⟩
    · rw [h2] at e; exact absurd e.symm (nI_ne9 (by omega))
    · exact absurd hk.1 (n k)
end CW
