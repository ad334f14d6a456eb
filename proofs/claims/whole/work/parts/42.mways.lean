/-! ===== ways of the reference ===== -/
def RMQ (F : MM) (P : PL) (Q d : Nat → Nat) (l : Nat) : Prop := (∀ i, i < l → F 178 i = nI (Q i) ∧ F 177 (Q i) = nI (d i)) ∧ (∀ x, x < 4 ^ pPar P → (∀ i, i < l → Q i ≠ x) → F 177 x = -9) ∧ ∀ x, x < 4 ^ pPar P → F 176 x = nI (brk P x)
def FW (F : MM) (P : PL) (g : Nat) : Prop := (∀ x, x < 4 ^ pPar P → F 176 x = nI (brk P x)) ∧ ∀ x, x < 4 ^ pPar P → dis P g x (F 177 x)
theorem i_all_all : ∀ m, m < 7 → ((1 : Int32) <<< ((2 * nI m) &&& 31)) = nI (4 ^ m) := by decide +kernel
theorem bnd_ {α β : Type} (a : α) (f : α → Option β) : (some a).bind f = f a := by
  generalize h : f a = r
  exact h
section MW
variable {F F1 : MM} {P : PL} {g h l : Nat} {Q d : Nat → Nat}
theorem rmq_in (hP : WFP P) (hW : RMQ F P Q d l) (hB : BI P g Q d h l) {x : Nat} (hx : x < 4 ^ pPar P) : (F 177 x = -9 ∧ ∀ i, i < l → Q i ≠ x) ∨ ∃ i, i < l ∧ Q i = x ∧ F 177 x = nI (d i) ∧ ¬ F 177 x = -9 := by
  by_cases hi : ∃ i, i < l ∧ Q i = x
  · obtain ⟨i, h1, h2⟩ := hi
    have e := (hW.1 i h1).2
    rw [h2] at e
    have hd := hB.1.2 i h1
    have hl := inj_le _ _ _ hB.2.2.1 hB.2.2.2.1
    have h6 := pow4_le hP.2.1.2
    exact Or.inr ⟨i, h1, h2, e, by rw [e]; exact nI_ne9 (by omega)⟩
  · have hn : ∀ i, i < l → Q i ≠ x := fun i h1 h2 => hi ⟨i, h1, h2⟩
    exact Or.inl ⟨hW.2.1 x hx hn, hn⟩
theorem m_lw92 {k60 : MM → Int32 → Int32 → Option MM} {k80 : MM → Int32 → Int32 → Int32 → Int32 → Option MM} {y c : Nat} (hP : WFP P) (hc : c < pPar P) : ∀ dd v fuel F Q d l, v + dd = 4 → dd < fuel → RMQ F P Q d l → BI P g Q d h l → h < l → y = Q h →
    (∀ c' v', c' < pPar P → v' < 4 → (c' < c ∨ (c' = c ∧ v' < v)) → nbk P (wth y c' v') y = 0 → ∃ j, j < l ∧ Q j = wth y c' v') →
    ∃ F1 Q1 d1 l1, s_X9_layWays_b92 k60 k80 fuel F (nI (h + 1)) (nI l) (nI y) (nI c) (nI v) = k80 F1 (nI (h + 1)) (nI l1) (nI y) (nI (c + 1)) ∧ (∀ a, a ≠ 177 → a ≠ 178 → F1 a = F a) ∧ RMQ F1 P Q1 d1 l1 ∧ BI P g Q1 d1 h l1 ∧ h < l1 ∧ Q1 h = y ∧
      ∀ c' v', c' < pPar P → v' < 4 → c' < c + 1 → nbk P (wth y c' v') y = 0 → ∃ j, j < l1 ∧ Q1 j = wth y c' v'
  | 0, v, fuel + 1, F, Q, d, l, h1, _, hW, hB, hh, hy, hp => by
    have : v = 4 := by omega
    subst this
    refine ⟨F, Q, d, l, ?_, fun _ _ _ => rfl, hW, hB, hh, hy.symm, fun c' v' hc' hv' hcc hs => hp c' v' hc' hv' (by omega) hs⟩
    rw [s_X9_layWays_b92, if_pos (by decide)]
    simp only [bnd_, nI_1]
  | dd + 1, v, fuel + 1, F, Q, d, l, h1, hfu, hW, hB, hh, hy, hp => by
    have hC := hP.2.1.2
    have h6 := pow4_le hC
    have hl := inj_le _ _ _ hB.2.2.1 hB.2.2.2.1
    have hyl : y < 4 ^ pPar P := by rw [hy]; exact hB.2.2.1 h hh
    have hv : v < 4 := by omega
    have hxl : wth y c v < 4 ^ pPar P := wth_lt hyl hc hv
    have IH := m_lw92 (k60 := k60) (k80 := k80) (y := y) hP hc dd (v + 1) fuel
    rw [s_X9_layWays_b92, if_neg (by rw [li_4, nI_leI (by omega) (by omega)]; omega)]
    unfold s_X9_with
    rw [i_wth (by omega) (by omega) hv]
    have hpn : ∀ {l' : Nat} {Q' : Nat → Nat}, (∀ c' v', c' < pPar P → v' < 4 → (c' < c ∨ (c' = c ∧ v' < v)) → nbk P (wth y c' v') y = 0 → ∃ j, j < l' ∧ Q' j = wth y c' v') → (nbk P (wth y c v) y = 0 → ∃ j, j < l' ∧ Q' j = wth y c v) → ∀ c' v', c' < pPar P → v' < 4 → (c' < c ∨ (c' = c ∧ v' < v + 1)) → nbk P (wth y c' v') y = 0 → ∃ j, j < l' ∧ Q' j = wth y c' v' := fun ho hx c' v' hc' hv' hcc hs => by
      by_cases hold : c' < c ∨ (c' = c ∧ v' < v)
      · exact ho c' v' hc' hv' hold hs
      · have e1 : c' = c := by omega
        have e2 : v' = v := by omega
        subst e1 e2
        exact hx hs
    have b1 := hW.2.2 y hyl
    have b2 := hW.2.2 (wth y c v) hxl
    have dy : F 177 y = nI (d h) := by rw [hy]; exact (hW.1 h hh).2
    generalize hx : wth y c v = x at *
    simp (disch := omega) only [bnd_, nI_add, nI_1, at_nI, pa_nI, inb_nI, ix_nI, nI_leI, nI_ltI, nI_eq, if_true, b1, b2]
    have en : (nI (brk P y) &&& (nI (brk P x) ^^^ (-1)) = 0) ↔ nbk P x y = 0 := Iff.rfl
    rcases rmq_in hP hW hB hxl with ⟨e9, hn⟩ | ⟨i, hi, hQi, ei, e9⟩
    · rw [if_pos e9]
      by_cases hs : nbk P x y = 0
      · rw [if_pos (en.mpr hs)]
        obtain ⟨hl2, hB2⟩ := bi_new hB hh hc hv (by rw [← hy]; exact hx.symm) (by rw [← hy]; exact hs) hn
        have eQ : ∀ i, i < l → (if i = l then x else Q i) = Q i := fun i hi => if_neg (by omega)
        have hW2 : RMQ (mup (mup F 177 x (nI (d h + 1))) 178 l (nI x)) P (fun i => if i = l then x else Q i) (fun i => if i = l then d h + 1 else d i) (l + 1) := by
          refine ⟨fun i hi => ?_, fun z hz hnz => ?_, fun z hz => ?_⟩
          · simp (disch := omega) only [mup_self, mup_ne]
            by_cases hil : i = l
            · subst hil
              simp only [if_true]
              exact ⟨pk_us, pk_us⟩
            · simp only [if_neg hil]
              rw [pk_un hil, pk_un (hn i (by omega))]
              exact hW.1 i (by omega)
          · have hne : ∀ i, i < l + 1 → (if i = l then x else Q i) ≠ z := hnz
            have h1 := hne l (by omega)
            rw [if_pos rfl] at h1
            simp (disch := omega) only [mup_self, mup_ne]
            rw [pk_un (fun e => h1 e.symm)]
            refine hW.2.1 z hz (fun i hi => ?_)
            have h2 := hne i (by omega)
            rw [if_neg (by omega)] at h2
            exact h2
          · simp (disch := omega) only [mup_ne]; exact hW.2.2 z hz
        obtain ⟨F1, Q1, d1, l1, g1, g2, g3, g4, g5, g6, g7⟩ := IH _ _ _ (l + 1) (by omega) (by omega) hW2 hB2 (by omega) (by rw [eQ h hh]; exact hy)
          (hpn (fun c' v' hc' hv' hcc hs' => by
            obtain ⟨j, j1, j2⟩ := hp c' v' hc' hv' hcc hs'
            exact ⟨j, by omega, by rw [eQ j j1]; exact j2⟩) (fun _ => ⟨l, by omega, if_pos rfl⟩))
        refine ⟨F1, Q1, d1, l1, ?_, fun a a1 a2 => by rw [g2 a a1 a2, mup_ne a2, mup_ne a1], g3, g4, g5, g6, g7⟩
        simp (disch := omega) only [bnd_, nI_add, nI_1, at_nI, pa_nI, inb_nI, ix_nI, nI_leI, nI_ltI, nI_eq, if_true, dy]
        exact g1
      · rw [if_neg (fun h9 => hs (en.mp h9))]
        exact IH F Q d l (by omega) (by omega) hW hB hh hy (hpn hp (fun h9 => absurd h9 hs))
    · rw [if_neg e9]
      exact IH F Q d l (by omega) (by omega) hW hB hh hy (hpn hp (fun _ => ⟨i, hi, hQi⟩))
theorem m_lw80 {k60 : MM → Int32 → Int32 → Option MM} {y : Nat} (hP : WFP P) : ∀ dd c fuel F Q d l, c + dd = pPar P → dd < fuel → RPM F P → RMQ F P Q d l → BI P g Q d h l → h < l → y = Q h →
    (∀ c' v', c' < pPar P → v' < 4 → c' < c → nbk P (wth y c' v') y = 0 → ∃ j, j < l ∧ Q j = wth y c' v') →
    ∃ F1 Q1 d1 l1, s_X9_layWays_b80 k60 fuel F (nI (h + 1)) (nI l) (nI y) (nI c) = k60 F1 (nI (h + 1)) (nI l1) ∧ (∀ a, a ≠ 177 → a ≠ 178 → F1 a = F a) ∧ RMQ F1 P Q1 d1 l1 ∧ BI P g Q1 d1 (h + 1) l1
  | 0, c, fuel + 1, F, Q, d, l, h1, _, hM, hW, hB, hh, hy, hp => by
    have hC := hP.2.1.2
    have : c = pPar P := by omega
    subst this
    refine ⟨F, Q, d, l, ?_, fun _ _ _ => rfl, hW, bi_step hB hh (fun c v hc hv hs => by rw [← hy]; rw [← hy] at hs; exact hp c v hc hv hc hs)⟩
    rw [s_X9_layWays_b80, if_pos (by rw [hM.2.1, nI_leI (by omega) (by omega)]; omega)]
  | dd + 1, c, fuel + 1, F, Q, d, l, h1, hfu, hM, hW, hB, hh, hy, hp => by
    have hC := hP.2.1.2
    obtain ⟨F2, Q2, d2, l2, k1, k2, k3, k4, k5, k6, k7⟩ := m_lw92 (g := g) (h := h) (k60 := k60) (k80 := s_X9_layWays_b80 k60 fuel) (y := y) hP (show c < pPar P by omega) 4 0 fu_ F Q d l (by omega) (fu_lt (by omega)) hW hB hh hy (fun c' v' hc' hv' hcc hs => hp c' v' hc' hv' (by omega) hs)
    obtain ⟨F1, Q1, d1, l1, g1, g2, g3, g4⟩ := m_lw80 (k60 := k60) (y := y) hP dd (c + 1) fuel F2 Q2 d2 l2 (by omega) (by omega) (by unfold RPM; rw [k2 164 (by omega) (by omega), k2 166 (by omega) (by omega), k2 167 (by omega) (by omega)]; exact hM) k3 k4 k5 k6.symm k7
    refine ⟨F1, Q1, d1, l1, ?_, fun a a1 a2 => (g2 a a1 a2).trans (k2 a a1 a2), g3, g4⟩
    rw [s_X9_layWays_b80, if_neg (by rw [hM.2.1, nI_leI (by omega) (by omega)]; omega), li_0, k1]
    exact g1
theorem m_lw60 (hP : WFP P) : ∀ m fuel F Q d h l, 4096 - h ≤ m → m < fuel → RPM F P → RMQ F P Q d l → BI P g Q d h l →
    ∃ F1 Q1 d1 l1, s_X9_layWays_b60 fuel F (nI h) (nI l) = some F1 ∧ (∀ a, a ≠ 177 → a ≠ 178 → F1 a = F a) ∧ RMQ F1 P Q1 d1 l1 ∧ BI P g Q1 d1 l1 l1
  | m, fuel + 1, F, Q, d, h, l, hm, hfu, hM, hW, hB => by
    have hC := hP.2.1.2
    have h6 := pow4_le hC
    have hl := inj_le _ _ _ hB.2.2.1 hB.2.2.2.1
    have hhl := hB.1.1
    rw [s_X9_layWays_b60]
    by_cases hlh : l ≤ h
    · have : h = l := by omega
      subst this
      rw [if_pos (Int32.le_refl _)]
      exact ⟨F, Q, d, h, rfl, fun _ _ _ => rfl, hW, hB⟩
    · rw [if_neg (by rw [nI_leI (by omega) (by omega)]; exact hlh)]
      obtain ⟨m0, rfl⟩ : ∃ m0, m = m0 + 1 := ⟨m - 1, by omega⟩
      obtain ⟨F2, Q2, d2, l2, k1, k2, k3, k4⟩ := m_lw80 (g := g) (h := h) (k60 := s_X9_layWays_b60 fuel) (y := Q h) hP (pPar P) 0 fu_ F Q d l (by omega) (fu_lt (by omega)) hM hW hB (by omega) rfl (fun _ _ _ _ h9 => absurd h9 (by omega))
      obtain ⟨F1, Q1, d1, l1, g1, g2, g3⟩ := m_lw60 hP m0 fuel F2 Q2 d2 (h + 1) l2 (by omega) (by omega) (by unfold RPM; rw [k2 164 (by omega) (by omega), k2 166 (by omega) (by omega), k2 167 (by omega) (by omega)]; exact hM) k3 k4
      refine ⟨F1, Q1, d1, l1, ?_, fun a a1 a2 => (g2 a a1 a2).trans (k2 a a1 a2), g3⟩
      have e := (hW.1 h (by omega)).1
      simp (disch := omega) only [bnd_, nI_add, nI_1, at_nI, pa_nI, inb_nI, ix_nI, nI_leI, nI_ltI, nI_eq, if_true, li_0, e]
      exact k1.trans g1
theorem m_lw11_0 (hP : WFP P) (hg : g < 4 ^ pPar P) (hM : RPM F P) (hp : ∀ x, x < 4 ^ pPar P → F 176 x = nI (brk P x) ∧ F 177 x = -9) : ∃ F1, s_X9_layWays_b60 fu_ (mup (mup F 177 g (nI 0)) 178 0 (nI g)) (nI 0) (nI 1) = some F1 ∧ (∀ a, a ≠ 176 → a ≠ 177 → a ≠ 178 → F1 a = F a) ∧ FW F1 P g := by
  have hC := hP.2.1.2
  have h6 := pow4_le hC
  have hW : RMQ (mup (mup F 177 g (nI 0)) 178 0 (nI g)) P (fun _ => g) (fun _ => 0) 1 := by
    refine ⟨fun i hi => ?_, fun z hz hnz => ?_, fun z hz => ?_⟩
    · have : i = 0 := by omega
      subst this
      simp (disch := omega) only [mup_self, mup_ne, pk_us]
      exact ⟨trivial, trivial⟩
    · have h1 : g ≠ z := hnz 0 (by omega)
      simp (disch := omega) only [mup_self, mup_ne]
      rw [pk_un (fun e => h1 e.symm)]
      exact (hp z hz).2
    · simp (disch := omega) only [mup_ne]; exact (hp z hz).1
  obtain ⟨F1, Q1, d1, l1, g1, g2, g3, g4⟩ := m_lw60 (g := g) hP 4096 fu_ _ _ _ 0 1 (by omega) (fu_lt (by omega)) (by unfold RPM; simp (disch := omega) only [mup_ne]; exact hM) hW (bi_start P hg)
  refine ⟨F1, ?_, fun a a1 a2 a3 => by rw [g2 a a2 a3, mup_ne a3, mup_ne a2], g3.2.2, fun x hx => ?_⟩
  · exact g1
  · refine c_dis hP hx g4 ?_
    rcases rmq_in hP g3 g4 hx with ⟨e9, hn⟩ | ⟨i, hi, hQi, ei, e9⟩
    · exact Or.inr ⟨rfl, e9, hn⟩
    · exact Or.inl ⟨i, hi, hQi, ei⟩
theorem m_lw11 (hP : WFP P) (hg : g < 4 ^ pPar P) : ∀ dd i fuel F, i + dd = 4 ^ pPar P → dd < fuel → RPM F P → (∀ x, x < i → F 176 x = nI (brk P x) ∧ F 177 x = -9) →
    ∃ F1, s_X9_layWays_b11 fuel F (nI g) (nI (4 ^ pPar P)) (nI i) = some F1 ∧ (∀ a, a ≠ 176 → a ≠ 177 → a ≠ 178 → F1 a = F a) ∧ FW F1 P g
  | 0, i, fuel + 1, F, h1, _, hM, hp => by
    have hC := hP.2.1.2
    have h6 := pow4_le hC
    have : i = 4 ^ pPar P := by omega
    subst this
    obtain ⟨F1, g1, g2, g3⟩ := m_lw11_0 hP hg hM hp
    refine ⟨F1, ?_, g2, g3⟩
    rw [s_X9_layWays_b11, if_pos (Int32.le_refl _)]
    simp (disch := omega) only [bnd_, nI_add, nI_1, at_nI, pa_nI, inb_nI, ix_nI, nI_leI, nI_ltI, nI_eq, if_true, li_0, li_1]
    exact g1
  | dd + 1, i, fuel + 1, F, h1, hfu, hM, hp => by
    have hC := hP.2.1.2
    have h6 := pow4_le hC
    obtain ⟨F1, g1, g2, g3⟩ := m_lw11 hP hg dd (i + 1) fuel (mup (mup F 176 i (nI (brk P i))) 177 i (-9)) (by omega) (by omega) (by unfold RPM; simp (disch := omega) only [mup_ne]; exact hM) (fun x hx => by
      simp (disch := omega) only [mup_self, mup_ne]
      by_cases hxi : x = i
      · subst hxi; exact ⟨pk_us, pk_us⟩
      · rw [pk_un hxi, pk_un hxi]; exact hp x (by omega))
    refine ⟨F1, ?_, fun a a1 a2 a3 => by rw [g2 a a1 a2 a3, mup_ne a2, mup_ne a1], g3⟩
    rw [s_X9_layWays_b11, if_neg (by rw [nI_leI (by omega) (by omega)]; omega), m_broken (show i < 4096 by omega) hP hM]
    simp (disch := omega) only [bnd_, nI_add, nI_1, at_nI, pa_nI, inb_nI, ix_nI, nI_leI, nI_ltI, nI_eq, if_true]
    exact g1
theorem m_layWays (hP : WFP P) (hg : g < 4 ^ pPar P) (hM : RPM F P) : ∃ F1, s_X9_layWays F (nI g) = some F1 ∧ (∀ a, a ≠ 176 → a ≠ 177 → a ≠ 178 → F1 a = F a) ∧ FW F1 P g := by
  have hC := hP.2.1.2
  have h6 := pow4_le hC
  obtain ⟨F1, g1, g2⟩ := m_lw11 hP hg (4 ^ pPar P) 0 fu_ F (by omega) (fu_lt (by omega)) hM (fun x hx => absurd hx (by omega))
  refine ⟨F1, ?_, g2⟩
  unfold s_X9_layWays
  rw [hM.2.1, i_all_all (pPar P) (by omega), li_0]
  simp only [bnd_]
  exact g1
theorem fw_x {x k : Nat} (hW : FW F P g) (hx : x < 4 ^ pPar P) (hk : k < 4096) : F 177 x = nI k ↔ xct P g k x := by
  have h := hW.2 x hx
  constructor
  · intro e
    rcases h with ⟨k2, h2, x2, e2⟩ | ⟨e2, n2⟩
    · rw [e2] at e
      have := nI_inj (by omega) (by omega) e
      rw [← this]; exact x2
    · rw [e2] at e; exact absurd e.symm (nI_ne9 (by omega))
  · intro e
    rcases h with ⟨k2, h2, x2, e2⟩ | ⟨e2, n2⟩
    · rw [e2, xct_uniq x2 e]
    · exact absurd e.1 (n2 k)
theorem m_first_b {k x : Nat} (hP : WFP P) (hM : RPM F P) (hW : FW F P g) (hx : x < 4 ^ pPar P) (hk : k < 4095) (he : xct P g (k + 1) x) : ∀ dd q fuel, q + dd = 4 * pPar P → dd < fuel → (∀ j, j < q → ¬ fit P g k x j) → (∃ j, j < 4 * pPar P ∧ fit P g k x j) → ∃ q1, s_X9_firstStep_b2 F fuel (nI x) (nI q) = some (nI q1) ∧ lst (fit P g k x) (4 * pPar P) q1
  | 0, q, fuel + 1, h1, _, hn, ⟨j, j1, j2⟩ => absurd j2 (hn j (by omega))
  | dd + 1, q, fuel + 1, h1, hf, hn, hex => by
    have hC := hP.2.1.2
    have h6 := pow4_le hC
    obtain ⟨-, -, e1, e2⟩ := i_q q (by omega)
    have hw : wth x (q / 4) (q % 4) < 4 ^ pPar P := wth_lt hx (by omega) (by omega)
    have ih := m_first_b hP hM hW hx hk he dd (q + 1) fuel (by omega) (by omega)
    have ex := (fw_x hW hx (show k + 1 < 4096 by omega)).mpr he
    have b1 := hW.1 x hx
    have b2 := hW.1 _ hw
    rw [s_X9_firstStep_b2, hM.2.1, show (4 : Int32) * nI (pPar P) = nI (4 * pPar P) from pk_mul 4 _, if_neg (by rw [nI_leI (by omega) (by omega)]; omega)]
    unfold s_X9_with
    rw [e2, e1, i_wth (by omega) (by omega) (by omega)]
    have en : (nI (brk P (wth x (q / 4) (q % 4))) &&& (nI (brk P x) ^^^ (-1)) = 0) ↔ nbk P x (wth x (q / 4) (q % 4)) = 0 := Iff.rfl
    simp (disch := omega) only [bnd_, nI_add, nI_1, at_nI, pa_nI, inb_nI, ix_nI, nI_leI, nI_ltI, nI_eq, if_true, ex, b1, b2, nI_pred]
    have hstep : ¬ fit P g k x q → ∀ j, j < q + 1 → ¬ fit P g k x j := fun hfit j hj => by
      by_cases hjq : j = q
      · rw [hjq]; exact hfit
      · exact hn j (by omega)
    by_cases hself : wth x (q / 4) (q % 4) = x
    · rw [if_pos hself]
      refine ih (hstep (fun hf2 => ?_)) hex
      have h9 := hf2.1
      rw [hself] at h9
      have := xct_uniq h9 he
      omega
    · rw [if_neg hself]
      by_cases h14 : F 177 (wth x (q / 4) (q % 4)) = nI k
      · rw [if_pos h14]
        by_cases hs : nbk P x (wth x (q / 4) (q % 4)) = 0
        · rw [if_pos (en.mpr hs)]
          exact ⟨q, rfl, by omega, ⟨(fw_x hW hw (by omega)).mp h14, hs⟩, hn⟩
        · rw [if_neg (fun h9 => hs (en.mp h9))]; exact ih (hstep (fun hf2 => hs hf2.2)) hex
      · rw [if_neg h14]; exact ih (hstep (fun hf2 => h14 ((fw_x hW hw (by omega)).mpr hf2.1))) hex
theorem m_firstStep {k x : Nat} (hP : WFP P) (hM : RPM F P) (hW : FW F P g) (hx : x < 4 ^ pPar P) (hk : k < 4095) (he : xct P g (k + 1) x) : ∃ q, s_X9_firstStep F (nI x) = some (nI q) ∧ lst (fit P g k x) (4 * pPar P) q := by
  have hC := hP.2.1.2
  exact m_first_b hP hM hW hx hk he (4 * pPar P) 0 fu_ (by omega) (fu_lt (by omega)) (fun j hj => absurd hj (by omega)) (fit_ex he)
theorem m_step_b {idx : Nat} (hidx : idx < 2 ^ 31) (hP : WFP P) (hM : RPM F P) (hW : FW F P g) : ∀ n k x i q0 fuel, i + n = idx → n < fuel → n ≤ k → k < 4095 → x < 4 ^ pPar P → lst (fit P g k x) (4 * pPar P) q0 → ∃ q, s_X9_step_b79 fuel F (nI idx) (nI x) (nI q0) (nI i) = some (nI q, F) ∧ pat P g k x n q
  | 0, k, x, i, q0, fuel + 1, h1, _, hnk, hk, hx, hq => by
    have : i = idx := by omega
    subst this
    refine ⟨q0, ?_, hq⟩
    rw [s_X9_step_b79, if_pos (Int32.le_refl _)]
  | n + 1, k, x, i, q0, fuel + 1, h1, hf, hnk, hk, hx, hq => by
    have hC := hP.2.1.2
    have h6 := pow4_le hC
    have hq1 := hq.1
    obtain ⟨-, -, e1, e2⟩ := i_q q0 (by omega)
    have hw : wth x (q0 / 4) (q0 % 4) < 4 ^ pPar P := wth_lt hx (by omega) (by omega)
    have hk1 : k - 1 + 1 = k := by omega
    obtain ⟨q2, g1, g2⟩ := m_firstStep (k := k - 1) hP hM hW hw (by omega) (by rw [hk1]; exact hq.2.1.1)
    obtain ⟨q, k1, k2⟩ := m_step_b (idx := idx) hidx hP hM hW n (k - 1) (wth x (q0 / 4) (q0 % 4)) (i + 1) q2 fuel (by omega) (by omega) (by omega) (by omega) hw g2
    refine ⟨q, ?_, q0, hq, k2⟩
    rw [s_X9_step_b79, if_neg (by rw [nI_leI (by omega) (by omega)]; omega)]
    unfold s_X9_with
    rw [e2, e1, i_wth (by omega) (by omega) (by omega)]
    simp only [bnd_, nI_1]
    rw [g1]
    exact k1
end MW
