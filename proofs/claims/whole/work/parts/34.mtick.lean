/-! ===== words as numbers; a tick of the reference ===== -/
theorem li_0 : (0 : Int32) = nI 0 := by decide
theorem li_1 : (1 : Int32) = nI 1 := by decide
theorem li_2 : (2 : Int32) = nI 2 := by decide
theorem li_3 : (3 : Int32) = nI 3 := by decide
theorem li_4 : (4 : Int32) = nI 4 := by decide
theorem li_5 : (5 : Int32) = nI 5 := by decide
theorem li_6 : (6 : Int32) = nI 6 := by decide
theorem li_7 : (7 : Int32) = nI 7 := by decide
theorem li_8 : (8 : Int32) = nI 8 := by decide
theorem li_10 : (10 : Int32) = nI 10 := by decide
theorem li_11 : (11 : Int32) = nI 11 := by decide
theorem li_12 : (12 : Int32) = nI 12 := by decide
theorem li_13 : (13 : Int32) = nI 13 := by decide
theorem li_14 : (14 : Int32) = nI 14 := by decide
theorem li_15 : (15 : Int32) = nI 15 := by decide
theorem li_20 : (20 : Int32) = nI 20 := by decide
theorem li_24 : (24 : Int32) = nI 24 := by decide
theorem li_30 : (30 : Int32) = nI 30 := by decide
theorem li_48 : (48 : Int32) = nI 48 := by decide
theorem li_50 : (50 : Int32) = nI 50 := by decide
theorem li_52 : (52 : Int32) = nI 52 := by decide
theorem li_60 : (60 : Int32) = nI 60 := by decide
theorem li_63 : (63 : Int32) = nI 63 := by decide
theorem li_64 : (64 : Int32) = nI 64 := by decide
theorem li_68 : (68 : Int32) = nI 68 := by decide
theorem li_77 : (77 : Int32) = nI 77 := by decide
theorem li_99 : (99 : Int32) = nI 99 := by decide
theorem li_100 : (100 : Int32) = nI 100 := by decide
theorem li_107 : (107 : Int32) = nI 107 := by decide
theorem li_110 : (110 : Int32) = nI 110 := by decide
theorem li_118 : (118 : Int32) = nI 118 := by decide
theorem li_119 : (119 : Int32) = nI 119 := by decide
theorem li_120 : (120 : Int32) = nI 120 := by decide
theorem li_160 : (160 : Int32) = nI 160 := by decide
theorem li_255 : (255 : Int32) = nI 255 := by decide
theorem li_1000 : (1000 : Int32) = nI 1000 := by decide
theorem li_1024 : (1024 : Int32) = nI 1024 := by decide
theorem li_1391 : (1391 : Int32) = nI 1391 := by decide
theorem li_4096 : (4096 : Int32) = nI 4096 := by decide
theorem nI_ne9 {n : Nat} (h : n < 2 ^ 31) : ¬ nI n = -9 := fun e => by
  have h1 := nI_toInt h
  rw [e] at h1
  have h2 : (-9 : Int32).toInt = -9 := by decide
  rw [h2] at h1
  omega
theorem mup_mup (F : MM) (a i : Nat) (v w : Int32) : mup (mup F a i v) a i w = mup F a i w := by
  funext b j
  by_cases h : b = a
  · subst h
    rw [mup_self, mup_self, mup_self]
    by_cases hj : j = i
    · subst hj; rw [pk_us, pk_us]
    · rw [pk_un hj, pk_un hj, pk_un hj]
  · rw [mup_ne h, mup_ne h, mup_ne h]
section TK
variable {F F1 : MM} {P : PL} {S : RW} {r n c t k v : Nat}
theorem wfs_b (hS : WFS P t S) (ht : t < 1000000) : ∀ k, k < 107 → S k < 2 ^ 31 := fun k hk => by
  have := hS.1.2 k hk
  omega
theorem wfs_mono {t2 : Nat} (hS : WFS P t S) (h : t ≤ t2) : WFS P t2 S := by
  obtain ⟨⟨a1, a2⟩, a3, a4, a5⟩ := hS
  refine ⟨⟨by omega, fun k hk => ?_⟩, by omega, fun n hn => ?_, a5⟩
  · have := a2 k hk; omega
  · obtain ⟨b1, b2, b3, b4⟩ := a4 n hn
    exact ⟨b1, b2, b3, by omega⟩
theorem wfs_rup (hS : WFS P t S) (h0 : v ≤ 5 * t + 60) (h1 : k = 0 → v ≤ t) (h2 : k = 1 → v ≤ 5 * t) (h3 : ∀ n c, n < pNod P → c < pPar P → k = 2 + 15 * n + c ∨ k = 2 + 15 * n + 6 + c → v < 4) (h4 : ∀ n, n < pNod P → k = 2 + 15 * n + 12 → v ≤ 9) (h5 : ∀ n, n < pNod P → k = 2 + 15 * n + 13 → v < pLim P) (h6 : ∀ n, n < pNod P → k = 2 + 15 * n + 14 → v ≤ t + 50) (h7 : ∀ c, c < pPar P → k = 77 + 5 * c → v ≤ 5) (h8 : ∀ c u, c < pPar P → u < 4 → k = 77 + 5 * c + 1 + u → v < 32) : WFS P t (rup S k v) := by
  obtain ⟨⟨a1, a2⟩, a3, a4, a5⟩ := hS
  have key : ∀ (q : Nat → Prop) (j : Nat), (k = j → q v) → q (S j) → q (rup S k v j) := fun q j hq hs => by
    unfold rup
    by_cases h : j = k
    · rw [if_pos h]; exact hq h.symm
    · rw [if_neg h]; exact hs
  refine ⟨⟨key (fun x => x ≤ t) 0 h1 a1, fun j hj => key (fun x => x ≤ 5 * t + 60) j (fun _ => h0) (a2 j hj)⟩, key (fun x => x ≤ 5 * t) 1 h2 a3, fun n hn => ?_, fun c hc => ?_⟩
  · obtain ⟨b1, b2, b3, b4⟩ := a4 n hn
    exact ⟨fun c hc => ⟨key (fun x => x < 4) _ (fun e => h3 n c hn hc (Or.inl e)) (b1 c hc).1, key (fun x => x < 4) _ (fun e => h3 n c hn hc (Or.inr e)) (b1 c hc).2⟩, key (fun x => x ≤ 9) _ (h4 n hn) b2, key (fun x => x < pLim P) _ (h5 n hn) b3, key (fun x => x ≤ t + 50) _ (h6 n hn) b4⟩
  · obtain ⟨b1, b2⟩ := a5 c hc
    exact ⟨key (fun x => x ≤ 5) _ (h7 c hc) b1, fun u hu => key (fun x => x < 32) _ (h8 c u hc hu) (b2 u hu)⟩
theorem wfs_tckN (hP : WFP P) (hS : WFS P (t + 1) S) (h1 : S 1 ≤ 5 * t + n) (hn : n < pNod P) : WFS P (t + 1) (tckN P S n) ∧ tckN P S n 1 ≤ 5 * t + (n + 1) ∧ tckN P S n 0 = S 0 := by
  obtain ⟨⟨p1, p2⟩, ⟨p3, p4⟩, p5, ⟨p6, p7⟩, ⟨p8, p9⟩, -⟩ := hP
  obtain ⟨b1, b2, b3, b4⟩ := hS.2.2.1 n hn
  have hs0 := hS.1.1
  unfold tckN
  cases hx : nxt P S n with
  | none => exact ⟨hS, Nat.le_trans h1 (by omega), rfl⟩
  | some c =>
    obtain ⟨hc, -⟩ := nxt_lt hx
    have hv := (b1 c hc).2
    by_cases hf : S (2 + 15 * n + 12) = 0
    · simp only [hf, if_true]
      refine ⟨?_, ?_, ?_⟩
      · refine wfs_rup (wfs_rup (wfs_rup hS ?_ ?_ ?_ ?_ ?_ ?_ ?_ ?_ ?_) ?_ ?_ ?_ ?_ ?_ ?_ ?_ ?_ ?_) ?_ ?_ ?_ ?_ ?_ ?_ ?_ ?_ ?_ <;> (intros; omega)
      · rw [rup_s]; omega
      · rw [rup_n (by omega), rup_n (by omega), rup_n (by omega)]
    · simp only [hf, if_false]
      by_cases hl : S (2 + 15 * n + 13) + 1 = pLim P
      · simp only [hl, if_true]
        refine ⟨?_, ?_, ?_⟩
        · refine wfs_rup (wfs_rup (wfs_rup hS ?_ ?_ ?_ ?_ ?_ ?_ ?_ ?_ ?_) ?_ ?_ ?_ ?_ ?_ ?_ ?_ ?_ ?_) ?_ ?_ ?_ ?_ ?_ ?_ ?_ ?_ ?_ <;> (intros; omega)
        · rw [rup_n (by omega), rup_n (by omega), rup_n (by omega)]; omega
        · rw [rup_n (by omega), rup_n (by omega), rup_n (by omega)]
      · simp only [hl, if_false]
        refine ⟨?_, ?_, ?_⟩
        · refine wfs_rup (wfs_rup hS ?_ ?_ ?_ ?_ ?_ ?_ ?_ ?_ ?_) ?_ ?_ ?_ ?_ ?_ ?_ ?_ ?_ ?_ <;> (intros; omega)
        · rw [rup_n (by omega), rup_n (by omega)]; omega
        · rw [rup_n (by omega), rup_n (by omega)]
theorem wfs_tckU (hP : WFP P) (hS : WFS P t S) : ∀ i, i ≤ pNod P → WFS P (t + 1) (tckU P S i) ∧ tckU P S i 1 ≤ 5 * t + i ∧ tckU P S i 0 = S 0 + 1
  | 0, _ => by
    have hs0 := hS.1.1
    have hs1 := hS.2.1
    refine ⟨?_, ?_, rup_s _ _ _⟩
    · show WFS P (t + 1) (rup S 0 (S 0 + 1))
      refine wfs_rup (wfs_mono hS (by omega)) ?_ ?_ ?_ ?_ ?_ ?_ ?_ ?_ ?_ <;> (intros; omega)
    · show rup S 0 (S 0 + 1) 1 ≤ _
      rw [rup_n (by omega)]; omega
  | i + 1, h => by
    obtain ⟨a1, a2, a3⟩ := wfs_tckU hP hS i (by omega)
    obtain ⟨b1, b2, b3⟩ := wfs_tckN hP a1 a2 (show i < pNod P by omega)
    exact ⟨b1, b2, b3.trans a3⟩
theorem wfs_tck (hP : WFP P) (hS : WFS P t S) : WFS P (t + 1) (tck P S) := (wfs_tckU hP hS _ (Nat.le_refl _)).1
theorem rr_up (hR : RRow F r S) : RRow (mup F r k (nI v)) r (rup S k v) := fun j hj => by
  rw [mup_self]
  unfold rup
  by_cases h : j = k
  · rw [h, pk_us, if_pos rfl]
  · rw [pk_un h, if_neg h]; exact hR j hj
theorem rpm_fr (hM : RPM F P) (hr : 168 ≤ r) (hf : ∀ a, a ≠ r → F1 a = F a) : RPM F1 P := by
  unfold RPM
  rw [hf 164 (by omega), hf 166 (by omega), hf 167 (by omega)]
  exact hM
theorem m_tickOn_b (hal : alen r = 107) (hr : 168 ≤ r) (hP : WFP P) (ht : t < 900000) (hS : WFS P t S) : ∀ d i fuel F, i + d = pNod P → d < fuel → RPM F P → RRow F r (tckU P S i) →
    ∃ F1, s_X9_tickOn_b9 r fuel F (nI i) = some F1 ∧ RRow F1 r (tck P S) ∧ ∀ a, a ≠ r → F1 a = F a
  | 0, i, fuel + 1, F, h, _, hM, hR => by
    have hN := hP.1.2
    have : i = pNod P := by omega
    subst this
    refine ⟨F, ?_, hR, fun _ _ => rfl⟩
    rw [s_X9_tickOn_b9, if_pos (by rw [hM.1, nI_leI (by omega) (by omega)]; omega)]
  | d + 1, i, fuel + 1, F, h, hfu, hM, hR => by
    have hN := hP.1.2
    have hC := hP.2.1.2
    have hL := hP.2.2.2.1.2
    have hG := hP.2.2.2.2.1.2
    obtain ⟨hW, hW1, -⟩ := wfs_tckU hP hS i (by omega)
    have IH := m_tickOn_b hal hr hP ht hS d (i + 1) fuel
    have e : tckU P S (i + 1) = tckN P (tckU P S i) i := rfl
    rw [e] at IH
    generalize tckU P S i = T at *
    have hb := wfs_b hW (by omega)
    have hx := m_nextOf hal hR hb hP hM hW (n := i) (by omega)
    rw [s_X9_tickOn_b9, if_neg (by rw [hM.1, nI_leI (by omega) (by omega)]; omega), hx]
    unfold s_X9_at
    cases hn : nxt P T i with
    | none =>
      have e2 : tckN P T i = T := by unfold tckN; rw [hn]
      rw [e2] at IH
      obtain ⟨F1, g1, g2, g3⟩ := IH F (by omega) (by omega) hM hR
      refine ⟨F1, ?_, g2, g3⟩
      simp only [Option.bind_some]
      rw [if_pos (show oI9 none = -9 from rfl)]
      unfold s_X9_tickOn_b108
      rw [if_pos (show oI9 none = -9 from rfl)]
      simp only [Option.bind_some, nI_1]
      exact g1
    | some c =>
      obtain ⟨hc, -⟩ := nxt_lt hn
      obtain ⟨b1, b2, b3, b4⟩ := hW.2.2.1 i (by omega)
      have hv := (b1 c hc).2
      have h9 : ¬ (oI9 (some c)) = -9 := nI_ne9 (by omega)
      have hR' : ∀ k, k < 107 → F r k = nI (T k) := hR
      have f7 : F 164 7 = nI (pLim P) := hM.2.2.2.1
      have f8 : F 164 8 = nI (pLen P) := hM.2.2.2.2.1
      have hT0 := hW.1.1
      by_cases hf : T (2 + 15 * i + 12) = 0
      · have e2 : tckN P T i = rup (rup (rup T (2 + 15 * i + c) (T (2 + 15 * i + 6 + c))) (2 + 15 * i + 13) 0) 1 (T 1 + 1) := by unfold tckN; rw [hn]; simp only [hf, if_true]
        rw [e2] at IH
        obtain ⟨F1, g1, g2, g3⟩ := IH (mup (mup (mup F r (2 + 15 * i + c) (nI (T (2 + 15 * i + 6 + c)))) r (2 + 15 * i + 13) (nI 0)) r 1 (nI (T 1 + 1))) (by omega) (by omega) (rpm_fr hM hr (fun a h => by rw [mup_ne h, mup_ne h, mup_ne h])) (rr_up (rr_up (rr_up hR)))
        refine ⟨F1, ?_, g2, fun a h => by rw [g3 a h, mup_ne h, mup_ne h, mup_ne h]⟩
        unfold s_X9_tickOn_b108
        rw [← g1]
        simp only [Option.bind_some]
        rw [if_neg h9, if_neg h9]
        show (if _ then _ else _) = _
        unfold oI9
        simp (disch := omega) only [Option.bind_some, nI_add, nI_1, at_nI, pa_nI, inb_nI, ix_nI, nI_leI, nI_ltI, nI_eq, if_true, if_pos, if_neg, li_0, li_1, li_6, li_12, li_13, li_14, hal, hR', mup_self, pk_us, pk_un, hf]
      · have hf2 : 0 < T (2 + 15 * i + 12) := by omega
        by_cases hl : T (2 + 15 * i + 13) + 1 = pLim P
        · have e2 : tckN P T i = rup (rup (rup T (2 + 15 * i + 12) (T (2 + 15 * i + 12) - 1)) (2 + 15 * i + 13) 0) (2 + 15 * i + 14) (T 0 + pLen P) := by unfold tckN; rw [hn]; simp only [hf, if_false, hl, if_true]
          rw [e2] at IH
          obtain ⟨F1, g1, g2, g3⟩ := IH (mup (mup (mup (mup F r (2 + 15 * i + 12) (nI (T (2 + 15 * i + 12) - 1))) r (2 + 15 * i + 13) (nI (pLim P))) r (2 + 15 * i + 13) (nI 0)) r (2 + 15 * i + 14) (nI (T 0 + pLen P))) (by omega) (by omega) (rpm_fr hM hr (fun a h => by rw [mup_ne h, mup_ne h, mup_ne h, mup_ne h])) (rr_up (by rw [mup_mup]; exact rr_up (rr_up hR)))
          refine ⟨F1, ?_, g2, fun a h => by rw [g3 a h, mup_ne h, mup_ne h, mup_ne h, mup_ne h]⟩
          unfold s_X9_tickOn_b108
          rw [← g1]
          simp only [Option.bind_some]
          rw [if_neg h9]
          unfold oI9
          simp (disch := omega) only [Option.bind_some, nI_add, nI_1, at_nI, pa_nI, inb_nI, ix_nI, nI_leI, nI_ltI, nI_eq, if_true, if_pos, if_neg, li_0, li_1, li_6, li_12, li_13, li_14, hal, hR', mup_self, mup_ne, pk_us, pk_un, pk_sub, f7, f8, hl]
        · have e2 : tckN P T i = rup (rup T (2 + 15 * i + 12) (T (2 + 15 * i + 12) - 1)) (2 + 15 * i + 13) (T (2 + 15 * i + 13) + 1) := by unfold tckN; rw [hn]; simp only [hf, if_false, hl]
          rw [e2] at IH
          obtain ⟨F1, g1, g2, g3⟩ := IH (mup (mup F r (2 + 15 * i + 12) (nI (T (2 + 15 * i + 12) - 1))) r (2 + 15 * i + 13) (nI (T (2 + 15 * i + 13) + 1))) (by omega) (by omega) (rpm_fr hM hr (fun a h => by rw [mup_ne h, mup_ne h])) (rr_up (rr_up hR))
          refine ⟨F1, ?_, g2, fun a h => by rw [g3 a h, mup_ne h, mup_ne h]⟩
          unfold s_X9_tickOn_b108
          rw [← g1]
          simp only [Option.bind_some]
          rw [if_neg h9]
          unfold oI9
          simp (disch := omega) only [Option.bind_some, nI_add, nI_1, at_nI, pa_nI, inb_nI, ix_nI, nI_leI, nI_ltI, nI_eq, if_true, if_pos, if_neg, li_0, li_1, li_6, li_12, li_13, li_14, hal, hR', mup_self, mup_ne, pk_us, pk_un, pk_sub, f7, f8]
theorem m_tickOn (hal : alen r = 107) (hr : 168 ≤ r) (hP : WFP P) (ht : t < 900000) (hS : WFS P t S) (hM : RPM F P) (hR : RRow F r S) : ∃ F1, s_X9_tickOn F r = some F1 ∧ RRow F1 r (tck P S) ∧ ∀ a, a ≠ r → F1 a = F a := by
  have hN := hP.1.2
  obtain ⟨F1, g1, g2, g3⟩ := m_tickOn_b hal hr hP ht hS (pNod P) 0 fu_ (mup F r 0 (nI (S 0 + 1))) (by omega) (fu_lt (by omega)) (rpm_fr hM hr (fun a h => mup_ne h)) (rr_up hR)
  have hR' : ∀ k, k < 107 → F r k = nI (S k) := hR
  refine ⟨F1, ?_, g2, fun a h => by rw [g3 a h, mup_ne h]⟩
  rw [← g1]
  unfold s_X9_tickOn
  simp (disch := omega) only [Option.bind_some, nI_add, nI_1, at_nI, pa_nI, inb_nI, ix_nI, nI_leI, nI_ltI, nI_eq, if_true, if_pos, if_neg, li_0, li_1, hal, hR']
/-- ticks in a row -/
def tcks (P : PL) (S : RW) : Nat → RW
  | 0 => S
  | j + 1 => tck P (tcks P S j)
theorem wfs_tcks (hP : WFP P) (hS : WFS P t S) : ∀ j, WFS P (t + j) (tcks P S j)
  | 0 => hS
  | j + 1 => wfs_tck hP (wfs_tcks hP hS j)
end TK
