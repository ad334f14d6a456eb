/-! ===== what a text sets ===== -/
section HI
variable {L : Nat} {T : Nat → Nat} {N C p k : Nat} {Z : ZS}
theorem ver_hi {f : Nat} {q : QS} (hN : 1 ≤ N ∧ N ≤ 5) (hC : 1 ≤ C ∧ C ≤ 6) (hf : f ≤ 6) (hk : 77 ≤ k) : (ver L T N C f q Z).2.2.2 k = Z.2.2 k := by
  have n1 : (vn L T N q).1 ≤ N - 1 := (rd_rng (Nat.zero_le _)).2
  have c1 : (vc L T N C q).1 ≤ C - 1 := (rd_rng (Nat.zero_le _)).2
  show rup Z.2.2 (2 + 15 * (vn L T N q).1 + f + (vc L T N C q).1) (vv L T N C q).1 k = _
  exact rup_n (by omega)
theorem itm_hi (hN : 1 ≤ N ∧ N ≤ 5) (hC : 1 ≤ C ∧ C ≤ 6) (hk : 77 ≤ k) : (itm L T N C p Z).2.2.2 k = Z.2.2 k := by
  unfold itm
  by_cases h1 : T p = 110 ∧ 1 < C ∧ Z.1 < 10
  · rw [if_pos h1]; rfl
  · rw [if_neg h1]
    by_cases h2 : T p = 120 ∧ 1 < C ∧ Z.1 < 10
    · rw [if_pos h2]; rfl
    · rw [if_neg h2]
      by_cases h3 : T p = 119
      · rw [if_pos h3]; exact ver_hi hN hC (by omega) hk
      · rw [if_neg h3]
        by_cases h4 : T p = 118
        · rw [if_pos h4]; exact ver_hi hN hC (by omega) hk
        · rw [if_neg h4]
theorem itms_hi (hN : 1 ≤ N ∧ N ≤ 5) (hC : 1 ≤ C ∧ C ≤ 6) (hk : 77 ≤ k) : ∀ d q Z, (itms L T N C d q Z).2.2.2 k = Z.2.2 k
  | 0, q, Z => rfl
  | d + 1, q, Z => by
    by_cases hq : q.2 = false ∧ q.1 < L
    · rw [itms_t hq, itms_hi hN hC hk d, itm_hi hN hC hk]
    · rw [itms_f hq]
end HI
def PP (L : Nat) (T : Nat → Nat) : PL := (hN L T, hC L T, (fin L T).2.1, hLm L T, hLe L T, hRi L T, (fin L T).2.2.1)
def SS (L : Nat) (T : Nat → Nat) : RW := (fin L T).2.2.2
theorem wz_fin (L : Nat) (T : Nat → Nat) : WZ (hN L T) (hC L T) (fin L T).2 := by
  obtain ⟨rN, rC, -⟩ := hd_rng L T
  exact wz_itms rN rC 160 _ _ (wz_S00 L T)
theorem SS_q {L : Nat} {T : Nat → Nat} {c : Nat} (hc : c < hC L T) : SS L T (77 + 5 * c) = hQu L T c := by
  obtain ⟨rN, rC, -⟩ := hd_rng L T
  have h := itms_hi (L := L) (T := T) (k := 77 + 5 * c) rN rC (by omega) 160 (hq7 L T) (0, fun _ => 0, S00 L T)
  exact Eq.trans h (S00_q hc)
theorem wfp_PP (L : Nat) (T : Nat → Nat) : WFP (PP L T) := by
  obtain ⟨rN, rC, rL, -, -, rR, -⟩ := hd_rng L T
  obtain ⟨⟨h1, h2⟩, -⟩ := wz_fin L T
  exact ⟨rN, rC, h1, rL, hLe_rng L T, fun n _ => rR n, h2⟩
theorem wfs_SS (L : Nat) (T : Nat → Nat) (t : Nat) : WFS (PP L T) t (SS L T) := by
  obtain ⟨-, -, rL, -⟩ := hd_rng L T
  obtain ⟨-, ⟨h1, h2, h3⟩, h4, h5⟩ := wz_fin L T
  have h1 : SS L T 0 = 0 := h1
  have h2 : SS L T 1 = 0 := h2
  have h3 : ∀ k, SS L T k ≤ 60 := h3
  have h4 : ∀ n, n < hN L T → (∀ c, c < hC L T → SS L T (2 + 15 * n + c) < 4 ∧ SS L T (2 + 15 * n + 6 + c) < 4) ∧ SS L T (2 + 15 * n + 12) = 0 ∧ SS L T (2 + 15 * n + 13) = 0 ∧ SS L T (2 + 15 * n + 14) = 0 := h4
  have h5 : ∀ c, c < hC L T → SS L T (77 + 5 * c) ≤ 5 ∧ ∀ v, v < 4 → SS L T (77 + 5 * c + 1 + v) = 0 := h5
  refine ⟨⟨by omega, fun k _ => by have := h3 k; omega⟩, by omega, fun n hn => ?_, fun c hc => ?_⟩
  · obtain ⟨a1, a2, a3, a4⟩ := h4 n hn
    refine ⟨a1, by omega, ?_, by omega⟩
    rw [a3]; exact rL.1
  · obtain ⟨a1, a2⟩ := h5 c hc
    exact ⟨a1, fun v hv => by rw [a2 v hv]; omega⟩
/-! ===== taking it over: the class ===== -/
theorem cpok_t {a b n n0 n1 : Nat} (ha : a + n ≤ n0) (hb : b + n ≤ n1) (h0 : n0 < 10000) (h1 : n1 < 10000) : cpok (nI a) (nI b) (nI n) n0 n1 = true := by
  unfold cpok
  rw [ix_nI (by omega), ix_nI (by omega), ix_nI (by omega), decide_eq_false (nI_pos (by omega)), decide_eq_false (nI_pos (by omega)), decide_eq_false (nI_pos (by omega)), decide_eq_true ha, decide_eq_true hb]
  rfl
section TA
variable {F F1 : MM} {P : PL} {S : RW} {r a : Nat}
theorem c_add56 (hr : r < 10) (hC6 : pPar P ≤ 6) (g0 : pLaw P (5 * r) ≤ 1) (g1 : pLaw P (5 * r + 1) < 6) (g2 : pLaw P (5 * r + 2) ≤ 3) (g3 : pLaw P (5 * r + 3) < 6) (g4 : pLaw P (5 * r + 4) ≤ 3) : ∀ d i fuel F, i + d = 4 ^ pPar P → d < fuel → F 10 2 = nI (4 ^ pPar P) → (∀ j, j < 5 → F 11 (5 * r + j) = nI (pLaw P (5 * r + j))) → (∀ k, k < i → F 12 k = nI (bsum (rbk P k) (r + 1))) → (∀ k, i ≤ k → k < 4 ^ pPar P → F 12 k = nI (bsum (rbk P k) r)) →
    ∃ F1, s_X4_add_b56 5 fuel F (nI r) (nI i) = some F1 ∧ (∀ k, k < 4 ^ pPar P → F1 12 k = nI (bsum (rbk P k) (r + 1))) ∧ ∀ a, a ≠ 12 → F1 a = F a
  | 0, i, fuel + 1, F, h, _, e2, hl, hd, hu => by
    have h6 := pow4_le hC6
    refine ⟨F, by rw [s_X4_add_b56, e2, if_pos (by rw [nI_leI (by omega) (by omega)]; omega)], fun k hk => hd k (by omega), fun _ _ => rfl⟩
  | d + 1, i, fuel + 1, F, h, hf, e2, hl, hd, hu => by
    have h6 := pow4_le hC6
    have hb := c_isBroken (F := F) (P := P) (code := i) (r := r) (by omega) hr g0 g1 g2 g3 g4 hl
    have hi := hu i (Nat.le_refl _) (by omega)
    rw [s_X4_add_b56, e2, if_neg (by rw [nI_leI (by omega) (by omega)]; omega), hb, bnd_]
    cases hk : rbk P i r with
    | false =>
      rw [if_pos b01_f, bnd_, nI_1]
      exact c_add56 hr hC6 g0 g1 g2 g3 g4 d (i + 1) fuel F (by omega) (by omega) e2 hl (fun k hk2 => by
        by_cases hki : k = i
        · rw [hki, bsum_f hk]; exact hi
        · exact hd k (by omega)) (fun k h1 h2 => hu k (by omega) h2)
    | true =>
      have hs : nI (bsum (rbk P i) r) ||| ((1 : Int32) <<< (nI r &&& 31)) = nI (bsum (rbk P i) r + 2 ^ r) := i_bit hr (bsum_lt _ _)
      obtain ⟨F1, e1, n1, f1⟩ := c_add56 hr hC6 g0 g1 g2 g3 g4 d (i + 1) fuel (mup F 12 i (nI (bsum (rbk P i) (r + 1)))) (by omega) (by omega) (by rw [mup_ne (by omega)]; exact e2) (fun j hj => by rw [mup_ne (by omega)]; exact hl j hj) (fun k hk2 => by
        rw [mup_self]
        by_cases hki : k = i
        · rw [hki, pk_us]
        · rw [pk_un hki]; exact hd k (by omega)) (fun k h1 h2 => by rw [mup_self, pk_un (by omega)]; exact hu k (by omega) h2)
      refine ⟨F1, ?_, n1, fun a ha => by rw [f1 a ha, mup_ne ha]⟩
      rw [if_neg b01_t, inb_nI (by omega) (by omega), if_pos rfl, if_pos rfl, ix_nI (by omega), hi, hs, ← bsum_t hk, bnd_, bnd_, nI_1]
      exact e1
theorem c_add (hP : WFP P) (hr : r < pRul P) (e3 : F 10 3 = nI r) (e2 : F 10 2 = nI (4 ^ pPar P)) (h5 : ∀ k, k < 5 * pRul P → F 5 k = nI (pLaw P k)) (h11 : ∀ k, k < 5 * r → F 11 k = nI (pLaw P k)) (h12 : ∀ k, k < 4 ^ pPar P → F 12 k = nI (bsum (rbk P k) r)) :
    ∃ F1, s_X4_add F 5 (nI r * 5) = some F1 ∧ F1 10 3 = nI (r + 1) ∧ F1 10 2 = nI (4 ^ pPar P) ∧ (∀ k, k < 5 * (r + 1) → F1 11 k = nI (pLaw P k)) ∧ (∀ k, k < 4 ^ pPar P → F1 12 k = nI (bsum (rbk P k) (r + 1))) ∧ ∀ a, a ≠ 10 → a ≠ 11 → a ≠ 12 → F1 a = F a := by
  have h10 := hP.2.2.1
  have hC6 := hP.2.1.2
  have h6 := pow4_le hC6
  obtain ⟨g0, g1, g2, g3, g4⟩ := hP.2.2.2.2.2.2 r hr
  have y5 : nI r * 5 = nI (5 * r) := by rw [li_5, pk_mul, Nat.mul_comm]
  have al5 : alen 5 = 50 := by decide
  obtain ⟨G, hG⟩ : ∃ X, X = mup (mrow F 11 (va_cpy (F 5) (F 11) (5 * r) (5 * r) 5)) 10 3 (nI (r + 1)) := ⟨_, rfl⟩
  have nG : ∀ a, a ≠ 10 → a ≠ 11 → G a = F a := fun a b1 b2 => by rw [hG, mup_ne b1, mrow_ne b2]
  have G2 : G 10 2 = nI (4 ^ pPar P) := by rw [hG, mup_self, pk_un (by omega), mrow_ne (by omega)]; exact e2
  have G3 : G 10 3 = nI (r + 1) := by rw [hG, mup_self, pk_us]
  have G11 : G 11 = va_cpy (F 5) (F 11) (5 * r) (5 * r) 5 := by rw [hG, mup_ne (by omega), mrow_self]
  have l11 : ∀ k, k < 5 * (r + 1) → G 11 k = nI (pLaw P k) := fun k hk => by
    rw [G11]
    by_cases hk0 : k < 5 * r
    · rw [pk_cpy_out (by omega)]; exact h11 k hk0
    · rw [pk_cpy_in (by omega) (by omega), show 5 * r + (k - 5 * r) = k by omega]; exact h5 k (by omega)
  obtain ⟨F1, e1, n1, f1⟩ := c_add56 (P := P) (r := r) (by omega) hC6 g0 (by omega) (by omega) (by omega) (by omega) (4 ^ pPar P) 0 fu_ G (by omega) (fu_lt (by omega)) G2 (fun j hj => l11 _ (by omega)) (fun k hk => absurd hk (by omega)) (fun k _ hk => by rw [nG 12 (by omega) (by omega)]; exact h12 k hk)
  have e1 : s_X4_add_b56 5 fu_ G (nI r) 0 = some F1 := e1
  refine ⟨F1, ?_, by rw [f1 10 (by omega)]; exact G3, by rw [f1 10 (by omega)]; exact G2, fun k hk => by rw [f1 11 (by omega)]; exact l11 k hk, n1, fun a b1 b2 b3 => by rw [f1 a b3, nG a b1 b2]⟩
  unfold s_X4_add
  rw [e3, y5, al5, if_neg (by rw [li_10, nI_leI (by omega) (by omega)]; omega), if_neg (nI_pos (by omega)), if_pos (by
    show nI (5 * r) + 5 ≤ nI 50
    rw [li_5, nI_add, nI_leI (by omega) (by omega)]; omega), if_pos (show cpok (nI (5 * r)) (nI (5 * r)) 5 50 50 = true from cpok_t (n := 5) (by omega) (by omega) (by omega) (by omega)), ix_nI (by omega), show ix 5 = 5 from rfl]
  simp only [bnd_]
  rw [mrow_ne (by omega), e3, nI_1, ← hG]
  exact e1
theorem c_take59 (hP : WFP P) : ∀ d i fuel F, i + d = pRul P → d < fuel → F 2 4 = nI (pRul P) → (∀ k, k < 5 * pRul P → F 5 k = nI (pLaw P k)) → F 10 3 = nI i → F 10 2 = nI (4 ^ pPar P) → (∀ k, k < 5 * i → F 11 k = nI (pLaw P k)) → (∀ k, k < 4 ^ pPar P → F 12 k = nI (bsum (rbk P k) i)) →
    ∃ F1, s_X3_take_b59 fuel F (nI i) = some F1 ∧ F1 10 3 = nI (pRul P) ∧ F1 10 2 = nI (4 ^ pPar P) ∧ (∀ k, k < 5 * pRul P → F1 11 k = nI (pLaw P k)) ∧ (∀ k, k < 4 ^ pPar P → F1 12 k = nI (brk P k)) ∧ ∀ a, a ≠ 10 → a ≠ 11 → a ≠ 12 → F1 a = F a
  | 0, i, fuel + 1, F, h, _, e4, h5, e3, e2, h11, h12 => by
    have : i = pRul P := by omega
    subst this
    exact ⟨F, by rw [s_X3_take_b59, e4, if_pos (Int32.le_refl _)], e3, e2, h11, h12, fun _ _ _ _ => rfl⟩
  | d + 1, i, fuel + 1, F, h, hf, e4, h5, e3, e2, h11, h12 => by
    have h10 := hP.2.2.1
    obtain ⟨F1, r1, a3, a2, a11, a12, f1⟩ := c_add hP (show i < pRul P by omega) e3 e2 h5 h11 h12
    obtain ⟨F2, r2, b3, b2, b11, b12, f2⟩ := c_take59 hP d (i + 1) fuel F1 (by omega) (by omega) (by rw [f1 2 (by omega) (by omega) (by omega)]; exact e4) (fun k hk => by rw [f1 5 (by omega) (by omega) (by omega)]; exact h5 k hk) a3 a2 a11 a12
    refine ⟨F2, ?_, b3, b2, b11, b12, fun a c1 c2 c3 => by rw [f2 a c1 c2 c3, f1 a c1 c2 c3]⟩
    rw [s_X3_take_b59, e4, if_neg (by rw [nI_leI (by omega) (by omega)]; omega), r1, bnd_, bnd_, nI_1]
    exact r2
theorem c_take3 (hP : WFP P) (e0 : F 2 0 = nI (pNod P)) (e1 : F 2 1 = nI (pPar P)) (e2 : F 2 2 = nI (pLim P)) (e3 : F 2 3 = nI (pLen P)) (e4 : F 2 4 = nI (pRul P)) (h3 : ∀ k, k < pNod P → F 3 k = nI (pRin P k)) (h5 : ∀ k, k < 5 * pRul P → F 5 k = nI (pLaw P k)) : ∃ F1, s_X3_take F = some F1 ∧ RPC F1 P ∧ ∀ a, a < 8 ∨ 13 ≤ a → F1 a = F a := by
  have hN5 := hP.1.2
  have hC6 := hP.2.1.2
  have h6 := pow4_le hC6
  obtain ⟨A, hA⟩ : ∃ X, X = mrow (mup (mup (mup (mup F 8 0 (nI (pNod P))) 8 1 (nI (pPar P))) 8 2 (nI (pLim P))) 8 3 (nI (pLen P))) 9 (va_cpy (F 3) (F 9) 0 0 5) := ⟨_, rfl⟩
  have nA : ∀ a, a ≠ 8 → a ≠ 9 → A a = F a := fun a b1 b2 => by rw [hA, mrow_ne b2, mup_ne b1, mup_ne b1, mup_ne b1, mup_ne b1]
  have A0 : A 8 0 = nI (pNod P) := by rw [hA, mrow_ne (by omega), mup_self, pk_un (by omega), mup_self, pk_un (by omega), mup_self, pk_un (by omega), mup_self, pk_us]
  have A1 : A 8 1 = nI (pPar P) := by rw [hA, mrow_ne (by omega), mup_self, pk_un (by omega), mup_self, pk_un (by omega), mup_self, pk_us]
  have A2 : A 8 2 = nI (pLim P) := by rw [hA, mrow_ne (by omega), mup_self, pk_un (by omega), mup_self, pk_us]
  have A3 : A 8 3 = nI (pLen P) := by rw [hA, mrow_ne (by omega), mup_self, pk_us]
  have A9 : ∀ n, n < pNod P → A 9 n = nI (pRin P n) := fun n hn => by rw [hA, mrow_self, cpy0 (by omega)]; exact h3 n hn
  obtain ⟨B, hB⟩ : ∃ X, X = mup (mup A 10 3 0) 10 2 (nI (4 ^ pPar P)) := ⟨_, rfl⟩
  obtain ⟨C, rC, fC, vC⟩ := c_fill (q := 12) (N := 4096) (v := 0) (F := B) (by decide) (by omega)
  have nC : ∀ a, a ≠ 10 → a ≠ 12 → C a = A a := fun a b1 b2 => by rw [fC a b2, hB, mup_ne b1, mup_ne b1]
  have C3 : C 10 3 = nI 0 := by rw [fC 10 (by omega), hB, mup_self, pk_un (by omega), mup_self, pk_us]; rfl
  have C2 : C 10 2 = nI (4 ^ pPar P) := by rw [fC 10 (by omega), hB, mup_self, pk_us]
  obtain ⟨D, rD, D3, D2, D11, D12, fD⟩ := c_take59 hP (pRul P) 0 fu_ C (by omega) (fu_lt (by have := hP.2.2.1; omega)) (by rw [nC 2 (by omega) (by omega), nA 2 (by omega) (by omega)]; exact e4) (fun k hk => by rw [nC 5 (by omega) (by omega), nA 5 (by omega) (by omega)]; exact h5 k hk) C3 C2 (fun k hk => absurd hk (by omega)) (fun k hk => vC k (by omega))
  have rD : s_X3_take_b59 fu_ C 0 = some D := rD
  have nD : ∀ a, a ≠ 10 → a ≠ 11 → a ≠ 12 → D a = A a := fun a b1 b2 b3 => by rw [fD a b1 b2 b3, nC a b1 b3]
  refine ⟨D, ?_, ⟨by rw [nD 8 (by omega) (by omega) (by omega)]; exact A0, by rw [nD 8 (by omega) (by omega) (by omega)]; exact A1, D3, by rw [nD 8 (by omega) (by omega) (by omega)]; exact A2, by rw [nD 8 (by omega) (by omega) (by omega)]; exact A3, fun n hn => by rw [nD 9 (by omega) (by omega) (by omega)]; exact A9 n hn, D11, D2, D12⟩, fun a ha => by rw [nD a (by omega) (by omega) (by omega), nA a (by omega) (by omega)]⟩
  have hcl : s_X4_clear A (nI (pPar P)) = some C := by
    unfold s_X4_clear
    simp only [bnd_, i_all_all (pPar P) (by omega)]
    rw [if_neg (by rw [li_4096, nI_ltI (by omega) (by omega)]; omega), ← hB, rC]
    rfl
  unfold s_X3_take
  simp only [bnd_, show cpok 0 0 5 5 5 = true by decide, if_true, show ix 0 = 0 from rfl, show ix 5 = 5 from rfl]
  have x1 : mup F 8 0 (F 2 0) 2 1 = nI (pPar P) := by rw [mup_ne (by omega)]; exact e1
  have x2 : mup (mup F 8 0 (F 2 0)) 8 1 (nI (pPar P)) 2 2 = nI (pLim P) := by rw [mup_ne (by omega), mup_ne (by omega)]; exact e2
  have x3 : mup (mup (mup F 8 0 (F 2 0)) 8 1 (nI (pPar P))) 8 2 (nI (pLim P)) 2 3 = nI (pLen P) := by rw [mup_ne (by omega), mup_ne (by omega), mup_ne (by omega)]; exact e3
  have x4 : mup (mup (mup (mup F 8 0 (F 2 0)) 8 1 (nI (pPar P))) 8 2 (nI (pLim P))) 8 3 (nI (pLen P)) 3 = F 3 := by rw [mup_ne (by omega), mup_ne (by omega), mup_ne (by omega), mup_ne (by omega)]
  have x5 : mup (mup (mup (mup F 8 0 (F 2 0)) 8 1 (nI (pPar P))) 8 2 (nI (pLim P))) 8 3 (nI (pLen P)) 9 = F 9 := by rw [mup_ne (by omega), mup_ne (by omega), mup_ne (by omega), mup_ne (by omega)]
  rw [x1, x2, x3, x4, x5, e0, ← hA, A1, hcl, bnd_]
  exact rD
theorem c_take5 (ha : 16 ≤ a) (l3 : alen (a + 3) = 5) (l4 : alen (a + 4) = 5) (l5 : alen (a + 5) = 5) (l7 : alen (a + 7) = 24) (hP : WFP P) (h6 : ∀ n, n < pNod P → F 6 n = nI (cod P S n 0) ∧ F 7 n = nI (cod P S n 6)) (h4 : ∀ c, c < pPar P → F 4 c = nI (S (77 + 5 * c))) (s0 : S 0 = 0) (s1 : S 1 = 0) (sn : ∀ n, n < pNod P → S (2 + 15 * n + 12) = 0 ∧ S (2 + 15 * n + 13) = 0 ∧ S (2 + 15 * n + 14) = 0) (sc : ∀ c, c < pPar P → ∀ v, v < 4 → S (77 + 5 * c + 1 + v) = 0) : ∃ F1, s_X5_take F a = some F1 ∧ RSt F1 P a S ∧ ∀ x, x < a ∨ a + 8 ≤ x → F1 x = F x := by
  have hN5 := hP.1.2
  have hC6 := hP.2.1.2
  obtain ⟨A, hA⟩ : ∃ X, X = mrow (mrow (mrow F (a + 1) (va_cpy (F 6) (F (a + 1)) 0 0 5)) (a + 2) (va_cpy (F 7) (F (a + 2)) 0 0 5)) (a + 6) (va_cpy (F 4) (F (a + 6)) 0 0 6) := ⟨_, rfl⟩
  have A1 : A (a + 1) = va_cpy (F 6) (F (a + 1)) 0 0 5 := by rw [hA, mrow_ne (by omega), mrow_ne (by omega), mrow_self]
  have A2 : A (a + 2) = va_cpy (F 7) (F (a + 2)) 0 0 5 := by rw [hA, mrow_ne (by omega), mrow_self]
  have A6 : A (a + 6) = va_cpy (F 4) (F (a + 6)) 0 0 6 := by rw [hA, mrow_self]
  have nA : ∀ x, x ≠ a + 1 → x ≠ a + 2 → x ≠ a + 6 → A x = F x := fun x b1 b2 b3 => by rw [hA, mrow_ne b3, mrow_ne b2, mrow_ne b1]
  obtain ⟨B, rB, fB, vB⟩ := c_fill (q := a + 3) (N := 5) (v := 0) (F := A) l3 (by omega)
  obtain ⟨C, rC, fC, vC⟩ := c_fill (q := a + 4) (N := 5) (v := 0) (F := B) l4 (by omega)
  obtain ⟨D, rD, fD, vD⟩ := c_fill (q := a + 5) (N := 5) (v := 0) (F := C) l5 (by omega)
  obtain ⟨E, rE, fE, vE⟩ := c_fill (q := a + 7) (N := 24) (v := 0) (F := D) l7 (by omega)
  refine ⟨mup (mup E a 8 0) a 9 0, ?_, ⟨?_, ?_, fun n hn => ⟨?_, ?_, ?_, ?_, ?_⟩, fun c hc => ⟨?_, fun v hv => ?_⟩, fun k k1 k2 => ?_⟩, fun x hx => ?_⟩
  · unfold s_X5_take
    simp only [bnd_, show cpok 0 0 5 5 5 = true by decide, show cpok 0 0 6 6 6 = true by decide, if_true, show ix 0 = 0 from rfl, show ix 5 = 5 from rfl, show ix 6 = 6 from rfl]
    have x1 : mrow F (a + 1) (va_cpy (F 6) (F (a + 1)) 0 0 5) 7 = F 7 := mrow_ne (by omega)
    have x2 : mrow F (a + 1) (va_cpy (F 6) (F (a + 1)) 0 0 5) (a + 2) = F (a + 2) := mrow_ne (by omega)
    rw [x1, x2]
    have x3 : mrow (mrow F (a + 1) (va_cpy (F 6) (F (a + 1)) 0 0 5)) (a + 2) (va_cpy (F 7) (F (a + 2)) 0 0 5) 4 = F 4 := by rw [mrow_ne (by omega), mrow_ne (by omega)]
    have x4 : mrow (mrow F (a + 1) (va_cpy (F 6) (F (a + 1)) 0 0 5)) (a + 2) (va_cpy (F 7) (F (a + 2)) 0 0 5) (a + 6) = F (a + 6) := by rw [mrow_ne (by omega), mrow_ne (by omega)]
    rw [x3, x4, ← hA, rB, bnd_, rC, bnd_, rD, bnd_, rE, bnd_]
  · rw [mup_self, pk_un (by omega), mup_self, pk_us, s0]; rfl
  · rw [mup_self, pk_us, s1]; rfl
  · rw [mup_ne (by omega), mup_ne (by omega), fE _ (by omega), fD _ (by omega), fC _ (by omega), fB _ (by omega), A1, cpy0 (by omega)]; exact (h6 n hn).1
  · rw [mup_ne (by omega), mup_ne (by omega), fE _ (by omega), fD _ (by omega), fC _ (by omega), fB _ (by omega), A2, cpy0 (by omega)]; exact (h6 n hn).2
  · rw [mup_ne (by omega), mup_ne (by omega), fE _ (by omega), fD _ (by omega), fC _ (by omega), vB n (by omega), (sn n hn).1]; rfl
  · rw [mup_ne (by omega), mup_ne (by omega), fE _ (by omega), fD _ (by omega), vC n (by omega), (sn n hn).2.1]; rfl
  · rw [mup_ne (by omega), mup_ne (by omega), fE _ (by omega), vD n (by omega), (sn n hn).2.2]; rfl
  · rw [mup_ne (by omega), mup_ne (by omega), fE _ (by omega), fD _ (by omega), fC _ (by omega), fB _ (by omega), A6, cpy0 (by omega)]; exact h4 c hc
  · rw [mup_ne (by omega), mup_ne (by omega), vE _ (by omega), sc c hc v hv]; rfl
  · rw [mup_ne (by omega), mup_ne (by omega), vE _ (by omega)]
  · rw [mup_ne (by omega), mup_ne (by omega), fE _ (by omega), fD _ (by omega), fC _ (by omega), fB _ (by omega), nA x (by omega) (by omega) (by omega)]
end TA
/-! ===== they agree ===== -/
theorem era_ok {L : Nat} {T : Nat → Nat} (h : (fin L T).1.2 = false) : era L T = -9 := if_pos h
theorem era_no {L : Nat} {T : Nat → Nat} (h : (fin L T).1.2 = true) (hb : (fin L T).1.1 ≤ L) (hL : L ≤ 160) : ¬ era L T = -9 := by
  have e : era L T = nI (fin L T).1.1 := if_neg (by rw [h]; decide)
  rw [e]
  exact nI_ne9 (by omega)
theorem ag_errorPosition {F : MM} {t : Nat} (ht : t < 800000) (hI : INV t F) : AgN t (s_X8_errorPosition F) (fun G => s_X9_errorPosition G) := by
  obtain ⟨P, S, L, T, m, H, kp, K, hA, hCI, hMI⟩ := id hI
  obtain ⟨hP, hS, ⟨hL, hT⟩, ⟨hm, hH⟩, hK⟩ := id hA
  obtain ⟨cP, cS, cT, cH, cK, cW⟩ := id hCI
  obtain ⟨mP, mS, mT, mH, mK⟩ := id hMI
  obtain ⟨m0, n0, -⟩ := invm_0 hMI 0
  have hN5 := hP.1.2
  have hC6 := hP.2.1.2
  have hR10 := hP.2.2.1
  have al : alen 171 = 107 := by decide
  have hb := wfs_b hS (by omega)
  obtain ⟨F1, r1, -, -, -, -, -, -, -, -, f1⟩ := c_read cT hL hT
  have j1 := invm_cl (F1 := F1) hMI (fun x hx => f1 x (by omega))
  have i1 := invc_fr (F1 := F1) hCI (fun x hx => f1 x (by omega))
  obtain ⟨-, -, k3, -⟩ := id (invm_0 j1 0)
  obtain ⟨G1, r2, -, f2, g2⟩ := m_readText k3 hL hT
  refine ⟨era L T, F1, G1, ?_, ?_, P, S, L, T, m, H, kp, K, hA, invc_m i1 (fun x hx => by rw [f2 x (by omega) (by omega) (by omega) (by omega), mup_ne (by omega)]), invm_fr (invm_0 j1 0) (fun j hj => g2 j (by omega) (by omega) (by omega) (by omega) (by omega) (by omega)) (fun x hx => f2 x (by omega) (by omega) (by omega) (by omega))⟩
  · unfold s_X8_errorPosition
    rw [r1, bnd_]
  · show s_X9_errorPosition F1 = _
    unfold s_X9_errorPosition
    rw [bnd_, r2, bnd_]
theorem alen19 : alen (16 + 3) = 5 := by decide
theorem alen20 : alen (16 + 4) = 5 := by decide
theorem alen21 : alen (16 + 5) = 5 := by decide
theorem alen23 : alen (16 + 7) = 24 := by decide
theorem ag_load {F : MM} {t : Nat} (ht : t < 800000) (hI : INV t F) : AgW t [ex_ise] (s_X8_load F) (fun G => s_X9_load G) := by
  obtain ⟨P, S, L, T, m, H, kp, K, hA, hCI, hMI⟩ := id hI
  obtain ⟨hP, hS, ⟨hL, hT⟩, ⟨hm, hH⟩, hK⟩ := id hA
  obtain ⟨cP, cS, cT, cH, cK, cW⟩ := id hCI
  obtain ⟨mP, mS, mT, mH, mK⟩ := id hMI
  obtain ⟨m0, n0, -⟩ := invm_0 hMI 0
  have hN5 := hP.1.2
  have hC6 := hP.2.1.2
  have hR10 := hP.2.2.1
  have al : alen 171 = 107 := by decide
  have hb := wfs_b hS (by omega)
  obtain ⟨F1, r1, a0, a1, a2, a3, a4, a5, z1, hle, f1⟩ := c_read cT hL hT
  have j1 := invm_cl (F1 := F1) hMI (fun x hx => f1 x (by omega))
  cases hb : (fin L T).1.2 with
  | true =>
    have hne := era_no hb hle hL
    have i1 := invc_fr (F1 := F1) hCI (fun x hx => f1 x (by omega))
    obtain ⟨-, -, k3, -⟩ := id j1
    obtain ⟨G1, r2, -, f2, g2⟩ := m_readText k3 hL hT
    have j2 := invm_fr (F1 := G1) j1 (fun j hj => g2 j (by omega) (by omega) (by omega) (by omega) (by omega) (by omega)) (fun x hx => f2 x (by omega) (by omega) (by omega) (by omega))
    refine ⟨.inr ex_ise, F1, 1, 0, mup G1 164 0 1, ?_, by decide, ?_, mup_00 G1 1, fun h => absurd h (by decide), P, S, L, T, m, H, kp, K, hA, invc_m i1 (fun x hx => by rw [mup_ne (by omega), f2 x (by omega) (by omega) (by omega) (by omega)]), invm_0 j2 1⟩
    · unfold s_X8_load
      rw [r1, bnd_]
      exact if_neg hne
    · show s_X9_load F1 = _
      unfold s_X9_load
      rw [r2, bnd_]
      show (if era L T = -9 then s_X9_load_b15 G1 0 else s_X9_load_b15 G1 1) = _
      rw [if_neg hne]
      unfold s_X9_load_b15
      rw [rf_1]
  | false =>
    have he := era_ok hb
    have hP2 := wfp_PP L T
    have hS2 := wfs_SS L T t
    obtain ⟨-, ⟨w0, w1, -⟩, w4, w5⟩ := wz_fin L T
    obtain ⟨z4, z5, z6⟩ := z1
    obtain ⟨F2, r2, p2, f2⟩ := c_take3 (P := PP L T) hP2 a0 a1 a2 a3 z4 a4 z5
    obtain ⟨F3, r3, s3, f3⟩ := c_take5 (F := F2) (P := PP L T) (S := SS L T) (a := 16) (by omega) alen19 alen20 alen21 alen23 hP2 (fun n hn => by rw [f2 6 (by omega), f2 7 (by omega)]; exact z6 n hn) (fun c hc => by rw [f2 4 (by omega), SS_q hc]; exact a5 c hc) w0 w1 (fun n hn => (w4 n hn).2) (fun c hc => (w5 c hc).2)
    obtain ⟨E, hE⟩ : ∃ X, X = mup (mup (mup (mup F3 13 3 (-1)) 32 2 0) 147 0 0) 147 1 0 := ⟨_, rfl⟩
    have nE : ∀ x, x ≠ 13 → x ≠ 32 → x ≠ 147 → E x = F3 x := fun x b1 b2 b3 => by rw [hE, mup_ne b3, mup_ne b3, mup_ne b2, mup_ne b1]
    have nF : ∀ x, x < 2 ∨ 24 ≤ x → F3 x = F x := fun x hx => by rw [f3 x (by omega), f2 x (by omega), f1 x (by omega)]
    have E13 : E 13 3 = -1 := by rw [hE, mup_ne (by omega), mup_ne (by omega), mup_ne (by omega), mup_self, pk_us]
    have E32 : E 32 2 = nI 0 := by rw [hE, mup_ne (by omega), mup_ne (by omega), mup_self, pk_us]; rfl
    have E321 : E 32 1 = F 32 1 := by rw [hE, mup_ne (by omega), mup_ne (by omega), mup_self, pk_un (by omega), mup_ne (by omega), nF 32 (by omega)]
    have E147 : ∀ s, s < 2 → E 147 s = 0 := fun s hs => by
      rcases (show s = 0 ∨ s = 1 by omega) with rfl | rfl
      · rw [hE, mup_self, pk_un (by omega), mup_self, pk_us]
      · rw [hE, mup_self, pk_us]
    have E10 : E 10 3 = nI (pRul (PP L T)) := by rw [nE 10 (by omega) (by omega) (by omega), f3 10 (by omega)]; exact p2.2.2.1
    have hcl : s_X8_load F = some (.inl (nI (pRul (PP L T))), E) := by
      have b0 : vp_nar .boolean 0 = 0 := by decide
      have h9 : s_X8_load_b64 fu_ (mup (mup F3 13 3 (-1)) 32 2 0) 0 = some (.inl (E 10 3), E) := by
        rw [show fu_ = 4997 + 1 + 1 + 1 from rfl, s_X8_load_b64, if_neg (by decide), if_pos (by decide), bnd_, bnd_, s_X8_load_b64, if_neg (by decide), if_pos (by decide), bnd_, bnd_, s_X8_load_b64, if_pos (by decide), b0, show ix 0 = 0 from rfl, show ix (0 + 1) = 1 by decide, ← hE]
      unfold s_X8_load
      rw [r1, bnd_]
      show (if era L T = -9 then (s_X3_take F1).bind _ else _) = _
      rw [if_pos he, r2, bnd_, r3, bnd_]
      unfold s_X7_forget s_X2_forget
      simp only [bnd_]
      rw [h9, E10]
    have i2 : INVC E (PP L T) (SS L T) L T 0 H (fun _ => false) K := by
      refine ⟨rpc_fr p2 (fun x _ _ => by rw [nE x (by omega) (by omega) (by omega), f3 x (by omega)]), rst_fr s3 (fun x _ _ => nE x (by omega) (by omega) (by omega)), ⟨by rw [nE 0 (by omega) (by omega) (by omega), nF 0 (by omega)]; exact cT.1, fun k hk => by rw [nE 1 (by omega) (by omega) (by omega), nF 1 (by omega)]; exact cT.2 k hk⟩, ?_, fun s hs => ⟨by rw [E147 s hs]; rfl, fun h => absurd (show false = true from h) (by decide)⟩, Or.inl E13⟩
      obtain ⟨-, w, hw, hw2, -⟩ := cH
      exact ⟨E32, w, hw, by rw [E321]; exact hw2, fun d hd => absurd hd (by omega)⟩
    have j2 := invm_cl (F1 := E) hMI (fun x hx => by rw [nE x (by omega) (by omega) (by omega), nF x (by omega)])
    obtain ⟨-, -, k3, -⟩ := id j2
    obtain ⟨G, rG, dG, fG, gG⟩ := m_readText k3 hL hT
    obtain ⟨c11, c12, c14, c15, c168, y13, y169, y170⟩ := dG hb
    obtain ⟨A, hAe⟩ : ∃ X, X = mup (mup (mup (mup (mup (mup G 164 0 0) 164 4 (nI (pNod (PP L T)))) 164 5 (nI (pPar (PP L T)))) 164 6 (nI (pRul (PP L T)))) 164 7 (nI (pLim (PP L T)))) 164 8 (nI (pLen (PP L T))) := ⟨_, rfl⟩
    have nA : ∀ x, x ≠ 164 → A x = G x := fun x hx => by rw [hAe, mup_ne hx, mup_ne hx, mup_ne hx, mup_ne hx, mup_ne hx, mup_ne hx]
    have A0 : A 164 0 = 0 := by rw [hAe, mup_self, pk_un (by omega), mup_self, pk_un (by omega), mup_self, pk_un (by omega), mup_self, pk_un (by omega), mup_self, pk_un (by omega), mup_self, pk_us]
    have A2 : A 164 2 = G 164 2 := by rw [hAe, mup_self, pk_un (by omega), mup_self, pk_un (by omega), mup_self, pk_un (by omega), mup_self, pk_un (by omega), mup_self, pk_un (by omega), mup_self, pk_un (by omega)]
    have A4 : A 164 4 = nI (pNod (PP L T)) := by rw [hAe, mup_self, pk_un (by omega), mup_self, pk_un (by omega), mup_self, pk_un (by omega), mup_self, pk_un (by omega), mup_self, pk_us]
    have A5 : A 164 5 = nI (pPar (PP L T)) := by rw [hAe, mup_self, pk_un (by omega), mup_self, pk_un (by omega), mup_self, pk_un (by omega), mup_self, pk_us]
    have A6 : A 164 6 = nI (pRul (PP L T)) := by rw [hAe, mup_self, pk_un (by omega), mup_self, pk_un (by omega), mup_self, pk_us]
    have A7 : A 164 7 = nI (pLim (PP L T)) := by rw [hAe, mup_self, pk_un (by omega), mup_self, pk_us]
    have A8 : A 164 8 = nI (pLen (PP L T)) := by rw [hAe, mup_self, pk_us]
    have e1 : s_X9_copy A 168 0 166 0 5 = some (mrow A 166 (va_cpy (A 168) (A 166) 0 0 5)) := m_copy (F := A) (q0 := 168) (q2 := 166) (a := 0) (b := 0) (N := 5) (by omega) (by decide) (by decide) (by decide) (by decide) (by omega)
    obtain ⟨B, hBe⟩ : ∃ X, X = mrow A 166 (va_cpy (A 168) (A 166) 0 0 5) := ⟨_, rfl⟩
    rw [← hBe] at e1
    have e2 : s_X9_copy B 169 0 167 0 50 = some (mrow B 167 (va_cpy (B 169) (B 167) 0 0 50)) := m_copy (F := B) (q0 := 169) (q2 := 167) (a := 0) (b := 0) (N := 50) (by omega) (by decide) (by decide) (by decide) (by decide) (by omega)
    obtain ⟨C, hCe⟩ : ∃ X, X = mrow B 167 (va_cpy (B 169) (B 167) 0 0 50) := ⟨_, rfl⟩
    rw [← hCe] at e2
    have e3 : s_X9_copy C 170 0 171 0 107 = some (mrow C 171 (va_cpy (C 170) (C 171) 0 0 107)) := m_copy (F := C) (q0 := 170) (q2 := 171) (a := 0) (b := 0) (N := 107) (by omega) (by decide) (by decide) (by decide) (by decide) (by omega)
    obtain ⟨D, hDe⟩ : ∃ X, X = mrow C 171 (va_cpy (C 170) (C 171) 0 0 107) := ⟨_, rfl⟩
    rw [← hDe] at e3
    have nD : ∀ x, x ≠ 166 → x ≠ 167 → x ≠ 171 → D x = A x := fun x b1 b2 b3 => by rw [hDe, mrow_ne b3, hCe, mrow_ne b2, hBe, mrow_ne b1]
    have D166 : ∀ k, k < 5 → D 166 k = A 168 k := fun k hk => by rw [hDe, mrow_ne (by omega), hCe, mrow_ne (by omega), hBe, mrow_self, cpy0 hk]
    have D167 : ∀ k, k < 50 → D 167 k = A 169 k := fun k hk => by rw [hDe, mrow_ne (by omega), hCe, mrow_self, cpy0 hk, hBe, mrow_ne (by omega)]
    have D171 : ∀ k, k < 107 → D 171 k = A 170 k := fun k hk => by rw [hDe, mrow_self, cpy0 hk, hCe, mrow_ne (by omega), hBe, mrow_ne (by omega)]
    obtain ⟨Q, hQe⟩ : ∃ X, X = mup (mup (mup D 164 22 0) 175 0 0) 175 1 0 := ⟨_, rfl⟩
    have nQ : ∀ x, x ≠ 164 → x ≠ 175 → Q x = D x := fun x b1 b2 => by rw [hQe, mup_ne b2, mup_ne b2, mup_ne b1]
    have Q22 : Q 164 22 = nI 0 := by rw [hQe, mup_ne (by omega), mup_ne (by omega), mup_self, pk_us]; rfl
    have Qj : ∀ j, j ≠ 22 → Q 164 j = A 164 j := fun j hj => by rw [hQe, mup_ne (by omega), mup_ne (by omega), mup_self, pk_un hj, nD 164 (by omega) (by omega) (by omega)]
    have Q175 : ∀ s, s < 2 → Q 175 s = 0 := fun s hs => by
      rcases (show s = 0 ∨ s = 1 by omega) with rfl | rfl
      · rw [hQe, mup_self, pk_un (by omega), mup_self, pk_us]
      · rw [hQe, mup_self, pk_us]
    have hml : s_X9_load E = some (nI (pRul (PP L T)), Q) := by
      have b0 : vp_nar .boolean 0 = 0 := by decide
      unfold s_X9_load
      rw [rG, bnd_]
      show (if era L T = -9 then s_X9_load_b15 G 0 else s_X9_load_b15 G 1) = _
      rw [if_pos he]
      unfold s_X9_load_b15
      rw [rf_0]
      show (some (mup (mup G 164 0 0) 164 4 ((mup G 164 0 0) 164 11))).bind _ = _
      have v11 : mup G 164 0 0 164 11 = nI (pNod (PP L T)) := by rw [mup_self, pk_un (by omega)]; exact c11
      have v12 : mup (mup G 164 0 0) 164 4 (nI (pNod (PP L T))) 164 12 = nI (pPar (PP L T)) := by rw [mup_self, pk_un (by omega), mup_self, pk_un (by omega)]; exact c12
      have v13 : mup (mup (mup G 164 0 0) 164 4 (nI (pNod (PP L T)))) 164 5 (nI (pPar (PP L T))) 164 13 = nI (pRul (PP L T)) := by rw [mup_self, pk_un (by omega), mup_self, pk_un (by omega), mup_self, pk_un (by omega)]; exact y13
      have v14 : mup (mup (mup (mup G 164 0 0) 164 4 (nI (pNod (PP L T)))) 164 5 (nI (pPar (PP L T)))) 164 6 (nI (pRul (PP L T))) 164 14 = nI (pLim (PP L T)) := by rw [mup_self, pk_un (by omega), mup_self, pk_un (by omega), mup_self, pk_un (by omega), mup_self, pk_un (by omega)]; exact c14
      have v15 : mup (mup (mup (mup (mup G 164 0 0) 164 4 (nI (pNod (PP L T)))) 164 5 (nI (pPar (PP L T)))) 164 6 (nI (pRul (PP L T)))) 164 7 (nI (pLim (PP L T))) 164 15 = nI (pLen (PP L T)) := by rw [mup_self, pk_un (by omega), mup_self, pk_un (by omega), mup_self, pk_un (by omega), mup_self, pk_un (by omega), mup_self, pk_un (by omega)]; exact c15
      rw [v11, bnd_, v12, bnd_, v13, bnd_, v14, bnd_, v15, bnd_, ← hAe, e1, bnd_, e2, bnd_, e3, bnd_, bnd_, if_pos (by decide), bnd_, if_pos (by decide), bnd_, b0, show ix 0 = 0 from rfl, show ix 1 = 1 from rfl, ← hQe, Qj 6 (by omega), A6]
    have j3 : INVM Q (PP L T) (SS L T) L T 0 H (fun _ => false) K := by
      refine ⟨⟨by rw [Qj 4 (by omega)]; exact A4, by rw [Qj 5 (by omega)]; exact A5, by rw [Qj 6 (by omega)]; exact A6, by rw [Qj 7 (by omega)]; exact A7, by rw [Qj 8 (by omega)]; exact A8, fun n hn => ?_, fun k hk => ?_⟩, fun k hk => ?_, ⟨?_, fun k hk => ?_⟩, ⟨Q22, fun d k hd _ => absurd hd (by omega)⟩, fun s hs => ⟨by rw [Q175 s hs]; rfl, fun h => absurd (show false = true from h) (by decide)⟩⟩
      · have h5 := hP2.1.2
        rw [nQ 166 (by omega) (by omega), D166 n (by omega), nA 168 (by omega)]; exact c168 n hn
      · have h10 := hP2.2.2.1
        rw [nQ 167 (by omega) (by omega), D167 k (by omega), nA 169 (by omega)]; exact y169 k hk
      · rw [nQ 171 (by omega) (by omega), D171 k hk, nA 170 (by omega)]; exact y170 k hk
      · rw [Qj 2 (by omega), A2, gG 2 (by omega) (by omega) (by omega) (by omega) (by omega) (by omega)]; exact k3.1
      · rw [nQ 165 (by omega) (by omega), nD 165 (by omega) (by omega) (by omega), nA 165 (by omega), fG 165 (by omega) (by omega) (by omega) (by omega)]; exact k3.2 k hk
    rw [hcl]
    exact agW_ok (F2 := Q) hml (by rw [Qj 0 (by omega)]; exact A0) ⟨PP L T, SS L T, L, T, 0, H, fun _ => false, K, ⟨hP2, hS2, ⟨hL, hT⟩, ⟨by omega, fun d hd => absurd hd (by omega)⟩, fun s hs h => absurd (show false = true from h) (by decide)⟩, invc_m i2 (fun x hx => by rw [nQ x (by omega) (by omega), nD x (by omega) (by omega) (by omega), nA x (by omega), fG x (by omega) (by omega) (by omega) (by omega)]), j3⟩
