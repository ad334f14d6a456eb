/-! ===== the reference's reader ===== -/
def MS (G : MM) (L : Nat) (T : Nat → Nat) (p : Nat) : Prop := G 164 2 = nI L ∧ G 164 3 = nI p ∧ (∀ k, k < L → G 165 k = nI (T k)) ∧ p ≤ L ∧ L ≤ 160 ∧ ∀ k, k < L → T k < 256
section RQ
variable {L : Nat} {T : Nat → Nat} {lo hi : Nat} {q : QS}
theorem rds_st {j : Nat} (h : (rds L T lo hi j q).2 = true) : ∀ d, rds L T lo hi (j + d) q = rds L T lo hi j q
  | 0 => rfl
  | d + 1 => by
    show (rd L T lo hi (rds L T lo hi (j + d) q)).2 = _
    rw [rds_st h d]; exact rd_x h
end RQ
section MQ
variable {G G1 : MM} {L : Nat} {T : Nat → Nat} {lo hi b N C kind p : Nat} {q : QS}
theorem ms_fr (h : MS G L T p) (h1 : G1 165 = G 165) (h2 : G1 164 2 = G 164 2) (h3 : G1 164 3 = G 164 3) : MS G1 L T p := by
  unfold MS
  rw [h1, h2, h3]
  exact h
theorem ms_next (h : MS G L T p) (hp : p < L) : MS (mup G 164 3 (nI (p + 1))) L T (p + 1) := by
  obtain ⟨h1, h2, h3, h4⟩ := h
  exact ⟨by rw [mup_self, pk_un (by omega)]; exact h1, by rw [mup_self, pk_us], fun k hk => by rw [mup_ne (by omega)]; exact h3 k hk, hp, h4.2⟩
theorem m28_ok {x : Nat} {bt : Int32} (h1 : lo ≤ x) (h2 : x ≤ hi) (hh : hi < 1000) (hb : ¬ nI x = bt) (hQ : MS G L T p) : s_X9_digit_b28 G (nI lo) (nI hi) bt (nI x) = some (nI x, mup G 164 3 (nI (p + 1))) := by
  have e : s_X9_in G (Int32.toInt64 (nI x)) (Int32.toInt64 (nI lo)) (Int32.toInt64 (nI hi)) = some 1 := in_1 (by rw [Int32.toInt_toInt64, nI_toInt (by omega), nI_toInt (by omega)]; omega) (by rw [Int32.toInt_toInt64, nI_toInt (by omega), nI_toInt (by omega)]; omega)
  unfold s_X9_digit_b28
  rw [e, bnd_, if_neg i10_, if_neg hb, bnd_, hQ.2.1, nI_1]
theorem m28_no {x bt : Int32} (hl : lo < 1000) (hh : hi < 1000) (h : x.toInt < lo ∨ (hi : Int) < x.toInt) : s_X9_digit_b28 G (nI lo) (nI hi) bt x = some (-9, G) := by
  have e : s_X9_in G (Int32.toInt64 x) (Int32.toInt64 (nI lo)) (Int32.toInt64 (nI hi)) = some 0 := in_0 (by rw [Int32.toInt_toInt64, Int32.toInt_toInt64, nI_toInt (by omega), nI_toInt (by omega)]; exact h)
  unfold s_X9_digit_b28
  rw [e, bnd_, if_pos rfl]
theorem m_dig {l h : Int32} (el : l = nI lo) (eh : h = nI hi) (hlo : lo < 1000) (hhi : hi < 1000) (hq : q.2 = false) (hQ : MS G L T q.1) : (∃ G1, (rd L T lo hi q).2.2 = false ∧ s_X9_digit G l h (-9) = some (nI (rd L T lo hi q).1, G1) ∧ MS G1 L T (rd L T lo hi q).2.1 ∧ (∀ a, a ≠ 164 → G1 a = G a) ∧ ∀ j, j ≠ 3 → G1 164 j = G 164 j) ∨ ((rd L T lo hi q).2 = (q.1, true) ∧ s_X9_digit G l h (-9) = some (-9, G)) := by
  subst el
  subst eh
  obtain ⟨h1, h2, h3, h4, h5, h6⟩ := id hQ
  by_cases hp : q.1 < L
  · have ht := h6 _ hp
    by_cases hc : rdc L T lo hi q
    · refine Or.inl ⟨mup G 164 3 (nI (q.1 + 1)), by rw [rd_t hc], ?_, by rw [rd_t hc]; exact ms_next hQ hp, fun a ha => mup_ne ha, fun j hj => by rw [mup_self, pk_un hj]⟩
      obtain ⟨-, -, c1, c2⟩ := id hc
      unfold s_X9_digit
      rw [rd_t hc, h1, h2, if_neg (by rw [nI_leI (by omega) (by omega)]; omega), inb_nI (by omega) (by omega), if_pos rfl, ix_nI (by omega), h3 _ hp, li_48, pk_sub (by omega)]
      exact m28_ok (by omega) (by omega) hhi (nI_ne9 (by omega)) hQ
    · refine Or.inr ⟨by rw [rd_f hc], ?_⟩
      unfold s_X9_digit
      rw [h1, h2, if_neg (by rw [nI_leI (by omega) (by omega)]; omega), inb_nI (by omega) (by omega), if_pos rfl, ix_nI (by omega), h3 _ hp]
      refine m28_no hlo hhi ?_
      rw [li_48, pk_sub_toInt (by omega) (by omega)]
      by_cases c1 : lo + 48 ≤ T q.1
      · by_cases c2 : T q.1 ≤ hi + 48
        · exact absurd ⟨hq, hp, c1, c2⟩ hc
        · exact Or.inr (by omega)
      · exact Or.inl (by omega)
  · refine Or.inr ⟨by rw [rd_f (fun hc => hp hc.2.1)], ?_⟩
    unfold s_X9_digit
    rw [h1, h2, if_pos (by rw [nI_leI (by omega) (by omega)]; omega)]
    exact m28_no hlo hhi (Or.inl (by
      have h9 : (-9 : Int32).toInt = -9 := by decide
      rw [h9]; omega))
theorem m_digb {l h : Int32} (el : l = nI b) (eh : h = nI hi) (hb : b < 1000) (hhi : hi < 1000) (hq : q.2 = false) (hQ : MS G L T q.1) : (∃ G1, (rdb L T b hi q).2.2 = false ∧ s_X9_digit G 0 h l = some (nI (rdb L T b hi q).1, G1) ∧ MS G1 L T (rdb L T b hi q).2.1 ∧ (∀ a, a ≠ 164 → G1 a = G a) ∧ ∀ j, j ≠ 3 → G1 164 j = G 164 j) ∨ ((rdb L T b hi q).2 = (q.1, true) ∧ s_X9_digit G 0 h l = some (-9, G)) := by
  subst el
  subst eh
  obtain ⟨h1, h2, h3, h4, h5, h6⟩ := id hQ
  by_cases hp : q.1 < L
  · have ht := h6 _ hp
    unfold s_X9_digit
    rw [h1, h2, if_neg (by rw [nI_leI (by omega) (by omega)]; omega), inb_nI (by omega) (by omega), if_pos rfl, ix_nI (by omega), h3 _ hp]
    by_cases hB : T q.1 = b + 48
    · have e : rdb L T b hi q = (0, (q.1, true)) := if_pos ⟨hp, hB⟩
      rw [e]
      refine Or.inr ⟨rfl, ?_⟩
      have ev : nI (T q.1) - 48 = nI b := (d_eq ht hb).mpr hB
      rw [ev]
      by_cases hbh : b ≤ hi
      · have e1 : s_X9_in G (Int32.toInt64 (nI b)) (Int32.toInt64 0) (Int32.toInt64 (nI hi)) = some 1 := in_1 (by rw [Int32.toInt_toInt64, nI_toInt (by omega), show (0 : Int32).toInt = 0 by decide]; omega) (by rw [Int32.toInt_toInt64, nI_toInt (by omega), nI_toInt (by omega)]; omega)
        unfold s_X9_digit_b28
        rw [e1, bnd_, if_neg i10_, if_pos rfl]
      · exact m28_no (lo := 0) (by omega) hhi (Or.inr (by rw [nI_toInt (by omega)]; omega))
    · have e : rdb L T b hi q = rd L T 0 hi q := if_neg (fun h => hB h.2)
      rw [e]
      by_cases hc : rdc L T 0 hi q
      · obtain ⟨-, -, c1, c2⟩ := id hc
        refine Or.inl ⟨mup G 164 3 (nI (q.1 + 1)), by rw [rd_t hc], ?_, by rw [rd_t hc]; exact ms_next hQ hp, fun a ha => mup_ne ha, fun j hj => by rw [mup_self, pk_un hj]⟩
        rw [rd_t hc, li_48, pk_sub (by omega)]
        exact m28_ok (lo := 0) (by omega) (by omega) hhi (fun h9 => by rw [nI_eq (by omega) (by omega)] at h9; omega) hQ
      · refine Or.inr ⟨by rw [rd_f hc], ?_⟩
        refine m28_no (lo := 0) (by omega) hhi ?_
        rw [li_48, pk_sub_toInt (by omega) (by omega)]
        by_cases c1 : 0 + 48 ≤ T q.1
        · by_cases c2 : T q.1 ≤ hi + 48
          · exact absurd ⟨hq, hp, c1, c2⟩ hc
          · exact Or.inr (by omega)
        · exact Or.inl (by omega)
  · have e : rdb L T b hi q = rd L T 0 hi q := if_neg (fun h => hp h.1)
    rw [e]
    refine Or.inr ⟨by rw [rd_f (fun hc => hp hc.2.1)], ?_⟩
    unfold s_X9_digit
    rw [h1, h2, if_pos (by rw [nI_leI (by omega) (by omega)]; omega)]
    exact m28_no (lo := 0) (by omega) hhi (Or.inl (by
      have h9 : (-9 : Int32).toInt = -9 := by decide
      rw [h9]; omega))
theorem m_pass {ch : Nat} {c : Int32} (ec : c = nI ch) (hch : ch < 256) (hp : p < L) (hQ : MS G L T p) : (T p = ch ∧ ∃ G1, s_X9_passes G c = some (1, G1) ∧ MS G1 L T (p + 1) ∧ (∀ a, a ≠ 164 → G1 a = G a) ∧ ∀ j, j ≠ 3 → G1 164 j = G 164 j) ∨ (¬ T p = ch ∧ ∃ G1, s_X9_passes G c = some (0, G1) ∧ MS G1 L T p ∧ (∀ a, a ≠ 164 → G1 a = G a) ∧ ∀ j, j ≠ 3 → G1 164 j = G 164 j) := by
  subst ec
  obtain ⟨h1, h2, h3, h4, h5, h6⟩ := id hQ
  have ht := h6 _ hp
  unfold s_X9_passes s_X9_passes_b29
  rw [h1, h2, if_neg (by rw [nI_leI (by omega) (by omega)]; omega), inb_nI (by omega) (by omega), if_pos rfl, ix_nI (by omega), h3 _ hp]
  by_cases hB : T p = ch
  · refine Or.inl ⟨hB, mup G 164 3 (nI (p + 1)), ?_, ms_next hQ hp, fun a ha => mup_ne ha, fun j hj => by rw [mup_self, pk_un hj]⟩
    rw [if_pos (by rw [hB]), if_neg i10_, bnd_, nI_1, if_pos (by decide)]
  · refine Or.inr ⟨hB, mup G 164 3 (nI p), ?_, ?_, fun a ha => mup_ne ha, fun j hj => by rw [mup_self, pk_un hj]⟩
    · rw [if_neg (by rw [nI_eq (by omega) (by omega)]; exact hB), if_pos rfl, bnd_, Int32.add_zero, if_pos (by decide)]
    · exact ⟨by rw [mup_self, pk_un (by omega)]; exact h1, by rw [mup_self, pk_us], fun k hk => by rw [mup_ne (by omega)]; exact h3 k hk, h4, h5, h6⟩
/-! ===== its head ===== -/
theorem h218_0 (n : Nat) (x : Int32) : s_X9_readHead_b218 (n + 1) G 0 x = some (0, G) := by
  rw [s_X9_readHead_b218]
  simp only [show (0 : Int32) &&& 1 = 0 by decide, if_true, ite_self]
theorem h163_0 (n : Nat) (x : Int32) : s_X9_readHead_b163 (n + 1) G 0 x = some (0, G) := by
  rw [s_X9_readHead_b163]
  have h := h218_0 (G := G) 4999 0
  have h : s_X9_readHead_b218 fu_ G 0 0 = some (0, G) := h
  simp only [if_true, ite_self, h]
theorem m_h218 (hC : C ≤ 6) : ∀ d i fuel G, i + d = C → d < fuel → G 164 12 = nI C → (rds L T 0 5 i q).2 = false → MS G L T (rds L T 0 5 i q).1 → (∀ k, k < i → G 170 (77 + 5 * k) = nI (rdk L T 0 5 k q)) →
    ∃ G1, s_X9_readHead_b218 fuel G 1 (nI i) = some (b01 (!(rds L T 0 5 C q).2), G1) ∧ MS G1 L T (rds L T 0 5 C q).1 ∧ ((rds L T 0 5 C q).2 = false → ∀ k, k < C → G1 170 (77 + 5 * k) = nI (rdk L T 0 5 k q)) ∧ (∀ k, (∀ c, c < C → k ≠ 77 + 5 * c) → G1 170 k = G 170 k) ∧ (∀ a, a ≠ 164 → a ≠ 170 → G1 a = G a) ∧ ∀ j, j ≠ 3 → G1 164 j = G 164 j
  | 0, i, fuel + 1, G, h, _, e1, hf, hQ, hk => by
    have : i = C := by omega
    subst this
    refine ⟨G, ?_, hQ, fun _ => hk, fun _ _ => rfl, fun _ _ _ => rfl, fun _ _ => rfl⟩
    rw [s_X9_readHead_b218, e1, if_pos (Int32.le_refl _), if_pos (by decide), hf]
    rfl
  | d + 1, i, fuel0 + 1, G, h, hfu, e1, hf, hQ, hk => by
    obtain ⟨fuel, rfl⟩ : ∃ fuel, fuel0 = fuel + 1 := ⟨fuel0 - 1, by omega⟩
    rw [s_X9_readHead_b218, e1, if_neg (by rw [nI_leI (by omega) (by omega)]; omega), if_neg i10_]
    rcases m_dig (lo := 0) (hi := 5) (l := 0) (h := 5) rfl rfl (by omega) (by omega) hf hQ with ⟨F1, k0, k1, k2, k3, k4⟩ | ⟨k0, k1⟩
    · have k1 : s_X9_digit G 0 5 (-9) = some (nI (rdk L T 0 5 i q), F1) := k1
      have kr : rdk L T 0 5 i q ≤ 5 := (rd_rng (by omega)).2
      obtain ⟨G2, r2, q2, z2, n2, f2, g2⟩ := m_h218 hC d (i + 1) (fuel + 1) (mup F1 170 (77 + 5 * i) (nI (rdk L T 0 5 i q))) (by omega) (by omega) (by rw [mup_ne (by omega), k4 12 (by omega)]; exact e1) k0 (ms_fr k2 (mup_ne (by omega)) (by rw [mup_ne (by omega)]) (by rw [mup_ne (by omega)])) (fun k hk2 => by
        rw [mup_self]
        by_cases hki : k = i
        · rw [hki, pk_us]
        · rw [pk_un (by omega), k3 170 (by omega)]; exact hk k (by omega))
      refine ⟨G2, ?_, q2, z2, fun k hk9 => by rw [n2 k hk9, mup_self, pk_un (hk9 i (by omega)), k3 170 (by omega)], fun a b1 b2 => by rw [f2 a b1 b2, mup_ne b2, k3 a b1], fun j hj => by rw [g2 j hj, mup_ne (by omega), k4 j hj]⟩
      rw [k1, bnd_]
      show (if nI (rdk L T 0 5 i q) = -9 then _ else s_X9_readHead_b253 (s_X9_readHead_b218 (fuel + 1)) F1 (nI i) (nI (rdk L T 0 5 i q)) 1) = _
      rw [if_neg (nI_ne9 (by omega))]
      unfold s_X9_readHead_b253 s_X9_partAt
      simp (disch := omega) only [bnd_, pa_nI, inb_nI, ix_nI, if_true, if_neg i10_, nI_1]
      exact r2
    · have hst : (rds L T 0 5 (i + 1) q) = ((rds L T 0 5 i q).1, true) := k0
      have hC2 : rds L T 0 5 C q = ((rds L T 0 5 i q).1, true) := by
        have := rds_st (L := L) (T := T) (lo := 0) (hi := 5) (q := q) (j := i + 1) (by rw [hst]) d
        rw [show i + 1 + d = C by omega, hst] at this
        exact this
      rw [hC2]
      refine ⟨mup G 170 (77 + 5 * i) 0, ?_, ms_fr hQ (mup_ne (by omega)) (by rw [mup_ne (by omega)]) (by rw [mup_ne (by omega)]), fun h9 => absurd (show true = false from h9) (by decide), fun k hk9 => by rw [mup_self, pk_un (hk9 i (by omega))], fun a b1 b2 => mup_ne b2, fun j hj => by rw [mup_ne (by omega)]⟩
      rw [k1, bnd_, if_pos rfl]
      unfold s_X9_readHead_b253 s_X9_partAt
      simp (disch := omega) only [bnd_, pa_nI, inb_nI, ix_nI, if_true, nI_1, h218_0]
      rfl
theorem m_h163 (hN : N ≤ 5) : ∀ d i fuel G, i + d = N → d < fuel → G 164 11 = nI N → (rds L T 0 2 i q).2 = false → MS G L T (rds L T 0 2 i q).1 → (∀ k, k < i → G 168 k = nI (rdk L T 0 2 k q)) →
    ∃ G1, MS G1 L T (rds L T 0 2 N q).1 ∧ (∀ a, a ≠ 164 → a ≠ 168 → G1 a = G a) ∧ (∀ j, j ≠ 3 → G1 164 j = G 164 j) ∧ (((rds L T 0 2 N q).2 = false ∧ s_X9_readHead_b163 fuel G 1 (nI i) = s_X9_readHead_b218 fu_ G1 1 0 ∧ ∀ k, k < N → G1 168 k = nI (rdk L T 0 2 k q)) ∨ ((rds L T 0 2 N q).2 = true ∧ s_X9_readHead_b163 fuel G 1 (nI i) = some (0, G1)))
  | 0, i, fuel + 1, G, h, _, e1, hf, hQ, hk => by
    have : i = N := by omega
    subst this
    refine ⟨G, hQ, fun _ _ _ => rfl, fun _ _ => rfl, Or.inl ⟨hf, ?_, hk⟩⟩
    rw [s_X9_readHead_b163, e1, if_pos (Int32.le_refl _)]
  | d + 1, i, fuel0 + 1, G, h, hfu, e1, hf, hQ, hk => by
    obtain ⟨fuel, rfl⟩ : ∃ fuel, fuel0 = fuel + 1 := ⟨fuel0 - 1, by omega⟩
    rw [s_X9_readHead_b163, e1, if_neg (by rw [nI_leI (by omega) (by omega)]; omega), if_neg i10_]
    rcases m_dig (lo := 0) (hi := 2) (l := 0) (h := 2) rfl rfl (by omega) (by omega) hf hQ with ⟨F1, k0, k1, k2, k3, k4⟩ | ⟨k0, k1⟩
    · have k1 : s_X9_digit G 0 2 (-9) = some (nI (rdk L T 0 2 i q), F1) := k1
      have kr : rdk L T 0 2 i q ≤ 2 := (rd_rng (by omega)).2
      obtain ⟨G2, q2, f2, g2, r2⟩ := m_h163 hN d (i + 1) (fuel + 1) (mup F1 168 i (nI (rdk L T 0 2 i q))) (by omega) (by omega) (by rw [mup_ne (by omega), k4 11 (by omega)]; exact e1) k0 (ms_fr k2 (mup_ne (by omega)) (by rw [mup_ne (by omega)]) (by rw [mup_ne (by omega)])) (fun k hk2 => by
        rw [mup_self]
        by_cases hki : k = i
        · rw [hki, pk_us]
        · rw [pk_un (by omega), k3 168 (by omega)]; exact hk k (by omega))
      refine ⟨G2, q2, fun a b1 b2 => by rw [f2 a b1 b2, mup_ne b2, k3 a b1], fun j hj => by rw [g2 j hj, mup_ne (by omega), k4 j hj], ?_⟩
      have er : (s_X9_digit G 0 2 (-9)).bind (fun z55 => if inb (nI i) 5 = true then ((some (mup z55.2 168 (ix (nI i)) z55.1)).bind (fun F57 => if inb (nI i) 5 = true then (if (F57 168 (ix (nI i))) = (-9) then (some (nI i + 1 : Int32)).bind (fun y61 => s_X9_readHead_b163 (fuel + 1) F57 0 y61) else (some (nI i + 1 : Int32)).bind (fun y63 => s_X9_readHead_b163 (fuel + 1) F57 1 y63)) else none)) else none) = s_X9_readHead_b163 (fuel + 1) (mup F1 168 i (nI (rdk L T 0 2 i q))) 1 (nI (i + 1)) := by
        rw [k1, bnd_]
        simp (disch := omega) only [bnd_, inb_nI, ix_nI, if_true, mup_self, pk_us, nI_1, if_neg (nI_ne9 (show rdk L T 0 2 i q < 2 ^ 31 by omega))]
      rw [er]
      exact r2
    · have hst : (rds L T 0 2 (i + 1) q) = ((rds L T 0 2 i q).1, true) := k0
      have hC2 : rds L T 0 2 N q = ((rds L T 0 2 i q).1, true) := by
        have := rds_st (L := L) (T := T) (lo := 0) (hi := 2) (q := q) (j := i + 1) (by rw [hst]) d
        rw [show i + 1 + d = N by omega, hst] at this
        exact this
      rw [hC2]
      refine ⟨mup G 168 i (-9), ms_fr hQ (mup_ne (by omega)) (by rw [mup_ne (by omega)]) (by rw [mup_ne (by omega)]), fun a b1 b2 => mup_ne b2, fun j hj => by rw [mup_ne (by omega)], Or.inr ⟨rfl, ?_⟩⟩
      rw [k1, bnd_]
      simp (disch := omega) only [bnd_, inb_nI, ix_nI, if_true, mup_self, pk_us, nI_1, h163_0]
/-- the head failed: nothing more is read -/
def HF (G : MM) (x : Option (Int32 × MM)) : Prop := ∃ G1, x = some (0, G1) ∧ G1 164 3 = G 164 3 ∧ (∀ a, a ≠ 164 → G1 a = G a) ∧ ∀ j, j ≠ 11 → j ≠ 12 → j ≠ 14 → j ≠ 15 → G1 164 j = G 164 j
theorem hf_137 (x : Int32) : HF G (s_X9_readHead_b137 G x (-9)) := by
  refine ⟨mup G 164 15 ((10 * x) + (-9)), ?_, by rw [mup_self, pk_un (by omega)], fun a ha => mup_ne ha, fun j _ _ _ h => by rw [mup_self, pk_un h]⟩
  unfold s_X9_readHead_b137
  rw [bnd_, if_pos rfl]
  exact h163_0 4999 0
theorem hf_99 : HF G (s_X9_readHead_b99 G (-9)) := by
  unfold s_X9_readHead_b99
  rw [if_pos rfl]
  exact hf_137 _
theorem hf_mup {x : Option (Int32 × MM)} {j : Nat} {v : Int32} (hj : j = 11 ∨ j = 12 ∨ j = 14 ∨ j = 15) (h : HF (mup G 164 j v) x) : HF G x := by
  obtain ⟨G1, h1, h2, h3, h4⟩ := h
  exact ⟨G1, h1, by rw [h2, mup_self, pk_un (by omega)], fun a ha => by rw [h3 a ha, mup_ne ha], fun i b1 b2 b3 b4 => by rw [h4 i b1 b2 b3 b4, mup_self, pk_un (by omega)]⟩
theorem hf_47 : HF G (s_X9_readHead_b47 G (-9)) := by
  refine hf_mup (j := 12) (v := -9) (by omega) ?_
  unfold s_X9_readHead_b47
  rw [bnd_, mup_self, pk_us, if_pos rfl, bnd_, mup_self, pk_us, if_pos rfl]
  exact hf_mup (j := 14) (v := -9) (by omega) hf_99
end MQ
section MH
variable {G G1 : MM} {L : Nat} {T : Nat → Nat}
theorem hq7_of {q : QS} (h : q.2 = true) : (hq5 L T = q → hq7 L T = q) ∧ (hq4 L T = q → hq7 L T = q) ∧ (hq3 L T = q → hq7 L T = q) ∧ (hq2 L T = q → hq7 L T = q) ∧ (hq1 L T = q → hq7 L T = q) ∧ (hq0 L T = q → hq7 L T = q) ∧ (hq6 L T = q → hq7 L T = q) := by
  have a6 : hq6 L T = q → hq7 L T = q := fun e => by unfold hq7; rw [e]; exact rds_x h _
  have a5 : hq5 L T = q → hq7 L T = q := fun e => a6 (by unfold hq6; rw [e]; exact rds_x h _)
  have a4 : hq4 L T = q → hq7 L T = q := fun e => a5 (by unfold hq5; rw [e]; exact rd_x h)
  have a3 : hq3 L T = q → hq7 L T = q := fun e => a4 (by unfold hq4; rw [e]; exact rd_x h)
  have a2 : hq2 L T = q → hq7 L T = q := fun e => a3 (by unfold hq3; rw [e]; exact rd_x h)
  have a1 : hq1 L T = q → hq7 L T = q := fun e => a2 (by unfold hq2; rw [e]; exact rd_x h)
  have a0 : hq0 L T = q → hq7 L T = q := fun e => a1 (by unfold hq1; rw [e]; exact rd_x h)
  exact ⟨a5, a4, a3, a2, a1, a0, a6⟩
/-- what the reference's head leaves -/
def HM (G : MM) (L : Nat) (T : Nat → Nat) (x : Option (Int32 × MM)) : Prop := ∃ G1, x = some (b01 (!(hq7 L T).2), G1) ∧ MS G1 L T (hq7 L T).1 ∧ ((hq7 L T).2 = false → G1 164 11 = nI (hN L T) ∧ G1 164 12 = nI (hC L T) ∧ G1 164 14 = nI (hLm L T) ∧ G1 164 15 = nI (hLe L T) ∧ (∀ k, k < hN L T → G1 168 k = nI (hRi L T k)) ∧ RRow G1 170 (S00 L T)) ∧ (∀ a, a ≠ 164 → a ≠ 168 → a ≠ 170 → G1 a = G a) ∧ ∀ j, j ≠ 3 → j ≠ 11 → j ≠ 12 → j ≠ 14 → j ≠ 15 → G1 164 j = G 164 j
theorem hm_fail {G0 : MM} {p : Nat} {x : Option (Int32 × MM)} (h7 : hq7 L T = (p, true)) (hQ : MS G0 L T p) (hx : HF G0 x) (h1 : ∀ a, a ≠ 164 → a ≠ 168 → a ≠ 170 → G0 a = G a) (h2 : ∀ j, j ≠ 3 → j ≠ 11 → j ≠ 12 → j ≠ 14 → j ≠ 15 → G0 164 j = G 164 j) : HM G L T x := by
  obtain ⟨G1, e, g3, g4, g5⟩ := hx
  refine ⟨G1, by rw [h7]; exact e, by rw [h7]; exact ms_fr hQ (g4 165 (by omega)) (g5 2 (by omega) (by omega) (by omega) (by omega)) g3, fun h9 => by rw [h7] at h9; exact absurd (show true = false from h9) (by decide), fun a b1 b2 b3 => by rw [g4 a b1, h1 a b1 b2 b3], fun j b1 b2 b3 b4 b5 => by rw [g5 j b2 b3 b4 b5, h2 j b1 b2 b3 b4 b5]⟩
theorem m_readHead (hQ : MS G L T 0) (hz : ∀ k, k < 107 → G 170 k = 0) : HM G L T (s_X9_readHead G) := by
  obtain ⟨⟨rN1, rN2⟩, ⟨rC1, rC2⟩, ⟨rL1, rL2⟩, rT, ⟨rO1, rO2⟩, rR, rQ⟩ := hd_rng L T
  obtain ⟨o1, o2, o3⟩ := oLH rT
  unfold s_X9_readHead
  by_cases hp : 0 < L
  · rcases m_pass (ch := 68) (c := 68) rfl (by omega) hp hQ with ⟨hB, G0, r0, q0, f0, g0⟩ | ⟨hB, G0, r0, q0, f0, g0⟩
    · have e0 : hq0 L T = (1, false) := if_pos ⟨hp, hB⟩
      rw [r0, bnd_]
      show HM G L T (if (1 : Int32) = 0 then some (0, G0) else (s_X9_digit G0 1 5 (-9)).bind _)
      rw [if_neg i10_]
      have q0 : MS G0 L T (hq0 L T).1 := by rw [e0]; exact q0
      have b0 : (hq0 L T).2 = false := by rw [e0]
      rcases m_dig (lo := 1) (hi := 5) (l := 1) (h := 5) rfl rfl (by omega) (by omega) b0 q0 with ⟨F1, b1, r1, q1, f1, g1⟩ | ⟨k0, r1⟩
      · have b1 : (hq1 L T).2 = false := b1
        have r1 : s_X9_digit G0 1 5 (-9) = some (nI (hN L T), F1) := r1
        have q1 : MS F1 L T (hq1 L T).1 := q1
        rw [r1, bnd_, bnd_]
        show HM G L T (if (mup F1 164 11 (nI (hN L T))) 164 11 = -9 then _ else (s_X9_digit (mup F1 164 11 (nI (hN L T))) 1 6 (-9)).bind (fun z13 => s_X9_readHead_b47 z13.2 z13.1))
        obtain ⟨G1, hG1⟩ : ∃ X, X = mup F1 164 11 (nI (hN L T)) := ⟨_, rfl⟩
        have a11 : G1 164 11 = nI (hN L T) := by rw [hG1, mup_self, pk_us]
        have n1 : ∀ j, j ≠ 11 → G1 164 j = F1 164 j := fun j hj => by rw [hG1, mup_self, pk_un hj]
        have m1 : ∀ a, a ≠ 164 → G1 a = F1 a := fun a ha => by rw [hG1, mup_ne ha]
        rw [← hG1, a11, if_neg (nI_ne9 (by omega))]
        have q1 : MS G1 L T (hq1 L T).1 := ms_fr q1 (m1 165 (by omega)) (n1 2 (by omega)) (n1 3 (by omega))
        rcases m_dig (lo := 1) (hi := 6) (l := 1) (h := 6) rfl rfl (by omega) (by omega) b1 q1 with ⟨F2, b2, r2, q2, f2, g2⟩ | ⟨k0, r2⟩
        · have b2 : (hq2 L T).2 = false := b2
          have r2 : s_X9_digit G1 1 6 (-9) = some (nI (hC L T), F2) := r2
          have q2 : MS F2 L T (hq2 L T).1 := q2
          rw [r2, bnd_]
          show HM G L T (s_X9_readHead_b47 F2 (nI (hC L T)))
          unfold s_X9_readHead_b47
          rw [bnd_]
          obtain ⟨G2, hG2⟩ : ∃ X, X = mup F2 164 12 (nI (hC L T)) := ⟨_, rfl⟩
          have a12 : G2 164 12 = nI (hC L T) := by rw [hG2, mup_self, pk_us]
          have n2 : ∀ j, j ≠ 12 → G2 164 j = F2 164 j := fun j hj => by rw [hG2, mup_self, pk_un hj]
          have m2 : ∀ a, a ≠ 164 → G2 a = F2 a := fun a ha => by rw [hG2, mup_ne ha]
          rw [← hG2, a12, if_neg (nI_ne9 (by omega))]
          have q2 : MS G2 L T (hq2 L T).1 := ms_fr q2 (m2 165 (by omega)) (n2 2 (by omega)) (n2 3 (by omega))
          rcases m_dig (lo := 1) (hi := 9) (l := 1) (h := 9) rfl rfl (by omega) (by omega) b2 q2 with ⟨F3, b3, r3, q3, f3, g3⟩ | ⟨k0, r3⟩
          · have b3 : (hq3 L T).2 = false := b3
            have r3 : s_X9_digit G2 1 9 (-9) = some (nI (hLm L T), F3) := r3
            have q3 : MS F3 L T (hq3 L T).1 := q3
            rw [r3, bnd_, bnd_]
            show HM G L T (if (mup F3 164 14 (nI (hLm L T))) 164 14 = -9 then _ else (s_X9_digit (mup F3 164 14 (nI (hLm L T))) 0 5 (-9)).bind (fun z25 => s_X9_readHead_b99 z25.2 z25.1))
            obtain ⟨G3, hG3⟩ : ∃ X, X = mup F3 164 14 (nI (hLm L T)) := ⟨_, rfl⟩
            have a14 : G3 164 14 = nI (hLm L T) := by rw [hG3, mup_self, pk_us]
            have n3 : ∀ j, j ≠ 14 → G3 164 j = F3 164 j := fun j hj => by rw [hG3, mup_self, pk_un hj]
            have m3 : ∀ a, a ≠ 164 → G3 a = F3 a := fun a ha => by rw [hG3, mup_ne ha]
            rw [← hG3, a14, if_neg (nI_ne9 (by omega))]
            have q3 : MS G3 L T (hq3 L T).1 := ms_fr q3 (m3 165 (by omega)) (n3 2 (by omega)) (n3 3 (by omega))
            rcases m_dig (lo := 0) (hi := 5) (l := 0) (h := 5) rfl rfl (by omega) (by omega) b3 q3 with ⟨F4, b4, r4, q4, f4, g4⟩ | ⟨k0, r4⟩
            · have b4 : (hq4 L T).2 = false := b4
              have r4 : s_X9_digit G3 0 5 (-9) = some (nI (hTe L T), F4) := r4
              have q4 : MS F4 L T (hq4 L T).1 := q4
              rw [r4, bnd_]
              show HM G L T (s_X9_readHead_b99 F4 (nI (hTe L T)))
              have mF4 : ∀ a, a ≠ 164 → a ≠ 168 → a ≠ 170 → F4 a = G a := fun a c1 c2 c3 => by rw [f4 a c1, m3 a c1, f3 a c1, m2 a c1, f2 a c1, m1 a c1, f1 a c1, f0 a c1]
              have nF4 : ∀ j, j ≠ 3 → j ≠ 11 → j ≠ 12 → j ≠ 14 → j ≠ 15 → F4 164 j = G 164 j := fun j c1 c2 c3 c4 c5 => by rw [g4 j c1, n3 j c4, g3 j c1, n2 j c3, g2 j c1, n1 j c2, g1 j c1, g0 j c1]
              have key : ∀ l h : Int32, l = nI (oLo (hTe L T)) → h = nI (oHi (hTe L T)) → HM G L T ((s_X9_digit F4 l h (-9)).bind (fun z => s_X9_readHead_b137 z.2 (nI (hTe L T)) z.1)) := fun l h el eh => by
                rcases m_dig el eh (by omega) (by omega) b4 q4 with ⟨F5, b5, r5, q5, f5, g5⟩ | ⟨k0, r5⟩
                · have b5 : (hq5 L T).2 = false := b5
                  have r5 : s_X9_digit F4 l h (-9) = some (nI (hOn L T), F5) := r5
                  have q5 : MS F5 L T (hq5 L T).1 := q5
                  rw [r5, bnd_]
                  show HM G L T (s_X9_readHead_b137 F5 (nI (hTe L T)) (nI (hOn L T)))
                  unfold s_X9_readHead_b137
                  have e15 : (10 : Int32) * nI (hTe L T) + nI (hOn L T) = nI (hLe L T) := by rw [li_10, pk_mul, nI_add]; rfl
                  rw [bnd_, e15, if_neg (nI_ne9 (by omega))]
                  obtain ⟨G5, hG5⟩ : ∃ X, X = mup F5 164 15 (nI (hLe L T)) := ⟨_, rfl⟩
                  have a15 : G5 164 15 = nI (hLe L T) := by rw [hG5, mup_self, pk_us]
                  have n5 : ∀ j, j ≠ 15 → G5 164 j = F5 164 j := fun j hj => by rw [hG5, mup_self, pk_un hj]
                  have m5 : ∀ a, a ≠ 164 → G5 a = F5 a := fun a ha => by rw [hG5, mup_ne ha]
                  rw [← hG5]
                  have q5 : MS G5 L T (hq5 L T).1 := ms_fr q5 (m5 165 (by omega)) (n5 2 (by omega)) (n5 3 (by omega))
                  have c14 : G5 164 14 = nI (hLm L T) := by rw [n5 14 (by omega), g5 14 (by omega), g4 14 (by omega)]; exact a14
                  have c12 : G5 164 12 = nI (hC L T) := by rw [n5 12 (by omega), g5 12 (by omega), g4 12 (by omega), n3 12 (by omega), g3 12 (by omega)]; exact a12
                  have c11 : G5 164 11 = nI (hN L T) := by rw [n5 11 (by omega), g5 11 (by omega), g4 11 (by omega), n3 11 (by omega), g3 11 (by omega), n2 11 (by omega), g2 11 (by omega)]; exact a11
                  obtain ⟨G6, q6, f6, g6, r6⟩ := m_h163 (q := hq5 L T) rN2 (hN L T) 0 fu_ G5 (by omega) (fu_lt (by omega)) c11 b5 q5 (fun k hk => absurd hk (by omega))
                  have q6 : MS G6 L T (hq6 L T).1 := q6
                  rcases r6 with ⟨b6, r6, k6⟩ | ⟨b6, r6⟩
                  · have b6 : (hq6 L T).2 = false := b6
                    have r6 : s_X9_readHead_b163 fu_ G5 1 0 = s_X9_readHead_b218 fu_ G6 1 0 := r6
                    obtain ⟨G7, r7, q7, k7, n7, f7, g7⟩ := m_h218 (q := hq6 L T) rC2 (hC L T) 0 fu_ G6 (by omega) (fu_lt (by omega)) (by rw [g6 12 (by omega)]; exact c12) b6 q6 (fun k hk => absurd hk (by omega))
                    have r7 : s_X9_readHead_b218 fu_ G6 1 0 = some (b01 (!(hq7 L T).2), G7) := r7
                    refine ⟨G7, r6.trans r7, q7, fun h9 => ⟨by rw [g7 11 (by omega), g6 11 (by omega)]; exact c11, by rw [g7 12 (by omega), g6 12 (by omega)]; exact c12, by rw [g7 14 (by omega), g6 14 (by omega)]; exact c14, by rw [g7 15 (by omega), g6 15 (by omega)]; exact a15, fun k hk => by rw [f7 168 (by omega) (by omega)]; exact k6 k hk, fun k hk => ?_⟩, fun a c1 c2 c3 => ?_, fun j c1 c2 c3 c4 c5 => ?_⟩
                    · by_cases hkc : 77 ≤ k ∧ (k - 77) % 5 = 0 ∧ (k - 77) / 5 < hC L T
                      · have := k7 h9 ((k - 77) / 5) hkc.2.2
                        rw [show 77 + 5 * ((k - 77) / 5) = k by omega] at this
                        rw [this]
                        unfold S00
                        rw [if_pos hkc]
                        rfl
                      · rw [n7 k (fun c hc e => hkc (by omega)), f6 170 (by omega) (by omega), m5 170 (by omega), f5 170 (by omega), f4 170 (by omega), m3 170 (by omega), f3 170 (by omega), m2 170 (by omega), f2 170 (by omega), m1 170 (by omega), f1 170 (by omega), f0 170 (by omega), hz k hk]
                        unfold S00
                        rw [if_neg hkc]
                        rfl
                    · rw [f7 a c1 c3, f6 a c1 c2, m5 a c1, f5 a c1]; exact mF4 a c1 c2 c3
                    · rw [g7 j c1, g6 j c1, n5 j c5, g5 j c1]; exact nF4 j c1 c2 c3 c4 c5
                  · have b6 : (hq6 L T).2 = true := b6
                    have h7 := (hq7_of (L := L) (T := T) b6).2.2.2.2.2.2 rfl
                    have r6 : s_X9_readHead_b163 fu_ G5 1 0 = some (0, G6) := r6
                    refine ⟨G6, by rw [h7, b6]; exact r6, by rw [h7]; exact q6, fun h9 => by rw [h7, b6] at h9; exact absurd h9 (by decide), fun a c1 c2 c3 => ?_, fun j c1 c2 c3 c4 c5 => ?_⟩
                    · rw [f6 a c1 c2, m5 a c1, f5 a c1]; exact mF4 a c1 c2 c3
                    · rw [g6 j c1, n5 j c5, g5 j c1]; exact nF4 j c1 c2 c3 c4 c5
                · have k0 : hq5 L T = ((hq4 L T).1, true) := k0
                  rw [r5, bnd_]
                  exact hm_fail ((hq7_of rfl).1 k0) q4 (hf_137 _) mF4 nF4
              unfold s_X9_readHead_b99
              rw [if_neg (nI_ne9 (by omega))]
              by_cases h0 : hTe L T = 0
              · have el : (1 : Int32) = nI (oLo (hTe L T)) := by unfold oLo; rw [if_pos h0]; rfl
                have eh : (9 : Int32) = nI (oHi (hTe L T)) := by unfold oHi; rw [if_neg (by omega)]; rfl
                rw [if_pos (by rw [h0]; rfl), if_neg (by rw [h0]; decide)]
                exact key 1 9 el eh
              · rw [if_neg (nI_ne0 (by omega) (by omega))]
                have el : (0 : Int32) = nI (oLo (hTe L T)) := by unfold oLo; rw [if_neg h0]; rfl
                by_cases h5 : hTe L T = 5
                · have eh : (0 : Int32) = nI (oHi (hTe L T)) := by unfold oHi; rw [if_pos h5]; rfl
                  rw [if_pos (by rw [h5]; rfl)]
                  exact key 0 0 el eh
                · have eh : (9 : Int32) = nI (oHi (hTe L T)) := by unfold oHi; rw [if_neg h5]; rfl
                  rw [if_neg (by rw [li_5, nI_eq (by omega) (by omega)]; exact h5)]
                  exact key 0 9 el eh
            · have k0 : hq4 L T = ((hq3 L T).1, true) := k0
              rw [r4, bnd_]
              exact hm_fail ((hq7_of rfl).2.1 k0) q3 hf_99 (fun a c1 c2 c3 => by rw [m3 a c1, f3 a c1, m2 a c1, f2 a c1, m1 a c1, f1 a c1, f0 a c1]) (fun j c1 c2 c3 c4 c5 => by rw [n3 j c4, g3 j c1, n2 j c3, g2 j c1, n1 j c2, g1 j c1, g0 j c1])
          · have k0 : hq3 L T = ((hq2 L T).1, true) := k0
            rw [r3, bnd_, bnd_, mup_self, pk_us, if_pos rfl]
            exact hm_fail ((hq7_of rfl).2.2.1 k0) q2 (hf_mup (j := 14) (v := -9) (by omega) hf_99) (fun a c1 c2 c3 => by rw [m2 a c1, f2 a c1, m1 a c1, f1 a c1, f0 a c1]) (fun j c1 c2 c3 c4 c5 => by rw [n2 j c3, g2 j c1, n1 j c2, g1 j c1, g0 j c1])
        · have k0 : hq2 L T = ((hq1 L T).1, true) := k0
          rw [r2, bnd_]
          exact hm_fail ((hq7_of rfl).2.2.2.1 k0) q1 hf_47 (fun a c1 c2 c3 => by rw [m1 a c1, f1 a c1, f0 a c1]) (fun j c1 c2 c3 c4 c5 => by rw [n1 j c2, g1 j c1, g0 j c1])
      · have k0 : hq1 L T = ((hq0 L T).1, true) := k0
        rw [r1, bnd_, bnd_, mup_self, pk_us, if_pos rfl]
        exact hm_fail ((hq7_of rfl).2.2.2.2.1 k0) q0 (hf_mup (j := 11) (v := -9) (by omega) hf_47) (fun a c1 c2 c3 => f0 a c1) (fun j c1 c2 c3 c4 c5 => g0 j c1)
    · have e0 : hq0 L T = (0, true) := if_neg (fun h => hB h.2)
      rw [r0, bnd_]
      exact hm_fail ((hq7_of rfl).2.2.2.2.2.1 e0) q0 ⟨G0, if_pos rfl, rfl, fun _ _ => rfl, fun _ _ _ _ _ => rfl⟩ (fun a c1 c2 c3 => f0 a c1) (fun j c1 c2 c3 c4 c5 => g0 j c1)
  · have e0 : hq0 L T = (0, true) := if_neg (fun h => hp h.1)
    obtain ⟨h1, h2, h3, h4, h5, h6⟩ := id hQ
    have r0 : s_X9_passes G 68 = some (0, mup G 164 3 (nI 0)) := by
      unfold s_X9_passes s_X9_passes_b29
      rw [h1, h2, if_pos (by rw [nI_leI (by omega) (by omega)]; omega), if_pos rfl, bnd_, Int32.add_zero, if_pos (by decide)]
    have q0 : MS (mup G 164 3 (nI 0)) L T 0 := ⟨by rw [mup_self, pk_un (by omega)]; exact h1, by rw [mup_self, pk_us], fun k hk => by rw [mup_ne (by omega)]; exact h3 k hk, h4, h5, h6⟩
    rw [r0, bnd_]
    exact hm_fail ((hq7_of rfl).2.2.2.2.2.1 e0) q0 ⟨_, if_pos rfl, rfl, fun _ _ => rfl, fun _ _ _ _ _ => rfl⟩ (fun a c1 c2 c3 => mup_ne c1) (fun j c1 c2 c3 c4 c5 => by rw [mup_self, pk_un c1])
end MH
