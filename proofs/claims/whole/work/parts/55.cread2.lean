/-! ===== the text: a reading with a flag that stays ===== -/
abbrev QS : Type := Nat × Bool
abbrev ZS : Type := Nat × (Nat → Nat) × RW
def rdc (L : Nat) (T : Nat → Nat) (lo hi : Nat) (q : QS) : Prop := q.2 = false ∧ q.1 < L ∧ lo + 48 ≤ T q.1 ∧ T q.1 ≤ hi + 48
def rd (L : Nat) (T : Nat → Nat) (lo hi : Nat) (q : QS) : Nat × QS := if q.2 = false ∧ q.1 < L ∧ lo + 48 ≤ T q.1 ∧ T q.1 ≤ hi + 48 then (T q.1 - 48, (q.1 + 1, false)) else (lo, (q.1, true))
def rdb (L : Nat) (T : Nat → Nat) (b hi : Nat) (q : QS) : Nat × QS := if q.1 < L ∧ T q.1 = b + 48 then (0, (q.1, true)) else rd L T 0 hi q
def rds (L : Nat) (T : Nat → Nat) (lo hi : Nat) : Nat → QS → QS
  | 0, q => q
  | k + 1, q => (rd L T lo hi (rds L T lo hi k q)).2
def rdk (L : Nat) (T : Nat → Nat) (lo hi k : Nat) (q : QS) : Nat := (rd L T lo hi (rds L T lo hi k q)).1
section RP
variable {L : Nat} {T : Nat → Nat} {lo hi b : Nat} {q : QS}
theorem rd_t (h : rdc L T lo hi q) : rd L T lo hi q = (T q.1 - 48, (q.1 + 1, false)) := if_pos h
theorem rd_f (h : ¬ rdc L T lo hi q) : rd L T lo hi q = (lo, (q.1, true)) := if_neg h
theorem rd_rng (h : lo ≤ hi) : lo ≤ (rd L T lo hi q).1 ∧ (rd L T lo hi q).1 ≤ hi := by
  by_cases hc : rdc L T lo hi q
  · rw [rd_t hc]
    obtain ⟨-, -, h1, h2⟩ := hc
    show lo ≤ T q.1 - 48 ∧ T q.1 - 48 ≤ hi
    omega
  · rw [rd_f hc]; exact ⟨Nat.le_refl _, h⟩
theorem rd_x (h : q.2 = true) : (rd L T lo hi q).2 = q := by
  rw [rd_f (fun hc => by rw [hc.1] at h; exact absurd h (by decide))]
  obtain ⟨p, f⟩ := q
  have h : f = true := h
  subst h
  rfl
theorem rd_ok (h : (rd L T lo hi q).2.2 = false) : q.2 = false ∧ (rd L T lo hi q).2.1 = q.1 + 1 := by
  by_cases hc : rdc L T lo hi q
  · rw [rd_t hc]; exact ⟨hc.1, rfl⟩
  · rw [rd_f hc] at h; exact absurd (show true = false from h) (by decide)
theorem rdb_rng : (rdb L T b hi q).1 ≤ hi := by
  unfold rdb
  by_cases h : q.1 < L ∧ T q.1 = b + 48
  · rw [if_pos h]; exact Nat.zero_le _
  · rw [if_neg h]; exact (rd_rng (Nat.zero_le _)).2
theorem rdb_x (h : q.2 = true) : (rdb L T b hi q).2 = q := by
  unfold rdb
  by_cases h1 : q.1 < L ∧ T q.1 = b + 48
  · rw [if_pos h1]
    obtain ⟨p, f⟩ := q
    have h : f = true := h
    subst h
    rfl
  · rw [if_neg h1]; exact rd_x h
theorem rdb_ok (h : (rdb L T b hi q).2.2 = false) : q.2 = false ∧ (rdb L T b hi q).2.1 = q.1 + 1 := by
  unfold rdb at h ⊢
  by_cases h1 : q.1 < L ∧ T q.1 = b + 48
  · rw [if_pos h1] at h; exact absurd (show true = false from h) (by decide)
  · rw [if_neg h1] at h ⊢; exact rd_ok h
theorem rds_x (h : q.2 = true) : ∀ k, rds L T lo hi k q = q
  | 0 => rfl
  | k + 1 => by
    show (rd L T lo hi (rds L T lo hi k q)).2 = q
    rw [rds_x h k]; exact rd_x h
theorem rds_ok : ∀ k, (rds L T lo hi k q).2 = false → ∀ j, j ≤ k → (rds L T lo hi j q).2 = false
  | 0, h, j, hj => by have : j = 0 := by omega
                      subst this; exact h
  | k + 1, h, j, hj => by
    by_cases hjk : j = k + 1
    · subst hjk; exact h
    · exact rds_ok k (rd_ok h).1 j (by omega)
end RP
/-! ===== the class's reader ===== -/
theorem d_lt {x lo : Nat} (hx : x < 256) (hl : lo < 1000) : (nI x - 48 < nI lo) ↔ x < lo + 48 := by
  rw [li_48, Int32.lt_iff_toInt_lt, pk_sub_toInt (by omega) (by omega), nI_toInt (by omega)]; omega
theorem d_gt {x hi : Nat} (hx : x < 256) (hl : hi < 1000) : (nI hi < nI x - 48) ↔ hi + 48 < x := by
  rw [li_48, Int32.lt_iff_toInt_lt, pk_sub_toInt (by omega) (by omega), nI_toInt (by omega)]; omega
theorem d_eq {x b : Nat} (hx : x < 256) (hl : b < 1000) : (nI x - 48 = nI b) ↔ x = b + 48 := by
  rw [li_48, ← Int32.toInt_inj, pk_sub_toInt (by omega) (by omega), nI_toInt (by omega)]; omega
def CS (F : MM) (L : Nat) (T : Nat → Nat) (q : QS) : Prop := F 2 11 = nI L ∧ F 2 12 = nI q.1 ∧ F 2 13 = b01 q.2 ∧ (∀ k, k < L → F 1 k = nI (T k)) ∧ q.1 ≤ L ∧ L ≤ 160 ∧ ∀ k, k < L → T k < 256
section CQ
variable {F F1 : MM} {L : Nat} {T : Nat → Nat} {lo hi b N C : Nat} {q : QS}
theorem cs_fr (h : CS F L T q) (h1 : F1 1 = F 1) (h2 : ∀ j, 11 ≤ j → j ≤ 13 → F1 2 j = F 2 j) : CS F1 L T q := by
  unfold CS
  rw [h1, h2 11 (by omega) (by omega), h2 12 (by omega) (by omega), h2 13 (by omega) (by omega)]
  exact h
theorem cs_fail (h : CS F L T q) : CS (mup F 2 13 1) L T (q.1, true) := by
  obtain ⟨h1, h2, h3, h4, h5⟩ := h
  refine ⟨by rw [mup_self, pk_un (by omega)]; exact h1, by rw [mup_self, pk_un (by omega)]; exact h2, by rw [mup_self, pk_us]; rfl, fun k hk => by rw [mup_ne (by omega)]; exact h4 k hk, h5⟩
theorem cs_next (h : CS F L T q) (hq : q.2 = false) (hp : q.1 < L) : CS (mup F 2 12 (nI (q.1 + 1))) L T (q.1 + 1, false) := by
  obtain ⟨h1, h2, h3, h4, h5, h6⟩ := h
  rw [hq] at h3
  refine ⟨by rw [mup_self, pk_un (by omega)]; exact h1, by rw [mup_self, pk_us], by rw [mup_self, pk_un (by omega)]; exact h3, fun k hk => by rw [mup_ne (by omega)]; exact h4 k hk, hp, h6⟩
theorem c_rd {l h : Int32} (el : l = nI lo) (eh : h = nI hi) (hlo : lo < 1000) (hhi : hi < 1000) (hQ : CS F L T q) : ∃ F1, s_X6_readDigit F l h = some (nI (rd L T lo hi q).1, F1) ∧ CS F1 L T (rd L T lo hi q).2 ∧ (∀ a, a ≠ 2 → F1 a = F a) ∧ ∀ j, j ≠ 12 → j ≠ 13 → F1 2 j = F 2 j := by
  subst el
  subst eh
  have hF := cs_fail hQ
  have fF : (∀ a, a ≠ 2 → mup F 2 13 1 a = F a) ∧ ∀ j, j ≠ 12 → j ≠ 13 → mup F 2 13 1 2 j = F 2 j := ⟨fun a ha => mup_ne ha, fun j _ h2 => by rw [mup_self, pk_un h2]⟩
  obtain ⟨h1, h2, h3, h4, h5, h6, h7⟩ := id hQ
  have hno : ¬ rdc L T lo hi q → s_X6_readDigit F (nI lo) (nI hi) = some (nI lo, mup F 2 13 1) → ∃ F1, s_X6_readDigit F (nI lo) (nI hi) = some (nI (rd L T lo hi q).1, F1) ∧ CS F1 L T (rd L T lo hi q).2 ∧ (∀ a, a ≠ 2 → F1 a = F a) ∧ ∀ j, j ≠ 12 → j ≠ 13 → F1 2 j = F 2 j := fun hc e => by
    rw [rd_f hc]
    exact ⟨_, e, hF, fF⟩
  cases hb : q.2 with
  | true =>
    refine hno (fun hc => by rw [hc.1] at hb; exact absurd hb (by decide)) ?_
    unfold s_X6_readDigit
    rw [h3, hb, if_neg b01_t, bnd_]
  | false =>
    by_cases hp : q.1 < L
    · have ht := h7 _ hp
      have h4p := h4 _ hp
      by_cases hA : T q.1 < lo + 48
      · refine hno (fun hc => by have := hc.2.2.1; omega) ?_
        unfold s_X6_readDigit
        rw [h3, hb, if_pos b01_f, h1, h2, if_neg (by rw [nI_leI (by omega) (by omega)]; omega), inb_nI (by omega) (by omega), ix_nI (by omega), h4p, if_pos rfl, bnd_, if_pos ((d_lt ht hlo).mpr hA), bnd_]
      · by_cases hB : hi + 48 < T q.1
        · refine hno (fun hc => by have := hc.2.2.2; omega) ?_
          unfold s_X6_readDigit
          rw [h3, hb, if_pos b01_f, h1, h2, if_neg (by rw [nI_leI (by omega) (by omega)]; omega), inb_nI (by omega) (by omega), ix_nI (by omega), h4p, if_pos rfl, bnd_, if_neg (fun h => hA ((d_lt ht hlo).mp h)), if_pos ((d_gt ht hhi).mpr hB), bnd_]
        · have hc : rdc L T lo hi q := ⟨hb, hp, by omega, by omega⟩
          rw [rd_t hc]
          refine ⟨mup F 2 12 (nI (q.1 + 1)), ?_, cs_next hQ hb hp, fun a ha => mup_ne ha, fun j h2 _ => by rw [mup_self, pk_un h2]⟩
          unfold s_X6_readDigit
          rw [h3, hb, if_pos b01_f, h1, h2, if_neg (by rw [nI_leI (by omega) (by omega)]; omega), inb_nI (by omega) (by omega), ix_nI (by omega), h4p, if_pos rfl, bnd_, if_neg (fun h => hA ((d_lt ht hlo).mp h)), if_neg (fun h => hB ((d_gt ht hhi).mp h)), bnd_, nI_1, li_48, pk_sub (by omega)]
    · refine hno (fun hc => hp hc.2.1) ?_
      unfold s_X6_readDigit
      rw [h3, hb, if_pos b01_f, h1, h2, if_pos (by rw [nI_leI (by omega) (by omega)]; omega), bnd_]
theorem c_rdb {l h : Int32} (el : l = nI b) (eh : h = nI hi) (hlo : b < 1000) (hhi : hi < 1000) (hQ : CS F L T q) : ∃ F1, s_X6_readDigitBut F l h = some (nI (rdb L T b hi q).1, F1) ∧ CS F1 L T (rdb L T b hi q).2 ∧ (∀ a, a ≠ 2 → F1 a = F a) ∧ ∀ j, j ≠ 12 → j ≠ 13 → F1 2 j = F 2 j := by
  subst el
  obtain ⟨h1, h2, h3, h4, h5, h6, h7⟩ := id hQ
  unfold rdb s_X6_readDigitBut
  by_cases hp : q.1 < L
  · have ht := h7 _ hp
    have h4p := h4 _ hp
    rw [h1, h2, if_neg (by rw [nI_leI (by omega) (by omega)]; omega), inb_nI (by omega) (by omega), ix_nI (by omega), h4p, if_pos rfl]
    by_cases hB : T q.1 = b + 48
    · rw [if_pos ((d_eq ht hlo).mpr hB), if_pos ⟨hp, hB⟩, bnd_]
      obtain ⟨F1, e1, q1, f1, g1⟩ := c_rd (lo := 0) (l := 0) rfl eh (by omega) hhi (cs_fail hQ)
      have hx : (rd L T 0 hi (q.1, true)).2 = (q.1, true) := rd_x rfl
      have hx2 : (rd L T 0 hi (q.1, true)).1 = 0 := by rw [rd_f (fun hc => absurd (show true = false from hc.1) (by decide))]
      rw [hx] at q1
      rw [hx2] at e1
      refine ⟨F1, ?_, q1, fun a ha => by rw [f1 a ha, mup_ne ha], fun j j1 j2 => by rw [g1 j j1 j2, mup_self, pk_un j2]⟩
      rw [e1, bnd_]
    · rw [if_neg (fun h => hB ((d_eq ht hlo).mp h)), if_neg (fun h => hB h.2)]
      obtain ⟨F1, e1, q1, f1, g1⟩ := c_rd (lo := 0) (l := 0) rfl eh (by omega) hhi hQ
      exact ⟨F1, by rw [e1, bnd_], q1, f1, g1⟩
  · rw [h1, h2, if_pos (by rw [nI_leI (by omega) (by omega)]; omega), if_neg (fun h => hp h.1)]
    obtain ⟨F1, e1, q1, f1, g1⟩ := c_rd (lo := 0) (l := 0) rfl eh (by omega) hhi hQ
    exact ⟨F1, by rw [e1, bnd_], q1, f1, g1⟩
theorem c_h108 (hC : C ≤ 6) : ∀ d i fuel F, i + d = C → d < fuel → F 2 1 = nI C → CS F L T (rds L T 0 5 i q) → (∀ k, k < i → F 4 k = nI (rdk L T 0 5 k q)) →
    ∃ F1, s_X6_readHead_b108 fuel F (nI i) = some F1 ∧ CS F1 L T (rds L T 0 5 C q) ∧ (∀ k, k < C → F1 4 k = nI (rdk L T 0 5 k q)) ∧ (∀ a, a ≠ 2 → a ≠ 4 → F1 a = F a) ∧ ∀ j, j ≠ 12 → j ≠ 13 → F1 2 j = F 2 j
  | 0, i, fuel + 1, F, h, _, e1, hQ, hk => by
    have : i = C := by omega
    subst this
    exact ⟨F, by rw [s_X6_readHead_b108, e1, if_pos (Int32.le_refl _)], hQ, hk, fun _ _ _ => rfl, fun _ _ _ => rfl⟩
  | d + 1, i, fuel + 1, F, h, hf, e1, hQ, hk => by
    obtain ⟨F1, r1, q1, f1, g1⟩ := c_rd (lo := 0) (hi := 5) (l := 0) (h := 5) rfl rfl (by omega) (by omega) hQ
    obtain ⟨F2, r2, q2, k2, f2, g2⟩ := c_h108 hC d (i + 1) fuel (mup F1 4 i (nI (rdk L T 0 5 i q))) (by omega) (by omega) (by rw [mup_ne (by omega), g1 1 (by omega) (by omega)]; exact e1) (cs_fr q1 (mup_ne (by omega)) (fun j _ _ => by rw [mup_ne (by omega)])) (fun k hk2 => by
      rw [mup_self]
      by_cases hki : k = i
      · rw [hki, pk_us]
      · rw [pk_un hki, f1 4 (by omega)]; exact hk k (by omega))
    refine ⟨F2, ?_, q2, k2, fun a h1 h2 => by rw [f2 a h1 h2, mup_ne h2, f1 a h1], fun j h1 h2 => by rw [g2 j h1 h2, mup_ne (by omega), g1 j h1 h2]⟩
    rw [s_X6_readHead_b108, e1, if_neg (by rw [nI_leI (by omega) (by omega)]; omega), r1]
    simp (disch := omega) only [bnd_, inb_nI, ix_nI, if_true, nI_1]
    exact r2
theorem c_h80 (hN : N ≤ 5) : ∀ d i fuel F, i + d = N → d < fuel → F 2 0 = nI N → CS F L T (rds L T 0 2 i q) → (∀ k, k < i → F 3 k = nI (rdk L T 0 2 k q)) →
    ∃ F1, s_X6_readHead_b80 fuel F (nI i) = s_X6_readHead_b108 fu_ F1 0 ∧ CS F1 L T (rds L T 0 2 N q) ∧ (∀ k, k < N → F1 3 k = nI (rdk L T 0 2 k q)) ∧ (∀ a, a ≠ 2 → a ≠ 3 → F1 a = F a) ∧ ∀ j, j ≠ 12 → j ≠ 13 → F1 2 j = F 2 j
  | 0, i, fuel + 1, F, h, _, e1, hQ, hk => by
    have : i = N := by omega
    subst this
    exact ⟨F, by rw [s_X6_readHead_b80, e1, if_pos (Int32.le_refl _)], hQ, hk, fun _ _ _ => rfl, fun _ _ _ => rfl⟩
  | d + 1, i, fuel + 1, F, h, hf, e1, hQ, hk => by
    obtain ⟨F1, r1, q1, f1, g1⟩ := c_rd (lo := 0) (hi := 2) (l := 0) (h := 2) rfl rfl (by omega) (by omega) hQ
    obtain ⟨F2, r2, q2, k2, f2, g2⟩ := c_h80 hN d (i + 1) fuel (mup F1 3 i (nI (rdk L T 0 2 i q))) (by omega) (by omega) (by rw [mup_ne (by omega), g1 0 (by omega) (by omega)]; exact e1) (cs_fr q1 (mup_ne (by omega)) (fun j _ _ => by rw [mup_ne (by omega)])) (fun k hk2 => by
      rw [mup_self]
      by_cases hki : k = i
      · rw [hki, pk_us]
      · rw [pk_un hki, f1 3 (by omega)]; exact hk k (by omega))
    refine ⟨F2, ?_, q2, k2, fun a h1 h2 => by rw [f2 a h1 h2, mup_ne h2, f1 a h1], fun j h1 h2 => by rw [g2 j h1 h2, mup_ne (by omega), g1 j h1 h2]⟩
    rw [s_X6_readHead_b80, e1, if_neg (by rw [nI_leI (by omega) (by omega)]; omega), r1]
    simp (disch := omega) only [bnd_, inb_nI, ix_nI, if_true, nI_1]
    exact r2
end CQ
/-! ===== the head ===== -/
def hq0 (L : Nat) (T : Nat → Nat) : QS := if 0 < L ∧ T 0 = 68 then (1, false) else (0, true)
def hN (L : Nat) (T : Nat → Nat) : Nat := (rd L T 1 5 (hq0 L T)).1
def hq1 (L : Nat) (T : Nat → Nat) : QS := (rd L T 1 5 (hq0 L T)).2
def hC (L : Nat) (T : Nat → Nat) : Nat := (rd L T 1 6 (hq1 L T)).1
def hq2 (L : Nat) (T : Nat → Nat) : QS := (rd L T 1 6 (hq1 L T)).2
def hLm (L : Nat) (T : Nat → Nat) : Nat := (rd L T 1 9 (hq2 L T)).1
def hq3 (L : Nat) (T : Nat → Nat) : QS := (rd L T 1 9 (hq2 L T)).2
def hTe (L : Nat) (T : Nat → Nat) : Nat := (rd L T 0 5 (hq3 L T)).1
def hq4 (L : Nat) (T : Nat → Nat) : QS := (rd L T 0 5 (hq3 L T)).2
def oLo (e : Nat) : Nat := if e = 0 then 1 else 0
def oHi (e : Nat) : Nat := if e = 5 then 0 else 9
def hOn (L : Nat) (T : Nat → Nat) : Nat := (rd L T (oLo (hTe L T)) (oHi (hTe L T)) (hq4 L T)).1
def hq5 (L : Nat) (T : Nat → Nat) : QS := (rd L T (oLo (hTe L T)) (oHi (hTe L T)) (hq4 L T)).2
def hq6 (L : Nat) (T : Nat → Nat) : QS := rds L T 0 2 (hN L T) (hq5 L T)
def hq7 (L : Nat) (T : Nat → Nat) : QS := rds L T 0 5 (hC L T) (hq6 L T)
def hRi (L : Nat) (T : Nat → Nat) (k : Nat) : Nat := rdk L T 0 2 k (hq5 L T)
def hQu (L : Nat) (T : Nat → Nat) (k : Nat) : Nat := rdk L T 0 5 k (hq6 L T)
def hLe (L : Nat) (T : Nat → Nat) : Nat := 10 * hTe L T + hOn L T
theorem oLH {e : Nat} (h : e ≤ 5) : oLo e ≤ oHi e ∧ oHi e ≤ 9 ∧ oLo e ≤ 1 := by
  unfold oLo oHi
  by_cases h0 : e = 0
  · rw [if_pos h0, if_neg (by omega)]; omega
  · rw [if_neg h0]
    by_cases h5 : e = 5
    · rw [if_pos h5]; omega
    · rw [if_neg h5]; omega
theorem hd_rng (L : Nat) (T : Nat → Nat) : (1 ≤ hN L T ∧ hN L T ≤ 5) ∧ (1 ≤ hC L T ∧ hC L T ≤ 6) ∧ (1 ≤ hLm L T ∧ hLm L T ≤ 9) ∧ hTe L T ≤ 5 ∧ (oLo (hTe L T) ≤ hOn L T ∧ hOn L T ≤ oHi (hTe L T)) ∧ (∀ k, hRi L T k ≤ 2) ∧ ∀ k, hQu L T k ≤ 5 := by
  have e5 : hTe L T ≤ 5 := (rd_rng (by omega)).2
  exact ⟨rd_rng (by omega), rd_rng (by omega), rd_rng (by omega), e5, rd_rng (oLH e5).1, fun k => (rd_rng (by omega)).2, fun k => (rd_rng (by omega)).2⟩
theorem hLe_rng (L : Nat) (T : Nat → Nat) : 1 ≤ hLe L T ∧ hLe L T ≤ 50 := by
  obtain ⟨-, -, -, e5, ⟨h1, h2⟩, -⟩ := hd_rng L T
  unfold hLe
  unfold oLo at h1
  unfold oHi at h2
  by_cases h0 : hTe L T = 0
  · rw [if_pos h0] at h1; rw [if_neg (by omega)] at h2; omega
  · by_cases h9 : hTe L T = 5
    · rw [if_pos h9] at h2; omega
    · rw [if_neg h9] at h2; omega
section CH
variable {F F1 : MM} {L : Nat} {T : Nat → Nat}
theorem c_letter (hQ : CS F L T (0, false)) : ∃ F1, s_X6_readLetter F 68 = some F1 ∧ CS F1 L T (hq0 L T) ∧ (∀ a, a ≠ 2 → F1 a = F a) ∧ ∀ j, j ≠ 12 → j ≠ 13 → F1 2 j = F 2 j := by
  obtain ⟨h1, h2, h3, h4, h5, h6, h7⟩ := id hQ
  have h2 : F 2 12 = nI 0 := h2
  unfold s_X6_readLetter hq0
  by_cases hp : 0 < L
  · have ht := h7 0 hp
    have h4p := h4 0 hp
    rw [h1, h2, if_neg (by rw [nI_leI (by omega) (by omega)]; omega), inb_nI (by omega) (by omega), ix_nI (by omega), h4p, if_pos rfl]
    by_cases hB : T 0 = 68
    · rw [if_pos (by rw [li_68, nI_eq (by omega) (by omega)]; exact hB), if_pos ⟨hp, hB⟩, bnd_]
      exact ⟨_, rfl, cs_next hQ rfl hp, fun a ha => mup_ne ha, fun j j1 j2 => by rw [mup_self, pk_un j1]⟩
    · rw [if_neg (by rw [li_68, nI_eq (by omega) (by omega)]; exact hB), if_neg (fun h => hB h.2), bnd_]
      exact ⟨_, rfl, cs_fail hQ, fun a ha => mup_ne ha, fun j j1 j2 => by rw [mup_self, pk_un j2]⟩
  · rw [h1, h2, if_pos (by rw [nI_leI (by omega) (by omega)]; omega), if_neg (fun h => hp h.1), bnd_]
    exact ⟨_, rfl, cs_fail hQ, fun a ha => mup_ne ha, fun j j1 j2 => by rw [mup_self, pk_un j2]⟩
theorem c_readHead (hQ : CS F L T (0, false)) : ∃ F1, s_X6_readHead F = some F1 ∧ CS F1 L T (hq7 L T) ∧ F1 2 0 = nI (hN L T) ∧ F1 2 1 = nI (hC L T) ∧ F1 2 2 = nI (hLm L T) ∧ F1 2 3 = nI (hLe L T) ∧ (∀ k, k < hN L T → F1 3 k = nI (hRi L T k)) ∧ (∀ k, k < hC L T → F1 4 k = nI (hQu L T k)) ∧ ∀ a, a ≠ 2 → a ≠ 3 → a ≠ 4 → F1 a = F a := by
  obtain ⟨⟨rN1, rN2⟩, ⟨rC1, rC2⟩, ⟨rL1, rL2⟩, rT, ⟨rO1, rO2⟩, rR, rQ⟩ := hd_rng L T
  obtain ⟨o1, o2, o3⟩ := oLH rT
  obtain ⟨F0, e0, q0, f0, g0⟩ := c_letter hQ
  obtain ⟨F1, e1, q1, f1, g1⟩ := c_rd (lo := 1) (hi := 5) (l := 1) (h := 5) rfl rfl (by omega) (by omega) q0
  have q1b : CS (mup F1 2 0 (nI (hN L T))) L T (hq1 L T) := cs_fr q1 (mup_ne (by omega)) (fun j _ _ => by rw [mup_self, pk_un (by omega)])
  obtain ⟨F2, e2, q2, f2, g2⟩ := c_rd (lo := 1) (hi := 6) (l := 1) (h := 6) rfl rfl (by omega) (by omega) q1b
  have q2b : CS (mup F2 2 1 (nI (hC L T))) L T (hq2 L T) := cs_fr q2 (mup_ne (by omega)) (fun j _ _ => by rw [mup_self, pk_un (by omega)])
  obtain ⟨F3, e3, q3, f3, g3⟩ := c_rd (lo := 1) (hi := 9) (l := 1) (h := 9) rfl rfl (by omega) (by omega) q2b
  have q3b : CS (mup F3 2 2 (nI (hLm L T))) L T (hq3 L T) := cs_fr q3 (mup_ne (by omega)) (fun j _ _ => by rw [mup_self, pk_un (by omega)])
  obtain ⟨F4, e4, q4, f4, g4⟩ := c_rd (lo := 0) (hi := 5) (l := 0) (h := 5) rfl rfl (by omega) (by omega) q3b
  have q4 : CS F4 L T (hq4 L T) := q4
  obtain ⟨F5, e5, q5, f5, g5⟩ := c_rd (lo := oLo (hTe L T)) (hi := oHi (hTe L T)) rfl rfl (by omega) (by omega) q4
  have q5b : CS (mup F5 2 3 (nI (hLe L T))) L T (hq5 L T) := cs_fr q5 (mup_ne (by omega)) (fun j _ _ => by rw [mup_self, pk_un (by omega)])
  obtain ⟨F6, e6, q6, k6, f6, g6⟩ := c_h80 (q := hq5 L T) rN2 (hN L T) 0 fu_ (mup F5 2 3 (nI (hLe L T))) (by omega) (fu_lt (by omega)) (by rw [mup_self, pk_un (by omega), g5 0 (by omega) (by omega), g4 0 (by omega) (by omega), mup_self, pk_un (by omega), g3 0 (by omega) (by omega), mup_self, pk_un (by omega), g2 0 (by omega) (by omega), mup_self, pk_us]) q5b (fun k hk => absurd hk (by omega))
  obtain ⟨F7, e7, q7, k7, f7, g7⟩ := c_h108 (q := hq6 L T) rC2 (hC L T) 0 fu_ F6 (by omega) (fu_lt (by omega)) (by rw [g6 1 (by omega) (by omega), mup_self, pk_un (by omega), g5 1 (by omega) (by omega), g4 1 (by omega) (by omega), mup_self, pk_un (by omega), g3 1 (by omega) (by omega), mup_self, pk_us]) q6 (fun k hk => absurd hk (by omega))
  have e6 : s_X6_readHead_b80 fu_ (mup F5 2 3 (nI (hLe L T))) 0 = s_X6_readHead_b108 fu_ F6 0 := e6
  have e7 : s_X6_readHead_b108 fu_ F6 0 = some F7 := e7
  have e10 : (10 : Int32) * nI (hTe L T) = nI (10 * hTe L T) := by rw [li_10, pk_mul]
  refine ⟨F7, ?_, q7, ?_, ?_, ?_, ?_, fun k hk => ?_, k7, fun a h1 h2 h3 => ?_⟩
  · have e1 : s_X6_readDigit F0 1 5 = some (nI (hN L T), F1) := e1
    have e2 : s_X6_readDigit (mup F1 2 0 (nI (hN L T))) 1 6 = some (nI (hC L T), F2) := e2
    have e3 : s_X6_readDigit (mup F2 2 1 (nI (hC L T))) 1 9 = some (nI (hLm L T), F3) := e3
    have e4 : s_X6_readDigit (mup F3 2 2 (nI (hLm L T))) 0 5 = some (nI (hTe L T), F4) := e4
    have e5 : s_X6_readDigit F4 (nI (oLo (hTe L T))) (nI (oHi (hTe L T))) = some (nI (hOn L T), F5) := e5
    have fin : ∀ l h : Int32, l = nI (oLo (hTe L T)) → h = nI (oHi (hTe L T)) → (s_X6_readDigit F4 l h).bind (fun z => (some (mup z.2 2 3 (nI (10 * hTe L T) + z.1))).bind (fun F9 => s_X6_readHead_b80 fu_ F9 0)) = some F7 := fun l h el eh => by
      rw [el, eh, e5, bnd_, bnd_, nI_add]
      exact e6.trans e7
    have b60 : ∀ l : Int32, l = nI (oLo (hTe L T)) → s_X6_readHead_b60 F4 (nI (hTe L T)) l (nI (10 * hTe L T)) = some F7 := fun l el => by
      unfold s_X6_readHead_b60
      by_cases h5 : hTe L T = 5
      · rw [if_pos (by rw [h5]; rfl)]
        exact fin l 0 el (by unfold oHi; rw [if_pos h5]; rfl)
      · rw [if_neg (by rw [li_5, nI_eq (by omega) (by omega)]; exact h5)]
        exact fin l 9 el (by unfold oHi; rw [if_neg h5]; rfl)
    unfold s_X6_readHead
    rw [e0, bnd_, e1, bnd_, bnd_]
    show (s_X6_readDigit (mup F1 2 0 (nI (hN L T))) 1 6).bind _ = _
    rw [e2, bnd_, bnd_]
    show (s_X6_readDigit (mup F2 2 1 (nI (hC L T))) 1 9).bind _ = _
    rw [e3, bnd_, bnd_]
    show (s_X6_readDigit (mup F3 2 2 (nI (hLm L T))) 0 5).bind _ = _
    rw [e4, bnd_]
    show (if nI (hTe L T) = 0 then s_X6_readHead_b60 F4 (nI (hTe L T)) 1 (10 * nI (hTe L T)) else s_X6_readHead_b60 F4 (nI (hTe L T)) 0 (10 * nI (hTe L T))) = _
    rw [e10]
    by_cases h0 : hTe L T = 0
    · rw [if_pos (by rw [h0]; rfl)]
      exact b60 1 (by unfold oLo; rw [if_pos h0]; rfl)
    · rw [if_neg (nI_ne0 (by omega) (by omega))]
      exact b60 0 (by unfold oLo; rw [if_neg h0]; rfl)
  · rw [g7 0 (by omega) (by omega), g6 0 (by omega) (by omega), mup_self, pk_un (by omega), g5 0 (by omega) (by omega), g4 0 (by omega) (by omega), mup_self, pk_un (by omega), g3 0 (by omega) (by omega), mup_self, pk_un (by omega), g2 0 (by omega) (by omega), mup_self, pk_us]
  · rw [g7 1 (by omega) (by omega), g6 1 (by omega) (by omega), mup_self, pk_un (by omega), g5 1 (by omega) (by omega), g4 1 (by omega) (by omega), mup_self, pk_un (by omega), g3 1 (by omega) (by omega), mup_self, pk_us]
  · rw [g7 2 (by omega) (by omega), g6 2 (by omega) (by omega), mup_self, pk_un (by omega), g5 2 (by omega) (by omega), g4 2 (by omega) (by omega), mup_self, pk_us]
  · rw [g7 3 (by omega) (by omega), g6 3 (by omega) (by omega), mup_self, pk_us]
  · rw [f7 3 (by omega) (by omega)]; exact k6 k hk
  · rw [f7 a h1 h3, f6 a h1 h2, mup_ne h1, f5 a h1, f4 a h1, mup_ne h1, f3 a h1, mup_ne h1, f2 a h1, mup_ne h1, f1 a h1, f0 a h1]
end CH
