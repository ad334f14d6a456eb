/-! ===== items of a text ===== -/
def ra (L : Nat) (T : Nat → Nat) (C : Nat) (q : QS) : Nat × QS := rd L T 0 (C - 1) q
def rx (L : Nat) (T : Nat → Nat) (C : Nat) (q : QS) : Nat × QS := rd L T 1 3 (ra L T C q).2
def rb (L : Nat) (T : Nat → Nat) (C : Nat) (q : QS) : Nat × QS := rdb L T (ra L T C q).1 (C - 1) (rx L T C q).2
def ry (L : Nat) (T : Nat → Nat) (C : Nat) (q : QS) : Nat × QS := rd L T 1 3 (rb L T C q).2
def lawU (law : Nat → Nat) (rc kind a x b y : Nat) : Nat → Nat := rup (rup (rup (rup (rup law (5 * rc) kind) (5 * rc + 1) a) (5 * rc + 2) x) (5 * rc + 3) b) (5 * rc + 4) y
def rul (L : Nat) (T : Nat → Nat) (C kind : Nat) (q : QS) (Z : ZS) : QS × ZS := ((ry L T C q).2, (Z.1 + 1, lawU Z.2.1 Z.1 kind (ra L T C q).1 (rx L T C q).1 (rb L T C q).1 (ry L T C q).1, Z.2.2))
def vn (L : Nat) (T : Nat → Nat) (N : Nat) (q : QS) : Nat × QS := rd L T 0 (N - 1) q
def vc (L : Nat) (T : Nat → Nat) (N C : Nat) (q : QS) : Nat × QS := rd L T 0 (C - 1) (vn L T N q).2
def vv (L : Nat) (T : Nat → Nat) (N C : Nat) (q : QS) : Nat × QS := rd L T 0 3 (vc L T N C q).2
def ver (L : Nat) (T : Nat → Nat) (N C f : Nat) (q : QS) (Z : ZS) : QS × ZS := ((vv L T N C q).2, (Z.1, Z.2.1, rup Z.2.2 (2 + 15 * (vn L T N q).1 + f + (vc L T N C q).1) (vv L T N C q).1))
def itm (L : Nat) (T : Nat → Nat) (N C p : Nat) (Z : ZS) : QS × ZS := if T p = 110 ∧ 1 < C ∧ Z.1 < 10 then rul L T C 0 (p + 1, false) Z else if T p = 120 ∧ 1 < C ∧ Z.1 < 10 then rul L T C 1 (p + 1, false) Z else if T p = 119 then ver L T N C 6 (p + 1, false) Z else if T p = 118 then ver L T N C 0 (p + 1, false) Z else ((p, true), Z)
def itms (L : Nat) (T : Nat → Nat) (N C : Nat) : Nat → QS → ZS → QS × ZS
  | 0, q, Z => (q, Z)
  | d + 1, q, Z => if q.2 = false ∧ q.1 < L then itms L T N C d (itm L T N C q.1 Z).1 (itm L T N C q.1 Z).2 else (q, Z)
theorem itms_t {L : Nat} {T : Nat → Nat} {N C d : Nat} {q : QS} {Z : ZS} (h : q.2 = false ∧ q.1 < L) : itms L T N C (d + 1) q Z = itms L T N C d (itm L T N C q.1 Z).1 (itm L T N C q.1 Z).2 := if_pos h
theorem itms_f {L : Nat} {T : Nat → Nat} {N C : Nat} {q : QS} {Z : ZS} (h : ¬ (q.2 = false ∧ q.1 < L)) : ∀ d, itms L T N C d q Z = (q, Z)
  | 0 => rfl
  | d + 1 => if_neg h
def WZ (N C : Nat) (Z : ZS) : Prop := (Z.1 ≤ 10 ∧ ∀ r, r < Z.1 → Z.2.1 (5 * r) ≤ 1 ∧ Z.2.1 (5 * r + 1) < C ∧ (1 ≤ Z.2.1 (5 * r + 2) ∧ Z.2.1 (5 * r + 2) ≤ 3) ∧ Z.2.1 (5 * r + 3) < C ∧ (1 ≤ Z.2.1 (5 * r + 4) ∧ Z.2.1 (5 * r + 4) ≤ 3)) ∧ (Z.2.2 0 = 0 ∧ Z.2.2 1 = 0 ∧ ∀ k, Z.2.2 k ≤ 60) ∧
  (∀ n, n < N → (∀ c, c < C → Z.2.2 (2 + 15 * n + c) < 4 ∧ Z.2.2 (2 + 15 * n + 6 + c) < 4) ∧ Z.2.2 (2 + 15 * n + 12) = 0 ∧ Z.2.2 (2 + 15 * n + 13) = 0 ∧ Z.2.2 (2 + 15 * n + 14) = 0) ∧ ∀ c, c < C → Z.2.2 (77 + 5 * c) ≤ 5 ∧ ∀ v, v < 4 → Z.2.2 (77 + 5 * c + 1 + v) = 0
section LU
variable {law : Nat → Nat} {rc kind a x b y k : Nat}
theorem lawU_lt (h : k < 5 * rc) : lawU law rc kind a x b y k = law k := by
  unfold lawU; rw [rup_n (by omega), rup_n (by omega), rup_n (by omega), rup_n (by omega), rup_n (by omega)]
theorem lawU_0 : lawU law rc kind a x b y (5 * rc) = kind := by
  unfold lawU; rw [rup_n (by omega), rup_n (by omega), rup_n (by omega), rup_n (by omega), rup_s]
theorem lawU_1 : lawU law rc kind a x b y (5 * rc + 1) = a := by
  unfold lawU; rw [rup_n (by omega), rup_n (by omega), rup_n (by omega), rup_s]
theorem lawU_2 : lawU law rc kind a x b y (5 * rc + 2) = x := by
  unfold lawU; rw [rup_n (by omega), rup_n (by omega), rup_s]
theorem lawU_3 : lawU law rc kind a x b y (5 * rc + 3) = b := by
  unfold lawU; rw [rup_n (by omega), rup_s]
theorem lawU_4 : lawU law rc kind a x b y (5 * rc + 4) = y := by
  unfold lawU; rw [rup_s]
end LU
section WI
variable {L : Nat} {T : Nat → Nat} {N C kind f p : Nat} {q : QS} {Z : ZS}
theorem wz_rul (hC : 1 ≤ C) (hk : kind ≤ 1) (hr : Z.1 < 10) (hZ : WZ N C Z) : WZ N C (rul L T C kind q Z).2 := by
  obtain ⟨⟨h1, h2⟩, h3⟩ := hZ
  refine ⟨⟨?_, fun r hr2 => ?_⟩, h3⟩
  · show Z.1 + 1 ≤ 10
    omega
  · have hr2 : r < Z.1 + 1 := hr2
    show lawU Z.2.1 Z.1 kind (ra L T C q).1 (rx L T C q).1 (rb L T C q).1 (ry L T C q).1 (5 * r) ≤ 1 ∧ lawU Z.2.1 Z.1 kind (ra L T C q).1 (rx L T C q).1 (rb L T C q).1 (ry L T C q).1 (5 * r + 1) < C ∧ (1 ≤ lawU Z.2.1 Z.1 kind (ra L T C q).1 (rx L T C q).1 (rb L T C q).1 (ry L T C q).1 (5 * r + 2) ∧ lawU Z.2.1 Z.1 kind (ra L T C q).1 (rx L T C q).1 (rb L T C q).1 (ry L T C q).1 (5 * r + 2) ≤ 3) ∧ lawU Z.2.1 Z.1 kind (ra L T C q).1 (rx L T C q).1 (rb L T C q).1 (ry L T C q).1 (5 * r + 3) < C ∧ (1 ≤ lawU Z.2.1 Z.1 kind (ra L T C q).1 (rx L T C q).1 (rb L T C q).1 (ry L T C q).1 (5 * r + 4) ∧ lawU Z.2.1 Z.1 kind (ra L T C q).1 (rx L T C q).1 (rb L T C q).1 (ry L T C q).1 (5 * r + 4) ≤ 3)
    by_cases hrz : r = Z.1
    · subst hrz
      rw [lawU_0, lawU_1, lawU_2, lawU_3, lawU_4]
      have a1 : (ra L T C q).1 ≤ C - 1 := (rd_rng (Nat.zero_le _)).2
      have b1 : (rb L T C q).1 ≤ C - 1 := rdb_rng
      exact ⟨hk, by omega, rd_rng (by omega), by omega, rd_rng (by omega)⟩
    · rw [lawU_lt (by omega), lawU_lt (by omega), lawU_lt (by omega), lawU_lt (by omega), lawU_lt (by omega)]
      exact h2 r (by omega)
theorem wz_rup {S : RW} {law : Nat → Nat} {rc n c v : Nat} (hN : N ≤ 5) (hC6 : C ≤ 6) (hn : n < N) (hc : c < C) (hv : v < 4) (hf : f = 0 ∨ f = 6) (hZ : WZ N C (rc, law, S)) : WZ N C (rc, law, rup S (2 + 15 * n + f + c) v) := by
  obtain ⟨h1, ⟨h2, h3, h4⟩, h5, h6⟩ := hZ
  have key : ∀ (g : Nat → Prop) (j : Nat), (2 + 15 * n + f + c = j → g v) → g (S j) → g (rup S (2 + 15 * n + f + c) v j) := fun g j hq hs => by
    unfold rup
    by_cases h : j = 2 + 15 * n + f + c
    · rw [if_pos h]; exact hq h.symm
    · rw [if_neg h]; exact hs
  refine ⟨h1, ⟨key (fun x => x = 0) 0 (fun e => by omega) h2, key (fun x => x = 0) 1 (fun e => by omega) h3, fun k => key (fun x => x ≤ 60) k (fun _ => by omega) (h4 k)⟩, fun m hm => ?_, fun d hd => ?_⟩
  · obtain ⟨g1, g2, g3, g4⟩ := h5 m hm
    refine ⟨fun d hd => ⟨key (fun x => x < 4) _ (fun _ => hv) (g1 d hd).1, key (fun x => x < 4) _ (fun _ => hv) (g1 d hd).2⟩, key (fun x => x = 0) _ (fun e => by omega) g2, key (fun x => x = 0) _ (fun e => by omega) g3, key (fun x => x = 0) _ (fun e => by omega) g4⟩
  · obtain ⟨g1, g2⟩ := h6 d hd
    exact ⟨key (fun x => x ≤ 5) _ (fun e => by omega) g1, fun w hw => key (fun x => x = 0) _ (fun e => by omega) (g2 w hw)⟩
theorem wz_ver (hN : 1 ≤ N ∧ N ≤ 5) (hC : 1 ≤ C ∧ C ≤ 6) (hf : f = 0 ∨ f = 6) (hZ : WZ N C Z) : WZ N C (ver L T N C f q Z).2 := by
  have n1 : (vn L T N q).1 ≤ N - 1 := (rd_rng (Nat.zero_le _)).2
  have c1 : (vc L T N C q).1 ≤ C - 1 := (rd_rng (Nat.zero_le _)).2
  have v1 : (vv L T N C q).1 ≤ 3 := (rd_rng (Nat.zero_le _)).2
  exact wz_rup (rc := Z.1) (law := Z.2.1) (S := Z.2.2) hN.2 hC.2 (by omega) (by omega) (by omega) hf hZ
theorem wz_itm (hN : 1 ≤ N ∧ N ≤ 5) (hC : 1 ≤ C ∧ C ≤ 6) (hZ : WZ N C Z) : WZ N C (itm L T N C p Z).2 := by
  unfold itm
  by_cases h1 : T p = 110 ∧ 1 < C ∧ Z.1 < 10
  · rw [if_pos h1]; exact wz_rul hC.1 (by omega) h1.2.2 hZ
  · rw [if_neg h1]
    by_cases h2 : T p = 120 ∧ 1 < C ∧ Z.1 < 10
    · rw [if_pos h2]; exact wz_rul hC.1 (by omega) h2.2.2 hZ
    · rw [if_neg h2]
      by_cases h3 : T p = 119
      · rw [if_pos h3]; exact wz_ver hN hC (Or.inr rfl) hZ
      · rw [if_neg h3]
        by_cases h4 : T p = 118
        · rw [if_pos h4]; exact wz_ver hN hC (Or.inl rfl) hZ
        · rw [if_neg h4]; exact hZ
theorem wz_itms (hN : 1 ≤ N ∧ N ≤ 5) (hC : 1 ≤ C ∧ C ≤ 6) : ∀ d q Z, WZ N C Z → WZ N C (itms L T N C d q Z).2
  | 0, q, Z, h => h
  | d + 1, q, Z, h => by
    by_cases hq : q.2 = false ∧ q.1 < L
    · rw [itms_t hq]; exact wz_itms hN hC d _ _ (wz_itm hN hC h)
    · rw [itms_f hq]; exact h
end WI
/-! ===== the class's items ===== -/
def CZ (F : MM) (N C : Nat) (Z : ZS) : Prop := F 2 4 = nI Z.1 ∧ (∀ k, k < 5 * Z.1 → F 5 k = nI (Z.2.1 k)) ∧ ∀ n, n < N → F 6 n = nI (codN Z.2.2 (2 + 15 * n + 0) C) ∧ F 7 n = nI (codN Z.2.2 (2 + 15 * n + 6) C)
section CI
variable {F F1 : MM} {L : Nat} {T : Nat → Nat} {N C kind f p : Nat} {q : QS} {Z : ZS}
theorem c_rule (hC : 1 ≤ C ∧ C ≤ 6) (hr : Z.1 < 10) (hQ : CS F L T q) (e1 : F 2 1 = nI C) (hZ : CZ F N C Z) : ∃ F1, s_X6_readRule F (nI kind) = some F1 ∧ CS F1 L T (rul L T C kind q Z).1 ∧ CZ F1 N C (rul L T C kind q Z).2 ∧ (∀ j, j < 4 → F1 2 j = F 2 j) ∧ ∀ a, a ≠ 2 → a ≠ 5 → F1 a = F a := by
  obtain ⟨rc, law, S⟩ := Z
  obtain ⟨z1, z2, z3⟩ := hZ
  have hr : rc < 10 := hr
  have z1 : F 2 4 = nI rc := z1
  have z2 : ∀ k, k < 5 * rc → F 5 k = nI (law k) := z2
  have eC : nI C - 1 = nI (C - 1) := by rw [li_1, pk_sub (by omega)]
  have y1 : nI rc * 5 = nI (5 * rc) := by rw [li_5, pk_mul, Nat.mul_comm]
  have a1 : (ra L T C q).1 ≤ C - 1 := (rd_rng (Nat.zero_le _)).2
  obtain ⟨G0, h0⟩ : ∃ G, G = mup F 5 (5 * rc) (nI kind) := ⟨_, rfl⟩
  have q0 : CS G0 L T q := by rw [h0]; exact cs_fr hQ (mup_ne (by omega)) (fun j _ _ => by rw [mup_ne (by omega)])
  obtain ⟨F1, r1, q1, f1, g1⟩ := c_rd (lo := 0) (hi := C - 1) (l := 0) rfl eC (by omega) (by omega) q0
  obtain ⟨G1, h1⟩ : ∃ G, G = mup F1 5 (5 * rc + 1) (nI (ra L T C q).1) := ⟨_, rfl⟩
  have q1b : CS G1 L T (ra L T C q).2 := by rw [h1]; exact cs_fr q1 (mup_ne (by omega)) (fun j _ _ => by rw [mup_ne (by omega)])
  obtain ⟨F2, r2, q2, f2, g2⟩ := c_rd (lo := 1) (hi := 3) (l := 1) (h := 3) rfl rfl (by omega) (by omega) q1b
  obtain ⟨G2, h2⟩ : ∃ G, G = mup F2 5 (5 * rc + 2) (nI (rx L T C q).1) := ⟨_, rfl⟩
  have q2b : CS G2 L T (rx L T C q).2 := by rw [h2]; exact cs_fr q2 (mup_ne (by omega)) (fun j _ _ => by rw [mup_ne (by omega)])
  obtain ⟨F3, r3, q3, f3, g3⟩ := c_rdb (b := (ra L T C q).1) (hi := C - 1) rfl eC (by omega) (by omega) q2b
  obtain ⟨G3, h3⟩ : ∃ G, G = mup F3 5 (5 * rc + 3) (nI (rb L T C q).1) := ⟨_, rfl⟩
  have q3b : CS G3 L T (rb L T C q).2 := by rw [h3]; exact cs_fr q3 (mup_ne (by omega)) (fun j _ _ => by rw [mup_ne (by omega)])
  obtain ⟨F4, r4, q4, f4, g4⟩ := c_rd (lo := 1) (hi := 3) (l := 1) (h := 3) rfl rfl (by omega) (by omega) q3b
  obtain ⟨G4, h4⟩ : ∃ G, G = mup F4 5 (5 * rc + 4) (nI (ry L T C q).1) := ⟨_, rfl⟩
  have n2 : ∀ j, j ≠ 12 → j ≠ 13 → G4 2 j = F 2 j := fun j j1 j2 => by
    rw [h4, mup_ne (by omega), g4 j j1 j2, h3, mup_ne (by omega), g3 j j1 j2, h2, mup_ne (by omega), g2 j j1 j2, h1, mup_ne (by omega), g1 j j1 j2, h0, mup_ne (by omega)]
  have n5 : G4 5 = upd (upd (upd (upd (upd (F 5) (5 * rc) (nI kind)) (5 * rc + 1) (nI (ra L T C q).1)) (5 * rc + 2) (nI (rx L T C q).1)) (5 * rc + 3) (nI (rb L T C q).1)) (5 * rc + 4) (nI (ry L T C q).1) := by
    rw [h4, mup_self, f4 5 (by omega), h3, mup_self, f3 5 (by omega), h2, mup_self, f2 5 (by omega), h1, mup_self, f1 5 (by omega), h0, mup_self]
  have q4b : CS (mup G4 2 4 (nI (rc + 1))) L T (ry L T C q).2 := by
    refine cs_fr (F := G4) ?_ (mup_ne (by omega)) (fun j _ _ => by rw [mup_self, pk_un (by omega)])
    rw [h4]; exact cs_fr q4 (mup_ne (by omega)) (fun j _ _ => by rw [mup_ne (by omega)])
  refine ⟨mup G4 2 4 (nI (rc + 1)), ?_, q4b, ⟨?_, fun k hk => ?_, fun n hn => ?_⟩, fun j hj => by rw [mup_self, pk_un (by omega), n2 j (by omega) (by omega)], fun a b1 b2 => ?_⟩
  · have r1 : s_X6_readDigit G0 0 (nI C - 1) = some (nI (ra L T C q).1, F1) := r1
    have r2 : s_X6_readDigit G1 1 3 = some (nI (rx L T C q).1, F2) := r2
    have r3 : s_X6_readDigitBut G2 (nI (ra L T C q).1) (nI C - 1) = some (nI (rb L T C q).1, F3) := r3
    have r4 : s_X6_readDigit G3 1 3 = some (nI (ry L T C q).1, F4) := r4
    have c0 : G0 2 1 = nI C := by rw [h0, mup_ne (by omega)]; exact e1
    have c2 : G2 2 1 = nI C := by rw [h2, mup_ne (by omega), g2 1 (by omega) (by omega), h1, mup_ne (by omega), g1 1 (by omega) (by omega)]; exact c0
    have c5 : G2 5 (5 * rc + 1) = nI (ra L T C q).1 := by rw [h2, mup_self, pk_un (by omega), f2 5 (by omega), h1, mup_self, pk_us]
    have c4 : G4 2 4 = nI rc := by rw [n2 4 (by omega) (by omega)]; exact z1
    have i0 := inb_nI (show 5 * rc < 50 by omega) (by decide)
    have i1 := inb_nI (show 5 * rc + 1 < 50 by omega) (by decide)
    have i2 := inb_nI (show 5 * rc + 2 < 50 by omega) (by decide)
    have i3 := inb_nI (show 5 * rc + 3 < 50 by omega) (by decide)
    have i4 := inb_nI (show 5 * rc + 4 < 50 by omega) (by decide)
    have x0 := ix_nI (show 5 * rc < 2 ^ 31 by omega)
    have x1 := ix_nI (show 5 * rc + 1 < 2 ^ 31 by omega)
    have x2 := ix_nI (show 5 * rc + 2 < 2 ^ 31 by omega)
    have x3 := ix_nI (show 5 * rc + 3 < 2 ^ 31 by omega)
    have x4 := ix_nI (show 5 * rc + 4 < 2 ^ 31 by omega)
    unfold s_X6_readRule
    rw [z1, y1]
    simp only [ad_k _ 1 (show (1 : Int32) = nI 1 from rfl), ad_k _ 2 (show (2 : Int32) = nI 2 from rfl), ad_k _ 3 (show (3 : Int32) = nI 3 from rfl), ad_k _ 4 (show (4 : Int32) = nI 4 from rfl), bnd_, i0, i1, i2, i3, i4, x0, x1, x2, x3, x4, if_true, ← h0, c0, r1, ← h1, r2, ← h2, c2, c5, r3, ← h3, r4, ← h4, c4]
  · rw [mup_self, pk_us]; rfl
  · have hk : k < 5 * (rc + 1) := hk
    rw [mup_ne (by omega), n5]
    show _ = nI (lawU law rc kind (ra L T C q).1 (rx L T C q).1 (rb L T C q).1 (ry L T C q).1 k)
    by_cases hk0 : k < 5 * rc
    · rw [lawU_lt hk0, pk_un (by omega), pk_un (by omega), pk_un (by omega), pk_un (by omega), pk_un (by omega)]; exact z2 k hk0
    · rcases (show k = 5 * rc ∨ k = 5 * rc + 1 ∨ k = 5 * rc + 2 ∨ k = 5 * rc + 3 ∨ k = 5 * rc + 4 by omega) with rfl | rfl | rfl | rfl | rfl
      · rw [lawU_0, pk_un (by omega), pk_un (by omega), pk_un (by omega), pk_un (by omega), pk_us]
      · rw [lawU_1, pk_un (by omega), pk_un (by omega), pk_un (by omega), pk_us]
      · rw [lawU_2, pk_un (by omega), pk_un (by omega), pk_us]
      · rw [lawU_3, pk_un (by omega), pk_us]
      · rw [lawU_4, pk_us]
  · rw [mup_ne (by omega), mup_ne (by omega), h4, mup_ne (by omega), mup_ne (by omega), f4 6 (by omega), f4 7 (by omega), h3, mup_ne (by omega), mup_ne (by omega), f3 6 (by omega), f3 7 (by omega), h2, mup_ne (by omega), mup_ne (by omega), f2 6 (by omega), f2 7 (by omega), h1, mup_ne (by omega), mup_ne (by omega), f1 6 (by omega), f1 7 (by omega), h0, mup_ne (by omega), mup_ne (by omega)]
    exact z3 n hn
  · rw [mup_ne b1, h4, mup_ne b2, f4 a b1, h3, mup_ne b2, f3 a b1, h2, mup_ne b2, f2 a b1, h1, mup_ne b2, f1 a b1, h0, mup_ne b2]
theorem c_version {g : Nat} (hg : (g = 6 ∧ f = 0) ∨ (g = 7 ∧ f = 6)) (hN : 1 ≤ N ∧ N ≤ 5) (hC : 1 ≤ C ∧ C ≤ 6) (hQ : CS F L T q) (e0 : F 2 0 = nI N) (e1 : F 2 1 = nI C) (hZ : CZ F N C Z) (hW : WZ N C Z) : ∃ F1, s_X6_readVersion F g = some F1 ∧ CS F1 L T (ver L T N C f q Z).1 ∧ CZ F1 N C (ver L T N C f q Z).2 ∧ (∀ j, j < 4 → F1 2 j = F 2 j) ∧ ∀ a, a ≠ 2 → a ≠ g → F1 a = F a := by
  obtain ⟨rc, law, S⟩ := Z
  obtain ⟨z1, z2, z3⟩ := hZ
  have z3 : ∀ n, n < N → F 6 n = nI (codN S (2 + 15 * n + 0) C) ∧ F 7 n = nI (codN S (2 + 15 * n + 6) C) := z3
  have hal : alen g = 5 := by rcases hg with ⟨h, -⟩ | ⟨h, -⟩ <;> rw [h] <;> decide
  have h6 := pow4_le hC.2
  have eN : nI N - 1 = nI (N - 1) := by rw [li_1, pk_sub (by omega)]
  have eC : nI C - 1 = nI (C - 1) := by rw [li_1, pk_sub (by omega)]
  have n1 : (vn L T N q).1 ≤ N - 1 := (rd_rng (Nat.zero_le _)).2
  have c1 : (vc L T N C q).1 ≤ C - 1 := (rd_rng (Nat.zero_le _)).2
  have v1 : (vv L T N C q).1 ≤ 3 := (rd_rng (Nat.zero_le _)).2
  obtain ⟨F1, r1, q1, f1, g1⟩ := c_rd (lo := 0) (hi := N - 1) (l := 0) rfl eN (by omega) (by omega) hQ
  obtain ⟨F2, r2, q2, f2, g2⟩ := c_rd (lo := 0) (hi := C - 1) (l := 0) rfl eC (by omega) (by omega) q1
  obtain ⟨F3, r3, q3, f3, g3⟩ := c_rd (lo := 0) (hi := 3) (l := 0) (h := 3) rfl rfl (by omega) (by omega) q2
  have r1 : s_X6_readDigit F 0 (nI N - 1) = some (nI (vn L T N q).1, F1) := r1
  have r2 : s_X6_readDigit F1 0 (nI C - 1) = some (nI (vc L T N C q).1, F2) := r2
  have r3 : s_X6_readDigit F2 0 3 = some (nI (vv L T N C q).1, F3) := r3
  have q3 : CS F3 L T (vv L T N C q).2 := q3
  have hlt : ∀ n, n < N → ∀ c, c < C → S (2 + 15 * n + f + c) < 4 := fun n hn c hc => by
    have := (hW.2.2.1 n hn).1 c hc
    rcases hg with ⟨-, h⟩ | ⟨-, h⟩
    · rw [h]; exact this.1
    · rw [h]; exact this.2
  have eg : ∀ n, n < N → F g n = nI (codN S (2 + 15 * n + f) C) := fun n hn => by
    rcases hg with ⟨h, h'⟩ | ⟨h, h'⟩
    · rw [h, h']; exact (z3 n hn).1
    · rw [h, h']; exact (z3 n hn).2
  show ∃ F1, s_X6_readVersion F g = some F1 ∧ CS F1 L T (vv L T N C q).2 ∧ CZ F1 N C (rc, law, rup S (2 + 15 * (vn L T N q).1 + f + (vc L T N C q).1) (vv L T N C q).1) ∧ _
  generalize (vn L T N q).1 = n at *
  generalize (vc L T N C q).1 = c at *
  generalize (vv L T N C q).1 = v at *
  have hn : n < N := by omega
  have hx : codN S (2 + 15 * n + f) C < 4096 := Nat.lt_of_lt_of_le (codN_lt C (hlt n hn)) h6
  have ew : wth (codN S (2 + 15 * n + f) C) c v = codN (rup S (2 + 15 * n + f + c) v) (2 + 15 * n + f) C := codN_wth C (hlt n hn) c (by omega)
  have g3n : F3 g n = nI (codN S (2 + 15 * n + f) C) := by rw [f3 g (by omega), f2 g (by omega), f1 g (by omega)]; exact eg n hn
  have ex : (F3 g n &&& (((3 : Int32) <<< ((2 * nI c) &&& 31)) ^^^ (-1))) ||| (nI v <<< ((2 * nI c) &&& 31)) = nI (codN (rup S (2 + 15 * n + f + c) v) (2 + 15 * n + f) C) := by rw [g3n, i_wth hx (by omega) (by omega), ew]
  refine ⟨mup F3 g n (nI (codN (rup S (2 + 15 * n + f + c) v) (2 + 15 * n + f) C)), ?_, cs_fr q3 (mup_ne (by omega)) (fun j _ _ => by rw [mup_ne (by omega)]), ⟨?_, fun k hk => ?_, fun m hm => ?_⟩, fun j hj => ?_, fun a b1 b2 => ?_⟩
  · have d1 : F1 2 1 = nI C := by rw [g1 1 (by omega) (by omega)]; exact e1
    unfold s_X6_readVersion s_X0_with
    simp only [e0, r1, bnd_, d1, r2, r3, hal, inb_nI (show n < 5 by omega) (show 5 < 2 ^ 31 by omega), ix_nI (show n < 2 ^ 31 by omega), if_true, ex]
  · rw [mup_ne (by omega), g3 4 (by omega) (by omega), g2 4 (by omega) (by omega), g1 4 (by omega) (by omega)]; exact z1
  · rw [mup_ne (by omega), f3 5 (by omega), f2 5 (by omega), f1 5 (by omega)]; exact z2 k hk
  · have other : ∀ y m, (m ≠ n ∨ y ≠ f) → (y = 0 ∨ y = 6) → m < N → codN (rup S (2 + 15 * n + f + c) v) (2 + 15 * m + y) C = codN S (2 + 15 * m + y) C := fun y m h9 hy hm => codN_congr C (fun d hd => rup_n (by omega))
    show mup F3 g n _ 6 m = nI (codN (rup S (2 + 15 * n + f + c) v) (2 + 15 * m + 0) C) ∧ mup F3 g n _ 7 m = nI (codN (rup S (2 + 15 * n + f + c) v) (2 + 15 * m + 6) C)
    have w6 : F3 6 m = nI (codN S (2 + 15 * m + 0) C) := by rw [f3 6 (by omega), f2 6 (by omega), f1 6 (by omega)]; exact (z3 m hm).1
    have w7 : F3 7 m = nI (codN S (2 + 15 * m + 6) C) := by rw [f3 7 (by omega), f2 7 (by omega), f1 7 (by omega)]; exact (z3 m hm).2
    rcases hg with ⟨h, h'⟩ | ⟨h, h'⟩
    · subst h; subst h'
      constructor
      · rw [mup_self]
        by_cases hmn : m = n
        · rw [hmn, pk_us]
        · rw [pk_un hmn, other 0 m (Or.inl hmn) (Or.inl rfl) hm]; exact w6
      · rw [mup_ne (by omega), other 6 m (Or.inr (by omega)) (Or.inr rfl) hm]; exact w7
    · subst h; subst h'
      constructor
      · rw [mup_ne (by omega), other 0 m (Or.inr (by omega)) (Or.inl rfl) hm]; exact w6
      · rw [mup_self]
        by_cases hmn : m = n
        · rw [hmn, pk_us]
        · rw [pk_un hmn, other 6 m (Or.inl hmn) (Or.inr rfl) hm]; exact w7
  · rw [mup_ne (by omega), g3 j (by omega) (by omega), g2 j (by omega) (by omega), g1 j (by omega) (by omega)]
  · rw [mup_ne b2, f3 a b1, f2 a b1, f1 a b1]
theorem cz_fr (hZ : CZ F N C Z) (h1 : F1 2 4 = F 2 4) (h5 : F1 5 = F 5) (h6 : F1 6 = F 6) (h7 : F1 7 = F 7) : CZ F1 N C Z := by
  unfold CZ
  rw [h1, h5, h6, h7]
  exact hZ
theorem c_item (hN : 1 ≤ N ∧ N ≤ 5) (hC : 1 ≤ C ∧ C ≤ 6) (hp : p < L) (hQ : CS F L T (p, false)) (e0 : F 2 0 = nI N) (e1 : F 2 1 = nI C) (hZ : CZ F N C Z) (hW : WZ N C Z) : ∃ F1, s_X6_readItem F (nI (T p)) = some F1 ∧ CS F1 L T (itm L T N C p Z).1 ∧ CZ F1 N C (itm L T N C p Z).2 ∧ (∀ j, j < 4 → F1 2 j = F 2 j) ∧ ∀ a, a ≠ 2 → a ≠ 5 → a ≠ 6 → a ≠ 7 → F1 a = F a := by
  have ht := hQ.2.2.2.2.2.2 p hp
  have e4 : F 2 4 = nI Z.1 := hZ.1
  have h10 := hW.1.1
  have e12 : F 2 12 = nI p := hQ.2.1
  obtain ⟨G, hG⟩ : ∃ G, G = mup F 2 12 (nI (p + 1)) := ⟨_, rfl⟩
  have qG : CS G L T (p + 1, false) := by rw [hG]; exact cs_next hQ rfl hp
  have nG : ∀ j, j ≠ 12 → G 2 j = F 2 j := fun j hj => by rw [hG, mup_self, pk_un hj]
  have mG : ∀ a, a ≠ 2 → G a = F a := fun a ha => by rw [hG, mup_ne ha]
  have zG : CZ G N C Z := cz_fr hZ (nG 4 (by omega)) (mG 5 (by omega)) (mG 6 (by omega)) (mG 7 (by omega))
  have c110 : (nI (T p) = 110) ↔ T p = 110 := by rw [li_110]; exact nI_eq (by omega) (by omega)
  have c120 : (nI (T p) = 120) ↔ T p = 120 := by rw [li_120]; exact nI_eq (by omega) (by omega)
  have c119 : (nI (T p) = 119) ↔ T p = 119 := by rw [li_119]; exact nI_eq (by omega) (by omega)
  have c118 : (nI (T p) = 118) ↔ T p = 118 := by rw [li_118]; exact nI_eq (by omega) (by omega)
  have hV : ∀ g f, (g = 6 ∧ f = 0) ∨ (g = 7 ∧ f = 6) → ∃ F1, s_X6_readVersion G g = some F1 ∧ CS F1 L T (ver L T N C f (p + 1, false) Z).1 ∧ CZ F1 N C (ver L T N C f (p + 1, false) Z).2 ∧ (∀ j, j < 4 → F1 2 j = F 2 j) ∧ ∀ a, a ≠ 2 → a ≠ 5 → a ≠ 6 → a ≠ 7 → F1 a = F a := fun g f hg => by
    obtain ⟨F1, r, k1, k2, k3, k4⟩ := c_version (q := (p + 1, false)) hg hN hC qG (by rw [nG 0 (by omega)]; exact e0) (by rw [nG 1 (by omega)]; exact e1) zG hW
    exact ⟨F1, r, k1, k2, fun j hj => by rw [k3 j hj, nG j (by omega)], fun a b1 b2 b3 b4 => by rw [k4 a b1 (by omega), mG a b1]⟩
  have hR : ∀ kind, Z.1 < 10 → ∃ F1, s_X6_readRule G (nI kind) = some F1 ∧ CS F1 L T (rul L T C kind (p + 1, false) Z).1 ∧ CZ F1 N C (rul L T C kind (p + 1, false) Z).2 ∧ (∀ j, j < 4 → F1 2 j = F 2 j) ∧ ∀ a, a ≠ 2 → a ≠ 5 → a ≠ 6 → a ≠ 7 → F1 a = F a := fun kind hr => by
    obtain ⟨F1, r, k1, k2, k3, k4⟩ := c_rule (kind := kind) (q := (p + 1, false)) hC hr qG (by rw [nG 1 (by omega)]; exact e1) zG
    exact ⟨F1, r, k1, k2, fun j hj => by rw [k3 j hj, nG j (by omega)], fun a b1 b2 b3 b4 => by rw [k4 a b1 b2, mG a b1]⟩
  have h79 : ¬ (T p = 110 ∧ 1 < C ∧ Z.1 < 10) → ¬ (T p = 120 ∧ 1 < C ∧ Z.1 < 10) → ∃ F1, s_X6_readItem_b79 F (nI (T p)) = some F1 ∧ CS F1 L T (itm L T N C p Z).1 ∧ CZ F1 N C (itm L T N C p Z).2 ∧ (∀ j, j < 4 → F1 2 j = F 2 j) ∧ ∀ a, a ≠ 2 → a ≠ 5 → a ≠ 6 → a ≠ 7 → F1 a = F a := fun n1 n2 => by
    unfold itm s_X6_readItem_b79
    rw [if_neg n1, if_neg n2, e12, nI_1, ← hG]
    by_cases h3 : T p = 119
    · rw [if_pos h3, if_pos (c119.mpr h3), bnd_]
      obtain ⟨F1, r, k⟩ := hV 7 6 (Or.inr ⟨rfl, rfl⟩)
      exact ⟨F1, by rw [r, bnd_], k⟩
    · rw [if_neg h3, if_neg (fun h => h3 (c119.mp h))]
      by_cases h4 : T p = 118
      · rw [if_pos h4, if_pos (c118.mpr h4), bnd_]
        obtain ⟨F1, r, k⟩ := hV 6 0 (Or.inl ⟨rfl, rfl⟩)
        exact ⟨F1, by rw [r, bnd_], k⟩
      · rw [if_neg h4, if_neg (fun h => h4 (c118.mp h)), bnd_]
        exact ⟨_, rfl, cs_fail hQ, cz_fr hZ (by rw [mup_self, pk_un (by omega)]) (mup_ne (by omega)) (mup_ne (by omega)) (mup_ne (by omega)), fun j hj => by rw [mup_self, pk_un (by omega)], fun a b1 _ _ _ => mup_ne b1⟩
  have h22f : ¬ (1 < C ∧ Z.1 < 10) → ∃ F1, s_X6_readItem_b22 F (nI (T p)) 0 = some F1 ∧ CS F1 L T (itm L T N C p Z).1 ∧ CZ F1 N C (itm L T N C p Z).2 ∧ (∀ j, j < 4 → F1 2 j = F 2 j) ∧ ∀ a, a ≠ 2 → a ≠ 5 → a ≠ 6 → a ≠ 7 → F1 a = F a := fun hn => by
    obtain ⟨F1, r, k⟩ := h79 (fun h => hn h.2) (fun h => hn h.2)
    refine ⟨F1, ?_, k⟩
    unfold s_X6_readItem_b22 s_X6_readItem_b51
    simp only [ite_00, if_true, r, ite_self]
  unfold s_X6_readItem
  rw [e1, e4]
  by_cases hc : 1 < C
  · rw [if_neg (by rw [li_1, nI_leI (by omega) (by omega)]; omega)]
    by_cases hr : Z.1 < 10
    · rw [if_neg (by rw [li_10, nI_leI (by omega) (by omega)]; omega)]
      unfold s_X6_readItem_b22
      by_cases h1 : T p = 110
      · rw [if_pos (c110.mpr h1), if_neg i10_, e12, nI_1, ← hG, bnd_]
        unfold itm
        rw [if_pos ⟨h1, hc, hr⟩]
        obtain ⟨F1, r, k⟩ := hR 0 hr
        have r : s_X6_readRule G 0 = some F1 := r
        exact ⟨F1, by rw [r, bnd_], k⟩
      · rw [if_neg (fun h => h1 (c110.mp h))]
        unfold s_X6_readItem_b51
        by_cases h2 : T p = 120
        · rw [if_pos (c120.mpr h2), if_neg i10_, e12, nI_1, ← hG, bnd_]
          unfold itm
          rw [if_neg (fun h => h1 h.1), if_pos ⟨h2, hc, hr⟩]
          obtain ⟨F1, r, k⟩ := hR 1 hr
          have r : s_X6_readRule G 1 = some F1 := r
          exact ⟨F1, by rw [r, bnd_], k⟩
        · rw [if_neg (fun h => h2 (c120.mp h))]
          exact h79 (fun h => h1 h.1) (fun h => h2 h.1)
    · rw [if_pos (by rw [li_10, nI_leI (by omega) (by omega)]; omega)]
      exact h22f (fun h => hr h.2)
  · rw [if_pos (by rw [li_1, nI_leI (by omega) (by omega)]; omega)]
    exact h22f (fun h => hc h.1)
theorem c_items (hN : 1 ≤ N ∧ N ≤ 5) (hC : 1 ≤ C ∧ C ≤ 6) : ∀ d i fuel F q Z, i + d = 160 → d < fuel → CS F L T q → F 2 0 = nI N → F 2 1 = nI C → CZ F N C Z → WZ N C Z →
    ∃ F1, s_X6_readItems_b23 fuel F (nI i) = some F1 ∧ CS F1 L T (itms L T N C d q Z).1 ∧ CZ F1 N C (itms L T N C d q Z).2 ∧ (∀ j, j < 4 → F1 2 j = F 2 j) ∧ ∀ a, a ≠ 2 → a ≠ 5 → a ≠ 6 → a ≠ 7 → F1 a = F a
  | 0, i, fuel + 1, F, q, Z, h, _, hQ, e0, e1, hZ, hW => by
    have : i = 160 := by omega
    subst this
    exact ⟨F, by rw [s_X6_readItems_b23, if_pos (by decide)], hQ, hZ, fun _ _ => rfl, fun _ _ _ _ _ => rfl⟩
  | d + 1, i, fuel + 1, F, q, Z, h, hf, hQ, e0, e1, hZ, hW => by
    obtain ⟨h1, h2, h3, h4, h5, h6, h7⟩ := id hQ
    rw [s_X6_readItems_b23, if_neg (by rw [li_160, nI_leI (by omega) (by omega)]; omega), h1, h2, h3]
    by_cases hq : q.2 = false ∧ q.1 < L
    · obtain ⟨p, fl⟩ := q
      obtain ⟨hf2, hp⟩ := hq
      have hf2 : fl = false := hf2
      have hp : p < L := hp
      subst hf2
      rw [itms_t ⟨rfl, hp⟩]
      obtain ⟨F1, r1, q1, z1, g1, f1⟩ := c_item hN hC hp hQ e0 e1 hZ hW
      obtain ⟨F2, r2, q2, z2, g2, f2⟩ := c_items hN hC d (i + 1) fuel F1 _ _ (by omega) (by omega) q1 (by rw [g1 0 (by omega)]; exact e0) (by rw [g1 1 (by omega)]; exact e1) z1 (wz_itm hN hC hW)
      refine ⟨F2, ?_, q2, z2, fun j hj => by rw [g2 j hj, g1 j hj], fun a b1 b2 b3 b4 => by rw [f2 a b1 b2 b3 b4, f1 a b1 b2 b3 b4]⟩
      rw [if_pos b01_f]
      show (if nI L ≤ nI p then some F else if inb (nI p) 160 = true then (s_X6_readItem F (F 1 (ix (nI p)))).bind (fun F12 => (some (nI i + 1 : Int32)).bind (fun y13 => s_X6_readItems_b23 fuel F12 y13)) else none) = _
      rw [if_neg (by rw [nI_leI (by omega) (by omega)]; omega), inb_nI (by omega) (by omega), if_pos rfl, ix_nI (by omega), h4 p hp, r1, bnd_, bnd_, nI_1]
      exact r2
    · rw [itms_f hq]
      refine ⟨F, ?_, hQ, hZ, fun _ _ => rfl, fun _ _ _ _ _ => rfl⟩
      cases hb : q.2 with
      | true => rw [if_neg b01_t]
      | false =>
        rw [if_pos b01_f, if_pos (by rw [nI_leI (by omega) (by omega)]; have : ¬ q.1 < L := fun h9 => hq ⟨hb, h9⟩; omega)]
end CI
/-! ===== a whole text, by the class ===== -/
def S00 (L : Nat) (T : Nat → Nat) : RW := fun k => if 77 ≤ k ∧ (k - 77) % 5 = 0 ∧ (k - 77) / 5 < hC L T then hQu L T ((k - 77) / 5) else 0
def fin (L : Nat) (T : Nat → Nat) : QS × ZS := itms L T (hN L T) (hC L T) 160 (hq7 L T) (0, fun _ => 0, S00 L T)
def era (L : Nat) (T : Nat → Nat) : Int32 := if (fin L T).1.2 = false then -9 else nI (fin L T).1.1
theorem S00_q {L : Nat} {T : Nat → Nat} {c : Nat} (hc : c < hC L T) : S00 L T (77 + 5 * c) = hQu L T c := by
  unfold S00
  rw [if_pos (by omega), show (77 + 5 * c - 77) / 5 = c by omega]
theorem S00_0 {L : Nat} {T : Nat → Nat} {k : Nat} (h : k < 77 ∨ ¬ (k - 77) % 5 = 0) : S00 L T k = 0 := by
  unfold S00
  rw [if_neg (by omega)]
theorem wz_S00 (L : Nat) (T : Nat → Nat) : WZ (hN L T) (hC L T) (0, fun _ => 0, S00 L T) := by
  obtain ⟨rN, rC, -, -, -, -, rQ⟩ := hd_rng L T
  refine ⟨⟨by omega, fun r hr => absurd hr (Nat.not_lt_zero _)⟩, ⟨S00_0 (L := L) (T := T) (k := 0) (by omega), S00_0 (L := L) (T := T) (k := 1) (by omega), fun k => ?_⟩, fun n hn => ⟨fun c hc => ?_, S00_0 (L := L) (T := T) (k := 2 + 15 * n + 12) (by omega), S00_0 (L := L) (T := T) (k := 2 + 15 * n + 13) (by omega), S00_0 (L := L) (T := T) (k := 2 + 15 * n + 14) (by omega)⟩, fun c hc => ⟨?_, fun v hv => S00_0 (L := L) (T := T) (k := 77 + 5 * c + 1 + v) (by omega)⟩⟩
  · show S00 L T k ≤ 60
    unfold S00
    by_cases h : 77 ≤ k ∧ (k - 77) % 5 = 0 ∧ (k - 77) / 5 < hC L T
    · rw [if_pos h]; have := rQ ((k - 77) / 5); omega
    · rw [if_neg h]; omega
  · show S00 L T (2 + 15 * n + c) < 4 ∧ S00 L T (2 + 15 * n + 6 + c) < 4
    rw [S00_0 (by omega), S00_0 (by omega)]; omega
  · show S00 L T (77 + 5 * c) ≤ 5
    rw [S00_q hc]; exact rQ c
theorem codN_0 {S : RW} {b : Nat} : ∀ m, (∀ c, c < m → S (b + c) = 0) → codN S b m = 0
  | 0, _ => rfl
  | m + 1, h => by
    show codN S b m + S (b + m) * 4 ^ m = 0
    rw [codN_0 m (fun c hc => h c (by omega)), h m (by omega), Nat.zero_mul]
theorem c_read {F : MM} {L : Nat} {T : Nat → Nat} (hR : RTC F L T) (hL : L ≤ 160) (hT : ∀ k, k < L → T k < 256) : ∃ F1, s_X6_read F (F 0 1) = some (era L T, F1) ∧ F1 2 0 = nI (hN L T) ∧ F1 2 1 = nI (hC L T) ∧ F1 2 2 = nI (hLm L T) ∧ F1 2 3 = nI (hLe L T) ∧ (∀ k, k < hN L T → F1 3 k = nI (hRi L T k)) ∧ (∀ k, k < hC L T → F1 4 k = nI (hQu L T k)) ∧ CZ F1 (hN L T) (hC L T) (fin L T).2 ∧ (fin L T).1.1 ≤ L ∧ ∀ a, a < 2 ∨ 8 ≤ a → F1 a = F a := by
  obtain ⟨rN, rC, -⟩ := hd_rng L T
  obtain ⟨G, hG⟩ : ∃ G, G = mup (mup (mup F 2 11 (nI L)) 2 12 0) 2 13 0 := ⟨_, rfl⟩
  have fG : ∀ a, a ≠ 2 → G a = F a := fun a ha => by rw [hG, mup_ne ha, mup_ne ha, mup_ne ha]
  have qG : CS G L T (0, false) := by
    refine ⟨?_, ?_, ?_, fun k hk => by rw [fG 1 (by omega)]; exact hR.2 k hk, Nat.zero_le _, hL, hT⟩
    · rw [hG, mup_self, pk_un (by omega), mup_self, pk_un (by omega), mup_self, pk_us]
    · rw [hG, mup_self, pk_un (by omega), mup_self, pk_us]; rfl
    · rw [hG, mup_self, pk_us]; rfl
  obtain ⟨F1, r1, q1, a0, a1, a2, a3, a4, a5, f1⟩ := c_readHead qG
  obtain ⟨F2, r2, f2, v2⟩ := c_fill (q := 6) (N := 5) (v := 0) (F := mup F1 2 4 0) (by decide) (by omega)
  obtain ⟨F3, r3, f3, v3⟩ := c_fill (q := 7) (N := 5) (v := 0) (F := F2) (by decide) (by omega)
  have g3 : ∀ j, j ≠ 4 → F3 2 j = F1 2 j := fun j hj => by rw [f3 2 (by omega), f2 2 (by omega), mup_self, pk_un hj]
  have g34 : F3 2 4 = 0 := by rw [f3 2 (by omega), f2 2 (by omega), mup_self, pk_us]
  have q3 : CS F3 L T (hq7 L T) := cs_fr q1 (by rw [f3 1 (by omega), f2 1 (by omega), mup_ne (by omega)]) (fun j _ _ => g3 j (by omega))
  have z3 : CZ F3 (hN L T) (hC L T) (0, fun _ => 0, S00 L T) := by
    refine ⟨g34, fun k hk => absurd hk (Nat.not_lt_zero _), fun n hn => ?_⟩
    show F3 6 n = nI (codN (S00 L T) (2 + 15 * n + 0) (hC L T)) ∧ F3 7 n = nI (codN (S00 L T) (2 + 15 * n + 6) (hC L T))
    rw [codN_0 (S := S00 L T) (b := 2 + 15 * n + 0) (hC L T) (fun c hc => S00_0 (by omega)), codN_0 (S := S00 L T) (b := 2 + 15 * n + 6) (hC L T) (fun c hc => S00_0 (by omega))]
    exact ⟨by rw [f3 6 (by omega)]; exact v2 n (by omega), v3 n (by omega)⟩
  obtain ⟨F4, r4, q4, z4, g4, f4⟩ := c_items rN rC 160 0 fu_ F3 (hq7 L T) (0, fun _ => 0, S00 L T) (by omega) (fu_lt (by omega)) q3 (by rw [g3 0 (by omega)]; exact a0) (by rw [g3 1 (by omega)]; exact a1) z3 (wz_S00 L T)
  have r4 : s_X6_readItems_b23 fu_ F3 0 = some F4 := r4
  have q4 : CS F4 L T (fin L T).1 := q4
  refine ⟨F4, ?_, by rw [g4 0 (by omega), g3 0 (by omega)]; exact a0, by rw [g4 1 (by omega), g3 1 (by omega)]; exact a1, by rw [g4 2 (by omega), g3 2 (by omega)]; exact a2, by rw [g4 3 (by omega), g3 3 (by omega)]; exact a3, fun k hk => ?_, fun k hk => ?_, z4, q4.2.2.2.2.1, fun a ha => ?_⟩
  · unfold s_X6_read s_X6_readItems
    rw [hR.1, if_neg (show ¬ Int32.ofNat 160 < nI L from (fun h => by
      have h : nI 160 < nI L := h
      rw [nI_ltI (by omega) (by omega)] at h; omega))]
    simp only [bnd_]
    rw [← hG, r1, bnd_, r2, bnd_, r3, bnd_, r4, bnd_, q4.2.1, q4.2.2.1]
    unfold era
    cases hb : (fin L T).1.2 with
    | true => rw [if_neg b01_t, if_neg (by decide)]
    | false => rw [if_pos b01_f, if_pos rfl]
  · rw [f4 3 (by omega) (by omega) (by omega) (by omega), f3 3 (by omega), f2 3 (by omega), mup_ne (by omega)]; exact a4 k hk
  · rw [f4 4 (by omega) (by omega) (by omega) (by omega), f3 4 (by omega), f2 4 (by omega), mup_ne (by omega)]; exact a5 k hk
  · rw [f4 a (by omega) (by omega) (by omega) (by omega), f3 a (by omega), f2 a (by omega), mup_ne (by omega), f1 a (by omega) (by omega) (by omega), fG a (by omega)]
