/-! ===== the reference's items ===== -/
def MZ (G : MM) (Z : ZS) : Prop := G 164 13 = nI Z.1 ∧ (∀ k, k < 5 * Z.1 → G 169 k = nI (Z.2.1 k)) ∧ RRow G 170 Z.2.2
section OK
variable {L : Nat} {T : Nat → Nat} {N C kind f p : Nat} {q : QS} {Z : ZS}
theorem ry_ok (h : (ry L T C q).2.2 = false) : q.1 ≤ (ry L T C q).2.1 := by
  have h4 := rd_ok (q := (rb L T C q).2) h
  have h3 := rdb_ok (q := (rx L T C q).2) h4.1
  have h2 := rd_ok (q := (ra L T C q).2) h3.1
  have h1 := rd_ok (q := q) h2.1
  have e4 : (ry L T C q).2.1 = (rb L T C q).2.1 + 1 := h4.2
  have e3 : (rb L T C q).2.1 = (rx L T C q).2.1 + 1 := h3.2
  have e2 : (rx L T C q).2.1 = (ra L T C q).2.1 + 1 := h2.2
  have e1 : (ra L T C q).2.1 = q.1 + 1 := h1.2
  omega
theorem vv_ok (h : (vv L T N C q).2.2 = false) : q.1 ≤ (vv L T N C q).2.1 := by
  have h3 := rd_ok (q := (vc L T N C q).2) h
  have h2 := rd_ok (q := (vn L T N q).2) h3.1
  have h1 := rd_ok (q := q) h2.1
  have e3 : (vv L T N C q).2.1 = (vc L T N C q).2.1 + 1 := h3.2
  have e2 : (vc L T N C q).2.1 = (vn L T N q).2.1 + 1 := h2.2
  have e1 : (vn L T N q).2.1 = q.1 + 1 := h1.2
  omega
theorem itm_ok (h : (itm L T N C p Z).1.2 = false) : p + 1 ≤ (itm L T N C p Z).1.1 := by
  unfold itm at h ⊢
  by_cases h1 : T p = 110 ∧ 1 < C ∧ Z.1 < 10
  · rw [if_pos h1] at h ⊢; exact ry_ok (q := (p + 1, false)) h
  · rw [if_neg h1] at h ⊢
    by_cases h2 : T p = 120 ∧ 1 < C ∧ Z.1 < 10
    · rw [if_pos h2] at h ⊢; exact ry_ok (q := (p + 1, false)) h
    · rw [if_neg h2] at h ⊢
      by_cases h3 : T p = 119
      · rw [if_pos h3] at h ⊢; exact vv_ok (q := (p + 1, false)) h
      · rw [if_neg h3] at h ⊢
        by_cases h4 : T p = 118
        · rw [if_pos h4] at h ⊢; exact vv_ok (q := (p + 1, false)) h
        · rw [if_neg h4] at h; exact absurd (show true = false from h) (by decide)
end OK
section MI
variable {G G1 : MM} {L : Nat} {T : Nat → Nat} {N C kind f p : Nat} {q : QS} {Z : ZS}
theorem mz_fr (hZ : MZ G Z) (h1 : G1 164 13 = G 164 13) (h2 : G1 169 = G 169) (h3 : G1 170 = G 170) : MZ G1 Z := by
  unfold MZ RRow
  rw [h1, h2, h3]
  exact hZ
/-- an item, or a part of one, of the reference: r is what comes out -/
def IM (G : MM) (L : Nat) (T : Nat → Nat) (r : QS × ZS) (x : Option (Int32 × MM)) : Prop := ∃ G1, x = some (b01 (!r.1.2), G1) ∧ MS G1 L T r.1.1 ∧ (r.1.2 = false → MZ G1 r.2) ∧ (∀ a, a ≠ 164 → a ≠ 169 → a ≠ 170 → G1 a = G a) ∧ ∀ j, j ≠ 3 → j ≠ 13 → G1 164 j = G 164 j
theorem im_fail {G0 : MM} {r : QS × ZS} {x : Option (Int32 × MM)} (hr : r.1 = (p, true)) (hx : x = some (0, G0)) (hQ : MS G0 L T p) (h1 : ∀ a, a ≠ 164 → G0 a = G a) (h2 : ∀ j, j ≠ 3 → G0 164 j = G 164 j) : IM G L T r x := by
  refine ⟨G0, by rw [hr]; exact hx, by rw [hr]; exact hQ, fun h9 => by rw [hr] at h9; exact absurd (show true = false from h9) (by decide), fun a b1 _ _ => h1 a b1, fun j b1 _ => h2 j b1⟩
theorem im_fr {r : QS × ZS} {x : Option (Int32 × MM)} (h : IM G1 L T r x) (h1 : ∀ a, a ≠ 164 → G1 a = G a) (h2 : ∀ j, j ≠ 3 → G1 164 j = G 164 j) : IM G L T r x := by
  obtain ⟨G2, a1, a2, a3, a4, a5⟩ := h
  exact ⟨G2, a1, a2, a3, fun a b1 b2 b3 => by rw [a4 a b1 b2 b3, h1 a b1], fun j b1 b2 => by rw [a5 j b1 b2, h2 j b1]⟩
theorem m_rule (hC : 1 ≤ C ∧ C ≤ 6) (hr : Z.1 < 10) (hq : q.2 = false) (hQ : MS G L T q.1) (e1 : G 164 12 = nI C) (hZ : MZ G Z) : IM G L T (rul L T C kind q Z) (s_X9_readRule G (nI kind)) := by
  obtain ⟨rc, law, S⟩ := Z
  obtain ⟨z1, z2, z3⟩ := hZ
  have hr : rc < 10 := hr
  have z1 : G 164 13 = nI rc := z1
  have z2 : ∀ k, k < 5 * rc → G 169 k = nI (law k) := z2
  have eC : nI C - 1 = nI (C - 1) := by rw [li_1, pk_sub (by omega)]
  have a1 : (ra L T C q).1 ≤ C - 1 := (rd_rng (Nat.zero_le _)).2
  have x1 : (rx L T C q).1 ≤ 3 := (rd_rng (by omega)).2
  have b1 : (rb L T C q).1 ≤ C - 1 := rdb_rng
  have y1 : (ry L T C q).1 ≤ 3 := (rd_rng (by omega)).2
  have bad2 : ∀ (X : MM) (u w : Int32), s_X9_readRule_b33 X u w (-9) = some (0, X) := fun X u w => by
    unfold s_X9_readRule_b33 s_X9_readRule_b79
    rw [if_pos rfl, if_pos rfl, if_pos rfl]
  have bad3 : ∀ (X : MM) (u w v y : Int32), s_X9_readRule_b79 X u w v y (-9) = some (0, X) := fun X u w v y => by
    unfold s_X9_readRule_b79
    rw [if_pos rfl]
  unfold s_X9_readRule
  rw [e1]
  rcases m_dig (lo := 0) (hi := C - 1) (l := 0) rfl eC (by omega) (by omega) hq hQ with ⟨F1, k1, r1, q1, f1, g1⟩ | ⟨k1, r1⟩
  · have k1 : (ra L T C q).2.2 = false := k1
    have r1 : s_X9_digit G 0 (nI C - 1) (-9) = some (nI (ra L T C q).1, F1) := r1
    have q1 : MS F1 L T (ra L T C q).2.1 := q1
    rw [r1, bnd_]
    show IM G L T _ (if nI (ra L T C q).1 = -9 then _ else (s_X9_digit F1 1 3 (-9)).bind (fun z7 => s_X9_readRule_b33 z7.2 (nI kind) (nI (ra L T C q).1) z7.1))
    rw [if_neg (nI_ne9 (by omega))]
    rcases m_dig (lo := 1) (hi := 3) (l := 1) (h := 3) rfl rfl (by omega) (by omega) k1 q1 with ⟨F2, k2, r2, q2, f2, g2⟩ | ⟨k2, r2⟩
    · have k2 : (rx L T C q).2.2 = false := k2
      have r2 : s_X9_digit F1 1 3 (-9) = some (nI (rx L T C q).1, F2) := r2
      have q2 : MS F2 L T (rx L T C q).2.1 := q2
      rw [r2, bnd_]
      show IM G L T _ (s_X9_readRule_b33 F2 (nI kind) (nI (ra L T C q).1) (nI (rx L T C q).1))
      unfold s_X9_readRule_b33
      have c12 : F2 164 12 = nI C := by rw [g2 12 (by omega), g1 12 (by omega)]; exact e1
      rw [if_neg (nI_ne9 (by omega)), c12]
      rcases m_digb (b := (ra L T C q).1) (hi := C - 1) rfl eC (by omega) (by omega) k2 q2 with ⟨F3, k3, r3, q3, f3, g3⟩ | ⟨k3, r3⟩
      · have k3 : (rb L T C q).2.2 = false := k3
        have r3 : s_X9_digit F2 0 (nI C - 1) (nI (ra L T C q).1) = some (nI (rb L T C q).1, F3) := r3
        have q3 : MS F3 L T (rb L T C q).2.1 := q3
        rw [r3, bnd_]
        show IM G L T _ (if nI (rb L T C q).1 = -9 then _ else (s_X9_digit F3 1 3 (-9)).bind (fun z15 => s_X9_readRule_b79 z15.2 (nI kind) (nI (ra L T C q).1) (nI (rx L T C q).1) (nI (rb L T C q).1) z15.1))
        rw [if_neg (nI_ne9 (by omega))]
        rcases m_dig (lo := 1) (hi := 3) (l := 1) (h := 3) rfl rfl (by omega) (by omega) k3 q3 with ⟨F4, k4, r4, q4, f4, g4⟩ | ⟨k4, r4⟩
        · have k4 : (ry L T C q).2.2 = false := k4
          have r4 : s_X9_digit F3 1 3 (-9) = some (nI (ry L T C q).1, F4) := r4
          have q4 : MS F4 L T (ry L T C q).2.1 := q4
          rw [r4, bnd_]
          show IM G L T _ (s_X9_readRule_b79 F4 (nI kind) (nI (ra L T C q).1) (nI (rx L T C q).1) (nI (rb L T C q).1) (nI (ry L T C q).1))
          have n4 : ∀ j, j ≠ 3 → F4 164 j = G 164 j := fun j hj => by rw [g4 j hj, g3 j hj, g2 j hj, g1 j hj]
          have m4 : ∀ a, a ≠ 164 → F4 a = G a := fun a ha => by rw [f4 a ha, f3 a ha, f2 a ha, f1 a ha]
          obtain ⟨X, hX⟩ : ∃ X, X = mup (mup (mup (mup (mup F4 169 (5 * rc) (nI kind)) 169 (5 * rc + 1) (nI (ra L T C q).1)) 169 (5 * rc + 2) (nI (rx L T C q).1)) 169 (5 * rc + 3) (nI (rb L T C q).1)) 169 (5 * rc + 4) (nI (ry L T C q).1) := ⟨_, rfl⟩
          have nX : ∀ a, a ≠ 169 → X a = F4 a := fun a ha => by rw [hX, mup_ne ha, mup_ne ha, mup_ne ha, mup_ne ha, mup_ne ha]
          have n5 : X 169 = upd (upd (upd (upd (upd (F4 169) (5 * rc) (nI kind)) (5 * rc + 1) (nI (ra L T C q).1)) (5 * rc + 2) (nI (rx L T C q).1)) (5 * rc + 3) (nI (rb L T C q).1)) (5 * rc + 4) (nI (ry L T C q).1) := by
            rw [hX, mup_self, mup_self, mup_self, mup_self, mup_self]
          have c13 : X 164 13 = nI rc := by rw [nX 164 (by omega), n4 13 (by omega)]; exact z1
          have c13b : F4 164 13 = nI rc := by rw [n4 13 (by omega)]; exact z1
          refine ⟨mup X 164 13 (nI (rc + 1)), ?_, ?_, fun _ => ⟨by rw [mup_self, pk_us]; rfl, fun k hk => ?_, fun k hk => ?_⟩, fun a d1 d2 d3 => by rw [mup_ne d1, nX a d2, m4 a d1], fun j d1 d2 => by rw [mup_self, pk_un d2, nX 164 (by omega), n4 j d1]⟩
          · show _ = some (b01 (!(ry L T C q).2.2), _)
            rw [k4]
            have y5 : (5 : Int32) * nI rc = nI (5 * rc) := by rw [li_5, pk_mul]
            have i0 := inb_nI (show 5 * rc < 50 by omega) (by decide)
            have i1 := inb_nI (show 5 * rc + 1 < 50 by omega) (by decide)
            have i2 := inb_nI (show 5 * rc + 2 < 50 by omega) (by decide)
            have i3 := inb_nI (show 5 * rc + 3 < 50 by omega) (by decide)
            have i4 := inb_nI (show 5 * rc + 4 < 50 by omega) (by decide)
            have x0 := ix_nI (show 5 * rc < 2 ^ 31 by omega)
            have x1 := ix_nI (show 5 * rc + 1 < 2 ^ 31 by omega)
            have x2 := ix_nI (show 5 * rc + 2 < 2 ^ 31 by omega)
            have x3 := ix_nI (show 5 * rc + 3 < 2 ^ 31 by omega)
            have x4 := ix_nI (show 5 * rc + 4 < 2 ^ 31 by omega)
            unfold s_X9_readRule_b79
            rw [if_neg (nI_ne9 (by omega)), c13b, y5]
            simp only [ad_k _ 1 (show (1 : Int32) = nI 1 from rfl), ad_k _ 2 (show (2 : Int32) = nI 2 from rfl), ad_k _ 3 (show (3 : Int32) = nI 3 from rfl), ad_k _ 4 (show (4 : Int32) = nI 4 from rfl), bnd_, i0, i1, i2, i3, i4, x0, x1, x2, x3, x4, if_true]
            rw [← hX, c13, nI_1]
            rfl
          · refine ms_fr (G := F4) q4 (by rw [mup_ne (by omega), nX 165 (by omega)]) (by rw [mup_self, pk_un (by omega), nX 164 (by omega)]) (by rw [mup_self, pk_un (by omega), nX 164 (by omega)])
          · have hk : k < 5 * (rc + 1) := hk
            rw [mup_ne (by omega), n5]
            show _ = nI (lawU law rc kind (ra L T C q).1 (rx L T C q).1 (rb L T C q).1 (ry L T C q).1 k)
            by_cases hk0 : k < 5 * rc
            · rw [lawU_lt hk0, pk_un (by omega), pk_un (by omega), pk_un (by omega), pk_un (by omega), pk_un (by omega), m4 169 (by omega)]; exact z2 k hk0
            · rcases (show k = 5 * rc ∨ k = 5 * rc + 1 ∨ k = 5 * rc + 2 ∨ k = 5 * rc + 3 ∨ k = 5 * rc + 4 by omega) with rfl | rfl | rfl | rfl | rfl
              · rw [lawU_0, pk_un (by omega), pk_un (by omega), pk_un (by omega), pk_un (by omega), pk_us]
              · rw [lawU_1, pk_un (by omega), pk_un (by omega), pk_un (by omega), pk_us]
              · rw [lawU_2, pk_un (by omega), pk_un (by omega), pk_us]
              · rw [lawU_3, pk_un (by omega), pk_us]
              · rw [lawU_4, pk_us]
          · rw [mup_ne (by omega), nX 170 (by omega), m4 170 (by omega)]; exact z3 k hk
        · have k4 : (ry L T C q).2 = ((rb L T C q).2.1, true) := k4
          rw [r4, bnd_]
          exact im_fail (G0 := F3) k4 (bad3 _ _ _ _ _) q3 (fun a ha => by rw [f3 a ha, f2 a ha, f1 a ha]) (fun j hj => by rw [g3 j hj, g2 j hj, g1 j hj])
      · have k3 : (rb L T C q).2 = ((rx L T C q).2.1, true) := k3
        have k4 : (ry L T C q).2 = ((rx L T C q).2.1, true) := by unfold ry; rw [k3]; exact rd_x rfl
        rw [r3, bnd_]
        exact im_fail (G0 := F2) k4 (by rw [if_pos rfl]; exact bad3 _ _ _ _ _) q2 (fun a ha => by rw [f2 a ha, f1 a ha]) (fun j hj => by rw [g2 j hj, g1 j hj])
    · have k2 : (rx L T C q).2 = ((ra L T C q).2.1, true) := k2
      have k3 : (rb L T C q).2 = ((ra L T C q).2.1, true) := by unfold rb; rw [k2]; exact rdb_x rfl
      have k4 : (ry L T C q).2 = ((ra L T C q).2.1, true) := by unfold ry; rw [k3]; exact rd_x rfl
      rw [r2, bnd_]
      exact im_fail (G0 := F1) k4 (bad2 _ _ _) q1 f1 g1
  · have k1 : (ra L T C q).2 = (q.1, true) := k1
    have k2 : (rx L T C q).2 = (q.1, true) := by unfold rx; rw [k1]; exact rd_x rfl
    have k3 : (rb L T C q).2 = (q.1, true) := by unfold rb; rw [k2]; exact rdb_x rfl
    have k4 : (ry L T C q).2 = (q.1, true) := by unfold ry; rw [k3]; exact rd_x rfl
    rw [r1, bnd_]
    exact im_fail (G0 := G) k4 (by rw [if_pos rfl]; exact bad2 _ _ _) hQ (fun _ _ => rfl) (fun _ _ => rfl)
theorem m_version {x : Int32} (ex : x = nI f) (hf : f = 0 ∨ f = 6) (hN : 1 ≤ N ∧ N ≤ 5) (hC : 1 ≤ C ∧ C ≤ 6) (hq : q.2 = false) (hQ : MS G L T q.1) (e0 : G 164 11 = nI N) (e1 : G 164 12 = nI C) (hZ : MZ G Z) : IM G L T (ver L T N C f q Z) (s_X9_readVersion G x) := by
  subst ex
  obtain ⟨rc, law, S⟩ := Z
  obtain ⟨z1, z2, z3⟩ := hZ
  have eN : nI N - 1 = nI (N - 1) := by rw [li_1, pk_sub (by omega)]
  have eC : nI C - 1 = nI (C - 1) := by rw [li_1, pk_sub (by omega)]
  have n1 : (vn L T N q).1 ≤ N - 1 := (rd_rng (Nat.zero_le _)).2
  have c1 : (vc L T N C q).1 ≤ C - 1 := (rd_rng (Nat.zero_le _)).2
  have v1 : (vv L T N C q).1 ≤ 3 := (rd_rng (Nat.zero_le _)).2
  have bad3 : ∀ (X : MM) (u w y : Int32), s_X9_readVersion_b58 X u w y (-9) = some (0, X) := fun X u w y => by
    unfold s_X9_readVersion_b58
    rw [if_pos rfl]
  unfold s_X9_readVersion
  rw [e0]
  rcases m_dig (lo := 0) (hi := N - 1) (l := 0) rfl eN (by omega) (by omega) hq hQ with ⟨F1, k1, r1, q1, f1, g1⟩ | ⟨k1, r1⟩
  · have k1 : (vn L T N q).2.2 = false := k1
    have r1 : s_X9_digit G 0 (nI N - 1) (-9) = some (nI (vn L T N q).1, F1) := r1
    have q1 : MS F1 L T (vn L T N q).2.1 := q1
    rw [r1, bnd_]
    show IM G L T _ (if nI (vn L T N q).1 = -9 then _ else (s_X9_digit F1 0 ((F1 164 12) - 1) (-9)).bind (fun z7 => if z7.1 = (-9) then s_X9_readVersion_b58 z7.2 (nI f) (nI (vn L T N q).1) z7.1 (-9) else (s_X9_digit z7.2 0 3 (-9)).bind (fun z11 => s_X9_readVersion_b58 z11.2 (nI f) (nI (vn L T N q).1) z7.1 z11.1)))
    rw [if_neg (nI_ne9 (by omega)), g1 12 (by omega), e1]
    rcases m_dig (lo := 0) (hi := C - 1) (l := 0) rfl eC (by omega) (by omega) k1 q1 with ⟨F2, k2, r2, q2, f2, g2⟩ | ⟨k2, r2⟩
    · have k2 : (vc L T N C q).2.2 = false := k2
      have r2 : s_X9_digit F1 0 (nI C - 1) (-9) = some (nI (vc L T N C q).1, F2) := r2
      have q2 : MS F2 L T (vc L T N C q).2.1 := q2
      rw [r2, bnd_]
      show IM G L T _ (if nI (vc L T N C q).1 = -9 then _ else (s_X9_digit F2 0 3 (-9)).bind (fun z11 => s_X9_readVersion_b58 z11.2 (nI f) (nI (vn L T N q).1) (nI (vc L T N C q).1) z11.1))
      rw [if_neg (nI_ne9 (by omega))]
      rcases m_dig (lo := 0) (hi := 3) (l := 0) (h := 3) rfl rfl (by omega) (by omega) k2 q2 with ⟨F3, k3, r3, q3, f3, g3⟩ | ⟨k3, r3⟩
      · have k3 : (vv L T N C q).2.2 = false := k3
        have r3 : s_X9_digit F2 0 3 (-9) = some (nI (vv L T N C q).1, F3) := r3
        have q3 : MS F3 L T (vv L T N C q).2.1 := q3
        rw [r3, bnd_]
        show IM G L T _ (s_X9_readVersion_b58 F3 (nI f) (nI (vn L T N q).1) (nI (vc L T N C q).1) (nI (vv L T N C q).1))
        have n3 : ∀ j, j ≠ 3 → F3 164 j = G 164 j := fun j hj => by rw [g3 j hj, g2 j hj, g1 j hj]
        have m3 : ∀ a, a ≠ 164 → F3 a = G a := fun a ha => by rw [f3 a ha, f2 a ha, f1 a ha]
        refine ⟨mup F3 170 (2 + 15 * (vn L T N q).1 + f + (vc L T N C q).1) (nI (vv L T N C q).1), ?_, ms_fr q3 (mup_ne (by omega)) (by rw [mup_ne (by omega)]) (by rw [mup_ne (by omega)]), fun _ => ⟨by rw [mup_ne (by omega), n3 13 (by omega)]; exact z1, fun k hk => by rw [mup_ne (by omega), m3 169 (by omega)]; exact z2 k hk, ?_⟩, fun a d1 d2 d3 => by rw [mup_ne d3, m3 a d1], fun j d1 d2 => by rw [mup_ne (by omega), n3 j d1]⟩
        · show _ = some (b01 (!(vv L T N C q).2.2), _)
          rw [k3]
          unfold s_X9_readVersion_b58 s_X9_at
          rw [if_neg (nI_ne9 (by omega)), bnd_, at_nI, nI_add, nI_add, inb_nI (by omega) (by omega), if_pos rfl, bnd_, ix_nI (by omega)]
          rfl
        · have z9 : RRow F3 170 S := fun k hk => by rw [m3 170 (by omega)]; exact z3 k hk
          exact rr_up z9
      · have k3 : (vv L T N C q).2 = ((vc L T N C q).2.1, true) := k3
        rw [r3, bnd_]
        exact im_fail (G0 := F2) k3 (bad3 _ _ _ _) q2 (fun a ha => by rw [f2 a ha, f1 a ha]) (fun j hj => by rw [g2 j hj, g1 j hj])
    · have k2 : (vc L T N C q).2 = ((vn L T N q).2.1, true) := k2
      have k3 : (vv L T N C q).2 = ((vn L T N q).2.1, true) := by unfold vv; rw [k2]; exact rd_x rfl
      rw [r2, bnd_]
      exact im_fail (G0 := F1) k3 (by rw [if_pos rfl]; exact bad3 _ _ _ _) q1 f1 g1
  · have k1 : (vn L T N q).2 = (q.1, true) := k1
    have k2 : (vc L T N C q).2 = (q.1, true) := by unfold vc; rw [k1]; exact rd_x rfl
    have k3 : (vv L T N C q).2 = (q.1, true) := by unfold vv; rw [k2]; exact rd_x rfl
    rw [r1, bnd_]
    exact im_fail (G0 := G) k3 (by rw [if_pos rfl, if_pos rfl]; exact bad3 _ _ _ _) hQ (fun _ _ => rfl) (fun _ _ => rfl)
theorem im_and {r : QS × ZS} {x : Option (Int32 × MM)} (h : IM G L T r x) : IM G L T r (x.bind (fun z => if z.1 &&& 1 = z.1 then (some (z.1, z.2)) else none)) := by
  obtain ⟨G1, e, k⟩ := h
  refine ⟨G1, ?_, k⟩
  rw [e, bnd_]
  exact if_pos (b01_and _)
theorem im_01 {r : QS × ZS} {x : Option (Int32 × MM)} (h : IM G L T r x) : IM G L T r (x.bind (fun z => if z.1 = 0 then some (0, z.2) else some (1, z.2))) := by
  obtain ⟨G1, e, k⟩ := h
  refine ⟨G1, ?_, k⟩
  rw [e, bnd_]
  cases r.1.2
  · exact if_neg b01_t
  · exact if_pos b01_f
theorem m_item (hN : 1 ≤ N ∧ N ≤ 5) (hC : 1 ≤ C ∧ C ≤ 6) (h10 : Z.1 ≤ 10) (hp : p < L) (hQ : MS G L T p) (e0 : G 164 11 = nI N) (e1 : G 164 12 = nI C) (hZ : MZ G Z) : IM G L T (itm L T N C p Z) (s_X9_readItem G) := by
  have e4 : G 164 13 = nI Z.1 := hZ.1
  have h61 : ∀ X, MS X L T p → (∀ a, a ≠ 164 → X a = G a) → (∀ j, j ≠ 3 → X 164 j = G 164 j) → ¬ (T p = 110 ∧ 1 < C ∧ Z.1 < 10) → ¬ (T p = 120 ∧ 1 < C ∧ Z.1 < 10) → IM G L T (itm L T N C p Z) (s_X9_readItem_b61 X) := fun X hX fX gX n1 n2 => by
    unfold itm s_X9_readItem_b61
    rw [if_neg n1, if_neg n2]
    rcases m_pass (ch := 119) (c := 119) rfl (by omega) hp hX with ⟨h3, F1, r1, q1, f1, g1⟩ | ⟨h3, F1, r1, q1, f1, g1⟩
    · rw [r1, bnd_, if_pos h3, if_neg i10_]
      have gF : ∀ j, j ≠ 3 → F1 164 j = G 164 j := fun j hj => by rw [g1 j hj, gX j hj]
      have fF : ∀ a, a ≠ 164 → F1 a = G a := fun a ha => by rw [f1 a ha, fX a ha]
      exact im_fr (im_and (m_version (f := 6) (x := 6) (q := (p + 1, false)) rfl (Or.inr rfl) hN hC rfl q1 ((gF 11 (by omega)).trans e0) ((gF 12 (by omega)).trans e1) (mz_fr hZ (gF 13 (by omega)) (fF 169 (by omega)) (fF 170 (by omega))))) fF gF
    · rw [r1, bnd_, if_neg h3, if_pos rfl]
      have gF : ∀ j, j ≠ 3 → F1 164 j = G 164 j := fun j hj => by rw [g1 j hj, gX j hj]
      have fF : ∀ a, a ≠ 164 → F1 a = G a := fun a ha => by rw [f1 a ha, fX a ha]
      rcases m_pass (ch := 118) (c := 118) rfl (by omega) hp q1 with ⟨h4, F2, r2, q2, f2, g2⟩ | ⟨h4, F2, r2, q2, f2, g2⟩
      · rw [r2, bnd_, if_pos h4, if_neg i10_]
        have gF2 : ∀ j, j ≠ 3 → F2 164 j = G 164 j := fun j hj => by rw [g2 j hj, gF j hj]
        have fF2 : ∀ a, a ≠ 164 → F2 a = G a := fun a ha => by rw [f2 a ha, fF a ha]
        exact im_fr (im_01 (m_version (f := 0) (x := 0) (q := (p + 1, false)) rfl (Or.inl rfl) hN hC rfl q2 ((gF2 11 (by omega)).trans e0) ((gF2 12 (by omega)).trans e1) (mz_fr hZ (gF2 13 (by omega)) (fF2 169 (by omega)) (fF2 170 (by omega))))) fF2 gF2
      · rw [r2, bnd_, if_neg h4, if_pos rfl]
        exact im_fail (G0 := F2) rfl rfl q2 (fun a ha => by rw [f2 a ha, fF a ha]) (fun j hj => by rw [g2 j hj, gF j hj])
  have h22 : ¬ (1 < C ∧ Z.1 < 10) → IM G L T (itm L T N C p Z) (s_X9_readItem_b22 G 0) := fun hn => by
    unfold s_X9_readItem_b22
    rw [if_pos rfl, if_pos rfl]
    exact h61 G hQ (fun _ _ => rfl) (fun _ _ => rfl) (fun h => hn h.2) (fun h => hn h.2)
  unfold s_X9_readItem
  rw [e1, e4]
  by_cases hc : 1 < C
  · rw [if_neg (by rw [li_1, nI_leI (by omega) (by omega)]; omega)]
    by_cases hr : Z.1 < 10
    · rw [if_neg (by rw [li_10, nI_leI (by omega) (by omega)]; omega)]
      unfold s_X9_readItem_b22
      rw [if_neg i10_]
      rcases m_pass (ch := 110) (c := 110) rfl (by omega) hp hQ with ⟨h1, F1, r1, q1, f1, g1⟩ | ⟨h1, F1, r1, q1, f1, g1⟩
      · rw [r1, bnd_, if_neg i10_]
        unfold itm
        rw [if_pos ⟨h1, hc, hr⟩]
        exact im_fr (im_and (m_rule (kind := 0) (q := (p + 1, false)) hC hr rfl q1 ((g1 12 (by omega)).trans e1) (mz_fr hZ (g1 13 (by omega)) (f1 169 (by omega)) (f1 170 (by omega))))) f1 g1
      · rw [r1, bnd_, if_pos rfl, if_neg i10_]
        rcases m_pass (ch := 120) (c := 120) rfl (by omega) hp q1 with ⟨h2, F2, r2, q2, f2, g2⟩ | ⟨h2, F2, r2, q2, f2, g2⟩
        · rw [r2, bnd_, if_neg i10_]
          unfold itm
          rw [if_neg (fun h => h1 h.1), if_pos ⟨h2, hc, hr⟩]
          have gF2 : ∀ j, j ≠ 3 → F2 164 j = G 164 j := fun j hj => by rw [g2 j hj, g1 j hj]
          have fF2 : ∀ a, a ≠ 164 → F2 a = G a := fun a ha => by rw [f2 a ha, f1 a ha]
          exact im_fr (im_and (m_rule (kind := 1) (q := (p + 1, false)) hC hr rfl q2 ((gF2 12 (by omega)).trans e1) (mz_fr hZ (gF2 13 (by omega)) (fF2 169 (by omega)) (fF2 170 (by omega))))) fF2 gF2
        · rw [r2, bnd_, if_pos rfl]
          exact h61 F2 q2 (fun a ha => by rw [f2 a ha, f1 a ha]) (fun j hj => by rw [g2 j hj, g1 j hj]) (fun h => h1 h.1) (fun h => h2 h.1)
    · rw [if_pos (by rw [li_10, nI_leI (by omega) (by omega)]; omega)]
      exact h22 (fun h => hr h.2)
  · rw [if_pos (by rw [li_1, nI_leI (by omega) (by omega)]; omega)]
    exact h22 (fun h => hc h.1)
def erq (q : QS) : Int32 := if q.2 = false then -9 else nI q.1
theorem m_items (hN : 1 ≤ N ∧ N ≤ 5) (hC : 1 ≤ C ∧ C ≤ 6) : ∀ d fuel G q Z, q.2 = false → 160 ≤ q.1 + d → d < fuel → MS G L T q.1 → G 164 11 = nI N → G 164 12 = nI C → MZ G Z → WZ N C Z →
    ∃ G1, s_X9_readText_b43 fuel G = some (erq (itms L T N C d q Z).1, G1) ∧ ((itms L T N C d q Z).1.2 = false → MZ G1 (itms L T N C d q Z).2) ∧ (∀ a, a ≠ 164 → a ≠ 169 → a ≠ 170 → G1 a = G a) ∧ ∀ j, j ≠ 3 → j ≠ 13 → G1 164 j = G 164 j := by
  have stop : ∀ d fuel G q Z, q.2 = false → ¬ q.1 < L → MS G L T q.1 → MZ G Z → ∃ G1, s_X9_readText_b43 (fuel + 1) G = some (erq (itms L T N C d q Z).1, G1) ∧ ((itms L T N C d q Z).1.2 = false → MZ G1 (itms L T N C d q Z).2) ∧ (∀ a, a ≠ 164 → a ≠ 169 → a ≠ 170 → G1 a = G a) ∧ ∀ j, j ≠ 3 → j ≠ 13 → G1 164 j = G 164 j := fun d fuel G q Z hq hp hQ hZ => by
    rw [itms_f (fun h => hp h.2)]
    obtain ⟨h1, h2, h3, h4, h5, h6⟩ := id hQ
    refine ⟨G, ?_, fun _ => hZ, fun _ _ _ _ => rfl, fun _ _ _ => rfl⟩
    rw [s_X9_readText_b43, h1, h2, if_pos (by rw [nI_leI (by omega) (by omega)]; omega)]
    unfold erq
    rw [if_pos hq]
  intro d
  induction d with
  | zero =>
    intro fuel G q Z hq h160 hf hQ e0 e1 hZ hW
    obtain ⟨f2, rfl⟩ : ∃ f2, fuel = f2 + 1 := ⟨fuel - 1, by omega⟩
    have h4 := hQ.2.2.2.1
    have h5 := hQ.2.2.2.2.1
    exact stop 0 f2 G q Z hq (by omega) hQ hZ
  | succ d ih =>
    intro fuel G q Z hq h160 hf hQ e0 e1 hZ hW
    obtain ⟨f2, rfl⟩ : ∃ f2, fuel = f2 + 1 := ⟨fuel - 1, by omega⟩
    by_cases hp : q.1 < L
    · obtain ⟨h1, h2, h3, h4, h5, h6⟩ := id hQ
      rw [itms_t ⟨hq, hp⟩, s_X9_readText_b43, h1, h2, if_neg (by rw [nI_leI (by omega) (by omega)]; omega)]
      obtain ⟨F1, r1, q1, z1, f1, g1⟩ := m_item hN hC hW.1.1 hp hQ e0 e1 hZ
      rw [r1, bnd_]
      cases hb : (itm L T N C q.1 Z).1.2 with
      | true =>
        rw [itms_f (fun h => by rw [hb] at h; exact absurd h.1 (by decide))]
        refine ⟨F1, ?_, fun h => by
          have h : (itm L T N C q.1 Z).1.2 = false := h
          rw [hb] at h; exact absurd h (by decide), f1, g1⟩
        show (if b01 (!true) = 0 then some (F1 164 3, F1) else s_X9_readText_b43 f2 F1) = _
        rw [if_pos (show b01 (!true) = 0 from rfl), q1.2.1]
        unfold erq
        rw [if_neg (show ¬ (itm L T N C q.1 Z).1.2 = false by rw [hb]; decide)]
      | false =>
        have hok := itm_ok hb
        obtain ⟨F2, r2, z2, f3, g3⟩ := ih f2 F1 (itm L T N C q.1 Z).1 (itm L T N C q.1 Z).2 hb (by omega) (by omega) q1 (by rw [g1 11 (by omega) (by omega)]; exact e0) (by rw [g1 12 (by omega) (by omega)]; exact e1) (z1 hb) (wz_itm hN hC hW)
        refine ⟨F2, ?_, z2, fun a b1 b2 b3 => by rw [f3 a b1 b2 b3, f1 a b1 b2 b3], fun j b1 b2 => by rw [g3 j b1 b2, g1 j b1 b2]⟩
        show (if b01 (!false) = 0 then some (F1 164 3, F1) else s_X9_readText_b43 f2 F1) = _
        rw [if_neg (show ¬ b01 (!false) = 0 by decide)]
        exact r2
    · exact stop (d + 1) f2 G q Z hq hp hQ hZ
theorem m_b12 {R : Option (Int32 × MM)} : ∀ d i fuel G, i + d = 107 → d < fuel → (∀ k, k < i → G 170 k = 0) →
    ∃ G1, s_X9_readText_b12 fuel G (nI i) = (s_X9_readHead G1).bind (fun z8 => if z8.1 = 0 then some (z8.2 164 3, z8.2) else s_X9_readText_b43 fu_ z8.2) ∧ (∀ k, k < 107 → G1 170 k = 0) ∧ ∀ a, a ≠ 170 → G1 a = G a
  | 0, i, fuel + 1, G, h, _, hz => by
    have : i = 107 := by omega
    subst this
    exact ⟨G, by rw [s_X9_readText_b12, if_pos (by decide)], hz, fun _ _ => rfl⟩
  | d + 1, i, fuel + 1, G, h, hf, hz => by
    obtain ⟨G1, r1, z1, f1⟩ := m_b12 (R := R) d (i + 1) fuel (mup G 170 i 0) (by omega) (by omega) (fun k hk => by
      rw [mup_self]
      by_cases hki : k = i
      · rw [hki, pk_us]
      · rw [pk_un hki]; exact hz k (by omega))
    refine ⟨G1, ?_, z1, fun a ha => by rw [f1 a ha, mup_ne ha]⟩
    rw [s_X9_readText_b12, if_neg (by rw [li_107, nI_leI (by omega) (by omega)]; omega)]
    simp (disch := omega) only [bnd_, inb_nI, ix_nI, if_true, nI_1]
    exact r1
theorem m_readText (hR : RTM G L T) (hL : L ≤ 160) (hT : ∀ k, k < L → T k < 256) : ∃ G1, s_X9_readText G = some (era L T, G1) ∧ ((fin L T).1.2 = false → G1 164 11 = nI (hN L T) ∧ G1 164 12 = nI (hC L T) ∧ G1 164 14 = nI (hLm L T) ∧ G1 164 15 = nI (hLe L T) ∧ (∀ k, k < hN L T → G1 168 k = nI (hRi L T k)) ∧ MZ G1 (fin L T).2) ∧ (∀ a, a ≠ 164 → a ≠ 168 → a ≠ 169 → a ≠ 170 → G1 a = G a) ∧ ∀ j, j ≠ 3 → j ≠ 11 → j ≠ 12 → j ≠ 13 → j ≠ 14 → j ≠ 15 → G1 164 j = G 164 j := by
  obtain ⟨rN, rC, -⟩ := hd_rng L T
  obtain ⟨G0, hG0⟩ : ∃ X, X = mup (mup G 164 3 0) 164 13 0 := ⟨_, rfl⟩
  have n0 : ∀ j, j ≠ 3 → j ≠ 13 → G0 164 j = G 164 j := fun j b1 b2 => by rw [hG0, mup_self, pk_un b2, mup_self, pk_un b1]
  have m0 : ∀ a, a ≠ 164 → G0 a = G a := fun a ha => by rw [hG0, mup_ne ha, mup_ne ha]
  have a13 : G0 164 13 = 0 := by rw [hG0, mup_self, pk_us]
  have a3 : G0 164 3 = 0 := by rw [hG0, mup_self, pk_un (by omega), mup_self, pk_us]
  obtain ⟨G1, r1, z1, f1⟩ := m_b12 (R := none) 107 0 fu_ G0 (by omega) (fu_lt (by omega)) (fun k hk => absurd hk (by omega))
  have r1 : s_X9_readText_b12 fu_ G0 0 = _ := r1
  have q1 : MS G1 L T 0 := ⟨by rw [f1 164 (by omega), n0 2 (by omega) (by omega)]; exact hR.1, by rw [f1 164 (by omega)]; exact a3, fun k hk => by rw [f1 165 (by omega), m0 165 (by omega)]; exact hR.2 k hk, Nat.zero_le _, hL, hT⟩
  obtain ⟨G2, r2, q2, k2, f2, g2⟩ := m_readHead q1 z1
  have h0 : s_X9_readText G = (s_X9_readHead G1).bind (fun z8 => if z8.1 = 0 then some (z8.2 164 3, z8.2) else s_X9_readText_b43 fu_ z8.2) := by
    unfold s_X9_readText
    rw [bnd_, bnd_, ← hG0]
    exact r1
  rw [h0, r2, bnd_]
  have fG2 : ∀ a, a ≠ 164 → a ≠ 168 → a ≠ 170 → G2 a = G a := fun a b1 b2 b3 => by rw [f2 a b1 b2 b3, f1 a b3, m0 a b1]
  cases hb : (hq7 L T).2 with
  | true =>
    have hfin : fin L T = (hq7 L T, (0, fun _ => 0, S00 L T)) := itms_f (fun h => by rw [hb] at h; exact absurd h.1 (by decide)) 160
    refine ⟨G2, ?_, fun h => by rw [hfin] at h; rw [show (hq7 L T).2 = false from h] at hb; exact absurd hb (by decide), fun a b1 b2 b3 b4 => fG2 a b1 b2 b4, fun j b1 b2 b3 b4 b5 b6 => by rw [g2 j b1 b2 b3 b5 b6, f1 164 (by omega), n0 j b1 b4]⟩
    show (if b01 (!true) = 0 then some (G2 164 3, G2) else s_X9_readText_b43 fu_ G2) = _
    rw [if_pos (show b01 (!true) = 0 from rfl), q2.2.1]
    unfold era
    rw [hfin]
    rw [if_neg (show ¬ (hq7 L T).2 = false by rw [hb]; decide)]
  | false =>
    obtain ⟨c11, c12, c14, c15, c168, c170⟩ := k2 hb
    have z2 : MZ G2 (0, fun _ => 0, S00 L T) := ⟨by rw [g2 13 (by omega) (by omega) (by omega) (by omega) (by omega), f1 164 (by omega)]; exact a13, fun k hk => absurd hk (Nat.not_lt_zero _), c170⟩
    obtain ⟨G3, r3, k3, f3, g3⟩ := m_items rN rC 160 fu_ G2 (hq7 L T) (0, fun _ => 0, S00 L T) hb (by omega) (fu_lt (by omega)) q2 c11 c12 z2 (wz_S00 L T)
    refine ⟨G3, ?_, fun h => ⟨by rw [g3 11 (by omega) (by omega)]; exact c11, by rw [g3 12 (by omega) (by omega)]; exact c12, by rw [g3 14 (by omega) (by omega)]; exact c14, by rw [g3 15 (by omega) (by omega)]; exact c15, fun k hk => by rw [f3 168 (by omega) (by omega) (by omega)]; exact c168 k hk, k3 h⟩, fun a b1 b2 b3 b4 => by rw [f3 a b1 b3 b4, fG2 a b1 b2 b4], fun j b1 b2 b3 b4 b5 b6 => by rw [g3 j b1 b4, g2 j b1 b2 b3 b5 b6, f1 164 (by omega), n0 j b1 b4]⟩
    show (if b01 (!false) = 0 then some (G2 164 3, G2) else s_X9_readText_b43 fu_ G2) = _
    rw [if_neg (show ¬ b01 (!false) = 0 by decide)]
    exact r3
end MI
