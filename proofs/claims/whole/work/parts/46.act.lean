/-! ===== what actions do with memories ===== -/
def hpush (S : RW) (H : Nat → RW) : Nat → RW := fun d => if d = 0 then S else H (d - 1)
def mm1 (m : Nat) : Nat := if m < 14 then m + 1 else 14
theorem mm1_le (m : Nat) : mm1 m ≤ 14 := by
  unfold mm1
  by_cases h : m < 14
  · rw [if_pos h]; omega
  · rw [if_neg h]; omega
theorem mm1_p {m d : Nat} (hm : m ≤ 14) (h : d < mm1 m) (h0 : ¬ d = 0) : d - 1 < m := by
  unfold mm1 at h
  by_cases h9 : m < 14
  · rw [if_pos h9] at h; omega
  · rw [if_neg h9] at h; omega
theorem hpush_0 (S : RW) (H : Nat → RW) : hpush S H 0 = S := if_pos rfl
theorem hpush_s {S : RW} {H : Nat → RW} {d : Nat} (h : ¬ d = 0) : hpush S H d = H (d - 1) := if_neg h
section ME
variable {F F1 : MM} {P : PL} {S S' : RW} {L m t t2 k v : Nat} {T : Nat → Nat} {H K : Nat → RW} {kp : Nat → Bool}
theorem c_rem22 {w w2 : Nat} (hP : WFP P) (hm : m ≤ 14) (hT : RSt F P 16 S) (h1 : F 32 2 = nI m) (hw : w < 14) (h3 : ∀ d, d < m → RSt F P (34 + 8 * ((w + 14 - d) % 14)) (H d)) (hw2 : w2 = (w + 1) % 14) :
    ∃ F1, s_X2_remember_b22 16 F (nI w2) = some F1 ∧ RMe F1 P (mm1 m) (hpush S H) ∧ ∀ x, x < 32 ∨ 146 ≤ x → F1 x = F x := by
  have hw3 : w2 < 14 := by omega
  obtain ⟨F2, hF2⟩ : ∃ F2, F2 = mup F 32 1 (nI w2) := ⟨_, rfl⟩
  have g1 : F2 32 1 = nI w2 := by rw [hF2, mup_self, pk_us]
  have g2 : F2 32 2 = nI m := by rw [hF2, mup_self, pk_un (by omega)]; exact h1
  have g3 : ∀ x, x ≠ 32 → F2 x = F x := fun x hx => by rw [hF2, mup_ne hx]
  obtain ⟨F6, e6, t6, f6⟩ := c_copy (a := 34 + 8 * w2) (q := 16) (by omega) (rst_fr hT (fun x hx hx2 => g3 x (by omega))) hP
  have g6 : F6 32 2 = nI m := by rw [f6 32 (by omega)]; exact g2
  have g7 : F6 32 1 = nI w2 := by rw [f6 32 (by omega)]; exact g1
  have ev : (if (14 : Int32) < nI m + 1 then 14 else nI m + 1) = nI (mm1 m) := by
    rw [nI_1, li_14]
    unfold mm1
    by_cases h9 : m < 14
    · rw [if_neg (by rw [nI_ltI (by omega) (by omega)]; omega), if_pos h9]
    · rw [if_pos (by rw [nI_ltI (by omega) (by omega)]; omega), if_neg h9]
  refine ⟨mup F6 32 2 (nI (mm1 m)), ?_, ⟨by rw [mup_self, pk_us], w2, hw3, by rw [mup_self, pk_un (by omega)]; exact g7, fun d hd => ?_⟩, fun x hx => by rw [mup_ne (by omega), f6 x (by omega), g3 x (by omega)]⟩
  · unfold s_X2_remember_b22
    simp only [bnd_]
    rw [← hF2]
    simp (disch := omega) only [bnd_, nI_add, nI_1, at_nI, pa_nI, inb_nI, ix_nI, nI_leI, nI_ltI, nI_eq, if_true, g1, e6, g6]
    rw [← nI_1, ev]
  · by_cases h0 : d = 0
    · subst h0
      rw [hpush_0, show (w2 + 14 - 0) % 14 = w2 by omega]
      exact rst_fr t6 (fun x hx hx2 => mup_ne (by omega))
    · have hd14 := mm1_le m
      rw [hpush_s h0, show (w2 + 14 - d) % 14 = (w + 14 - (d - 1)) % 14 by omega]
      refine rst_fr (h3 (d - 1) (mm1_p hm hd h0)) (fun x hx hx2 => ?_)
      rw [mup_ne (by omega), f6 x (by omega), g3 x (by omega)]
theorem c_remember (hP : WFP P) (hm : m ≤ 14) (hT : RSt F P 16 S) (hM : RMe F P m H) : ∃ F1, s_X2_remember F 16 = some F1 ∧ RMe F1 P (mm1 m) (hpush S H) ∧ ∀ x, x < 32 ∨ 146 ≤ x → F1 x = F x := by
  obtain ⟨h1, w, hw, h2, h3⟩ := hM
  unfold s_X2_remember
  rw [h2, nI_1, li_14]
  by_cases h9 : 14 ≤ w + 1
  · rw [if_pos (by rw [nI_leI (by omega) (by omega)]; exact h9)]
    exact c_rem22 hP hm hT h1 hw h3 (w2 := 0) (by omega)
  · rw [if_neg (by rw [nI_leI (by omega) (by omega)]; exact h9)]
    exact c_rem22 hP hm hT h1 hw h3 (w2 := w + 1) (by omega)
theorem invc_rem (h : INVC F P S L T m H kp K) (hP : WFP P) (hm : m ≤ 14) : ∃ F1, s_X2_remember F 16 = some F1 ∧ INVC F1 P S L T (mm1 m) (hpush S H) kp K ∧ ∀ x, x < 32 ∨ 146 ≤ x → F1 x = F x := by
  obtain ⟨h1, h2, h3, h4, h5, h6⟩ := h
  obtain ⟨F1, e1, g1, f1⟩ := c_remember hP hm h2 h4
  refine ⟨F1, e1, ⟨rpc_fr h1 (fun x _ _ => f1 x (by omega)), rst_fr h2 (fun x _ _ => f1 x (by omega)), ?_, g1, rsl_fr h5 (fun x _ _ => f1 x (by omega)), rwy_fr h6 (fun x _ _ => f1 x (by omega))⟩, f1⟩
  unfold RTC
  rw [f1 0 (by omega), f1 1 (by omega)]
  exact h3
theorem invc_st (h : INVC F P S L T m H kp K) (hT : RSt F1 P 16 S') (hf : ∀ x, x < 16 ∨ 24 ≤ x → F1 x = F x) : INVC F1 P S' L T m H kp K := by
  obtain ⟨h1, h2, h3, h4, h5, h6⟩ := h
  refine ⟨rpc_fr h1 (fun x _ _ => hf x (by omega)), hT, ?_, rme_fr h4 (fun x _ _ => hf x (by omega)), rsl_fr h5 (fun x _ _ => hf x (by omega)), rwy_fr h6 (fun x _ _ => hf x (by omega))⟩
  unfold RTC
  rw [hf 0 (by omega), hf 1 (by omega)]
  exact h3
theorem alen173 : alen 173 = 1498 := by decide
theorem m_note36 (hm : m ≤ 13) (hR : RRow F 171 S) (h22 : F 164 22 = nI m) (hD : ∀ d k, d < m → k < 107 → F 173 (107 * (m - 1 - d) + k) = nI (H d k)) :
    ∃ F1, s_X9_note_b36 F = some F1 ∧ RDia F1 (m + 1) (hpush S H) ∧ (∀ x, x ≠ 164 → x ≠ 173 → F1 x = F x) ∧ ∀ j, j ≠ 22 → F1 164 j = F 164 j := by
  have al1 := alen171
  have al3 := alen173
  have e : s_X9_copy F 171 0 173 (107 * nI m) 107 = some (mrow F 173 (va_cpy (F 171) (F 173) 0 (107 * m) 107)) := by
    rw [li_107, pk_mul]
    exact m_copy (F := F) (q0 := 171) (q2 := 173) (a := 0) (b := 107 * m) (N := 107) (by omega) (by omega) (by omega) (by omega) (by omega) (by omega)
  refine ⟨mup (mrow F 173 (va_cpy (F 171) (F 173) 0 (107 * m) 107)) 164 22 (nI (m + 1)), ?_, ⟨by rw [mup_self, pk_us], fun d k hd hk => ?_⟩, fun x h1 h2 => by rw [mup_ne h1, mrow_ne h2], fun j hj => by rw [mup_self, pk_un hj, mrow_ne (by omega)]⟩
  · unfold s_X9_note_b36
    rw [h22, e]
    simp only [bnd_]
    rw [mrow_ne (by omega), h22, nI_1]
  · rw [mup_ne (by omega), mrow_self]
    by_cases h0 : d = 0
    · subst h0
      rw [hpush_0, pk_cpy_in (by omega) (by omega), show 0 + (107 * (m + 1 - 1 - 0) + k - 107 * m) = k by omega]
      exact hR k hk
    · rw [hpush_s h0, pk_cpy_out (by omega), show m + 1 - 1 - d = m - 1 - (d - 1) by omega]
      exact hD (d - 1) k (by omega) hk
theorem m_note (hm : m ≤ 14) (hR : RRow F 171 S) (hD : RDia F m H) : ∃ F1, s_X9_note F = some F1 ∧ RDia F1 (mm1 m) (hpush S H) ∧ (∀ x, x ≠ 164 → x ≠ 173 → F1 x = F x) ∧ ∀ j, j ≠ 22 → F1 164 j = F 164 j := by
  obtain ⟨h22, hd⟩ := hD
  have al3 := alen173
  unfold s_X9_note
  by_cases h9 : m = 14
  · subst h9
    rw [h22, if_pos (by decide)]
    have e : s_X9_copy F 173 107 173 0 1391 = some (mrow F 173 (va_cpy (F 173) (F 173) 107 0 1391)) := m_copy (F := F) (q0 := 173) (q2 := 173) (a := 107) (b := 0) (N := 1391) (by omega) (by omega) (by omega) (by omega) (by omega) (by omega)
    rw [e]
    simp only [bnd_]
    rw [mrow_ne (by omega), h22, show nI 14 - 1 = nI 13 by decide]
    obtain ⟨F1, e1, g1, f1, f2⟩ := m_note36 (m := 13) (H := H) (S := S) (F := mup (mrow F 173 (va_cpy (F 173) (F 173) 107 0 1391)) 164 22 (nI 13)) (by omega) (fun k hk => by rw [mup_ne (by omega), mrow_ne (by omega)]; exact hR k hk) (by rw [mup_self, pk_us]) (fun d k h1 h2 => by
      rw [mup_ne (by omega), mrow_self, pk_cpy_in (by omega) (by omega), show 107 + (107 * (13 - 1 - d) + k - 0) = 107 * (14 - 1 - d) + k by omega]
      exact hd d k (by omega) h2)
    refine ⟨F1, e1, g1, fun x h1 h2 => by rw [f1 x h1 h2, mup_ne h1, mrow_ne h2], fun j hj => by rw [f2 j hj, mup_self, pk_un hj, mrow_ne (by omega)]⟩
  · rw [h22, if_neg (by rw [li_14, nI_eq (by omega) (by omega)]; exact h9)]
    have e : mm1 m = m + 1 := by unfold mm1; rw [if_pos (by omega)]
    rw [e]
    exact m_note36 (by omega) hR h22 hd
theorem invm_note (h : INVM F P S L T m H kp K) (hm : m ≤ 14) : ∃ F1, s_X9_note F = some F1 ∧ INVM F1 P S L T (mm1 m) (hpush S H) kp K ∧ F1 164 0 = F 164 0 ∧ ∀ x, x < 164 → F1 x = F x := by
  obtain ⟨h1, h2, h3, h4, h5⟩ := h
  obtain ⟨F1, e1, g1, f1, f2⟩ := m_note hm h2 h4
  refine ⟨F1, e1, ⟨?_, ?_, ?_, g1, ?_⟩, f2 0 (by omega), fun x hx => f1 x (by omega) (by omega)⟩
  · unfold RPM
    rw [f2 4 (by omega), f2 5 (by omega), f2 6 (by omega), f2 7 (by omega), f2 8 (by omega), f1 166 (by omega) (by omega), f1 167 (by omega) (by omega)]
    exact h1
  · unfold RRow
    rw [f1 171 (by omega) (by omega)]
    exact h2
  · unfold RTM
    rw [f2 2 (by omega), f1 165 (by omega) (by omega)]
    exact h3
  · unfold RKe
    rw [f1 174 (by omega) (by omega), f1 175 (by omega) (by omega)]
    exact h5
theorem invm_row (h : INVM F P S L T m H kp K) (hR : RRow F1 171 S') (hf : ∀ x, x ≠ 171 → F1 x = F x) : INVM F1 P S' L T m H kp K := by
  obtain ⟨h1, h2, h3, h4, h5⟩ := h
  refine ⟨?_, hR, ?_, ?_, ?_⟩
  · unfold RPM
    rw [hf 164 (by omega), hf 166 (by omega), hf 167 (by omega)]
    exact h1
  · unfold RTM
    rw [hf 164 (by omega), hf 165 (by omega)]
    exact h3
  · unfold RDia
    rw [hf 164 (by omega), hf 173 (by omega)]
    exact h4
  · unfold RKe
    rw [hf 174 (by omega), hf 175 (by omega)]
    exact h5
theorem m_change (h : INVM F P S L T m H kp K) (hm : m ≤ 14) (hk : k < 107) : ∃ F1, s_X9_change F (nI k) (nI v) = some (nI (S k), F1) ∧ INVM F1 P (rup S k v) L T (mm1 m) (hpush S H) kp K ∧ F1 164 0 = F 164 0 ∧ ∀ x, x < 164 → F1 x = F x := by
  obtain ⟨F1, e1, i1, z1, f1⟩ := invm_note h hm
  have r1 : F1 171 k = nI (S k) := i1.2.1 k hk
  refine ⟨mup F1 171 k (nI v), ?_, invm_row i1 (rr_up i1.2.1) (fun x hx => mup_ne hx), by rw [mup_ne (by omega)]; exact z1, fun x hx => by rw [mup_ne (by omega), f1 x hx]⟩
  unfold s_X9_change
  rw [e1]
  simp (disch := omega) only [bnd_, nI_add, nI_1, at_nI, pa_nI, inb_nI, ix_nI, nI_leI, nI_ltI, nI_eq, if_true, r1]
theorem inv_act (hA : WFA t P S L T m H kp K) (hS : WFS P t2 S') (ht : t ≤ t2) (hC : INVC F P S' L T (mm1 m) (hpush S H) kp K) (hM : INVM F1 P S' L T (mm1 m) (hpush S H) kp K) (hf : ∀ x, x < 164 → F1 x = F x) : INV t2 F1 := by
  obtain ⟨h1, h2, h3, h4, h5⟩ := wfa_mono hA ht
  refine ⟨P, S', L, T, mm1 m, hpush S H, kp, K, ⟨h1, hS, h3, ⟨mm1_le m, fun d hd => ?_⟩, h5⟩, invc_m hC hf, hM⟩
  by_cases h0 : d = 0
  · subst h0; rw [hpush_0]; exact h2
  · rw [hpush_s h0]; exact h4.2 (d - 1) (mm1_p hA.2.2.2.1.1 hd h0)
end ME
