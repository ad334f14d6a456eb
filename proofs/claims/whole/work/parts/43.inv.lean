/-! ===== what holds between the calls ===== -/
def RTC (F : MM) (L : Nat) (T : Nat → Nat) : Prop := F 0 1 = nI L ∧ ∀ k, k < L → F 1 k = nI (T k)
def RMe (F : MM) (P : PL) (m : Nat) (H : Nat → RW) : Prop := F 32 2 = nI m ∧ ∃ w, w < 14 ∧ F 32 1 = nI w ∧ ∀ d, d < m → RSt F P (34 + 8 * ((w + 14 - d) % 14)) (H d)
def RSl (F : MM) (P : PL) (kp : Nat → Bool) (K : Nat → RW) : Prop := ∀ s, s < 2 → F 147 s = b01 (kp s) ∧ (kp s = true → RSt F P (148 + 8 * s) (K s))
def INVC (F : MM) (P : PL) (S : RW) (L : Nat) (T : Nat → Nat) (m : Nat) (H : Nat → RW) (kp : Nat → Bool) (K : Nat → RW) : Prop := RPC F P ∧ RSt F P 16 S ∧ RTC F L T ∧ RMe F P m H ∧ RSl F P kp K ∧ RWy F P
def RTM (F : MM) (L : Nat) (T : Nat → Nat) : Prop := F 164 2 = nI L ∧ ∀ k, k < L → F 165 k = nI (T k)
def RDia (F : MM) (m : Nat) (H : Nat → RW) : Prop := F 164 22 = nI m ∧ ∀ d k, d < m → k < 107 → F 173 (107 * (m - 1 - d) + k) = nI (H d k)
def RKe (F : MM) (kp : Nat → Bool) (K : Nat → RW) : Prop := ∀ s, s < 2 → F 175 s = b01 (kp s) ∧ (kp s = true → ∀ k, k < 107 → F 174 (107 * s + k) = nI (K s k))
def INVM (F : MM) (P : PL) (S : RW) (L : Nat) (T : Nat → Nat) (m : Nat) (H : Nat → RW) (kp : Nat → Bool) (K : Nat → RW) : Prop := RPM F P ∧ RRow F 171 S ∧ RTM F L T ∧ RDia F m H ∧ RKe F kp K
def WFA (t : Nat) (P : PL) (S : RW) (L : Nat) (T : Nat → Nat) (m : Nat) (H : Nat → RW) (kp : Nat → Bool) (K : Nat → RW) : Prop := WFP P ∧ WFS P t S ∧ (L ≤ 160 ∧ ∀ k, k < L → T k < 256) ∧ (m ≤ 14 ∧ ∀ d, d < m → WFS P t (H d)) ∧ ∀ s, s < 2 → kp s = true → WFS P t (K s)
def INV (t : Nat) (F : MM) : Prop := ∃ P S L T m H kp K, WFA t P S L T m H kp K ∧ INVC F P S L T m H kp K ∧ INVM F P S L T m H kp K
section IV
variable {F F1 : MM} {P : PL} {S : RW} {L m t : Nat} {T : Nat → Nat} {H K : Nat → RW} {kp : Nat → Bool}
theorem rme_fr (h : RMe F P m H) (hf : ∀ x, 32 ≤ x → x < 146 → F1 x = F x) : RMe F1 P m H := by
  obtain ⟨h1, w, h2, h3, h4⟩ := h
  refine ⟨by rw [hf 32 (by omega) (by omega)]; exact h1, w, h2, by rw [hf 32 (by omega) (by omega)]; exact h3, fun d hd => rst_fr (h4 d hd) (fun x hx hx2 => hf x (by omega) (by omega))⟩
theorem rsl_fr (h : RSl F P kp K) (hf : ∀ x, 147 ≤ x → x < 164 → F1 x = F x) : RSl F1 P kp K := fun s hs => by
  obtain ⟨h1, h2⟩ := h s hs
  exact ⟨by rw [hf 147 (by omega) (by omega)]; exact h1, fun hk => rst_fr (h2 hk) (fun x hx hx2 => hf x (by omega) (by omega))⟩
theorem rwy_fr (h : RWy F P) (hf : ∀ x, 13 ≤ x → x ≤ 15 → F1 x = F x) : RWy F1 P := by
  unfold RWy RWQ
  rw [hf 13 (by omega) (by omega), hf 14 (by omega) (by omega), hf 15 (by omega) (by omega)]
  exact h
theorem invc_fr (h : INVC F P S L T m H kp K) (hf : ∀ x, x < 2 ∨ (8 ≤ x ∧ x < 24) ∨ (32 ≤ x ∧ x < 164) → F1 x = F x) : INVC F1 P S L T m H kp K := by
  obtain ⟨h1, h2, h3, h4, h5, h6⟩ := h
  refine ⟨rpc_fr h1 (fun x _ _ => hf x (by omega)), rst_fr h2 (fun x _ _ => hf x (by omega)), ?_, rme_fr h4 (fun x _ _ => hf x (by omega)), rsl_fr h5 (fun x _ _ => hf x (by omega)), rwy_fr h6 (fun x _ _ => hf x (by omega))⟩
  unfold RTC
  rw [hf 0 (by omega), hf 1 (by omega)]
  exact h3
theorem invm_fr (h : INVM F P S L T m H kp K) (h4 : ∀ j, j = 2 ∨ (4 ≤ j ∧ j ≤ 8) ∨ j = 22 → F1 164 j = F 164 j) (hf : ∀ x, (165 ≤ x ∧ x ≤ 167) ∨ x = 171 ∨ (173 ≤ x ∧ x ≤ 175) → F1 x = F x) : INVM F1 P S L T m H kp K := by
  unfold INVM RPM RRow RTM RDia RKe
  rw [h4 2 (by omega), h4 4 (by omega), h4 5 (by omega), h4 6 (by omega), h4 7 (by omega), h4 8 (by omega), h4 22 (by omega), hf 165 (by omega), hf 166 (by omega), hf 167 (by omega), hf 171 (by omega), hf 173 (by omega), hf 174 (by omega), hf 175 (by omega)]
  exact h
theorem invm_cl (h : INVM F P S L T m H kp K) (hf : ∀ x, 164 ≤ x → F1 x = F x) : INVM F1 P S L T m H kp K := invm_fr h (fun j _ => by rw [hf 164 (by omega)]) (fun x hx => hf x (by omega))
theorem invm_0 (h : INVM F P S L T m H kp K) (v : Int32) : INVM (mup F 164 0 v) P S L T m H kp K := invm_fr h (fun j hj => by rw [mup_self, pk_un (by omega)]) (fun x hx => mup_ne (by omega))
theorem invc_m (h : INVC F P S L T m H kp K) (hf : ∀ x, x < 164 → F1 x = F x) : INVC F1 P S L T m H kp K := invc_fr h (fun x hx => hf x (by omega))
theorem inv_0 (h : INV t F) (v : Int32) : INV t (mup F 164 0 v) := by
  obtain ⟨P, S, L, T, m, H, kp, K, h1, h2, h3⟩ := h
  exact ⟨P, S, L, T, m, H, kp, K, h1, invc_m h2 (fun x hx => mup_ne (by omega)), invm_0 h3 v⟩
theorem wfa_mono {t2 : Nat} (h : WFA t P S L T m H kp K) (ht : t ≤ t2) : WFA t2 P S L T m H kp K := ⟨h.1, wfs_mono h.2.1 ht, h.2.2.1, ⟨h.2.2.2.1.1, fun d hd => wfs_mono (h.2.2.2.1.2 d hd) ht⟩, fun s hs hk => wfs_mono (h.2.2.2.2 s hs hk) ht⟩
theorem inv_mono {t2 : Nat} (h : INV t F) (ht : t ≤ t2) : INV t2 F := by
  obtain ⟨P, S, L, T, m, H, kp, K, h1, h2, h3⟩ := h
  exact ⟨P, S, L, T, m, H, kp, K, wfa_mono h1 ht, h2, h3⟩
end IV
/-! ===== arguments ===== -/
theorem i10_ : ¬ (1 : Int32) = 0 := by decide
theorem ite_10 {α : Type} (a b : α) : (if (1 : Int32) = 0 then a else b) = b := if_neg (by decide)
theorem ite_00 {α : Type} (a b : α) : (if (0 : Int32) = 0 then a else b) = a := if_pos rfl
def Out (x : Int32) (n : Nat) : Prop := x < 0 ∨ nI n ≤ x
theorem arg_ (x : Int32) {n : Nat} (hn : n < 2 ^ 31) : (∃ j, j < n ∧ x = nI j) ∨ Out x n := by
  rcases pk_ix x hn with h | h | h
  · exact Or.inr (Or.inl h)
  · exact Or.inr (Or.inr h)
  · exact Or.inl h
theorem out_toInt {x : Int32} {n : Nat} (hn : n < 2 ^ 31) (h : Out x n) : x.toInt < 0 ∨ (n : Int) ≤ x.toInt := by
  rcases h with h | h
  · rw [Int32.lt_iff_toInt_lt] at h
    exact Or.inl h
  · rw [Int32.le_iff_toInt_le, nI_toInt hn] at h
    exact Or.inr h
section AR
variable {F : MM} {P : PL}
theorem lim_ok {N : Int32} {n k : Nat} {α : Type} (hN : N = nI k) (hn : n < k) (hk : k < 2 ^ 31) (a b c : α) : (if nI n < 0 then a else if nI n < N then b else c) = b := by
  rw [if_neg (nI_pos (by omega)), hN, if_pos (by rw [nI_ltI (by omega) (by omega)]; exact hn)]
theorem lim_no {N x : Int32} {k : Nat} {α : Type} (hN : N = nI k) (hx : Out x k) (a b : α) : (if x < 0 then a else if x < N then b else a) = a := by
  rcases hx with h | h
  · rw [if_pos h]
  · by_cases h0 : x < 0
    · rw [if_pos h0]
    · rw [if_neg h0, hN, if_neg (Int32.not_lt.mpr h)]
theorem cN_ok {n : Nat} (hP : WFP P) (hC : RPC F P) (hn : n < pNod P) : s_X8_requireNode F (nI n) = some (.inl ()) := lim_ok hC.1 hn (by have := hP.1.2; omega) _ _ _
theorem cN_no {x : Int32} (hC : RPC F P) (hx : Out x (pNod P)) : s_X8_requireNode F x = some (.inr ex_ioo) := lim_no hC.1 hx _ _
theorem cP_ok {n : Nat} (hP : WFP P) (hC : RPC F P) (hn : n < pPar P) : s_X8_requireComponent F (nI n) = some (.inl ()) := lim_ok hC.2.1 hn (by have := hP.2.1.2; omega) _ _ _
theorem cP_no {x : Int32} (hC : RPC F P) (hx : Out x (pPar P)) : s_X8_requireComponent F x = some (.inr ex_ioo) := lim_no hC.2.1 hx _ _
theorem cR_ok {n : Nat} (hP : WFP P) (hC : RPC F P) (hn : n < pRul P) : s_X8_requireRule F (nI n) = some (.inl ()) := lim_ok hC.2.2.1 hn (by have := hP.2.2.1; omega) _ _ _
theorem cR_no {x : Int32} (hC : RPC F P) (hx : Out x (pRul P)) : s_X8_requireRule F x = some (.inr ex_ioo) := lim_no hC.2.2.1 hx _ _
theorem cA_ok {n : Nat} (hn : n < 5) : s_X8_requireApprover F (nI n) = some (.inl ()) := lim_ok (k := 5) rfl hn (by omega) _ _ _
theorem cA_no {x : Int32} (hx : Out x 5) : s_X8_requireApprover F x = some (.inr ex_ioo) := lim_no (k := 5) rfl hx _ _
theorem cS_ok {n : Nat} (hn : n < 2) : s_X8_requireSlot F (nI n) = some (.inl ()) := lim_ok (k := 2) rfl hn (by omega) _ _ _
theorem cS_no {x : Int32} (hx : Out x 2) : s_X8_requireSlot F x = some (.inr ex_ioo) := lim_no (k := 2) rfl hx _ _
theorem cG_ok {lo hi : Int32} {a b n : Nat} (hlo : lo = nI a) (hhi : hi = nI b) (hb : b < 2 ^ 31) (h1 : a ≤ n) (h2 : n ≤ b) : s_X8_requireRange F (nI n) lo hi = some (.inl ()) := by
  unfold s_X8_requireRange
  rw [hlo, hhi, if_neg (by rw [nI_ltI (by omega) (by omega)]; omega), if_pos (by rw [nI_leI (by omega) (by omega)]; exact h2)]
theorem cG_no {lo hi x : Int32} (h : x.toInt < lo.toInt ∨ hi.toInt < x.toInt) : s_X8_requireRange F x lo hi = some (.inr ex_iae) := by
  unfold s_X8_requireRange
  by_cases h1 : x < lo
  · rw [if_pos h1]
  · rw [if_neg h1, if_neg (fun h2 => by
      rw [Int32.lt_iff_toInt_lt] at h1
      rw [Int32.le_iff_toInt_le] at h2
      omega)]
theorem cV_no {hi x : Int32} {b : Nat} (hhi : hi.toInt = b) (hb : b < 2 ^ 30) (h : Out x (b + 1)) : s_X8_requireRange F x 0 hi = some (.inr ex_iae) := cG_no (by
  have h0 : (0 : Int32).toInt = 0 := by decide
  rw [h0, hhi]
  have := out_toInt (by omega) h
  omega)
theorem in_1 {x : Int32} {lo hi : Int64} (h1 : lo.toInt ≤ x.toInt) (h2 : x.toInt ≤ hi.toInt) : s_X9_in F x.toInt64 lo hi = some 1 := by
  unfold s_X9_in
  rw [if_neg (by rw [lg_cmp_lt, Int64.lt_iff_toInt_lt, Int32.toInt_toInt64]; omega), if_neg (by rw [lg_cmp_gt, Int64.lt_iff_toInt_lt, Int32.toInt_toInt64]; omega)]
theorem in_0 {x : Int32} {lo hi : Int64} (h : x.toInt < lo.toInt ∨ hi.toInt < x.toInt) : s_X9_in F x.toInt64 lo hi = some 0 := by
  unfold s_X9_in
  by_cases h1 : x.toInt < lo.toInt
  · rw [if_pos (by rw [lg_cmp_lt, Int64.lt_iff_toInt_lt, Int32.toInt_toInt64]; exact h1)]
  · rw [if_neg (by rw [lg_cmp_lt, Int64.lt_iff_toInt_lt, Int32.toInt_toInt64]; exact h1), if_pos (by rw [lg_cmp_gt, Int64.lt_iff_toInt_lt, Int32.toInt_toInt64]; omega)]
theorem in_ok {lo hi : Int64} {a b n : Nat} (hlo : lo.toInt = a) (hhi : hi.toInt = b) (hn : n < 2 ^ 31) (h1 : a ≤ n) (h2 : n ≤ b) : s_X9_in F (nI n).toInt64 lo hi = some 1 := in_1 (by rw [nI_toInt hn, hlo]; omega) (by rw [nI_toInt hn, hhi]; omega)
theorem in_no {hi : Int64} {x : Int32} {b : Nat} (hhi : hi.toInt = b) (hb : b < 2 ^ 30) (h : Out x (b + 1)) : s_X9_in F x.toInt64 0 hi = some 0 := in_0 (by
  have h0 : (0 : Int64).toInt = 0 := by decide
  rw [h0, hhi]
  have := out_toInt (by omega) h
  omega)
theorem m1_toInt {k : Nat} (hk : k < 2 ^ 30) : ((nI k - 1).toInt64).toInt = (k : Int) - 1 := by
  rw [Int32.toInt_toInt64]
  have := pk_sub_toInt (a := k) (b := 1) (by omega) (by omega)
  exact this
theorem lm_ok {N : Int32} {n k : Nat} (hN : N = nI k) (hn : n < k) (hk : k < 2 ^ 30) : s_X9_in F (nI n).toInt64 0 (N - 1).toInt64 = some 1 := by
  subst hN
  exact in_1 (by rw [nI_toInt (by omega)]; have h0 : (0 : Int64).toInt = 0 := by decide
                 rw [h0]; omega) (by rw [nI_toInt (by omega), m1_toInt hk]; omega)
theorem lm_no {N x : Int32} {k : Nat} (hN : N = nI k) (hx : Out x k) (hk : k < 2 ^ 30) : s_X9_in F x.toInt64 0 (N - 1).toInt64 = some 0 := by
  subst hN
  refine in_0 ?_
  have h0 : (0 : Int64).toInt = 0 := by decide
  rw [h0, m1_toInt hk]
  have := out_toInt (by omega) hx
  omega
theorem mN_ok {n : Nat} (hP : WFP P) (hM : RPM F P) (hn : n < pNod P) : s_X9_isNode F (nI n) = some 1 := by
  unfold s_X9_isNode
  rw [lm_ok hM.1 hn (by have := hP.1.2; omega)]
  rfl
theorem mN_no {x : Int32} (hP : WFP P) (hM : RPM F P) (hx : Out x (pNod P)) : s_X9_isNode F x = some 0 := by
  unfold s_X9_isNode
  rw [lm_no hM.1 hx (by have := hP.1.2; omega)]
  rfl
theorem mP_ok {n : Nat} (hP : WFP P) (hM : RPM F P) (hn : n < pPar P) : s_X9_isPart F (nI n) = some 1 := by
  unfold s_X9_isPart
  rw [lm_ok hM.2.1 hn (by have := hP.2.1.2; omega)]
  rfl
theorem mP_no {x : Int32} (hP : WFP P) (hM : RPM F P) (hx : Out x (pPar P)) : s_X9_isPart F x = some 0 := by
  unfold s_X9_isPart
  rw [lm_no hM.2.1 hx (by have := hP.2.1.2; omega)]
  rfl
theorem mV_ok {n : Nat} (hn : n < 4) : s_X9_isVersion F (nI n) = some 1 := by
  unfold s_X9_isVersion
  rw [in_ok (a := 0) (b := 3) (by decide) (by decide) (by omega) (by omega) (by omega)]
  rfl
theorem mV_no {x : Int32} (hx : Out x 4) : s_X9_isVersion F x = some 0 := by
  unfold s_X9_isVersion
  rw [in_no (b := 3) (by decide) (by omega) hx]
  rfl
theorem rf_0 {α : Type} (g : Int32 × MM → Option α) (e : Int32 × MM → Option α) : (s_X9_refused F 0).bind (fun z => if z.1 = 0 then g z else e z) = g (0, mup F 164 0 0) := rfl
theorem rf_1 {α : Type} (g : Int32 × MM → Option α) (e : Int32 × MM → Option α) : (s_X9_refused F 1).bind (fun z => if z.1 = 0 then g z else e z) = e (1, mup F 164 0 1) := rfl
theorem rf_2 {α : Type} (g : Int32 × MM → Option α) (e : Int32 × MM → Option α) : (s_X9_refused F 2).bind (fun z => if z.1 = 0 then g z else e z) = e (1, mup F 164 0 2) := rfl
theorem rf_3 {α : Type} (g : Int32 × MM → Option α) (e : Int32 × MM → Option α) : (s_X9_refused F 3).bind (fun z => if z.1 = 0 then g z else e z) = e (1, mup F 164 0 3) := rfl
theorem tbR_l {α β : Type} (a : α) (f : α → Option (β ⊕ String)) : tbR (some (.inl a)) f = f a := rfl
theorem tbR_r {α β : Type} (e : String) (f : α → Option (β ⊕ String)) : tbR (some (.inr e)) f = some (.inr e) := rfl
theorem tbW_l {α β : Type} (F : MM) (a : α) (f : α → Option ((β ⊕ String) × MM)) : tbW F (some (.inl a)) f = f a := rfl
theorem tbW_r {α β : Type} (F : MM) (e : String) (f : α → Option ((β ⊕ String) × MM)) : tbW F (some (.inr e)) f = some (.inr e, F) := rfl
end AR
/-! ===== the answers agree ===== -/
def AgR (t : Nat) (Es : List String) (cm : Option (Int32 ⊕ String)) (mm : Option (Int32 × MM)) : Prop := ∃ r k b F2, cm = some r ∧ wcd Es r = some k ∧ mm = some (b, F2) ∧ F2 164 0 = k ∧ (k = 0 → r = .inl b) ∧ INV t F2
def AgW (t : Nat) (Es : List String) (cm : Option ((Int32 ⊕ String) × MM)) (mm : MM → Option (Int32 × MM)) : Prop := ∃ r F1 k b F2, cm = some (r, F1) ∧ wcd Es r = some k ∧ mm F1 = some (b, F2) ∧ F2 164 0 = k ∧ (k = 0 → r = .inl b) ∧ INV t F2
section AG
variable {F F1 F2 : MM} {t : Nat} {Es : List String} {e : String} {k v : Int32}
theorem mup_00 (F : MM) (v : Int32) : mup F 164 0 v 164 0 = v := by rw [mup_self, pk_us]
theorem agR_no (hI : INV t F) (hw : wcd (α := Int32) Es (.inr e) = some k) (hk : ¬ k = 0) : AgR t Es (some (.inr e)) (some (0, mup F 164 0 k)) := ⟨.inr e, k, 0, mup F 164 0 k, rfl, hw, rfl, mup_00 F k, fun h => absurd h hk, inv_0 hI k⟩
theorem agR_ok (hI : INV t F) : AgR t Es (some (.inl v)) (some (v, mup F 164 0 0)) := ⟨.inl v, 0, v, mup F 164 0 0, rfl, rfl, rfl, mup_00 F 0, fun _ => rfl, inv_0 hI 0⟩
theorem agR_o2 (hI : INV t F2) (h0 : F2 164 0 = 0) : AgR t Es (some (.inl v)) (some (v, F2)) := ⟨.inl v, 0, v, F2, rfl, rfl, rfl, h0, fun _ => rfl, hI⟩
theorem agW_no {mm : MM → Option (Int32 × MM)} (hI : INV t F) (hw : wcd (α := Int32) Es (.inr e) = some k) (hk : ¬ k = 0) (hm : mm F = some (0, mup F 164 0 k)) : AgW t Es (some (.inr e, F)) mm := ⟨.inr e, F, k, 0, mup F 164 0 k, rfl, hw, hm, mup_00 F k, fun h => absurd h hk, inv_0 hI k⟩
theorem agW_ok {mm : MM → Option (Int32 × MM)} (hm : mm F1 = some (v, F2)) (h0 : F2 164 0 = 0) (hI : INV t F2) : AgW t Es (some (.inl v, F1)) mm := ⟨.inl v, F1, 0, v, F2, rfl, rfl, hm, h0, fun _ => rfl, hI⟩
end AG
