/-! ===== what the class tells of a state ===== -/
def dnod (P : PL) (S : RW) : Nat := bsum (fun n => !(decide (dset P S n = 0))) (pNod P)
theorem bsum_zero {p : Nat → Bool} : ∀ n, bsum p n = 0 ↔ ∀ i, i < n → p i = false
  | 0 => ⟨fun _ i hi => absurd hi (by omega), fun _ => rfl⟩
  | n + 1 => by
    have ih := bsum_zero (p := p) n
    have h2 : 0 < 2 ^ n := Nat.two_pow_pos n
    constructor
    · intro h i hi
      cases hp : p n with
      | true => rw [bsum_t hp] at h; omega
      | false =>
        rw [bsum_f hp] at h
        by_cases hin : i = n
        · subst hin; exact hp
        · exact ih.mp h i (by omega)
    · intro h
      rw [bsum_f (h n (by omega))]
      exact ih.mpr (fun i hi => h i (by omega))
theorem bsum_compl (p : Nat → Bool) : ∀ n, bsum p n + bsum (fun i => !(p i)) n = 2 ^ n - 1
  | 0 => rfl
  | n + 1 => by
    have ih := bsum_compl p n
    have h2 : 0 < 2 ^ n := Nat.two_pow_pos n
    rw [Nat.pow_succ]
    cases hp : p n with
    | true => rw [bsum_t hp, bsum_f (p := fun i => !(p i)) (by simp [hp])]; omega
    | false => rw [bsum_f hp, bsum_t (p := fun i => !(p i)) (by simp [hp])]; omega
theorem i_calm_all : ∀ m, m < 6 → ∀ d, d < 2 ^ m → ((((1 : Int32) <<< (nI m &&& 31)) - 1) &&& (nI d ^^^ (-1))) = nI (2 ^ m - 1 - d) := by decide +kernel
theorem i_full_all : ∀ m, m < 6 → (((1 : Int32) <<< (nI m &&& 31)) - 1) = nI (2 ^ m - 1) := by decide +kernel
theorem i_pop_all : ∀ m, m < 6 → ∀ d, d < 2 ^ m → popc d 30 + popc (2 ^ m - 1 - d) 30 = m := by decide +kernel
section CD
variable {F F1 : MM} {P : PL} {S : RW} {a n c t k v u q : Nat}
theorem cod_eq_dset (hP : WFP P) (hS : WFS P t S) (hn : n < pNod P) : cod P S n 0 = cod P S n 6 ↔ dset P S n = 0 := by
  unfold dset
  rw [bsum_zero]
  constructor
  · intro h i hi
    have h1 := cod_vin0 hP hS hn hi
    have h2 := cod_vin6 hP hS hn hi
    rw [h, h2] at h1
    unfold drf
    simp [h1]
  · intro h
    unfold cod
    have : ∀ m, m ≤ pPar P → codN S (2 + 15 * n + 0) m = codN S (2 + 15 * n + 6) m := fun m => by
      induction m with
      | zero => intro _; rfl
      | succ m ih =>
        intro hm
        have hd := h m (by omega)
        unfold drf at hd
        simp at hd
        show codN S (2 + 15 * n + 0) m + S (2 + 15 * n + 0 + m) * 4 ^ m = codN S (2 + 15 * n + 6) m + S (2 + 15 * n + 6 + m) * 4 ^ m
        rw [ih (by omega), show 2 + 15 * n + 0 + m = 2 + 15 * n + m from rfl, hd]
    exact this _ (Nat.le_refl _)
theorem dnod_lt (hP : WFP P) (S : RW) : dnod P S < 32 := Nat.lt_of_lt_of_le (bsum_lt _ _) (Nat.le_trans (Nat.pow_le_pow_right (by decide) hP.1.2) (by decide))
theorem dnod_calm (P : PL) (S : RW) : calm P S = 2 ^ pNod P - 1 - dnod P S := by
  have h := bsum_compl (fun n => decide (dset P S n = 0)) (pNod P)
  unfold calm dnod
  omega
theorem c_driftedOn_b (hP : WFP P) (hS : WFS P t S) (hC' : RPC F P) (hT : RSt F P a S) (hn : n < pNod P) : ∀ d i fuel, i + d = pPar P → d < fuel →
    s_X5_driftedOn_b4 F a fuel (nI n) (nI (bsum (drf S n) i)) (nI i) = some (nI (dset P S n))
  | 0, i, fuel + 1, h, _ => by
    have hC := hP.2.1.2
    have : i = pPar P := by omega
    subst this
    rw [s_X5_driftedOn_b4, if_pos (by rw [hC'.2.1, nI_leI (by omega) (by omega)]; omega)]
    rfl
  | d + 1, i, fuel + 1, h, hf => by
    have hC := hP.2.1.2
    have ih := c_driftedOn_b hP hS hC' hT hn d (i + 1) fuel (by omega) (by omega)
    rw [s_X5_driftedOn_b4, if_neg (by rw [hC'.2.1, nI_leI (by omega) (by omega)]; omega), c_isDrifted hP hS hT hn (show i < pPar P by omega)]
    simp only [Option.bind_some, nI_1]
    cases hd : drf S n i with
    | false => rw [if_pos b01_f, ← ih, bsum_f hd]
    | true => rw [if_neg b01_t, ← ih, bsum_t hd, i_bit (by omega) (bsum_lt _ _)]
theorem c_driftedOn (hP : WFP P) (hS : WFS P t S) (hC' : RPC F P) (hT : RSt F P a S) (hn : n < pNod P) : s_X5_driftedOn F a (nI n) = some (nI (dset P S n)) := by
  have hC := hP.2.1.2
  exact c_driftedOn_b hP hS hC' hT hn (pPar P) 0 fu_ (by omega) (fu_lt (by omega))
theorem c_driftedNodes_b (hP : WFP P) (hS : WFS P t S) (hC' : RPC F P) (hT : RSt F P a S) : ∀ d i fuel, i + d = pNod P → d < fuel →
    s_X5_driftedNodes_b4 F a fuel (nI (bsum (fun n => !(decide (dset P S n = 0))) i)) (nI i) = some (nI (dnod P S))
  | 0, i, fuel + 1, h, _ => by
    have hC := hP.1.2
    have : i = pNod P := by omega
    subst this
    rw [s_X5_driftedNodes_b4, if_pos (by rw [hC'.1, nI_leI (by omega) (by omega)]; omega)]
    rfl
  | d + 1, i, fuel + 1, h, hf => by
    have hC := hP.1.2
    have ih := c_driftedNodes_b hP hS hC' hT d (i + 1) fuel (by omega) (by omega)
    obtain ⟨r1, r2, -⟩ := hT.2.2.1 i (by omega)
    have hx := cod_4096 hP hS (show i < pNod P by omega) (Or.inl rfl)
    have hy := cod_4096 hP hS (show i < pNod P by omega) (Or.inr rfl)
    rw [s_X5_driftedNodes_b4, if_neg (by rw [hC'.1, nI_leI (by omega) (by omega)]; omega)]
    simp (disch := omega) only [Option.bind_some, nI_add, nI_1, at_nI, pa_nI, inb_nI, ix_nI, nI_leI, nI_ltI, nI_eq, if_true, r1, r2, cod_eq_dset hP hS (show i < pNod P by omega)]
    by_cases hd : dset P S i = 0
    · rw [if_pos hd, ← ih, bsum_f (by simp [hd])]
    · rw [if_neg hd, ← ih, bsum_t (by simp [hd]), i_bit (by omega) (bsum_lt _ _)]
theorem c_driftedNodes (hP : WFP P) (hS : WFS P t S) (hC' : RPC F P) (hT : RSt F P a S) : s_X5_driftedNodes F a = some (nI (dnod P S)) := by
  have hC := hP.1.2
  exact c_driftedNodes_b hP hS hC' hT (pNod P) 0 fu_ (by omega) (fu_lt (by omega))
theorem c_calmNodes (hP : WFP P) (hS : WFS P t S) (hC' : RPC F P) (hT : RSt F P a S) : s_X5_calmNodes F a = some (nI (calm P S)) := by
  have hC := hP.1.2
  unfold s_X5_calmNodes
  rw [c_driftedNodes hP hS hC' hT, hC'.1, dnod_calm]
  simp only [Option.bind_some]
  rw [i_calm_all (pNod P) (by omega) (dnod P S) (bsum_lt _ _)]
theorem c_digestOf_b (hP : WFP P) (hS : WFS P t S) (hC' : RPC F P) (hT : RSt F P a S) (hn : n < pNod P) : ∀ d i fuel, i + d = pPar P → d < fuel →
    s_X5_digestOf_b4 F a fuel (nI n) (nI (digN S n i)) (nI i) = some (nI (dig P S n))
  | 0, i, fuel + 1, h, _ => by
    have hC := hP.2.1.2
    have : i = pPar P := by omega
    subst this
    rw [s_X5_digestOf_b4, if_pos (by rw [hC'.2.1, nI_leI (by omega) (by omega)]; omega)]
    rfl
  | d + 1, i, fuel + 1, h, hf => by
    have hC := hP.2.1.2
    have hN := hP.1.2
    have ih := c_digestOf_b hP hS hC' hT hn d (i + 1) fuel (by omega) (by omega)
    obtain ⟨r1, -⟩ := hT.2.2.1 n hn
    have hx := cod_4096 hP hS hn (Or.inl rfl)
    rw [s_X5_digestOf_b4, if_neg (by rw [hC'.2.1, nI_leI (by omega) (by omega)]; omega), ← ih]
    unfold s_X0_versionIn
    simp (disch := omega) only [Option.bind_some, nI_add, nI_1, at_nI, pa_nI, inb_nI, ix_nI, nI_leI, nI_ltI, nI_eq, if_true, r1, i_vin hx (show i < 6 by omega), cod_vin0 hP hS hn (show i < pPar P by omega), pk_mul, digN]
theorem c_digestOf (hP : WFP P) (hS : WFS P t S) (hC' : RPC F P) (hT : RSt F P a S) (hn : n < pNod P) : s_X5_digestOf F a (nI n) = some (nI (dig P S n)) := by
  have hC := hP.2.1.2
  exact c_digestOf_b hP hS hC' hT hn (pPar P) 0 fu_ (by omega) (fu_lt (by omega))
theorem c_numberOf {w : Nat} (hP : WFP P) (ht : t < 1000000) (hS : WFS P t S) (hC' : RPC F P) (hT : RSt F P a S) (hn : n < pNod P) (hw : w < 7) : s_X5_numberOf F a (nI n) (nI w) = some (tel P S n w) := by
  have hN := hP.1.2
  have hC := hP.2.1.2
  obtain ⟨r1, r2, r3, r4, r5⟩ := hT.2.2.1 n hn
  have hri := hC'.2.2.2.2.2.1 n hn
  unfold s_X5_numberOf
  rw [show (0 : Int32) = nI 0 from rfl]
  have q1 := c_isQuarantined hP ht hS hT hn
  have q2 := c_driftedOn hP hS hC' hT hn
  have q3 := c_brokenOn hP hC' (cod_lt hP hS hn (Or.inl rfl))
  have q5 := c_digestOf hP hS hC' hT hn
  unfold tel
  have : w = 0 ∨ w = 1 ∨ w = 2 ∨ w = 3 ∨ w = 4 ∨ w = 5 ∨ w = 6 := by omega
  rcases this with rfl | rfl | rfl | rfl | rfl | rfl | rfl
  · simp (disch := omega) only [Option.bind_some, nI_add, nI_1, at_nI, pa_nI, inb_nI, ix_nI, nI_leI, nI_ltI, nI_eq, if_true, if_pos, if_neg, hri]
  · simp (disch := omega) only [Option.bind_some, nI_add, nI_1, at_nI, pa_nI, inb_nI, ix_nI, nI_leI, nI_ltI, nI_eq, if_true, if_pos, if_neg, li_1, li_2, li_3, li_4, li_5, r3]
  · simp (disch := omega) only [Option.bind_some, nI_add, nI_1, at_nI, pa_nI, inb_nI, ix_nI, nI_leI, nI_ltI, nI_eq, if_true, if_pos, if_neg, li_1, li_2, li_3, li_4, li_5, r4]
  · simp (disch := omega) only [Option.bind_some, nI_add, nI_1, at_nI, pa_nI, inb_nI, ix_nI, nI_leI, nI_ltI, nI_eq, if_true, if_pos, if_neg, li_1, li_2, li_3, li_4, li_5, r5, q1]
    cases qua S n with
    | true => rw [if_neg (by decide), if_pos rfl]
    | false => rw [if_pos (by decide)]; simp
  · simp (disch := omega) only [Option.bind_some, nI_add, nI_1, at_nI, pa_nI, inb_nI, ix_nI, nI_leI, nI_ltI, nI_eq, if_true, if_pos, if_neg, li_1, li_2, li_3, li_4, li_5, q2]
  · simp (disch := omega) only [Option.bind_some, nI_add, nI_1, at_nI, pa_nI, inb_nI, ix_nI, nI_leI, nI_ltI, nI_eq, if_true, if_pos, if_neg, li_1, li_2, li_3, li_4, li_5, r1, q3]
  · simp (disch := omega) only [Option.bind_some, nI_add, nI_1, at_nI, pa_nI, inb_nI, ix_nI, nI_leI, nI_ltI, nI_eq, if_true, if_pos, if_neg, li_1, li_2, li_3, li_4, li_5, q5]
end CD
