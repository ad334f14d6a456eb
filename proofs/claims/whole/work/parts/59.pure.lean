/-! ===== the start ===== -/
/-- the memory behind the two constructors -/
def F_ini : MM := (mup (mup (mup (mup (mup (mup (mup (mup (mup (mup (fun _ _ => 0) 8 0 1) 8 1 1) 8 2 3) 8 3 5) 10 2 4) 13 3 (-1)) 164 4 1) 164 5 1) 164 7 3) 164 8 5)
def P_ini : PL := (1, 1, 0, 3, 5, fun _ => 0, fun _ => 0)
theorem fi_z {a : Nat} (h : a ≠ 8 ∧ a ≠ 10 ∧ a ≠ 13 ∧ a ≠ 164) : F_ini a = fun _ => 0 := by
  unfold F_ini
  rw [mup_ne h.2.2.2, mup_ne h.2.2.2, mup_ne h.2.2.2, mup_ne h.2.2.2, mup_ne h.2.2.1, mup_ne h.2.1, mup_ne h.1, mup_ne h.1, mup_ne h.1, mup_ne h.1]
theorem fi_164 {j : Nat} (h : j ≠ 4 ∧ j ≠ 5 ∧ j ≠ 7 ∧ j ≠ 8) : F_ini 164 j = 0 := by
  unfold F_ini
  rw [mup_self, pk_un h.2.2.2, mup_self, pk_un h.2.2.1, mup_self, pk_un h.2.1, mup_self, pk_un h.1, mup_ne (by omega), mup_ne (by omega), mup_ne (by omega), mup_ne (by omega), mup_ne (by omega), mup_ne (by omega)]
theorem cod_ini (n f : Nat) : cod P_ini (fun _ => 0) n f = 0 := codN_0 (S := fun _ => 0) _ (fun _ _ => rfl)
theorem rst_ini {a : Nat} (h : ∀ x, a ≤ x → x ≤ a + 7 → F_ini x = fun _ => 0) : RSt F_ini P_ini a (fun _ => 0) := by
  refine ⟨by rw [h a (by omega) (by omega)]; rfl, by rw [h a (by omega) (by omega)]; rfl, fun n _ => ⟨by rw [h _ (by omega) (by omega), cod_ini]; rfl, by rw [h _ (by omega) (by omega), cod_ini]; rfl, by rw [h _ (by omega) (by omega)]; rfl, by rw [h _ (by omega) (by omega)]; rfl, by rw [h _ (by omega) (by omega)]; rfl⟩, fun c _ => ⟨by rw [h _ (by omega) (by omega)]; rfl, fun v _ => by rw [h _ (by omega) (by omega)]; rfl⟩, fun k _ _ => by rw [h _ (by omega) (by omega)]⟩
theorem inv_ini : INV 0 F_ini := by
  have wp : WFP P_ini := ⟨⟨Nat.le_refl _, by decide⟩, ⟨Nat.le_refl _, by decide⟩, by decide, ⟨by decide, by decide⟩, ⟨by decide, by decide⟩, fun _ _ => Nat.zero_le _, fun r hr => absurd hr (Nat.not_lt_zero _)⟩
  have ws : WFS P_ini 0 (fun _ => 0) := ⟨⟨Nat.le_refl _, fun _ _ => Nat.zero_le _⟩, Nat.le_refl _, fun n _ => ⟨fun c _ => ⟨show 0 < 4 by decide, show 0 < 4 by decide⟩, Nat.zero_le _, show 0 < 3 by decide, Nat.zero_le _⟩, fun c _ => ⟨Nat.zero_le _, fun v _ => show 0 < 32 by decide⟩⟩
  refine ⟨P_ini, fun _ => 0, 0, fun _ => 0, 0, fun _ _ => 0, fun _ => false, fun _ _ => 0, ⟨wp, ws, ⟨by omega, fun k hk => absurd hk (by omega)⟩, ⟨by omega, fun d hd => absurd hd (by omega)⟩, fun s hs h => absurd (show false = true from h) (by decide)⟩, ⟨?_, ?_, ?_, ?_, ?_, ?_⟩, ⟨?_, ?_, ?_, ?_, ?_⟩⟩
  · refine ⟨by decide, by decide, by decide, by decide, by decide, fun n _ => by rw [fi_z (by omega)]; rfl, fun k hk => absurd hk (Nat.not_lt_zero _), by decide, fun k _ => by rw [fi_z (by omega)]; rfl⟩
  · exact rst_ini (fun x _ _ => fi_z (by omega))
  · exact ⟨by rw [fi_z (by omega)]; rfl, fun k hk => absurd hk (by omega)⟩
  · exact ⟨by rw [fi_z (by omega)]; rfl, 0, by omega, by rw [fi_z (by omega)]; rfl, fun d hd => absurd hd (by omega)⟩
  · exact fun s _ => ⟨by rw [fi_z (by omega)]; rfl, fun h => absurd (show false = true from h) (by decide)⟩
  · exact Or.inl (by decide)
  · refine ⟨by decide, by decide, by decide, by decide, by decide, fun n _ => by rw [fi_z (by omega)]; rfl, fun k hk => absurd hk (Nat.not_lt_zero _)⟩
  · exact fun k _ => by rw [fi_z (by omega)]; rfl
  · exact ⟨by rw [fi_164 (by omega)]; rfl, fun k hk => absurd hk (by omega)⟩
  · exact ⟨by rw [fi_164 (by omega)]; rfl, fun d k hd _ => absurd hd (by omega)⟩
  · exact fun s _ => ⟨by rw [fi_z (by omega)]; rfl, fun h => absurd (show false = true from h) (by decide)⟩
/-! ===== the law ===== -/
section LW
variable {Len : Nat} {xs : Nat → Int32} {k23 : MM → GG → Int32 → Option Int32} {F : MM} {G : GG} {t i : Nat}
theorem lw_fin {r : Int32 ⊕ String} {k b x4 : Int32} {F2 : MM} (e4 : F2 164 0 = k) (e5 : k = 0 → r = .inl b) (hk : ∀ G', k23 F2 G' (x4 + 4) = some 1) :
    (s_X9_thrown F2).bind (fun r8 => if r8 = k then if k = 0 then if (lg_cmp (gupI G r (ix 0)) (Int32.toInt64 b)) = 0 then (some (x4 + 4 : Int32)).bind (fun y => k23 F2 (gupI G r) y) else some 0 else (some (x4 + 4 : Int32)).bind (fun y => k23 F2 (gupI G r) y) else some 0) = some 1 := by
  unfold s_X9_thrown
  rw [bnd_, e4, if_pos rfl]
  by_cases h : k = 0
  · rw [if_pos h, e5 h]
    have hc : lg_cmp (gupI G (.inl b) (ix 0)) (Int32.toInt64 b) = 0 := (lg_cmp_eq _ _).mpr (pk_uLs (f := G) (k := 0))
    rw [if_pos hc, bnd_]
    exact hk _
  · rw [if_neg h, bnd_]
    exact hk _
theorem lw_finZ {r : Int32 ⊕ String} {k b x4 : Int32} {F2 : MM} (e4 : F2 164 0 = k) (e5 : k = 0 → r = .inl b) (hk : ∀ G', k23 F2 G' (x4 + 4) = some 1) :
    (s_X9_thrown F2).bind (fun r8 => if r8 = k then if k = 0 then if b = 0 then if (lg_cmp (gupZ G r (ix 0)) 0) = 0 then (some (x4 + 4 : Int32)).bind (fun y => k23 F2 (gupZ G r) y) else some 0 else if (lg_cmp (gupZ G r (ix 0)) 1) = 0 then (some (x4 + 4 : Int32)).bind (fun y => k23 F2 (gupZ G r) y) else some 0 else (some (x4 + 4 : Int32)).bind (fun y => k23 F2 (gupZ G r) y) else some 0) = some 1 := by
  unfold s_X9_thrown
  rw [bnd_, e4, if_pos rfl]
  by_cases h : k = 0
  · rw [if_pos h, e5 h]
    have hc : gupZ G (.inl b) (ix 0) = if b = 0 then 0 else 1 := pk_uLs (f := G) (k := 0)
    rw [hc]
    by_cases hb : b = 0
    · rw [if_pos hb, if_pos hb, if_pos ((lg_cmp_eq _ _).mpr rfl), bnd_]
      exact hk _
    · rw [if_neg hb, if_neg hb, if_pos ((lg_cmp_eq _ _).mpr rfl), bnd_]
      exact hk _
  · rw [if_neg h, bnd_]
    exact hk _
theorem g_in {d : Nat} {x : Int32} (ex : x = nI d) (hd : i + d < Len) (hL : Len ≤ 2048) : inb (nI i + x) Len = true := by
  rw [ex, nI_add]
  exact inb_nI hd (by omega)
theorem lw_append (ht : t < 700000) (hI : INV t F) (hi : i + 4 ≤ Len) (hL : Len ≤ 2048) (hk : ∀ F2 G2, INV (t + 50) F2 → k23 F2 G2 (nI i + 4) = some 1) : s_L_law_b200 Len xs k23 F G (nI i) = some 1 := by
  have g1 : inb (nI i + 1) Len = true := g_in (d := 1) rfl (by omega) hL
  obtain ⟨r, F1, k, b, F2, e1, e2, e3, e4, e5, e6⟩ := ag_append (by omega) hI (xs (ix (nI i + 1)))
  have e3 : s_X9_append F1 (xs (ix (nI i + 1))) = some (b, F2) := e3
  unfold s_L_law_b200
  rw [if_pos g1, e1, bnd_, e2, bnd_, bnd_, if_pos g1, e3, bnd_]
  exact lw_fin e4 e5 (fun G' => hk _ _ (inv_mono e6 (by omega)))
theorem lw_clearText (ht : t < 700000) (hI : INV t F) (hi : i + 4 ≤ Len) (hL : Len ≤ 2048) (hk : ∀ F2 G2, INV (t + 50) F2 → k23 F2 G2 (nI i + 4) = some 1) : s_L_law_b256 Len xs k23 F G (nI i) = some 1 := by
  obtain ⟨r, F1, F2, e1, e2, e3⟩ := ag_clearText hI
  have e2 : s_X9_clearText F1 = some (r, F2) := e2
  unfold s_L_law_b256
  rw [e1, bnd_, e2, bnd_]
  show (if r = r then (some (nI i + 4 : Int32)).bind (fun y => k23 F2 G y) else some 0) = some 1
  rw [if_pos rfl, bnd_]
  exact hk _ _ (inv_mono e3 (by omega))
theorem lw_errorPosition (ht : t < 700000) (hI : INV t F) (hi : i + 4 ≤ Len) (hL : Len ≤ 2048) (hk : ∀ F2 G2, INV (t + 50) F2 → k23 F2 G2 (nI i + 4) = some 1) : s_L_law_b269 Len xs k23 F G (nI i) = some 1 := by
  obtain ⟨r, F1, F2, e1, e2, e3⟩ := ag_errorPosition (by omega) hI
  have e2 : s_X9_errorPosition F1 = some (r, F2) := e2
  unfold s_L_law_b269
  rw [e1, bnd_, e2, bnd_]
  show (if r = r then (some (nI i + 4 : Int32)).bind (fun y => k23 F2 G y) else some 0) = some 1
  rw [if_pos rfl, bnd_]
  exact hk _ _ (inv_mono e3 (by omega))
theorem lw_load (ht : t < 700000) (hI : INV t F) (hi : i + 4 ≤ Len) (hL : Len ≤ 2048) (hk : ∀ F2 G2, INV (t + 50) F2 → k23 F2 G2 (nI i + 4) = some 1) : s_L_law_b282 Len xs k23 F G (nI i) = some 1 := by
  obtain ⟨r, F1, k, b, F2, e1, e2, e3, e4, e5, e6⟩ := ag_load (by omega) hI
  have e3 : s_X9_load F1 = some (b, F2) := e3
  unfold s_L_law_b282
  rw [e1, bnd_, e2, bnd_, bnd_, e3, bnd_]
  exact lw_fin e4 e5 (fun G' => hk _ _ (inv_mono e6 (by omega)))
theorem lw_about (ht : t < 700000) (hI : INV t F) (hi : i + 4 ≤ Len) (hL : Len ≤ 2048) (hk : ∀ F2 G2, INV (t + 50) F2 → k23 F2 G2 (nI i + 4) = some 1) : s_L_law_b326 Len xs k23 F G (nI i) = some 1 := by
  have g1 : inb (nI i + 1) Len = true := g_in (d := 1) rfl (by omega) hL
  obtain ⟨r, k, b, F2, e1, e2, e3, e4, e5, e6⟩ := ag_about (by omega) hI (xs (ix (nI i + 1)))
  unfold s_L_law_b326
  rw [if_pos g1, e1, bnd_, e2, bnd_, bnd_, if_pos g1, e3, bnd_]
  exact lw_fin e4 e5 (fun G' => hk _ _ (inv_mono e6 (by omega)))
theorem lw_node (ht : t < 700000) (hI : INV t F) (hi : i + 4 ≤ Len) (hL : Len ≤ 2048) (hk : ∀ F2 G2, INV (t + 50) F2 → k23 F2 G2 (nI i + 4) = some 1) : s_L_law_b382 Len xs k23 F G (nI i) = some 1 := by
  have g1 : inb (nI i + 1) Len = true := g_in (d := 1) rfl (by omega) hL
  have g2 : inb (nI i + 2) Len = true := g_in (d := 2) rfl (by omega) hL
  obtain ⟨r, k, b, F2, e1, e2, e3, e4, e5, e6⟩ := ag_node (by omega) hI (xs (ix (nI i + 1))) (xs (ix (nI i + 2)))
  unfold s_L_law_b382
  rw [if_pos g1, if_pos g2, e1, bnd_, e2, bnd_, bnd_, if_pos g1, if_pos g2, e3, bnd_]
  exact lw_fin e4 e5 (fun G' => hk _ _ (inv_mono e6 (by omega)))
theorem lw_version (ht : t < 700000) (hI : INV t F) (hi : i + 4 ≤ Len) (hL : Len ≤ 2048) (hk : ∀ F2 G2, INV (t + 50) F2 → k23 F2 G2 (nI i + 4) = some 1) : s_L_law_b450 Len xs k23 F G (nI i) = some 1 := by
  have g1 : inb (nI i + 1) Len = true := g_in (d := 1) rfl (by omega) hL
  have g2 : inb (nI i + 2) Len = true := g_in (d := 2) rfl (by omega) hL
  have g3 : inb (nI i + 3) Len = true := g_in (d := 3) rfl (by omega) hL
  have key : ∀ w : Int32, (w = if (xs (ix (nI i + 3))) = 0 then 0 else 1) → s_L_law_b477 Len xs k23 F G (nI i) w (xs (ix (nI i + 2))) (xs (ix (nI i + 1))) = some 1 := fun w hw => by
    obtain ⟨r, k, b, F2, e1, e2, e3, e4, e5, e6⟩ := ag_version (by omega) hI (xs (ix (nI i + 1))) (xs (ix (nI i + 2))) w
    have h510 : s_L_law_b510 Len xs k23 F (gupI G r) (nI i) k w (xs (ix (nI i + 2))) (xs (ix (nI i + 1))) = some 1 := by
      unfold s_L_law_b510
      rw [e3, bnd_]
      exact lw_fin e4 e5 (fun G' => hk _ _ (inv_mono e6 (by omega)))
    unfold s_L_law_b477
    rw [e1, bnd_, e2, bnd_, bnd_, if_pos g1, if_pos g2, if_pos g3]
    by_cases h : (xs (ix (nI i + 3))) = 0
    · rw [if_pos h]
      rw [if_pos h] at hw
      rw [hw] at h510
      exact h510
    · rw [if_neg h]
      rw [if_neg h] at hw
      rw [hw] at h510
      exact h510
  unfold s_L_law_b450
  rw [if_pos g1, if_pos g2, if_pos g3]
  by_cases h : (xs (ix (nI i + 3))) = 0
  · rw [if_pos h]; exact key 0 (by rw [if_pos h])
  · rw [if_neg h]; exact key 1 (by rw [if_neg h])
theorem lw_rule (ht : t < 700000) (hI : INV t F) (hi : i + 4 ≤ Len) (hL : Len ≤ 2048) (hk : ∀ F2 G2, INV (t + 50) F2 → k23 F2 G2 (nI i + 4) = some 1) : s_L_law_b546 Len xs k23 F G (nI i) = some 1 := by
  have g1 : inb (nI i + 1) Len = true := g_in (d := 1) rfl (by omega) hL
  have g2 : inb (nI i + 2) Len = true := g_in (d := 2) rfl (by omega) hL
  obtain ⟨r, k, b, F2, e1, e2, e3, e4, e5, e6⟩ := ag_rule (by omega) hI (xs (ix (nI i + 1))) (xs (ix (nI i + 2)))
  unfold s_L_law_b546
  rw [if_pos g1, if_pos g2, e1, bnd_, e2, bnd_, bnd_, if_pos g1, if_pos g2, e3, bnd_]
  exact lw_fin e4 e5 (fun G' => hk _ _ (inv_mono e6 (by omega)))
theorem lw_approvals (ht : t < 700000) (hI : INV t F) (hi : i + 4 ≤ Len) (hL : Len ≤ 2048) (hk : ∀ F2 G2, INV (t + 50) F2 → k23 F2 G2 (nI i + 4) = some 1) : s_L_law_b614 Len xs k23 F G (nI i) = some 1 := by
  have g1 : inb (nI i + 1) Len = true := g_in (d := 1) rfl (by omega) hL
  have g2 : inb (nI i + 2) Len = true := g_in (d := 2) rfl (by omega) hL
  obtain ⟨r, k, b, F2, e1, e2, e3, e4, e5, e6⟩ := ag_approvals (by omega) hI (xs (ix (nI i + 1))) (xs (ix (nI i + 2)))
  unfold s_L_law_b614
  rw [if_pos g1, if_pos g2, e1, bnd_, e2, bnd_, bnd_, if_pos g1, if_pos g2, e3, bnd_]
  exact lw_fin e4 e5 (fun G' => hk _ _ (inv_mono e6 (by omega)))
theorem lw_quorum (ht : t < 700000) (hI : INV t F) (hi : i + 4 ≤ Len) (hL : Len ≤ 2048) (hk : ∀ F2 G2, INV (t + 50) F2 → k23 F2 G2 (nI i + 4) = some 1) : s_L_law_b682 Len xs k23 F G (nI i) = some 1 := by
  have g1 : inb (nI i + 1) Len = true := g_in (d := 1) rfl (by omega) hL
  obtain ⟨r, k, b, F2, e1, e2, e3, e4, e5, e6⟩ := ag_quorum (by omega) hI (xs (ix (nI i + 1)))
  unfold s_L_law_b682
  rw [if_pos g1, e1, bnd_, e2, bnd_, bnd_, if_pos g1, e3, bnd_]
  exact lw_fin e4 e5 (fun G' => hk _ _ (inv_mono e6 (by omega)))
theorem lw_wish (ht : t < 700000) (hI : INV t F) (hi : i + 4 ≤ Len) (hL : Len ≤ 2048) (hk : ∀ F2 G2, INV (t + 50) F2 → k23 F2 G2 (nI i + 4) = some 1) : s_L_law_b738 Len xs k23 F G (nI i) = some 1 := by
  have g1 : inb (nI i + 1) Len = true := g_in (d := 1) rfl (by omega) hL
  have g2 : inb (nI i + 2) Len = true := g_in (d := 2) rfl (by omega) hL
  have g3 : inb (nI i + 3) Len = true := g_in (d := 3) rfl (by omega) hL
  obtain ⟨r, F1, k, b, F2, e1, e2, e3, e4, e5, e6⟩ := ag_wish (by omega) hI (xs (ix (nI i + 1))) (xs (ix (nI i + 2))) (xs (ix (nI i + 3)))
  have e3 : s_X9_wish F1 (xs (ix (nI i + 1))) (xs (ix (nI i + 2))) (xs (ix (nI i + 3))) = some (b, F2) := e3
  unfold s_L_law_b738
  rw [if_pos g1, if_pos g2, if_pos g3, e1, bnd_, e2, bnd_, bnd_, if_pos g1, if_pos g2, if_pos g3, e3, bnd_]
  exact lw_fin e4 e5 (fun G' => hk _ _ (inv_mono e6 (by omega)))
theorem lw_wishRing (ht : t < 700000) (hI : INV t F) (hi : i + 4 ≤ Len) (hL : Len ≤ 2048) (hk : ∀ F2 G2, INV (t + 50) F2 → k23 F2 G2 (nI i + 4) = some 1) : s_L_law_b818 Len xs k23 F G (nI i) = some 1 := by
  have g1 : inb (nI i + 1) Len = true := g_in (d := 1) rfl (by omega) hL
  have g2 : inb (nI i + 2) Len = true := g_in (d := 2) rfl (by omega) hL
  have g3 : inb (nI i + 3) Len = true := g_in (d := 3) rfl (by omega) hL
  obtain ⟨r, F1, k, b, F2, e1, e2, e3, e4, e5, e6⟩ := ag_wishRing (by omega) hI (xs (ix (nI i + 1))) (xs (ix (nI i + 2))) (xs (ix (nI i + 3)))
  have e3 : s_X9_wishRing F1 (xs (ix (nI i + 1))) (xs (ix (nI i + 2))) (xs (ix (nI i + 3))) = some (b, F2) := e3
  unfold s_L_law_b818
  rw [if_pos g1, if_pos g2, if_pos g3, e1, bnd_, e2, bnd_, bnd_, if_pos g1, if_pos g2, if_pos g3, e3, bnd_]
  exact lw_fin e4 e5 (fun G' => hk _ _ (inv_mono e6 (by omega)))
theorem lw_drift (ht : t < 700000) (hI : INV t F) (hi : i + 4 ≤ Len) (hL : Len ≤ 2048) (hk : ∀ F2 G2, INV (t + 50) F2 → k23 F2 G2 (nI i + 4) = some 1) : s_L_law_b898 Len xs k23 F G (nI i) = some 1 := by
  have g1 : inb (nI i + 1) Len = true := g_in (d := 1) rfl (by omega) hL
  have g2 : inb (nI i + 2) Len = true := g_in (d := 2) rfl (by omega) hL
  have g3 : inb (nI i + 3) Len = true := g_in (d := 3) rfl (by omega) hL
  obtain ⟨r, F1, k, b, F2, e1, e2, e3, e4, e5, e6⟩ := ag_drift (by omega) hI (xs (ix (nI i + 1))) (xs (ix (nI i + 2))) (xs (ix (nI i + 3)))
  have e3 : s_X9_drift F1 (xs (ix (nI i + 1))) (xs (ix (nI i + 2))) (xs (ix (nI i + 3))) = some (b, F2) := e3
  unfold s_L_law_b898
  rw [if_pos g1, if_pos g2, if_pos g3, e1, bnd_, e2, bnd_, bnd_, if_pos g1, if_pos g2, if_pos g3, e3, bnd_]
  exact lw_fin e4 e5 (fun G' => hk _ _ (inv_mono e6 (by omega)))
theorem lw_approve (ht : t < 700000) (hI : INV t F) (hi : i + 4 ≤ Len) (hL : Len ≤ 2048) (hk : ∀ F2 G2, INV (t + 50) F2 → k23 F2 G2 (nI i + 4) = some 1) : s_L_law_b978 Len xs k23 F G (nI i) = some 1 := by
  have g1 : inb (nI i + 1) Len = true := g_in (d := 1) rfl (by omega) hL
  have g2 : inb (nI i + 2) Len = true := g_in (d := 2) rfl (by omega) hL
  have g3 : inb (nI i + 3) Len = true := g_in (d := 3) rfl (by omega) hL
  obtain ⟨r, F1, k, b, F2, e1, e2, e3, e4, e5, e6⟩ := ag_approve (by omega) hI (xs (ix (nI i + 1))) (xs (ix (nI i + 2))) (xs (ix (nI i + 3)))
  have e3 : s_X9_approve F1 (xs (ix (nI i + 1))) (xs (ix (nI i + 2))) (xs (ix (nI i + 3))) = some (b, F2) := e3
  unfold s_L_law_b978
  rw [if_pos g1, if_pos g2, if_pos g3, e1, bnd_, e2, bnd_, bnd_, if_pos g1, if_pos g2, if_pos g3, e3, bnd_]
  exact lw_fin e4 e5 (fun G' => hk _ _ (inv_mono e6 (by omega)))
theorem lw_dismiss (ht : t < 700000) (hI : INV t F) (hi : i + 4 ≤ Len) (hL : Len ≤ 2048) (hk : ∀ F2 G2, INV (t + 50) F2 → k23 F2 G2 (nI i + 4) = some 1) : s_L_law_b1058 Len xs k23 F G (nI i) = some 1 := by
  have g1 : inb (nI i + 1) Len = true := g_in (d := 1) rfl (by omega) hL
  obtain ⟨r, F1, k, b, F2, e1, e2, e3, e4, e5, e6⟩ := ag_dismiss (by omega) hI (xs (ix (nI i + 1)))
  have e3 : s_X9_dismiss F1 (xs (ix (nI i + 1))) = some (b, F2) := e3
  unfold s_L_law_b1058
  rw [if_pos g1, e1, bnd_, e2, bnd_, bnd_, if_pos g1, e3, bnd_]
  exact lw_fin e4 e5 (fun G' => hk _ _ (inv_mono e6 (by omega)))
theorem lw_setQuorum (ht : t < 700000) (hI : INV t F) (hi : i + 4 ≤ Len) (hL : Len ≤ 2048) (hk : ∀ F2 G2, INV (t + 50) F2 → k23 F2 G2 (nI i + 4) = some 1) : s_L_law_b1114 Len xs k23 F G (nI i) = some 1 := by
  have g1 : inb (nI i + 1) Len = true := g_in (d := 1) rfl (by omega) hL
  have g2 : inb (nI i + 2) Len = true := g_in (d := 2) rfl (by omega) hL
  obtain ⟨r, F1, k, b, F2, e1, e2, e3, e4, e5, e6⟩ := ag_setQuorum (by omega) hI (xs (ix (nI i + 1))) (xs (ix (nI i + 2)))
  have e3 : s_X9_setQuorum F1 (xs (ix (nI i + 1))) (xs (ix (nI i + 2))) = some (b, F2) := e3
  unfold s_L_law_b1114
  rw [if_pos g1, if_pos g2, e1, bnd_, e2, bnd_, bnd_, if_pos g1, if_pos g2, e3, bnd_]
  exact lw_fin e4 e5 (fun G' => hk _ _ (inv_mono e6 (by omega)))
theorem lw_setFaults (ht : t < 700000) (hI : INV t F) (hi : i + 4 ≤ Len) (hL : Len ≤ 2048) (hk : ∀ F2 G2, INV (t + 50) F2 → k23 F2 G2 (nI i + 4) = some 1) : s_L_law_b1182 Len xs k23 F G (nI i) = some 1 := by
  have g1 : inb (nI i + 1) Len = true := g_in (d := 1) rfl (by omega) hL
  have g2 : inb (nI i + 2) Len = true := g_in (d := 2) rfl (by omega) hL
  obtain ⟨r, F1, k, b, F2, e1, e2, e3, e4, e5, e6⟩ := ag_setFaults (by omega) hI (xs (ix (nI i + 1))) (xs (ix (nI i + 2)))
  have e3 : s_X9_setFaults F1 (xs (ix (nI i + 1))) (xs (ix (nI i + 2))) = some (b, F2) := e3
  unfold s_L_law_b1182
  rw [if_pos g1, if_pos g2, e1, bnd_, e2, bnd_, bnd_, if_pos g1, if_pos g2, e3, bnd_]
  exact lw_fin e4 e5 (fun G' => hk _ _ (inv_mono e6 (by omega)))
theorem lw_pardon (ht : t < 700000) (hI : INV t F) (hi : i + 4 ≤ Len) (hL : Len ≤ 2048) (hk : ∀ F2 G2, INV (t + 50) F2 → k23 F2 G2 (nI i + 4) = some 1) : s_L_law_b1250 Len xs k23 F G (nI i) = some 1 := by
  have g1 : inb (nI i + 1) Len = true := g_in (d := 1) rfl (by omega) hL
  obtain ⟨r, F1, k, b, F2, e1, e2, e3, e4, e5, e6⟩ := ag_pardon (by omega) hI (xs (ix (nI i + 1)))
  have e3 : s_X9_pardon F1 (xs (ix (nI i + 1))) = some (b, F2) := e3
  unfold s_L_law_b1250
  rw [if_pos g1, e1, bnd_, e2, bnd_, bnd_, if_pos g1, e3, bnd_]
  exact lw_fin e4 e5 (fun G' => hk _ _ (inv_mono e6 (by omega)))
theorem lw_tick (ht : t < 700000) (hI : INV t F) (hi : i + 4 ≤ Len) (hL : Len ≤ 2048) (hk : ∀ F2 G2, INV (t + 50) F2 → k23 F2 G2 (nI i + 4) = some 1) : s_L_law_b1306 Len xs k23 F G (nI i) = some 1 := by
  have g1 : inb (nI i + 1) Len = true := g_in (d := 1) rfl (by omega) hL
  obtain ⟨r, F1, k, b, F2, e1, e2, e3, e4, e5, e6⟩ := ag_tick (by omega) hI (xs (ix (nI i + 1)))
  have e3 : s_X9_tick F1 (xs (ix (nI i + 1))) = some (b, F2) := e3
  unfold s_L_law_b1306
  rw [if_pos g1, e1, bnd_, e2, bnd_, bnd_, if_pos g1, e3, bnd_]
  exact lw_fin e4 e5 (fun G' => hk _ _ (inv_mono e6 (by omega)))
theorem lw_undo (ht : t < 700000) (hI : INV t F) (hi : i + 4 ≤ Len) (hL : Len ≤ 2048) (hk : ∀ F2 G2, INV (t + 50) F2 → k23 F2 G2 (nI i + 4) = some 1) : s_L_law_b1362 Len xs k23 F G (nI i) = some 1 := by
  obtain ⟨r, F1, k, b, F2, e1, e2, e3, e4, e5, e6⟩ := ag_undo (by omega) hI
  have e3 : s_X9_undo F1 = some (b, F2) := e3
  unfold s_L_law_b1362
  rw [e1, bnd_, e2, bnd_, bnd_, e3, bnd_]
  exact lw_fin e4 e5 (fun G' => hk _ _ (inv_mono e6 (by omega)))
theorem lw_state (ht : t < 700000) (hI : INV t F) (hi : i + 4 ≤ Len) (hL : Len ≤ 2048) (hk : ∀ F2 G2, INV (t + 50) F2 → k23 F2 G2 (nI i + 4) = some 1) : s_L_law_b1406 Len xs k23 F G (nI i) = some 1 := by
  have g1 : inb (nI i + 1) Len = true := g_in (d := 1) rfl (by omega) hL
  have g2 : inb (nI i + 2) Len = true := g_in (d := 2) rfl (by omega) hL
  obtain ⟨r, k, b, F2, e1, e2, e3, e4, e5, e6⟩ := ag_state (by omega) hI (xs (ix (nI i + 1))) (xs (ix (nI i + 2)))
  unfold s_L_law_b1406
  rw [if_pos g1, if_pos g2, e1, bnd_, e2, bnd_, bnd_, if_pos g1, if_pos g2, e3, bnd_]
  exact lw_fin e4 e5 (fun G' => hk _ _ (inv_mono e6 (by omega)))
theorem lw_next (ht : t < 700000) (hI : INV t F) (hi : i + 4 ≤ Len) (hL : Len ≤ 2048) (hk : ∀ F2 G2, INV (t + 50) F2 → k23 F2 G2 (nI i + 4) = some 1) : s_L_law_b1474 Len xs k23 F G (nI i) = some 1 := by
  have g1 : inb (nI i + 1) Len = true := g_in (d := 1) rfl (by omega) hL
  obtain ⟨r, k, b, F2, e1, e2, e3, e4, e5, e6⟩ := ag_next (by omega) hI (xs (ix (nI i + 1)))
  unfold s_L_law_b1474
  rw [if_pos g1, e1, bnd_, e2, bnd_, bnd_, if_pos g1, e3, bnd_]
  exact lw_fin e4 e5 (fun G' => hk _ _ (inv_mono e6 (by omega)))
theorem lw_breaks (ht : t < 700000) (hI : INV t F) (hi : i + 4 ≤ Len) (hL : Len ≤ 2048) (hk : ∀ F2 G2, INV (t + 50) F2 → k23 F2 G2 (nI i + 4) = some 1) : s_L_law_b1530 Len xs k23 F G (nI i) = some 1 := by
  have g1 : inb (nI i + 1) Len = true := g_in (d := 1) rfl (by omega) hL
  have g2 : inb (nI i + 2) Len = true := g_in (d := 2) rfl (by omega) hL
  have g3 : inb (nI i + 3) Len = true := g_in (d := 3) rfl (by omega) hL
  obtain ⟨r, k, b, F2, e1, e2, e3, e4, e5, e6⟩ := ag_breaks (by omega) hI (xs (ix (nI i + 1))) (xs (ix (nI i + 2))) (xs (ix (nI i + 3)))
  unfold s_L_law_b1530
  rw [if_pos g1, if_pos g2, if_pos g3, e1, bnd_, e2, bnd_, bnd_, if_pos g1, if_pos g2, if_pos g3, e3, bnd_]
  exact lw_fin e4 e5 (fun G' => hk _ _ (inv_mono e6 (by omega)))
theorem lw_holdsUp (ht : t < 700000) (hI : INV t F) (hi : i + 4 ≤ Len) (hL : Len ≤ 2048) (hk : ∀ F2 G2, INV (t + 50) F2 → k23 F2 G2 (nI i + 4) = some 1) : s_L_law_b1610 Len xs k23 F G (nI i) = some 1 := by
  have g1 : inb (nI i + 1) Len = true := g_in (d := 1) rfl (by omega) hL
  obtain ⟨r, k, b, F2, e1, e2, e3, e4, e5, e6⟩ := ag_holdsUp (by omega) hI (xs (ix (nI i + 1)))
  unfold s_L_law_b1610
  rw [if_pos g1, e1, bnd_, e2, bnd_, bnd_, if_pos g1, e3, bnd_]
  exact lw_fin e4 e5 (fun G' => hk _ _ (inv_mono e6 (by omega)))
theorem lw_missing (ht : t < 700000) (hI : INV t F) (hi : i + 4 ≤ Len) (hL : Len ≤ 2048) (hk : ∀ F2 G2, INV (t + 50) F2 → k23 F2 G2 (nI i + 4) = some 1) : s_L_law_b1666 Len xs k23 F G (nI i) = some 1 := by
  have g1 : inb (nI i + 1) Len = true := g_in (d := 1) rfl (by omega) hL
  obtain ⟨r, k, b, F2, e1, e2, e3, e4, e5, e6⟩ := ag_missing (by omega) hI (xs (ix (nI i + 1)))
  unfold s_L_law_b1666
  rw [if_pos g1, e1, bnd_, e2, bnd_, bnd_, if_pos g1, e3, bnd_]
  exact lw_fin e4 e5 (fun G' => hk _ _ (inv_mono e6 (by omega)))
theorem lw_ahead (ht : t < 700000) (hI : INV t F) (hi : i + 4 ≤ Len) (hL : Len ≤ 2048) (hk : ∀ F2 G2, INV (t + 50) F2 → k23 F2 G2 (nI i + 4) = some 1) : s_L_law_b1722 Len xs k23 F G (nI i) = some 1 := by
  have g1 : inb (nI i + 1) Len = true := g_in (d := 1) rfl (by omega) hL
  have g2 : inb (nI i + 2) Len = true := g_in (d := 2) rfl (by omega) hL
  have g3 : inb (nI i + 3) Len = true := g_in (d := 3) rfl (by omega) hL
  obtain ⟨r, F1, k, b, F2, e1, e2, e3, e4, e5, e6⟩ := ag_ahead (by omega) hI (xs (ix (nI i + 1))) (xs (ix (nI i + 2))) (xs (ix (nI i + 3)))
  have e3 : s_X9_ahead F1 (xs (ix (nI i + 1))) (xs (ix (nI i + 2))) (xs (ix (nI i + 3))) = some (b, F2) := e3
  unfold s_L_law_b1722
  rw [if_pos g1, if_pos g2, if_pos g3, e1, bnd_, e2, bnd_, bnd_, if_pos g1, if_pos g2, if_pos g3, e3, bnd_]
  exact lw_fin e4 e5 (fun G' => hk _ _ (inv_mono e6 (by omega)))
theorem lw_calmAfter (ht : t < 700000) (hI : INV t F) (hi : i + 4 ≤ Len) (hL : Len ≤ 2048) (hk : ∀ F2 G2, INV (t + 50) F2 → k23 F2 G2 (nI i + 4) = some 1) : s_L_law_b1802 Len xs k23 F G (nI i) = some 1 := by
  obtain ⟨r, F1, F2, e1, e2, e3⟩ := ag_calmAfter (by omega) hI
  have e2 : s_X9_calmAfter F1 = some (r, F2) := e2
  unfold s_L_law_b1802
  rw [e1, bnd_, e2, bnd_]
  show (if r = r then (some (nI i + 4 : Int32)).bind (fun y => k23 F2 G y) else some 0) = some 1
  rw [if_pos rfl, bnd_]
  exact hk _ _ (inv_mono e3 (by omega))
theorem lw_fewest (ht : t < 700000) (hI : INV t F) (hi : i + 4 ≤ Len) (hL : Len ≤ 2048) (hk : ∀ F2 G2, INV (t + 50) F2 → k23 F2 G2 (nI i + 4) = some 1) : s_L_law_b1815 Len xs k23 F G (nI i) = some 1 := by
  have g1 : inb (nI i + 1) Len = true := g_in (d := 1) rfl (by omega) hL
  obtain ⟨r, F1, k, b, F2, e1, e2, e3, e4, e5, e6⟩ := ag_fewest (by omega) hI (xs (ix (nI i + 1)))
  have e3 : s_X9_fewest F1 (xs (ix (nI i + 1))) = some (b, F2) := e3
  unfold s_L_law_b1815
  rw [if_pos g1, e1, bnd_, e2, bnd_, bnd_, if_pos g1, e3, bnd_]
  exact lw_fin e4 e5 (fun G' => hk _ _ (inv_mono e6 (by omega)))
theorem lw_step (ht : t < 700000) (hI : INV t F) (hi : i + 4 ≤ Len) (hL : Len ≤ 2048) (hk : ∀ F2 G2, INV (t + 50) F2 → k23 F2 G2 (nI i + 4) = some 1) : s_L_law_b1871 Len xs k23 F G (nI i) = some 1 := by
  have g1 : inb (nI i + 1) Len = true := g_in (d := 1) rfl (by omega) hL
  have g2 : inb (nI i + 2) Len = true := g_in (d := 2) rfl (by omega) hL
  obtain ⟨r, F1, k, b, F2, e1, e2, e3, e4, e5, e6⟩ := ag_step (by omega) hI (xs (ix (nI i + 1))) (xs (ix (nI i + 2)))
  have e3 : s_X9_step F1 (xs (ix (nI i + 1))) (xs (ix (nI i + 2))) = some (b, F2) := e3
  unfold s_L_law_b1871
  rw [if_pos g1, if_pos g2, e1, bnd_, e2, bnd_, bnd_, if_pos g1, if_pos g2, e3, bnd_]
  exact lw_fin e4 e5 (fun G' => hk _ _ (inv_mono e6 (by omega)))
theorem lw_needed (ht : t < 700000) (hI : INV t F) (hi : i + 4 ≤ Len) (hL : Len ≤ 2048) (hk : ∀ F2 G2, INV (t + 50) F2 → k23 F2 G2 (nI i + 4) = some 1) : s_L_law_b1939 Len xs k23 F G (nI i) = some 1 := by
  have g1 : inb (nI i + 1) Len = true := g_in (d := 1) rfl (by omega) hL
  have g2 : inb (nI i + 2) Len = true := g_in (d := 2) rfl (by omega) hL
  have g3 : inb (nI i + 3) Len = true := g_in (d := 3) rfl (by omega) hL
  obtain ⟨r, k, b, F2, e1, e2, e3, e4, e5, e6⟩ := ag_needed (by omega) hI (xs (ix (nI i + 1))) (xs (ix (nI i + 2))) (xs (ix (nI i + 3)))
  unfold s_L_law_b1939
  rw [if_pos g1, if_pos g2, if_pos g3, e1, bnd_, e2, bnd_, bnd_, if_pos g1, if_pos g2, if_pos g3, e3, bnd_]
  exact lw_fin e4 e5 (fun G' => hk _ _ (inv_mono e6 (by omega)))
theorem lw_isPossible (ht : t < 700000) (hI : INV t F) (hi : i + 4 ≤ Len) (hL : Len ≤ 2048) (hk : ∀ F2 G2, INV (t + 50) F2 → k23 F2 G2 (nI i + 4) = some 1) : s_L_law_b2019 Len xs k23 F G (nI i) = some 1 := by
  have g1 : inb (nI i + 1) Len = true := g_in (d := 1) rfl (by omega) hL
  have g2 : inb (nI i + 2) Len = true := g_in (d := 2) rfl (by omega) hL
  obtain ⟨r, k, b, F2, e1, e2, e3, e4, e5, e6⟩ := ag_isPossible (by omega) hI (xs (ix (nI i + 1))) (xs (ix (nI i + 2)))
  unfold s_L_law_b2019
  rw [if_pos g1, if_pos g2, e1, bnd_, e2, bnd_, bnd_, if_pos g1, if_pos g2, e3, bnd_]
  exact lw_finZ e4 e5 (fun G' => hk _ _ (inv_mono e6 (by omega)))
theorem lw_explains (ht : t < 700000) (hI : INV t F) (hi : i + 4 ≤ Len) (hL : Len ≤ 2048) (hk : ∀ F2 G2, INV (t + 50) F2 → k23 F2 G2 (nI i + 4) = some 1) : s_L_law_b2094 Len xs k23 F G (nI i) = some 1 := by
  have g1 : inb (nI i + 1) Len = true := g_in (d := 1) rfl (by omega) hL
  have g2 : inb (nI i + 2) Len = true := g_in (d := 2) rfl (by omega) hL
  obtain ⟨r, k, b, F2, e1, e2, e3, e4, e5, e6⟩ := ag_explains (by omega) hI (xs (ix (nI i + 1))) (xs (ix (nI i + 2)))
  unfold s_L_law_b2094
  rw [if_pos g1, if_pos g2, e1, bnd_, e2, bnd_, bnd_, if_pos g1, if_pos g2, e3, bnd_]
  exact lw_fin e4 e5 (fun G' => hk _ _ (inv_mono e6 (by omega)))
theorem lw_ranked (ht : t < 700000) (hI : INV t F) (hi : i + 4 ≤ Len) (hL : Len ≤ 2048) (hk : ∀ F2 G2, INV (t + 50) F2 → k23 F2 G2 (nI i + 4) = some 1) : s_L_law_b2162 Len xs k23 F G (nI i) = some 1 := by
  have g1 : inb (nI i + 1) Len = true := g_in (d := 1) rfl (by omega) hL
  obtain ⟨r, k, b, F2, e1, e2, e3, e4, e5, e6⟩ := ag_ranked (by omega) hI (xs (ix (nI i + 1)))
  unfold s_L_law_b2162
  rw [if_pos g1, e1, bnd_, e2, bnd_, bnd_, if_pos g1, e3, bnd_]
  exact lw_fin e4 e5 (fun G' => hk _ _ (inv_mono e6 (by omega)))
theorem lw_runScript (ht : t < 700000) (hI : INV t F) (hi : i + 4 ≤ Len) (hL : Len ≤ 2048) (hk : ∀ F2 G2, INV (t + 50) F2 → k23 F2 G2 (nI i + 4) = some 1) : s_L_law_b2218 Len xs k23 F G (nI i) = some 1 := by
  have g1 : inb (nI i + 1) Len = true := g_in (d := 1) rfl (by omega) hL
  have g2 : inb (nI i + 2) Len = true := g_in (d := 2) rfl (by omega) hL
  have g3 : inb (nI i + 3) Len = true := g_in (d := 3) rfl (by omega) hL
  obtain ⟨r, F1, k, b, F2, e1, e2, e3, e4, e5, e6⟩ := ag_runScript (by omega) hI (xs (ix (nI i + 1))) (((Int32.toInt64 (xs (ix (nI i + 2)))) <<< ((Int32.toInt64 32) &&& 63)) ||| ((Int32.toInt64 (xs (ix (nI i + 3)))) &&& 4294967295))
  have e3 : s_X9_runScript F1 (xs (ix (nI i + 1))) (((Int32.toInt64 (xs (ix (nI i + 2)))) <<< ((Int32.toInt64 32) &&& 63)) ||| ((Int32.toInt64 (xs (ix (nI i + 3)))) &&& 4294967295)) = some (b, F2) := e3
  unfold s_L_law_b2218
  rw [if_pos g1, if_pos g2, if_pos g3, e1, bnd_, e2, bnd_, bnd_, if_pos g1, if_pos g2, if_pos g3, e3, bnd_]
  exact lw_fin e4 e5 (fun G' => hk _ _ (inv_mono e6 (by omega)))
theorem lw_simulate (ht : t < 700000) (hI : INV t F) (hi : i + 4 ≤ Len) (hL : Len ≤ 2048) (hk : ∀ F2 G2, INV (t + 50) F2 → k23 F2 G2 (nI i + 4) = some 1) : s_L_law_b2318 Len xs k23 F G (nI i) = some 1 := by
  have g1 : inb (nI i + 1) Len = true := g_in (d := 1) rfl (by omega) hL
  have g2 : inb (nI i + 2) Len = true := g_in (d := 2) rfl (by omega) hL
  have g3 : inb (nI i + 3) Len = true := g_in (d := 3) rfl (by omega) hL
  obtain ⟨r, F1, k, b, F2, e1, e2, e3, e4, e5, e6⟩ := ag_simulate (by omega) hI (((Int32.toInt64 (xs (ix (nI i + 1)))) <<< ((Int32.toInt64 32) &&& 63)) ||| ((Int32.toInt64 (xs (ix (nI i + 2)))) &&& 4294967295)) (xs (ix (nI i + 3)))
  have e3 : s_X9_simulate F1 (((Int32.toInt64 (xs (ix (nI i + 1)))) <<< ((Int32.toInt64 32) &&& 63)) ||| ((Int32.toInt64 (xs (ix (nI i + 2)))) &&& 4294967295)) (xs (ix (nI i + 3))) = some (b, F2) := e3
  unfold s_L_law_b2318
  rw [if_pos g1, if_pos g2, if_pos g3, e1, bnd_, e2, bnd_, bnd_, if_pos g1, if_pos g2, if_pos g3, e3, bnd_]
  exact lw_fin e4 e5 (fun G' => hk _ _ (inv_mono e6 (by omega)))
theorem lw_save (ht : t < 700000) (hI : INV t F) (hi : i + 4 ≤ Len) (hL : Len ≤ 2048) (hk : ∀ F2 G2, INV (t + 50) F2 → k23 F2 G2 (nI i + 4) = some 1) : s_L_law_b2418 Len xs k23 F G (nI i) = some 1 := by
  have g1 : inb (nI i + 1) Len = true := g_in (d := 1) rfl (by omega) hL
  obtain ⟨r, F1, k, b, F2, e1, e2, e3, e4, e5, e6⟩ := ag_save (by omega) hI (xs (ix (nI i + 1)))
  have e3 : s_X9_save F1 (xs (ix (nI i + 1))) = some (b, F2) := e3
  unfold s_L_law_b2418
  rw [if_pos g1, e1, bnd_, e2, bnd_, bnd_, if_pos g1, e3, bnd_]
  exact lw_fin e4 e5 (fun G' => hk _ _ (inv_mono e6 (by omega)))
theorem lw_restore (ht : t < 700000) (hI : INV t F) (hi : i + 4 ≤ Len) (hL : Len ≤ 2048) (hk : ∀ F2 G2, INV (t + 50) F2 → k23 F2 G2 (nI i + 4) = some 1) : s_L_law_b2474 Len xs k23 F G (nI i) = some 1 := by
  have g1 : inb (nI i + 1) Len = true := g_in (d := 1) rfl (by omega) hL
  obtain ⟨r, F1, k, b, F2, e1, e2, e3, e4, e5, e6⟩ := ag_restore (by omega) hI (xs (ix (nI i + 1)))
  have e3 : s_X9_restore F1 (xs (ix (nI i + 1))) = some (b, F2) := e3
  unfold s_L_law_b2474
  rw [if_pos g1, e1, bnd_, e2, bnd_, bnd_, if_pos g1, e3, bnd_]
  exact lw_fin e4 e5 (fun G' => hk _ _ (inv_mono e6 (by omega)))
end LW
set_option maxRecDepth 20000 in
theorem law_loop {Len : Nat} (hL : Len ≤ 2048) (xs : Nat → Int32) : ∀ fuel i F G, Len + 4 ≤ i + 4 * fuel → i ≤ Len → INV (13 * i) F → s_L_law_b23 Len xs fuel F G (nI i) = some 1
  | 0, i, F, G, h, hi, hI => absurd h (by omega)
  | fuel + 1, i, F, G, h, hi, hI => by
    rw [s_L_law_b23]
    by_cases hlt : ((Int32.ofNat Len) - 4) < nI i
    · rw [if_pos hlt]
    rw [if_neg hlt]
    have hi4 : i + 4 ≤ Len := by
      have h9 : ¬ (nI Len - nI 4 < nI i) := hlt
      rw [Int32.lt_iff_toInt_lt, pk_sub_toInt (by omega) (by omega), nI_toInt (by omega)] at h9
      omega
    have hin : inb (nI i) Len = true := inb_nI (by omega) (by omega)
    rw [if_pos hin]
    have e4 : nI i + 4 = nI (i + 4) := by rw [li_4, nI_add]
    have hk : ∀ F2 G2, INV (13 * i + 50) F2 → s_L_law_b23 Len xs fuel F2 G2 (nI i + 4) = some 1 := fun F2 G2 h2 => by
      rw [e4]
      exact law_loop hL xs fuel (i + 4) F2 G2 (by omega) (by omega) (inv_mono h2 (by omega))
    by_cases h0 : ((xs (ix (nI i))) &&& 63) = 0
    · rw [if_pos h0]; exact lw_append (by omega) hI hi4 hL hk
    rw [if_neg h0]
    by_cases h1 : ((xs (ix (nI i))) &&& 63) = 1
    · rw [if_pos h1]; exact lw_clearText (by omega) hI hi4 hL hk
    rw [if_neg h1]
    by_cases h2 : ((xs (ix (nI i))) &&& 63) = 2
    · rw [if_pos h2]; exact lw_errorPosition (by omega) hI hi4 hL hk
    rw [if_neg h2]
    by_cases h3 : ((xs (ix (nI i))) &&& 63) = 3
    · rw [if_pos h3]; exact lw_load (by omega) hI hi4 hL hk
    rw [if_neg h3]
    by_cases h4 : ((xs (ix (nI i))) &&& 63) = 4
    · rw [if_pos h4]; exact lw_about (by omega) hI hi4 hL hk
    rw [if_neg h4]
    by_cases h5 : ((xs (ix (nI i))) &&& 63) = 5
    · rw [if_pos h5]; exact lw_node (by omega) hI hi4 hL hk
    rw [if_neg h5]
    by_cases h6 : ((xs (ix (nI i))) &&& 63) = 6
    · rw [if_pos h6]; exact lw_version (by omega) hI hi4 hL hk
    rw [if_neg h6]
    by_cases h7 : ((xs (ix (nI i))) &&& 63) = 7
    · rw [if_pos h7]; exact lw_rule (by omega) hI hi4 hL hk
    rw [if_neg h7]
    by_cases h8 : ((xs (ix (nI i))) &&& 63) = 8
    · rw [if_pos h8]; exact lw_approvals (by omega) hI hi4 hL hk
    rw [if_neg h8]
    by_cases h9 : ((xs (ix (nI i))) &&& 63) = 9
    · rw [if_pos h9]; exact lw_quorum (by omega) hI hi4 hL hk
    rw [if_neg h9]
    by_cases h10 : ((xs (ix (nI i))) &&& 63) = 10
    · rw [if_pos h10]; exact lw_wish (by omega) hI hi4 hL hk
    rw [if_neg h10]
    by_cases h11 : ((xs (ix (nI i))) &&& 63) = 11
    · rw [if_pos h11]; exact lw_wishRing (by omega) hI hi4 hL hk
    rw [if_neg h11]
    by_cases h12 : ((xs (ix (nI i))) &&& 63) = 12
    · rw [if_pos h12]; exact lw_drift (by omega) hI hi4 hL hk
    rw [if_neg h12]
    by_cases h13 : ((xs (ix (nI i))) &&& 63) = 13
    · rw [if_pos h13]; exact lw_approve (by omega) hI hi4 hL hk
    rw [if_neg h13]
    by_cases h14 : ((xs (ix (nI i))) &&& 63) = 14
    · rw [if_pos h14]; exact lw_dismiss (by omega) hI hi4 hL hk
    rw [if_neg h14]
    by_cases h15 : ((xs (ix (nI i))) &&& 63) = 15
    · rw [if_pos h15]; exact lw_setQuorum (by omega) hI hi4 hL hk
    rw [if_neg h15]
    by_cases h16 : ((xs (ix (nI i))) &&& 63) = 16
    · rw [if_pos h16]; exact lw_setFaults (by omega) hI hi4 hL hk
    rw [if_neg h16]
    by_cases h17 : ((xs (ix (nI i))) &&& 63) = 17
    · rw [if_pos h17]; exact lw_pardon (by omega) hI hi4 hL hk
    rw [if_neg h17]
    by_cases h18 : ((xs (ix (nI i))) &&& 63) = 18
    · rw [if_pos h18]; exact lw_tick (by omega) hI hi4 hL hk
    rw [if_neg h18]
    by_cases h19 : ((xs (ix (nI i))) &&& 63) = 19
    · rw [if_pos h19]; exact lw_undo (by omega) hI hi4 hL hk
    rw [if_neg h19]
    by_cases h20 : ((xs (ix (nI i))) &&& 63) = 20
    · rw [if_pos h20]; exact lw_state (by omega) hI hi4 hL hk
    rw [if_neg h20]
    by_cases h21 : ((xs (ix (nI i))) &&& 63) = 21
    · rw [if_pos h21]; exact lw_next (by omega) hI hi4 hL hk
    rw [if_neg h21]
    by_cases h22 : ((xs (ix (nI i))) &&& 63) = 22
    · rw [if_pos h22]; exact lw_breaks (by omega) hI hi4 hL hk
    rw [if_neg h22]
    by_cases h23 : ((xs (ix (nI i))) &&& 63) = 23
    · rw [if_pos h23]; exact lw_holdsUp (by omega) hI hi4 hL hk
    rw [if_neg h23]
    by_cases h24 : ((xs (ix (nI i))) &&& 63) = 24
    · rw [if_pos h24]; exact lw_missing (by omega) hI hi4 hL hk
    rw [if_neg h24]
    by_cases h25 : ((xs (ix (nI i))) &&& 63) = 25
    · rw [if_pos h25]; exact lw_ahead (by omega) hI hi4 hL hk
    rw [if_neg h25]
    by_cases h26 : ((xs (ix (nI i))) &&& 63) = 26
    · rw [if_pos h26]; exact lw_calmAfter (by omega) hI hi4 hL hk
    rw [if_neg h26]
    by_cases h27 : ((xs (ix (nI i))) &&& 63) = 27
    · rw [if_pos h27]; exact lw_fewest (by omega) hI hi4 hL hk
    rw [if_neg h27]
    by_cases h28 : ((xs (ix (nI i))) &&& 63) = 28
    · rw [if_pos h28]; exact lw_step (by omega) hI hi4 hL hk
    rw [if_neg h28]
    by_cases h29 : ((xs (ix (nI i))) &&& 63) = 29
    · rw [if_pos h29]; exact lw_needed (by omega) hI hi4 hL hk
    rw [if_neg h29]
    by_cases h30 : ((xs (ix (nI i))) &&& 63) = 30
    · rw [if_pos h30]; exact lw_isPossible (by omega) hI hi4 hL hk
    rw [if_neg h30]
    by_cases h31 : ((xs (ix (nI i))) &&& 63) = 31
    · rw [if_pos h31]; exact lw_explains (by omega) hI hi4 hL hk
    rw [if_neg h31]
    by_cases h32 : ((xs (ix (nI i))) &&& 63) = 32
    · rw [if_pos h32]; exact lw_ranked (by omega) hI hi4 hL hk
    rw [if_neg h32]
    by_cases h33 : ((xs (ix (nI i))) &&& 63) = 33
    · rw [if_pos h33]; exact lw_runScript (by omega) hI hi4 hL hk
    rw [if_neg h33]
    by_cases h34 : ((xs (ix (nI i))) &&& 63) = 34
    · rw [if_pos h34]; exact lw_simulate (by omega) hI hi4 hL hk
    rw [if_neg h34]
    by_cases h35 : ((xs (ix (nI i))) &&& 63) = 35
    · rw [if_pos h35]; exact lw_save (by omega) hI hi4 hL hk
    rw [if_neg h35]
    by_cases h36 : ((xs (ix (nI i))) &&& 63) = 36
    · rw [if_pos h36]; exact lw_restore (by omega) hI hi4 hL hk
    rw [if_neg h36]
    rw [bnd_]
    exact hk F G (inv_mono hI (by omega))
theorem law_true {L : Nat} (hL : L ≤ 2048) (xs : Nat → Int32) : s_L_law_b23 L xs 600 F_ini (fun _ => 0) 0 = some 1 := law_loop hL xs 600 0 F_ini (fun _ => 0) (by omega) (by omega) inv_ini
