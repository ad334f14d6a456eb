def rmX9_in : Room := { frames := 0, cells := 0, slots := 0, locals := 0 }
def s_X9_in (F : MM) (p0 : Int64) (p1 : Int64) (p2 : Int64) : Option Int32 := if (lg_cmp p0 p1) < 0 then some 0 else if 0 < (lg_cmp p0 p2) then some 0 else some 1
set_option maxRecDepth 20000 in
theorem k_X9_in {C : CX} {F : MM} {G : GG} {p0 : Int64} {p1 : Int64} {p2 : Int64} {r : Int32} (h : s_X9_in F p0 p1 p2 = some r) : AM C yX9_in cX9_in 6 (some .boolean) rmX9_in [.long p0, .long p1, .long p2] F G (fun o F9 G9 => o = (.inl (some (.int r))) ∧ F9 = F ∧ G9 = G) := by
  refine am_of (L := [some (.long p0), none, some (.long p1), none, some (.long p2), none]) (by decide) (Nat.le_of_ble_eq_true rfl) rfl (fun M hM hT => ?_)
  have hM : MOk C RX9 cX9_in 6 (some .boolean) rmX9_in M := hM
  obtain ⟨Q, hQ⟩ : ∃ Q : OUT → MM → GG → Prop, Q = (fun o F9 G9 => o = (.inl (some (.int r))) ∧ F9 = F ∧ G9 = G) := ⟨_, rfl⟩
  have hq : Q (.inl (some (.int r))) F G := by rw [hQ]; exact ⟨rfl, rfl, rfl⟩
  rw [← hQ]
  clear hQ
  rw [s_X9_in] at h
  refine aw_lload_n (pc := 0) (i := 0) (x := p0) hM dX9_in_0 rfl rfl ?_
  refine aw_lload_n (pc := 1) (i := 2) (x := p1) hM dX9_in_1 rfl rfl ?_
  refine aw_lcmp (pc := 2) hM dX9_in_2 ?_
  refine aw_if_lt (pc := 3) (tgt := 17) hM dX9_in_3 (by decide) (fun c1 => ?_) (fun c1 => ?_)
  · rw [if_pos c1] at h
    refine aw_iconst (pc := 17) (v := 0) hM dX9_in_17 (by decide) ?_
    obtain rfl := Option.some.inj h
    exact aw_zret (pc := 18) hM dX9_in_18 (by decide) (Nat.le_of_ble_eq_true rfl) (Nat.le_of_ble_eq_true rfl) hq
  · rw [if_neg c1] at h
    refine aw_lload_n (pc := 6) (i := 0) (x := p0) hM dX9_in_6 rfl rfl ?_
    refine aw_lload (pc := 7) (i := 4) (x := p2) hM dX9_in_7  rfl ?_
    refine aw_lcmp (pc := 9) hM dX9_in_9 ?_
    refine aw_if_gt (pc := 10) (tgt := 17) hM dX9_in_10 (by decide) (fun c2 => ?_) (fun c2 => ?_)
    · rw [if_pos c2] at h
      refine aw_iconst (pc := 17) (v := 0) hM dX9_in_17 (by decide) ?_
      obtain rfl := Option.some.inj h
      exact aw_zret (pc := 18) hM dX9_in_18 (by decide) (Nat.le_of_ble_eq_true rfl) (Nat.le_of_ble_eq_true rfl) hq
    · rw [if_neg c2] at h
      refine aw_iconst (pc := 13) (v := 1) hM dX9_in_13 (by decide) ?_
      refine aw_goto (pc := 14) (tgt := 18) hM dX9_in_14 (by decide) ?_
      obtain rfl := Option.some.inj h
      exact aw_zret (pc := 18) hM dX9_in_18 (by decide) (Nat.le_of_ble_eq_true rfl) (Nat.le_of_ble_eq_true rfl) hq
def rmX9_refused : Room := { frames := 0, cells := 0, slots := 0, locals := 0 }
def s_X9_refused (F : MM) (p0 : Int32) : Option (Int32 × MM) := (some (mup F 164 0 p0)).bind (fun F1 => if p0 ≤ 0 then some (0, F1) else some (1, F1))
set_option maxRecDepth 20000 in
theorem k_X9_refused {C : CX} {F : MM} {G : GG} {p0 : Int32} {r : (Int32 × MM)} (h : s_X9_refused F p0 = some r) : AM C yX9_refused cX9_refused 2 (some .boolean) rmX9_refused [.ref 164, .int p0] F G (fun o F9 G9 => o = (.inl (some (.int r.1))) ∧ F9 = r.2 ∧ G9 = G) := by
  refine am_of (L := [some (.ref 164), some (.int p0)]) (by decide) (Nat.le_of_ble_eq_true rfl) rfl (fun M hM hT => ?_)
  have hM : MOk C RX9 cX9_refused 2 (some .boolean) rmX9_refused M := hM
  obtain ⟨Q, hQ⟩ : ∃ Q : OUT → MM → GG → Prop, Q = (fun o F9 G9 => o = (.inl (some (.int r.1))) ∧ F9 = r.2 ∧ G9 = G) := ⟨_, rfl⟩
  have hq : Q (.inl (some (.int r.1))) r.2 G := by rw [hQ]; exact ⟨rfl, rfl, rfl⟩
  rw [← hQ]
  clear hQ
  rw [s_X9_refused] at h
  refine aw_aload_n (pc := 0) (i := 0) (x := 164) hM dX9_refused_0 rfl rfl ?_
  refine aw_iload_n (pc := 1) (i := 1) (x := p0) hM dX9_refused_1 rfl rfl ?_
  obtain ⟨F1, e2, h⟩ := bind_some h
  have e2 := Option.some.inj e2
  refine aw_put (pc := 2) (ty := .int) hM fd_X9_69 tyX9_ok nmX9 rfl (by decide +kernel) rfl rfl sk_164 rfl dX9_refused_2 ?_
  refine aw_mem e2 ?_
  refine aw_iload_n (pc := 5) (i := 1) (x := p0) hM dX9_refused_5 rfl rfl ?_
  refine aw_if_le (pc := 6) (tgt := 13) hM dX9_refused_6 (by decide) (fun c3 => ?_) (fun c3 => ?_)
  · rw [if_pos c3] at h
    refine aw_iconst (pc := 13) (v := 0) hM dX9_refused_13 (by decide) ?_
    obtain rfl := Option.some.inj h
    exact aw_zret (pc := 14) hM dX9_refused_14 (by decide) (Nat.le_of_ble_eq_true rfl) (Nat.le_of_ble_eq_true rfl) hq
  · rw [if_neg c3] at h
    refine aw_iconst (pc := 9) (v := 1) hM dX9_refused_9 (by decide) ?_
    refine aw_goto (pc := 10) (tgt := 14) hM dX9_refused_10 (by decide) ?_
    obtain rfl := Option.some.inj h
    exact aw_zret (pc := 14) hM dX9_refused_14 (by decide) (Nat.le_of_ble_eq_true rfl) (Nat.le_of_ble_eq_true rfl) hq
def rmX9_at : Room := { frames := 0, cells := 0, slots := 0, locals := 0 }
def s_X9_at (F : MM) (p0 : Int32) : Option Int32 := some (2 + (15 * p0))
set_option maxRecDepth 20000 in
theorem k_X9_at {C : CX} {F : MM} {G : GG} {p0 : Int32} {r : Int32} (h : s_X9_at F p0 = some r) : AM C yX9_at cX9_at 1 (some .int) rmX9_at [.int p0] F G (fun o F9 G9 => o = (.inl (some (.int r))) ∧ F9 = F ∧ G9 = G) := by
  refine am_of (L := [some (.int p0)]) (by decide) (Nat.le_of_ble_eq_true rfl) rfl (fun M hM hT => ?_)
  have hM : MOk C RX9 cX9_at 1 (some .int) rmX9_at M := hM
  obtain ⟨Q, hQ⟩ : ∃ Q : OUT → MM → GG → Prop, Q = (fun o F9 G9 => o = (.inl (some (.int r))) ∧ F9 = F ∧ G9 = G) := ⟨_, rfl⟩
  have hq : Q (.inl (some (.int r))) F G := by rw [hQ]; exact ⟨rfl, rfl, rfl⟩
  rw [← hQ]
  clear hQ
  rw [s_X9_at] at h
  refine aw_iconst (pc := 0) (v := 2) hM dX9_at_0 (by decide) ?_
  refine aw_bipush (pc := 1) (v := 15) hM dX9_at_1 (by decide) ?_
  refine aw_iload_n (pc := 3) (i := 0) (x := p0) hM dX9_at_3 rfl rfl ?_
  refine aw_imul (pc := 4) hM dX9_at_4 ?_
  refine aw_iadd (pc := 5) hM dX9_at_5 ?_
  obtain rfl := Option.some.inj h
  exact aw_iret (pc := 6) hM dX9_at_6 (Nat.le_of_ble_eq_true rfl) (Nat.le_of_ble_eq_true rfl) hq
def rmX9_isDrifted : Room := { frames := 1, cells := 0, slots := 0, locals := 20 }
def s_X9_isDrifted (F : MM) (q0 : Nat) (p1 : Int32) (p2 : Int32) : Option Int32 := (s_X9_at F p1).bind (fun r2 => if inb (r2 + p2) (alen q0) then ((s_X9_at F p1).bind (fun r5 => if inb ((r5 + 6) + p2) (alen q0) then (if (F q0 (ix (r2 + p2))) = (F q0 (ix ((r5 + 6) + p2))) then some 0 else some 1) else none)) else none)
set_option maxRecDepth 20000 in
theorem k_X9_isDrifted {C : CX} {F : MM} {G : GG} {q0 : Nat} {p1 : Int32} {p2 : Int32} {r : Int32} (hq0 : isIA q0) (h : s_X9_isDrifted F q0 p1 p2 = some r) : AM C yX9_isDrifted cX9_isDrifted 4 (some .boolean) rmX9_isDrifted [.ref 164, .ref q0, .int p1, .int p2] F G (fun o F9 G9 => o = (.inl (some (.int r))) ∧ F9 = F ∧ G9 = G) := by
  refine am_of (L := [some (.ref 164), some (.ref q0), some (.int p1), some (.int p2)]) (by decide) (Nat.le_of_ble_eq_true rfl) rfl (fun M hM hT => ?_)
  have hM : MOk C RX9 cX9_isDrifted 4 (some .boolean) rmX9_isDrifted M := hM
  obtain ⟨Q, hQ⟩ : ∃ Q : OUT → MM → GG → Prop, Q = (fun o F9 G9 => o = (.inl (some (.int r))) ∧ F9 = F ∧ G9 = G) := ⟨_, rfl⟩
  have hq : Q (.inl (some (.int r))) F G := by rw [hQ]; exact ⟨rfl, rfl, rfl⟩
  rw [← hQ]
  clear hQ
  rw [s_X9_isDrifted] at h
  refine aw_aload_n (pc := 0) (i := 1) (x := q0) hM dX9_isDrifted_0 rfl rfl ?_
  refine aw_iload_n (pc := 1) (i := 2) (x := p1) hM dX9_isDrifted_1 rfl rfl ?_
  obtain ⟨r2, h1, h⟩ := bind_some h
  refine aw_cs1 (pc := 2) (n := 1) (As := [.int p1]) (st := [.ref q0]) (vo := (some (.int r2))) (c2 := 0) (s2 := 0) hM (k_X9_at h1) rfl cw_X9_126 (by decide +kernel) rfl rfl ⟨(Nat.le_of_ble_eq_true rfl), (Nat.le_of_ble_eq_true rfl)⟩ (Nat.le_of_ble_eq_true rfl) ⟨(Nat.le_of_ble_eq_true rfl), (Nat.le_of_ble_eq_true rfl)⟩ dX9_isDrifted_2 rfl rfl ?_
  refine aw_iload_n (pc := 5) (i := 3) (x := p2) hM dX9_isDrifted_5 rfl rfl ?_
  refine aw_iadd (pc := 6) hM dX9_isDrifted_6 ?_
  obtain ⟨c3, h⟩ := ite_some h
  refine aw_iald (pc := 7) hM hq0 c3 dX9_isDrifted_7 ?_
  refine aw_aload_n (pc := 8) (i := 1) (x := q0) hM dX9_isDrifted_8 rfl rfl ?_
  refine aw_iload_n (pc := 9) (i := 2) (x := p1) hM dX9_isDrifted_9 rfl rfl ?_
  obtain ⟨r5, h4, h⟩ := bind_some h
  refine aw_cs1 (pc := 10) (n := 1) (As := [.int p1]) (st := [.ref q0, .int (F q0 (ix (r2 + p2)))]) (vo := (some (.int r5))) (c2 := 0) (s2 := 0) hM (k_X9_at h4) rfl cw_X9_126 (by decide +kernel) rfl rfl ⟨(Nat.le_of_ble_eq_true rfl), (Nat.le_of_ble_eq_true rfl)⟩ (Nat.le_of_ble_eq_true rfl) ⟨(Nat.le_of_ble_eq_true rfl), (Nat.le_of_ble_eq_true rfl)⟩ dX9_isDrifted_10 rfl rfl ?_
  refine aw_bipush (pc := 13) (v := 6) hM dX9_isDrifted_13 (by decide) ?_
  refine aw_iadd (pc := 15) hM dX9_isDrifted_15 ?_
  refine aw_iload_n (pc := 16) (i := 3) (x := p2) hM dX9_isDrifted_16 rfl rfl ?_
  refine aw_iadd (pc := 17) hM dX9_isDrifted_17 ?_
  obtain ⟨c6, h⟩ := ite_some h
  refine aw_iald (pc := 18) hM hq0 c6 dX9_isDrifted_18 ?_
  refine aw_icmp_eq (pc := 19) (tgt := 26) hM dX9_isDrifted_19 (by decide) (fun c7 => ?_) (fun c7 => ?_)
  · rw [if_pos c7] at h
    refine aw_iconst (pc := 26) (v := 0) hM dX9_isDrifted_26 (by decide) ?_
    obtain rfl := Option.some.inj h
    exact aw_zret (pc := 27) hM dX9_isDrifted_27 (by decide) (Nat.le_of_ble_eq_true rfl) (Nat.le_of_ble_eq_true rfl) hq
  · rw [if_neg c7] at h
    refine aw_iconst (pc := 22) (v := 1) hM dX9_isDrifted_22 (by decide) ?_
    refine aw_goto (pc := 23) (tgt := 27) hM dX9_isDrifted_23 (by decide) ?_
    obtain rfl := Option.some.inj h
    exact aw_zret (pc := 27) hM dX9_isDrifted_27 (by decide) (Nat.le_of_ble_eq_true rfl) (Nat.le_of_ble_eq_true rfl) hq
def rmX9_drifted : Room := { frames := 2, cells := 0, slots := 0, locals := 43 }
def s_X9_drifted_b5 (F : MM) (q0 : Nat) : Nat → Int32 → Int32 → Int32 → Option Int32
  | 0, _, _, _ => none
  | n + 1, x2, x3, x4 => if (F 164 5) ≤ x4 then some x3 else (s_X9_isDrifted F q0 x2 x4).bind (fun r3 => if r3 = 0 then (some (x3 ||| 0 : Int32)).bind (fun y5 => (some (x4 + 1 : Int32)).bind (fun y7 => s_X9_drifted_b5 F q0 n x2 y5 y7)) else (some (x3 ||| ((1 : Int32) <<< (x4 &&& 31)) : Int32)).bind (fun y9 => (some (x4 + 1 : Int32)).bind (fun y11 => s_X9_drifted_b5 F q0 n x2 y9 y11)))
def s_X9_drifted (F : MM) (q0 : Nat) (p1 : Int32) : Option Int32 := s_X9_drifted_b5 F q0 fu_ p1 0 0
set_option maxRecDepth 20000 in
theorem k_X9_drifted_b5 {C : CX} {M : MX} {G : GG} {Q : OUT → MM → GG → Prop} {F : MM} {q0 : Nat} {r : Int32}  (hq0 : isIA q0)(hM : MOk C RX9 cX9_drifted 5 (some .int) rmX9_drifted M) (hT : MNoT M) (hq : Q (.inl (some (.int r))) F G) : ∀ (n : Nat) (x2 : Int32) (x3 : Int32) (x4 : Int32), s_X9_drifted_b5 F q0 n x2 x3 x4 = some r → AW C 5 (ZM C rmX9_drifted Q M) M 0 0 5 [some (.ref 164), some (.ref q0), some (.int x2), some (.int x3), some (.int x4)] [] F G := by
  intro n
  induction n with
  | zero => intro x2 x3 x4 h; exact nomatch h
  | succ n ih =>
    intro x2 x3 x4 h
    rw [s_X9_drifted_b5] at h
    refine aw_iload (pc := 5) (i := 4) (x := x4) hM dX9_drifted_5  rfl ?_
    refine aw_aload_n (pc := 7) (i := 0) (x := 164) hM dX9_drifted_7 rfl rfl ?_
    refine aw_getI (pc := 8) hM fd_X9_17 sk_164 rfl dX9_drifted_8 ?_
    refine aw_icmp_ge (pc := 11) (tgt := 42) hM dX9_drifted_11 (by decide) (fun c1 => ?_) (fun c1 => ?_)
    · rw [if_pos c1] at h
      refine aw_iload_n (pc := 42) (i := 3) (x := x3) hM dX9_drifted_42 rfl rfl ?_
      obtain rfl := Option.some.inj h
      exact aw_iret (pc := 43) hM dX9_drifted_43 (Nat.le_of_ble_eq_true rfl) (Nat.le_of_ble_eq_true rfl) hq
    · rw [if_neg c1] at h
      refine aw_iload_n (pc := 14) (i := 3) (x := x3) hM dX9_drifted_14 rfl rfl ?_
      refine aw_aload_n (pc := 15) (i := 0) (x := 164) hM dX9_drifted_15 rfl rfl ?_
      refine aw_aload_n (pc := 16) (i := 1) (x := q0) hM dX9_drifted_16 rfl rfl ?_
      refine aw_iload_n (pc := 17) (i := 2) (x := x2) hM dX9_drifted_17 rfl rfl ?_
      refine aw_iload (pc := 18) (i := 4) (x := x4) hM dX9_drifted_18  rfl ?_
      obtain ⟨r3, h2, h⟩ := bind_some h
      refine aw_cv1 (pc := 20) (n := 3) (As := [.ref q0, .int x2, .int x4]) (st := [.int x3]) (b := 164) (vo := (some (.int r3))) (c2 := 0) (s2 := 0) hM (k_X9_isDrifted hq0 h2) rfl cw_X9_163 sk_164 rfl rfl (by decide +kernel) rfl rfl ⟨(Nat.le_of_ble_eq_true rfl), (Nat.le_of_ble_eq_true rfl)⟩ (Nat.le_of_ble_eq_true rfl) ⟨(Nat.le_of_ble_eq_true rfl), (Nat.le_of_ble_eq_true rfl)⟩ dX9_drifted_20 rfl rfl ?_
      refine aw_if_eq (pc := 23) (tgt := 33) hM dX9_drifted_23 (by decide) (fun c4 => ?_) (fun c4 => ?_)
      · rw [if_pos c4] at h
        refine aw_iconst (pc := 33) (v := 0) hM dX9_drifted_33 (by decide) ?_
        refine aw_ior (pc := 34) hM dX9_drifted_34 ?_
        obtain ⟨y5, e6, h⟩ := bind_some h
        have e6 := Option.some.inj e6
        refine aw_topi e6 ?_
        refine aw_istore_n (pc := 35) (i := 3) (L' := [some (.ref 164), some (.ref q0), some (.int x2), some (.int y5), some (.int x4)]) hM dX9_drifted_35 rfl (by decide) rfl ?_
        obtain ⟨y7, e8, h⟩ := bind_some h
        have e8 := Option.some.inj e8
        refine aw_iinc (pc := 36) (v := y7) (L' := [some (.ref 164), some (.ref q0), some (.int x2), some (.int y5), some (.int y7)]) hM dX9_drifted_36 rfl e8 (by decide) rfl ?_
        refine aw_goto (pc := 39) (tgt := 5) hM dX9_drifted_39 (by decide) ?_
        exact ih x2 y5 y7 h
      · rw [if_neg c4] at h
        refine aw_iconst (pc := 26) (v := 1) hM dX9_drifted_26 (by decide) ?_
        refine aw_iload (pc := 27) (i := 4) (x := x4) hM dX9_drifted_27  rfl ?_
        refine aw_ishl (pc := 29) hM dX9_drifted_29 ?_
        refine aw_goto (pc := 30) (tgt := 34) hM dX9_drifted_30 (by decide) ?_
        refine aw_ior (pc := 34) hM dX9_drifted_34 ?_
        obtain ⟨y9, e10, h⟩ := bind_some h
        have e10 := Option.some.inj e10
        refine aw_topi e10 ?_
        refine aw_istore_n (pc := 35) (i := 3) (L' := [some (.ref 164), some (.ref q0), some (.int x2), some (.int y9), some (.int x4)]) hM dX9_drifted_35 rfl (by decide) rfl ?_
        obtain ⟨y11, e12, h⟩ := bind_some h
        have e12 := Option.some.inj e12
        refine aw_iinc (pc := 36) (v := y11) (L' := [some (.ref 164), some (.ref q0), some (.int x2), some (.int y9), some (.int y11)]) hM dX9_drifted_36 rfl e12 (by decide) rfl ?_
        refine aw_goto (pc := 39) (tgt := 5) hM dX9_drifted_39 (by decide) ?_
        exact ih x2 y9 y11 h
set_option maxRecDepth 20000 in
theorem k_X9_drifted {C : CX} {F : MM} {G : GG} {q0 : Nat} {p1 : Int32} {r : Int32} (hq0 : isIA q0) (h : s_X9_drifted F q0 p1 = some r) : AM C yX9_drifted cX9_drifted 5 (some .int) rmX9_drifted [.ref 164, .ref q0, .int p1] F G (fun o F9 G9 => o = (.inl (some (.int r))) ∧ F9 = F ∧ G9 = G) := by
  refine am_of (L := [some (.ref 164), some (.ref q0), some (.int p1), none, none]) (by decide) (Nat.le_of_ble_eq_true rfl) rfl (fun M hM hT => ?_)
  have hM : MOk C RX9 cX9_drifted 5 (some .int) rmX9_drifted M := hM
  obtain ⟨Q, hQ⟩ : ∃ Q : OUT → MM → GG → Prop, Q = (fun o F9 G9 => o = (.inl (some (.int r))) ∧ F9 = F ∧ G9 = G) := ⟨_, rfl⟩
  have hq : Q (.inl (some (.int r))) F G := by rw [hQ]; exact ⟨rfl, rfl, rfl⟩
  rw [← hQ]
  clear hQ
  rw [s_X9_drifted] at h
  refine aw_iconst (pc := 0) (v := 0) hM dX9_drifted_0 (by decide) ?_
  refine aw_istore_n (pc := 1) (i := 3) (L' := [some (.ref 164), some (.ref q0), some (.int p1), some (.int 0), none]) hM dX9_drifted_1 rfl (by decide) rfl ?_
  refine aw_iconst (pc := 2) (v := 0) hM dX9_drifted_2 (by decide) ?_
  refine aw_istore (pc := 3) (i := 4) (L' := [some (.ref 164), some (.ref q0), some (.int p1), some (.int 0), some (.int 0)]) hM dX9_drifted_3  (by decide) rfl ?_
  exact k_X9_drifted_b5 hq0 hM hT hq fu_ p1 0 0 h
def rmX9_calmNodes : Room := { frames := 3, cells := 0, slots := 0, locals := 67 }
def s_X9_calmNodes_b4 (F : MM) (q0 : Nat) : Nat → Int32 → Int32 → Option Int32
  | 0, _, _ => none
  | n + 1, x2, x3 => if (F 164 4) ≤ x3 then some x2 else (s_X9_drifted F q0 x3).bind (fun r3 => if r3 = 0 then (some (x2 ||| ((1 : Int32) <<< (x3 &&& 31)) : Int32)).bind (fun y9 => (some (x3 + 1 : Int32)).bind (fun y11 => s_X9_calmNodes_b4 F q0 n y9 y11)) else (some (x2 ||| 0 : Int32)).bind (fun y5 => (some (x3 + 1 : Int32)).bind (fun y7 => s_X9_calmNodes_b4 F q0 n y5 y7)))
def s_X9_calmNodes (F : MM) (q0 : Nat) : Option Int32 := s_X9_calmNodes_b4 F q0 fu_ 0 0
set_option maxRecDepth 20000 in
theorem k_X9_calmNodes_b4 {C : CX} {M : MX} {G : GG} {Q : OUT → MM → GG → Prop} {F : MM} {q0 : Nat} {r : Int32}  (hq0 : isIA q0)(hM : MOk C RX9 cX9_calmNodes 4 (some .int) rmX9_calmNodes M) (hT : MNoT M) (hq : Q (.inl (some (.int r))) F G) : ∀ (n : Nat) (x2 : Int32) (x3 : Int32), s_X9_calmNodes_b4 F q0 n x2 x3 = some r → AW C 4 (ZM C rmX9_calmNodes Q M) M 0 0 4 [some (.ref 164), some (.ref q0), some (.int x2), some (.int x3)] [] F G := by
  intro n
  induction n with
  | zero => intro x2 x3 h; exact nomatch h
  | succ n ih =>
    intro x2 x3 h
    rw [s_X9_calmNodes_b4] at h
    refine aw_iload_n (pc := 4) (i := 3) (x := x3) hM dX9_calmNodes_4 rfl rfl ?_
    refine aw_aload_n (pc := 5) (i := 0) (x := 164) hM dX9_calmNodes_5 rfl rfl ?_
    refine aw_getI (pc := 6) hM fd_X9_13 sk_164 rfl dX9_calmNodes_6 ?_
    refine aw_icmp_ge (pc := 9) (tgt := 37) hM dX9_calmNodes_9 (by decide) (fun c1 => ?_) (fun c1 => ?_)
    · rw [if_pos c1] at h
      refine aw_iload_n (pc := 37) (i := 2) (x := x2) hM dX9_calmNodes_37 rfl rfl ?_
      obtain rfl := Option.some.inj h
      exact aw_iret (pc := 38) hM dX9_calmNodes_38 (Nat.le_of_ble_eq_true rfl) (Nat.le_of_ble_eq_true rfl) hq
    · rw [if_neg c1] at h
      refine aw_iload_n (pc := 12) (i := 2) (x := x2) hM dX9_calmNodes_12 rfl rfl ?_
      refine aw_aload_n (pc := 13) (i := 0) (x := 164) hM dX9_calmNodes_13 rfl rfl ?_
      refine aw_aload_n (pc := 14) (i := 1) (x := q0) hM dX9_calmNodes_14 rfl rfl ?_
      refine aw_iload_n (pc := 15) (i := 3) (x := x3) hM dX9_calmNodes_15 rfl rfl ?_
      obtain ⟨r3, h2, h⟩ := bind_some h
      refine aw_cv1 (pc := 16) (n := 2) (As := [.ref q0, .int x3]) (st := [.int x2]) (b := 164) (vo := (some (.int r3))) (c2 := 0) (s2 := 0) hM (k_X9_drifted hq0 h2) rfl cw_X9_191 sk_164 rfl rfl (by decide +kernel) rfl rfl ⟨(Nat.le_of_ble_eq_true rfl), (Nat.le_of_ble_eq_true rfl)⟩ (Nat.le_of_ble_eq_true rfl) ⟨(Nat.le_of_ble_eq_true rfl), (Nat.le_of_ble_eq_true rfl)⟩ dX9_calmNodes_16 rfl rfl ?_
      refine aw_if_ne (pc := 19) (tgt := 28) hM dX9_calmNodes_19 (by decide) (fun c4 => ?_) (fun c4 => ?_)
      · rw [if_neg c4] at h
        refine aw_iconst (pc := 28) (v := 0) hM dX9_calmNodes_28 (by decide) ?_
        refine aw_ior (pc := 29) hM dX9_calmNodes_29 ?_
        obtain ⟨y5, e6, h⟩ := bind_some h
        have e6 := Option.some.inj e6
        refine aw_topi e6 ?_
        refine aw_istore_n (pc := 30) (i := 2) (L' := [some (.ref 164), some (.ref q0), some (.int y5), some (.int x3)]) hM dX9_calmNodes_30 rfl (by decide) rfl ?_
        obtain ⟨y7, e8, h⟩ := bind_some h
        have e8 := Option.some.inj e8
        refine aw_iinc (pc := 31) (v := y7) (L' := [some (.ref 164), some (.ref q0), some (.int y5), some (.int y7)]) hM dX9_calmNodes_31 rfl e8 (by decide) rfl ?_
        refine aw_goto (pc := 34) (tgt := 4) hM dX9_calmNodes_34 (by decide) ?_
        exact ih y5 y7 h
      · rw [if_pos c4] at h
        refine aw_iconst (pc := 22) (v := 1) hM dX9_calmNodes_22 (by decide) ?_
        refine aw_iload_n (pc := 23) (i := 3) (x := x3) hM dX9_calmNodes_23 rfl rfl ?_
        refine aw_ishl (pc := 24) hM dX9_calmNodes_24 ?_
        refine aw_goto (pc := 25) (tgt := 29) hM dX9_calmNodes_25 (by decide) ?_
        refine aw_ior (pc := 29) hM dX9_calmNodes_29 ?_
        obtain ⟨y9, e10, h⟩ := bind_some h
        have e10 := Option.some.inj e10
        refine aw_topi e10 ?_
        refine aw_istore_n (pc := 30) (i := 2) (L' := [some (.ref 164), some (.ref q0), some (.int y9), some (.int x3)]) hM dX9_calmNodes_30 rfl (by decide) rfl ?_
        obtain ⟨y11, e12, h⟩ := bind_some h
        have e12 := Option.some.inj e12
        refine aw_iinc (pc := 31) (v := y11) (L' := [some (.ref 164), some (.ref q0), some (.int y9), some (.int y11)]) hM dX9_calmNodes_31 rfl e12 (by decide) rfl ?_
        refine aw_goto (pc := 34) (tgt := 4) hM dX9_calmNodes_34 (by decide) ?_
        exact ih y9 y11 h
set_option maxRecDepth 20000 in
theorem k_X9_calmNodes {C : CX} {F : MM} {G : GG} {q0 : Nat} {r : Int32} (hq0 : isIA q0) (h : s_X9_calmNodes F q0 = some r) : AM C yX9_calmNodes cX9_calmNodes 4 (some .int) rmX9_calmNodes [.ref 164, .ref q0] F G (fun o F9 G9 => o = (.inl (some (.int r))) ∧ F9 = F ∧ G9 = G) := by
  refine am_of (L := [some (.ref 164), some (.ref q0), none, none]) (by decide) (Nat.le_of_ble_eq_true rfl) rfl (fun M hM hT => ?_)
  have hM : MOk C RX9 cX9_calmNodes 4 (some .int) rmX9_calmNodes M := hM
  obtain ⟨Q, hQ⟩ : ∃ Q : OUT → MM → GG → Prop, Q = (fun o F9 G9 => o = (.inl (some (.int r))) ∧ F9 = F ∧ G9 = G) := ⟨_, rfl⟩
  have hq : Q (.inl (some (.int r))) F G := by rw [hQ]; exact ⟨rfl, rfl, rfl⟩
  rw [← hQ]
  clear hQ
  rw [s_X9_calmNodes] at h
  refine aw_iconst (pc := 0) (v := 0) hM dX9_calmNodes_0 (by decide) ?_
  refine aw_istore_n (pc := 1) (i := 2) (L' := [some (.ref 164), some (.ref q0), some (.int 0), none]) hM dX9_calmNodes_1 rfl (by decide) rfl ?_
  refine aw_iconst (pc := 2) (v := 0) hM dX9_calmNodes_2 (by decide) ?_
  refine aw_istore_n (pc := 3) (i := 3) (L' := [some (.ref 164), some (.ref q0), some (.int 0), some (.int 0)]) hM dX9_calmNodes_3 rfl (by decide) rfl ?_
  exact k_X9_calmNodes_b4 hq0 hM hT hq fu_ 0 0 h
def rmX9_about : Room := { frames := 4, cells := 0, slots := 0, locals := 90 }
def s_X9_about_b18 (F : MM) (x1 : Int32) (t0 : Int32) : Option (Int32 × MM) := (s_X9_refused F t0).bind (fun z6 => if z6.1 = 0 then if x1 = 0 then some (z6.2 164 4, z6.2) else if x1 = 1 then some (z6.2 164 5, z6.2) else if x1 = 2 then some (z6.2 164 6, z6.2) else if x1 = 3 then some (z6.2 164 7, z6.2) else if x1 = 4 then some (z6.2 164 8, z6.2) else if x1 = 5 then if inb 0 107 then (some (z6.2 171 (ix 0), z6.2)) else none else if x1 = 6 then if inb 1 107 then (some (z6.2 171 (ix 1), z6.2)) else none else (s_X9_calmNodes z6.2 171).bind (fun r18 => some (r18, z6.2)) else some (0, z6.2))
def s_X9_about (F : MM) (p0 : Int32) : Option (Int32 × MM) := (s_X9_in F (Int32.toInt64 p0) 0 7).bind (fun r2 => if r2 = 0 then s_X9_about_b18 F p0 1 else s_X9_about_b18 F p0 0)
set_option maxRecDepth 20000 in
theorem k_X9_about_b18 {C : CX} {M : MX} {G : GG} {Q : OUT → MM → GG → Prop} {r : (Int32 × MM)} (hM : MOk C RX9 cX9_about 2 (some .int) rmX9_about M) (hT : MNoT M) (hq : Q (.inl (some (.int r.1))) r.2 G) (F : MM) (x1 : Int32) (t0 : Int32) (h : s_X9_about_b18 F x1 t0 = some r) : AW C 2 (ZM C rmX9_about Q M) M 0 0 18 [some (.ref 164), some (.int x1)] [.int t0, .ref 164] F G := by
  rw [s_X9_about_b18] at h
  obtain ⟨z6, h4, h⟩ := bind_some h
  refine aw_cv1 (pc := 18) (n := 1) (As := [.int t0]) (st := []) (b := 164) (vo := (some (.int z6.1))) (c2 := 0) (s2 := 0) hM (k_X9_refused h4) rfl cw_X9_93 sk_164 rfl rfl (by decide +kernel) rfl rfl ⟨(Nat.le_of_ble_eq_true rfl), (Nat.le_of_ble_eq_true rfl)⟩ (Nat.le_of_ble_eq_true rfl) ⟨(Nat.le_of_ble_eq_true rfl), (Nat.le_of_ble_eq_true rfl)⟩ dX9_about_18 rfl rfl ?_
  refine aw_if_eq (pc := 21) (tgt := 26) hM dX9_about_21 (by decide) (fun c7 => ?_) (fun c7 => ?_)
  · rw [if_pos c7] at h
    refine aw_iload_n (pc := 26) (i := 1) (x := x1) hM dX9_about_26 rfl rfl ?_
    by_cases c8 : x1 = 0
    · rw [if_pos c8] at h
      refine aw_tableIn (pc := 27) (off := 41) (tgt := 68) hM dX9_about_27 (by rw [c8]; decide) (by rw [c8]; decide) (by rw [c8]; rfl) (by decide) ?_
      refine aw_aload_n (pc := 68) (i := 0) (x := 164) hM dX9_about_68 rfl rfl ?_
      refine aw_getI (pc := 69) hM fd_X9_13 sk_164 rfl dX9_about_69 ?_
      obtain rfl := Option.some.inj h
      exact aw_iret (pc := 72) hM dX9_about_72 (Nat.le_of_ble_eq_true rfl) (Nat.le_of_ble_eq_true rfl) hq
    rw [if_neg c8] at h
    by_cases c9 : x1 = 1
    · rw [if_pos c9] at h
      refine aw_tableIn (pc := 27) (off := 46) (tgt := 73) hM dX9_about_27 (by rw [c9]; decide) (by rw [c9]; decide) (by rw [c9]; rfl) (by decide) ?_
      refine aw_aload_n (pc := 73) (i := 0) (x := 164) hM dX9_about_73 rfl rfl ?_
      refine aw_getI (pc := 74) hM fd_X9_17 sk_164 rfl dX9_about_74 ?_
      obtain rfl := Option.some.inj h
      exact aw_iret (pc := 77) hM dX9_about_77 (Nat.le_of_ble_eq_true rfl) (Nat.le_of_ble_eq_true rfl) hq
    rw [if_neg c9] at h
    by_cases c10 : x1 = 2
    · rw [if_pos c10] at h
      refine aw_tableIn (pc := 27) (off := 51) (tgt := 78) hM dX9_about_27 (by rw [c10]; decide) (by rw [c10]; decide) (by rw [c10]; rfl) (by decide) ?_
      refine aw_aload_n (pc := 78) (i := 0) (x := 164) hM dX9_about_78 rfl rfl ?_
      refine aw_getI (pc := 79) hM fd_X9_146 sk_164 rfl dX9_about_79 ?_
      obtain rfl := Option.some.inj h
      exact aw_iret (pc := 82) hM dX9_about_82 (Nat.le_of_ble_eq_true rfl) (Nat.le_of_ble_eq_true rfl) hq
    rw [if_neg c10] at h
    by_cases c11 : x1 = 3
    · rw [if_pos c11] at h
      refine aw_tableIn (pc := 27) (off := 56) (tgt := 83) hM dX9_about_27 (by rw [c11]; decide) (by rw [c11]; decide) (by rw [c11]; rfl) (by decide) ?_
      refine aw_aload_n (pc := 83) (i := 0) (x := 164) hM dX9_about_83 rfl rfl ?_
      refine aw_getI (pc := 84) hM fd_X9_20 sk_164 rfl dX9_about_84 ?_
      obtain rfl := Option.some.inj h
      exact aw_iret (pc := 87) hM dX9_about_87 (Nat.le_of_ble_eq_true rfl) (Nat.le_of_ble_eq_true rfl) hq
    rw [if_neg c11] at h
    by_cases c12 : x1 = 4
    · rw [if_pos c12] at h
      refine aw_tableIn (pc := 27) (off := 61) (tgt := 88) hM dX9_about_27 (by rw [c12]; decide) (by rw [c12]; decide) (by rw [c12]; rfl) (by decide) ?_
      refine aw_aload_n (pc := 88) (i := 0) (x := 164) hM dX9_about_88 rfl rfl ?_
      refine aw_getI (pc := 89) hM fd_X9_23 sk_164 rfl dX9_about_89 ?_
      obtain rfl := Option.some.inj h
      exact aw_iret (pc := 92) hM dX9_about_92 (Nat.le_of_ble_eq_true rfl) (Nat.le_of_ble_eq_true rfl) hq
    rw [if_neg c12] at h
    by_cases c13 : x1 = 5
    · rw [if_pos c13] at h
      refine aw_tableIn (pc := 27) (off := 66) (tgt := 93) hM dX9_about_27 (by rw [c13]; decide) (by rw [c13]; decide) (by rw [c13]; rfl) (by decide) ?_
      refine aw_aload_n (pc := 93) (i := 0) (x := 164) hM dX9_about_93 rfl rfl ?_
      refine aw_getR (pc := 94) (r := 171) hM fd_X9_41 sk_164 rfl dX9_about_94 ?_
      refine aw_iconst (pc := 97) (v := 0) hM dX9_about_97 (by decide) ?_
      obtain ⟨c14, h⟩ := ite_some h
      refine aw_iald (pc := 98) hM sk_171 c14 dX9_about_98 ?_
      obtain rfl := Option.some.inj h
      exact aw_iret (pc := 99) hM dX9_about_99 (Nat.le_of_ble_eq_true rfl) (Nat.le_of_ble_eq_true rfl) hq
    rw [if_neg c13] at h
    by_cases c15 : x1 = 6
    · rw [if_pos c15] at h
      refine aw_tableIn (pc := 27) (off := 73) (tgt := 100) hM dX9_about_27 (by rw [c15]; decide) (by rw [c15]; decide) (by rw [c15]; rfl) (by decide) ?_
      refine aw_aload_n (pc := 100) (i := 0) (x := 164) hM dX9_about_100 rfl rfl ?_
      refine aw_getR (pc := 101) (r := 171) hM fd_X9_41 sk_164 rfl dX9_about_101 ?_
      refine aw_iconst (pc := 104) (v := 1) hM dX9_about_104 (by decide) ?_
      obtain ⟨c16, h⟩ := ite_some h
      refine aw_iald (pc := 105) hM sk_171 c16 dX9_about_105 ?_
      obtain rfl := Option.some.inj h
      exact aw_iret (pc := 106) hM dX9_about_106 (Nat.le_of_ble_eq_true rfl) (Nat.le_of_ble_eq_true rfl) hq
    rw [if_neg c15] at h
    refine aw_tableOut (pc := 27) (tgt := 107) hM dX9_about_27 (by have := ts_ne c8 (k := 0) rfl; have := ts_ne c9 (k := 1) rfl; have := ts_ne c10 (k := 2) rfl; have := ts_ne c11 (k := 3) rfl; have := ts_ne c12 (k := 4) rfl; have := ts_ne c13 (k := 5) rfl; have := ts_ne c15 (k := 6) rfl; omega) (by decide) ?_
    refine aw_aload_n (pc := 107) (i := 0) (x := 164) hM dX9_about_107 rfl rfl ?_
    refine aw_aload_n (pc := 108) (i := 0) (x := 164) hM dX9_about_108 rfl rfl ?_
    refine aw_getR (pc := 109) (r := 171) hM fd_X9_41 sk_164 rfl dX9_about_109 ?_
    obtain ⟨r18, h17, h⟩ := bind_some h
    refine aw_cv1 (pc := 112) (n := 1) (As := [.ref 171]) (st := []) (b := 164) (vo := (some (.int r18))) (c2 := 0) (s2 := 0) hM (k_X9_calmNodes (ia_of sk_171) h17) rfl cw_X9_196 sk_164 rfl rfl (by decide +kernel) rfl rfl ⟨(Nat.le_of_ble_eq_true rfl), (Nat.le_of_ble_eq_true rfl)⟩ (Nat.le_of_ble_eq_true rfl) ⟨(Nat.le_of_ble_eq_true rfl), (Nat.le_of_ble_eq_true rfl)⟩ dX9_about_112 rfl rfl ?_
    obtain rfl := Option.some.inj h
    exact aw_iret (pc := 115) hM dX9_about_115 (Nat.le_of_ble_eq_true rfl) (Nat.le_of_ble_eq_true rfl) hq
  · rw [if_neg c7] at h
    refine aw_iconst (pc := 24) (v := 0) hM dX9_about_24 (by decide) ?_
    obtain rfl := Option.some.inj h
    exact aw_iret (pc := 25) hM dX9_about_25 (Nat.le_of_ble_eq_true rfl) (Nat.le_of_ble_eq_true rfl) hq
set_option maxRecDepth 20000 in
theorem k_X9_about {C : CX} {F : MM} {G : GG} {p0 : Int32} {r : (Int32 × MM)} (h : s_X9_about F p0 = some r) : AM C yX9_about cX9_about 2 (some .int) rmX9_about [.ref 164, .int p0] F G (fun o F9 G9 => o = (.inl (some (.int r.1))) ∧ F9 = r.2 ∧ G9 = G) := by
  refine am_of (L := [some (.ref 164), some (.int p0)]) (by decide) (Nat.le_of_ble_eq_true rfl) rfl (fun M hM hT => ?_)
  have hM : MOk C RX9 cX9_about 2 (some .int) rmX9_about M := hM
  obtain ⟨Q, hQ⟩ : ∃ Q : OUT → MM → GG → Prop, Q = (fun o F9 G9 => o = (.inl (some (.int r.1))) ∧ F9 = r.2 ∧ G9 = G) := ⟨_, rfl⟩
  have hq : Q (.inl (some (.int r.1))) r.2 G := by rw [hQ]; exact ⟨rfl, rfl, rfl⟩
  rw [← hQ]
  clear hQ
  rw [s_X9_about] at h
  refine aw_aload_n (pc := 0) (i := 0) (x := 164) hM dX9_about_0 rfl rfl ?_
  refine aw_iload_n (pc := 1) (i := 1) (x := p0) hM dX9_about_1 rfl rfl ?_
  refine aw_i2l (pc := 2) hM dX9_about_2 ?_
  refine aw_lconst (pc := 3) (v := 0) hM dX9_about_3 (by decide) ?_
  refine aw_ldc2 (pc := 4) hM gw_1176 dX9_about_4 ?_
  obtain ⟨r2, h1, h⟩ := bind_some h
  refine aw_cs1 (pc := 7) (n := 3) (As := [.long (Int32.toInt64 p0), .long 0, .long 7]) (st := [.ref 164]) (vo := (some (.int r2))) (c2 := 0) (s2 := 0) hM (k_X9_in h1) rfl cw_X9_82 (by decide +kernel) rfl rfl ⟨(Nat.le_of_ble_eq_true rfl), (Nat.le_of_ble_eq_true rfl)⟩ (Nat.le_of_ble_eq_true rfl) ⟨(Nat.le_of_ble_eq_true rfl), (Nat.le_of_ble_eq_true rfl)⟩ dX9_about_7 rfl rfl ?_
  refine aw_if_eq (pc := 10) (tgt := 17) hM dX9_about_10 (by decide) (fun c3 => ?_) (fun c3 => ?_)
  · rw [if_pos c3] at h
    refine aw_iconst (pc := 17) (v := 1) hM dX9_about_17 (by decide) ?_
    exact k_X9_about_b18 hM hT hq F p0 1 h
  · rw [if_neg c3] at h
    refine aw_iconst (pc := 13) (v := 0) hM dX9_about_13 (by decide) ?_
    refine aw_goto (pc := 14) (tgt := 18) hM dX9_about_14 (by decide) ?_
    exact k_X9_about_b18 hM hT hq F p0 0 h
def rmX9_isNode : Room := { frames := 1, cells := 0, slots := 0, locals := 25 }
def s_X9_isNode (F : MM) (p0 : Int32) : Option Int32 := (s_X9_in F (Int32.toInt64 p0) 0 (Int32.toInt64 ((F 164 4) - 1))).bind (fun r2 => if r2 &&& 1 = r2 then (some r2) else none)
set_option maxRecDepth 20000 in
theorem k_X9_isNode {C : CX} {F : MM} {G : GG} {p0 : Int32} {r : Int32} (h : s_X9_isNode F p0 = some r) : AM C yX9_isNode cX9_isNode 2 (some .boolean) rmX9_isNode [.ref 164, .int p0] F G (fun o F9 G9 => o = (.inl (some (.int r))) ∧ F9 = F ∧ G9 = G) := by
  refine am_of (L := [some (.ref 164), some (.int p0)]) (by decide) (Nat.le_of_ble_eq_true rfl) rfl (fun M hM hT => ?_)
  have hM : MOk C RX9 cX9_isNode 2 (some .boolean) rmX9_isNode M := hM
  obtain ⟨Q, hQ⟩ : ∃ Q : OUT → MM → GG → Prop, Q = (fun o F9 G9 => o = (.inl (some (.int r))) ∧ F9 = F ∧ G9 = G) := ⟨_, rfl⟩
  have hq : Q (.inl (some (.int r))) F G := by rw [hQ]; exact ⟨rfl, rfl, rfl⟩
  rw [← hQ]
  clear hQ
  rw [s_X9_isNode] at h
  refine aw_iload_n (pc := 0) (i := 1) (x := p0) hM dX9_isNode_0 rfl rfl ?_
  refine aw_i2l (pc := 1) hM dX9_isNode_1 ?_
  refine aw_lconst (pc := 2) (v := 0) hM dX9_isNode_2 (by decide) ?_
  refine aw_aload_n (pc := 3) (i := 0) (x := 164) hM dX9_isNode_3 rfl rfl ?_
  refine aw_getI (pc := 4) hM fd_X9_13 sk_164 rfl dX9_isNode_4 ?_
  refine aw_iconst (pc := 7) (v := 1) hM dX9_isNode_7 (by decide) ?_
  refine aw_isub (pc := 8) hM dX9_isNode_8 ?_
  refine aw_i2l (pc := 9) hM dX9_isNode_9 ?_
  obtain ⟨r2, h1, h⟩ := bind_some h
  refine aw_cs1 (pc := 10) (n := 3) (As := [.long (Int32.toInt64 p0), .long 0, .long (Int32.toInt64 ((F 164 4) - 1))]) (st := []) (vo := (some (.int r2))) (c2 := 0) (s2 := 0) hM (k_X9_in h1) rfl cw_X9_82 (by decide +kernel) rfl rfl ⟨(Nat.le_of_ble_eq_true rfl), (Nat.le_of_ble_eq_true rfl)⟩ (Nat.le_of_ble_eq_true rfl) ⟨(Nat.le_of_ble_eq_true rfl), (Nat.le_of_ble_eq_true rfl)⟩ dX9_isNode_10 rfl rfl ?_
  obtain ⟨c3, h⟩ := ite_some h
  obtain rfl := Option.some.inj h
  exact aw_zret (pc := 13) hM dX9_isNode_13 c3 (Nat.le_of_ble_eq_true rfl) (Nat.le_of_ble_eq_true rfl) hq
def rmX9_copy : Room := { frames := 0, cells := 0, slots := 0, locals := 0 }
def s_X9_copy_b3 (q0 : Nat) (q2 : Nat) : Nat → MM → Int32 → Int32 → Int32 → Int32 → Option MM
  | 0, _, _, _, _, _ => none
  | n + 1, F, x1, x3, x4, x5 => if x4 ≤ x5 then some F else if inb (x1 + x5) (alen q0) then (if inb (x3 + x5) (alen q2) then ((some (mup F q2 (ix (x3 + x5)) (F q0 (ix (x1 + x5))))).bind (fun F4 => (some (x5 + 1 : Int32)).bind (fun y6 => s_X9_copy_b3 q0 q2 n F4 x1 x3 x4 y6))) else none) else none
def s_X9_copy (F : MM) (q0 : Nat) (p1 : Int32) (q2 : Nat) (p3 : Int32) (p4 : Int32) : Option MM := s_X9_copy_b3 q0 q2 fu_ F p1 p3 p4 0
set_option maxRecDepth 20000 in
theorem k_X9_copy_b3 {C : CX} {M : MX} {G : GG} {Q : OUT → MM → GG → Prop} {q0 : Nat} {q2 : Nat} {r : MM}  (hq0 : isIA q0) (hq2 : isIA q2)(hM : MOk C RX9 cX9_copy 6 none rmX9_copy M) (hT : MNoT M) (hq : Q (.inl none) r G) : ∀ (n : Nat) (F : MM) (x1 : Int32) (x3 : Int32) (x4 : Int32) (x5 : Int32), s_X9_copy_b3 q0 q2 n F x1 x3 x4 x5 = some r → AW C 6 (ZM C rmX9_copy Q M) M 0 0 3 [some (.ref q0), some (.int x1), some (.ref q2), some (.int x3), some (.int x4), some (.int x5)] [] F G := by
  intro n
  induction n with
  | zero => intro F x1 x3 x4 x5 h; exact nomatch h
  | succ n ih =>
    intro F x1 x3 x4 x5 h
    rw [s_X9_copy_b3] at h
    refine aw_iload (pc := 3) (i := 5) (x := x5) hM dX9_copy_3  rfl ?_
    refine aw_iload (pc := 5) (i := 4) (x := x4) hM dX9_copy_5  rfl ?_
    refine aw_icmp_ge (pc := 7) (tgt := 28) hM dX9_copy_7 (by decide) (fun c1 => ?_) (fun c1 => ?_)
    · rw [if_pos c1] at h
      obtain rfl := Option.some.inj h
      exact aw_vret (pc := 28) hM dX9_copy_28 (Nat.le_of_ble_eq_true rfl) (Nat.le_of_ble_eq_true rfl) hq
    · rw [if_neg c1] at h
      refine aw_aload_n (pc := 10) (i := 2) (x := q2) hM dX9_copy_10 rfl rfl ?_
      refine aw_iload_n (pc := 11) (i := 3) (x := x3) hM dX9_copy_11 rfl rfl ?_
      refine aw_iload (pc := 12) (i := 5) (x := x5) hM dX9_copy_12  rfl ?_
      refine aw_iadd (pc := 14) hM dX9_copy_14 ?_
      refine aw_aload_n (pc := 15) (i := 0) (x := q0) hM dX9_copy_15 rfl rfl ?_
      refine aw_iload_n (pc := 16) (i := 1) (x := x1) hM dX9_copy_16 rfl rfl ?_
      refine aw_iload (pc := 17) (i := 5) (x := x5) hM dX9_copy_17  rfl ?_
      refine aw_iadd (pc := 19) hM dX9_copy_19 ?_
      obtain ⟨c2, h⟩ := ite_some h
      refine aw_iald (pc := 20) hM hq0 c2 dX9_copy_20 ?_
      obtain ⟨c3, h⟩ := ite_some h
      obtain ⟨F4, e5, h⟩ := bind_some h
      have e5 := Option.some.inj e5
      refine aw_iast (pc := 21) hM hq2 c3 dX9_copy_21 ?_
      refine aw_mem e5 ?_
      obtain ⟨y6, e7, h⟩ := bind_some h
      have e7 := Option.some.inj e7
      refine aw_iinc (pc := 22) (v := y6) (L' := [some (.ref q0), some (.int x1), some (.ref q2), some (.int x3), some (.int x4), some (.int y6)]) hM dX9_copy_22 rfl e7 (by decide) rfl ?_
      refine aw_goto (pc := 25) (tgt := 3) hM dX9_copy_25 (by decide) ?_
      exact ih F4 x1 x3 x4 y6 h
set_option maxRecDepth 20000 in
theorem k_X9_copy {C : CX} {F : MM} {G : GG} {q0 : Nat} {q2 : Nat} {p1 : Int32} {p3 : Int32} {p4 : Int32} {r : MM} (hq0 : isIA q0) (hq2 : isIA q2) (h : s_X9_copy F q0 p1 q2 p3 p4 = some r) : AM C yX9_copy cX9_copy 6 none rmX9_copy [.ref q0, .int p1, .ref q2, .int p3, .int p4] F G (fun o F9 G9 => o = (.inl none) ∧ F9 = r ∧ G9 = G) := by
  refine am_of (L := [some (.ref q0), some (.int p1), some (.ref q2), some (.int p3), some (.int p4), none]) (by decide) (Nat.le_of_ble_eq_true rfl) rfl (fun M hM hT => ?_)
  have hM : MOk C RX9 cX9_copy 6 none rmX9_copy M := hM
  obtain ⟨Q, hQ⟩ : ∃ Q : OUT → MM → GG → Prop, Q = (fun o F9 G9 => o = (.inl none) ∧ F9 = r ∧ G9 = G) := ⟨_, rfl⟩
  have hq : Q (.inl none) r G := by rw [hQ]; exact ⟨rfl, rfl, rfl⟩
  rw [← hQ]
  clear hQ
  rw [s_X9_copy] at h
  refine aw_iconst (pc := 0) (v := 0) hM dX9_copy_0 (by decide) ?_
  refine aw_istore (pc := 1) (i := 5) (L' := [some (.ref q0), some (.int p1), some (.ref q2), some (.int p3), some (.int p4), some (.int 0)]) hM dX9_copy_1  (by decide) rfl ?_
  exact k_X9_copy_b3 hq0 hq2 hM hT hq fu_ F p1 p3 p4 0 h
def rmX9_isQuarantined : Room := { frames := 1, cells := 0, slots := 0, locals := 20 }
def s_X9_isQuarantined (F : MM) (q0 : Nat) (p1 : Int32) : Option Int32 := (s_X9_at F p1).bind (fun r2 => if inb (r2 + 14) (alen q0) then (if inb 0 (alen q0) then (if (F q0 (ix (r2 + 14))) ≤ (F q0 (ix 0)) then some 0 else some 1) else none) else none)
set_option maxRecDepth 20000 in
theorem k_X9_isQuarantined {C : CX} {F : MM} {G : GG} {q0 : Nat} {p1 : Int32} {r : Int32} (hq0 : isIA q0) (h : s_X9_isQuarantined F q0 p1 = some r) : AM C yX9_isQuarantined cX9_isQuarantined 2 (some .boolean) rmX9_isQuarantined [.ref q0, .int p1] F G (fun o F9 G9 => o = (.inl (some (.int r))) ∧ F9 = F ∧ G9 = G) := by
  refine am_of (L := [some (.ref q0), some (.int p1)]) (by decide) (Nat.le_of_ble_eq_true rfl) rfl (fun M hM hT => ?_)
  have hM : MOk C RX9 cX9_isQuarantined 2 (some .boolean) rmX9_isQuarantined M := hM
  obtain ⟨Q, hQ⟩ : ∃ Q : OUT → MM → GG → Prop, Q = (fun o F9 G9 => o = (.inl (some (.int r))) ∧ F9 = F ∧ G9 = G) := ⟨_, rfl⟩
  have hq : Q (.inl (some (.int r))) F G := by rw [hQ]; exact ⟨rfl, rfl, rfl⟩
  rw [← hQ]
  clear hQ
  rw [s_X9_isQuarantined] at h
  refine aw_aload_n (pc := 0) (i := 0) (x := q0) hM dX9_isQuarantined_0 rfl rfl ?_
  refine aw_iload_n (pc := 1) (i := 1) (x := p1) hM dX9_isQuarantined_1 rfl rfl ?_
  obtain ⟨r2, h1, h⟩ := bind_some h
  refine aw_cs1 (pc := 2) (n := 1) (As := [.int p1]) (st := [.ref q0]) (vo := (some (.int r2))) (c2 := 0) (s2 := 0) hM (k_X9_at h1) rfl cw_X9_126 (by decide +kernel) rfl rfl ⟨(Nat.le_of_ble_eq_true rfl), (Nat.le_of_ble_eq_true rfl)⟩ (Nat.le_of_ble_eq_true rfl) ⟨(Nat.le_of_ble_eq_true rfl), (Nat.le_of_ble_eq_true rfl)⟩ dX9_isQuarantined_2 rfl rfl ?_
  refine aw_bipush (pc := 5) (v := 14) hM dX9_isQuarantined_5 (by decide) ?_
  refine aw_iadd (pc := 7) hM dX9_isQuarantined_7 ?_
  obtain ⟨c3, h⟩ := ite_some h
  refine aw_iald (pc := 8) hM hq0 c3 dX9_isQuarantined_8 ?_
  refine aw_aload_n (pc := 9) (i := 0) (x := q0) hM dX9_isQuarantined_9 rfl rfl ?_
  refine aw_iconst (pc := 10) (v := 0) hM dX9_isQuarantined_10 (by decide) ?_
  obtain ⟨c4, h⟩ := ite_some h
  refine aw_iald (pc := 11) hM hq0 c4 dX9_isQuarantined_11 ?_
  refine aw_icmp_le (pc := 12) (tgt := 19) hM dX9_isQuarantined_12 (by decide) (fun c5 => ?_) (fun c5 => ?_)
  · rw [if_pos c5] at h
    refine aw_iconst (pc := 19) (v := 0) hM dX9_isQuarantined_19 (by decide) ?_
    obtain rfl := Option.some.inj h
    exact aw_zret (pc := 20) hM dX9_isQuarantined_20 (by decide) (Nat.le_of_ble_eq_true rfl) (Nat.le_of_ble_eq_true rfl) hq
  · rw [if_neg c5] at h
    refine aw_iconst (pc := 15) (v := 1) hM dX9_isQuarantined_15 (by decide) ?_
    refine aw_goto (pc := 16) (tgt := 20) hM dX9_isQuarantined_16 (by decide) ?_
    obtain rfl := Option.some.inj h
    exact aw_zret (pc := 20) hM dX9_isQuarantined_20 (by decide) (Nat.le_of_ble_eq_true rfl) (Nat.le_of_ble_eq_true rfl) hq
def rmX9_partAt : Room := { frames := 0, cells := 0, slots := 0, locals := 0 }
def s_X9_partAt (F : MM) (p0 : Int32) : Option Int32 := some (77 + (5 * p0))
set_option maxRecDepth 20000 in
theorem k_X9_partAt {C : CX} {F : MM} {G : GG} {p0 : Int32} {r : Int32} (h : s_X9_partAt F p0 = some r) : AM C yX9_partAt cX9_partAt 1 (some .int) rmX9_partAt [.int p0] F G (fun o F9 G9 => o = (.inl (some (.int r))) ∧ F9 = F ∧ G9 = G) := by
  refine am_of (L := [some (.int p0)]) (by decide) (Nat.le_of_ble_eq_true rfl) rfl (fun M hM hT => ?_)
  have hM : MOk C RX9 cX9_partAt 1 (some .int) rmX9_partAt M := hM
  obtain ⟨Q, hQ⟩ : ∃ Q : OUT → MM → GG → Prop, Q = (fun o F9 G9 => o = (.inl (some (.int r))) ∧ F9 = F ∧ G9 = G) := ⟨_, rfl⟩
  have hq : Q (.inl (some (.int r))) F G := by rw [hQ]; exact ⟨rfl, rfl, rfl⟩
  rw [← hQ]
  clear hQ
  rw [s_X9_partAt] at h
  refine aw_bipush (pc := 0) (v := 77) hM dX9_partAt_0 (by decide) ?_
  refine aw_iconst (pc := 2) (v := 5) hM dX9_partAt_2 (by decide) ?_
  refine aw_iload_n (pc := 3) (i := 0) (x := p0) hM dX9_partAt_3 rfl rfl ?_
  refine aw_imul (pc := 4) hM dX9_partAt_4 ?_
  refine aw_iadd (pc := 5) hM dX9_partAt_5 ?_
  obtain rfl := Option.some.inj h
  exact aw_iret (pc := 6) hM dX9_partAt_6 (Nat.le_of_ble_eq_true rfl) (Nat.le_of_ble_eq_true rfl) hq
def rmX9_ones : Room := { frames := 0, cells := 0, slots := 0, locals := 0 }
def s_X9_ones_b4 (F : MM) : Nat → Int32 → Int32 → Int32 → Option Int32
  | 0, _, _, _ => none
  | n + 1, x0, x1, x2 => if 30 ≤ x2 then some x1 else (some (x1 + ((x0 >>> (x2 &&& 31)) &&& 1) : Int32)).bind (fun y2 => (some (x2 + 1 : Int32)).bind (fun y4 => s_X9_ones_b4 F n x0 y2 y4))
def s_X9_ones (F : MM) (p0 : Int32) : Option Int32 := s_X9_ones_b4 F fu_ p0 0 0
set_option maxRecDepth 20000 in
theorem k_X9_ones_b4 {C : CX} {M : MX} {G : GG} {Q : OUT → MM → GG → Prop} {F : MM} {r : Int32} (hM : MOk C RX9 cX9_ones 3 (some .int) rmX9_ones M) (hT : MNoT M) (hq : Q (.inl (some (.int r))) F G) : ∀ (n : Nat) (x0 : Int32) (x1 : Int32) (x2 : Int32), s_X9_ones_b4 F n x0 x1 x2 = some r → AW C 3 (ZM C rmX9_ones Q M) M 0 0 4 [some (.int x0), some (.int x1), some (.int x2)] [] F G := by
  intro n
  induction n with
  | zero => intro x0 x1 x2 h; exact nomatch h
  | succ n ih =>
    intro x0 x1 x2 h
    rw [s_X9_ones_b4] at h
    refine aw_iload_n (pc := 4) (i := 2) (x := x2) hM dX9_ones_4 rfl rfl ?_
    refine aw_bipush (pc := 5) (v := 30) hM dX9_ones_5 (by decide) ?_
    refine aw_icmp_ge (pc := 7) (tgt := 24) hM dX9_ones_7 (by decide) (fun c1 => ?_) (fun c1 => ?_)
    · rw [if_pos c1] at h
      refine aw_iload_n (pc := 24) (i := 1) (x := x1) hM dX9_ones_24 rfl rfl ?_
      obtain rfl := Option.some.inj h
      exact aw_iret (pc := 25) hM dX9_ones_25 (Nat.le_of_ble_eq_true rfl) (Nat.le_of_ble_eq_true rfl) hq
    · rw [if_neg c1] at h
      refine aw_iload_n (pc := 10) (i := 1) (x := x1) hM dX9_ones_10 rfl rfl ?_
      refine aw_iload_n (pc := 11) (i := 0) (x := x0) hM dX9_ones_11 rfl rfl ?_
      refine aw_iload_n (pc := 12) (i := 2) (x := x2) hM dX9_ones_12 rfl rfl ?_
      refine aw_ishr (pc := 13) hM dX9_ones_13 ?_
      refine aw_iconst (pc := 14) (v := 1) hM dX9_ones_14 (by decide) ?_
      refine aw_iand (pc := 15) hM dX9_ones_15 ?_
      refine aw_iadd (pc := 16) hM dX9_ones_16 ?_
      obtain ⟨y2, e3, h⟩ := bind_some h
      have e3 := Option.some.inj e3
      refine aw_topi e3 ?_
      refine aw_istore_n (pc := 17) (i := 1) (L' := [some (.int x0), some (.int y2), some (.int x2)]) hM dX9_ones_17 rfl (by decide) rfl ?_
      obtain ⟨y4, e5, h⟩ := bind_some h
      have e5 := Option.some.inj e5
      refine aw_iinc (pc := 18) (v := y4) (L' := [some (.int x0), some (.int y2), some (.int y4)]) hM dX9_ones_18 rfl e5 (by decide) rfl ?_
      refine aw_goto (pc := 21) (tgt := 4) hM dX9_ones_21 (by decide) ?_
      exact ih x0 y2 y4 h
set_option maxRecDepth 20000 in
theorem k_X9_ones {C : CX} {F : MM} {G : GG} {p0 : Int32} {r : Int32} (h : s_X9_ones F p0 = some r) : AM C yX9_ones cX9_ones 3 (some .int) rmX9_ones [.int p0] F G (fun o F9 G9 => o = (.inl (some (.int r))) ∧ F9 = F ∧ G9 = G) := by
  refine am_of (L := [some (.int p0), none, none]) (by decide) (Nat.le_of_ble_eq_true rfl) rfl (fun M hM hT => ?_)
  have hM : MOk C RX9 cX9_ones 3 (some .int) rmX9_ones M := hM
  obtain ⟨Q, hQ⟩ : ∃ Q : OUT → MM → GG → Prop, Q = (fun o F9 G9 => o = (.inl (some (.int r))) ∧ F9 = F ∧ G9 = G) := ⟨_, rfl⟩
  have hq : Q (.inl (some (.int r))) F G := by rw [hQ]; exact ⟨rfl, rfl, rfl⟩
  rw [← hQ]
  clear hQ
  rw [s_X9_ones] at h
  refine aw_iconst (pc := 0) (v := 0) hM dX9_ones_0 (by decide) ?_
  refine aw_istore_n (pc := 1) (i := 1) (L' := [some (.int p0), some (.int 0), none]) hM dX9_ones_1 rfl (by decide) rfl ?_
  refine aw_iconst (pc := 2) (v := 0) hM dX9_ones_2 (by decide) ?_
  refine aw_istore_n (pc := 3) (i := 2) (L' := [some (.int p0), some (.int 0), some (.int 0)]) hM dX9_ones_3 rfl (by decide) rfl ?_
  exact k_X9_ones_b4 hM hT hq fu_ p0 0 0 h
def rmX9_lacking : Room := { frames := 1, cells := 0, slots := 0, locals := 22 }
def s_X9_lacking (F : MM) (q0 : Nat) (p1 : Int32) (p2 : Int32) : Option Int32 := (s_X9_partAt F p1).bind (fun r2 => if inb r2 (alen q0) then ((s_X9_partAt F p1).bind (fun r5 => if inb ((r5 + 1) + p2) (alen q0) then ((s_X9_ones F (F q0 (ix ((r5 + 1) + p2)))).bind (fun r8 => (some ((F q0 (ix r2)) - r8 : Int32)).bind (fun y9 => if 0 ≤ y9 then some y9 else some 0))) else none)) else none)
set_option maxRecDepth 20000 in
theorem k_X9_lacking {C : CX} {F : MM} {G : GG} {q0 : Nat} {p1 : Int32} {p2 : Int32} {r : Int32} (hq0 : isIA q0) (h : s_X9_lacking F q0 p1 p2 = some r) : AM C yX9_lacking cX9_lacking 4 (some .int) rmX9_lacking [.ref q0, .int p1, .int p2] F G (fun o F9 G9 => o = (.inl (some (.int r))) ∧ F9 = F ∧ G9 = G) := by
  refine am_of (L := [some (.ref q0), some (.int p1), some (.int p2), none]) (by decide) (Nat.le_of_ble_eq_true rfl) rfl (fun M hM hT => ?_)
  have hM : MOk C RX9 cX9_lacking 4 (some .int) rmX9_lacking M := hM
  obtain ⟨Q, hQ⟩ : ∃ Q : OUT → MM → GG → Prop, Q = (fun o F9 G9 => o = (.inl (some (.int r))) ∧ F9 = F ∧ G9 = G) := ⟨_, rfl⟩
  have hq : Q (.inl (some (.int r))) F G := by rw [hQ]; exact ⟨rfl, rfl, rfl⟩
  rw [← hQ]
  clear hQ
  rw [s_X9_lacking] at h
  refine aw_aload_n (pc := 0) (i := 0) (x := q0) hM dX9_lacking_0 rfl rfl ?_
  refine aw_iload_n (pc := 1) (i := 1) (x := p1) hM dX9_lacking_1 rfl rfl ?_
  obtain ⟨r2, h1, h⟩ := bind_some h
  refine aw_cs1 (pc := 2) (n := 1) (As := [.int p1]) (st := [.ref q0]) (vo := (some (.int r2))) (c2 := 0) (s2 := 0) hM (k_X9_partAt h1) rfl cw_X9_119 (by decide +kernel) rfl rfl ⟨(Nat.le_of_ble_eq_true rfl), (Nat.le_of_ble_eq_true rfl)⟩ (Nat.le_of_ble_eq_true rfl) ⟨(Nat.le_of_ble_eq_true rfl), (Nat.le_of_ble_eq_true rfl)⟩ dX9_lacking_2 rfl rfl ?_
  obtain ⟨c3, h⟩ := ite_some h
  refine aw_iald (pc := 5) hM hq0 c3 dX9_lacking_5 ?_
  refine aw_aload_n (pc := 6) (i := 0) (x := q0) hM dX9_lacking_6 rfl rfl ?_
  refine aw_iload_n (pc := 7) (i := 1) (x := p1) hM dX9_lacking_7 rfl rfl ?_
  obtain ⟨r5, h4, h⟩ := bind_some h
  refine aw_cs1 (pc := 8) (n := 1) (As := [.int p1]) (st := [.ref q0, .int (F q0 (ix r2))]) (vo := (some (.int r5))) (c2 := 0) (s2 := 0) hM (k_X9_partAt h4) rfl cw_X9_119 (by decide +kernel) rfl rfl ⟨(Nat.le_of_ble_eq_true rfl), (Nat.le_of_ble_eq_true rfl)⟩ (Nat.le_of_ble_eq_true rfl) ⟨(Nat.le_of_ble_eq_true rfl), (Nat.le_of_ble_eq_true rfl)⟩ dX9_lacking_8 rfl rfl ?_
  refine aw_iconst (pc := 11) (v := 1) hM dX9_lacking_11 (by decide) ?_
  refine aw_iadd (pc := 12) hM dX9_lacking_12 ?_
  refine aw_iload_n (pc := 13) (i := 2) (x := p2) hM dX9_lacking_13 rfl rfl ?_
  refine aw_iadd (pc := 14) hM dX9_lacking_14 ?_
  obtain ⟨c6, h⟩ := ite_some h
  refine aw_iald (pc := 15) hM hq0 c6 dX9_lacking_15 ?_
  obtain ⟨r8, h7, h⟩ := bind_some h
  refine aw_cs1 (pc := 16) (n := 1) (As := [.int (F q0 (ix ((r5 + 1) + p2)))]) (st := [.int (F q0 (ix r2))]) (vo := (some (.int r8))) (c2 := 0) (s2 := 0) hM (k_X9_ones h7) rfl cw_X9_167 (by decide +kernel) rfl rfl ⟨(Nat.le_of_ble_eq_true rfl), (Nat.le_of_ble_eq_true rfl)⟩ (Nat.le_of_ble_eq_true rfl) ⟨(Nat.le_of_ble_eq_true rfl), (Nat.le_of_ble_eq_true rfl)⟩ dX9_lacking_16 rfl rfl ?_
  refine aw_isub (pc := 19) hM dX9_lacking_19 ?_
  obtain ⟨y9, e10, h⟩ := bind_some h
  have e10 := Option.some.inj e10
  refine aw_topi e10 ?_
  refine aw_istore_n (pc := 20) (i := 3) (L' := [some (.ref q0), some (.int p1), some (.int p2), some (.int y9)]) hM dX9_lacking_20 rfl (by decide) rfl ?_
  refine aw_iload_n (pc := 21) (i := 3) (x := y9) hM dX9_lacking_21 rfl rfl ?_
  refine aw_if_ge (pc := 22) (tgt := 29) hM dX9_lacking_22 (by decide) (fun c11 => ?_) (fun c11 => ?_)
  · rw [if_pos c11] at h
    refine aw_iload_n (pc := 29) (i := 3) (x := y9) hM dX9_lacking_29 rfl rfl ?_
    obtain rfl := Option.some.inj h
    exact aw_iret (pc := 30) hM dX9_lacking_30 (Nat.le_of_ble_eq_true rfl) (Nat.le_of_ble_eq_true rfl) hq
  · rw [if_neg c11] at h
    refine aw_iconst (pc := 25) (v := 0) hM dX9_lacking_25 (by decide) ?_
    refine aw_goto (pc := 26) (tgt := 30) hM dX9_lacking_26 (by decide) ?_
    obtain rfl := Option.some.inj h
    exact aw_iret (pc := 30) hM dX9_lacking_30 (Nat.le_of_ble_eq_true rfl) (Nat.le_of_ble_eq_true rfl) hq
def rmX9_waitsForRings : Room := { frames := 2, cells := 0, slots := 0, locals := 43 }
def s_X9_waitsForRings_b6 (F : MM) (q0 : Nat) : Nat → Int32 → Int32 → Int32 → Int32 → Option Int32
  | 0, _, _, _, _ => none
  | n + 1, x2, x3, x4, x5 => if (F 164 4) ≤ x5 then if x4 &&& 1 = x4 then (some x4) else none else if x4 = 0 then if inb x5 5 then (if inb x2 5 then (if (F 166 (ix x2)) ≤ (F 166 (ix x5)) then (some (x5 + 1 : Int32)).bind (fun y9 => s_X9_waitsForRings_b6 F q0 n x2 x3 0 y9) else (s_X9_isQuarantined F q0 x5).bind (fun r12 => if r12 = 0 then (s_X9_isDrifted F q0 x5 x3).bind (fun r17 => if r17 = 0 then (some (x5 + 1 : Int32)).bind (fun y19 => s_X9_waitsForRings_b6 F q0 n x2 x3 0 y19) else (some (x5 + 1 : Int32)).bind (fun y21 => s_X9_waitsForRings_b6 F q0 n x2 x3 1 y21)) else (some (x5 + 1 : Int32)).bind (fun y14 => s_X9_waitsForRings_b6 F q0 n x2 x3 0 y14))) else none) else none else (some (x5 + 1 : Int32)).bind (fun y4 => s_X9_waitsForRings_b6 F q0 n x2 x3 1 y4)
def s_X9_waitsForRings (F : MM) (q0 : Nat) (p1 : Int32) (p2 : Int32) : Option Int32 := s_X9_waitsForRings_b6 F q0 fu_ p1 p2 0 0
set_option maxRecDepth 20000 in
theorem k_X9_waitsForRings_b6 {C : CX} {M : MX} {G : GG} {Q : OUT → MM → GG → Prop} {F : MM} {q0 : Nat} {r : Int32}  (hq0 : isIA q0)(hM : MOk C RX9 cX9_waitsForRings 6 (some .boolean) rmX9_waitsForRings M) (hT : MNoT M) (hq : Q (.inl (some (.int r))) F G) : ∀ (n : Nat) (x2 : Int32) (x3 : Int32) (x4 : Int32) (x5 : Int32), s_X9_waitsForRings_b6 F q0 n x2 x3 x4 x5 = some r → AW C 6 (ZM C rmX9_waitsForRings Q M) M 0 0 6 [some (.ref 164), some (.ref q0), some (.int x2), some (.int x3), some (.int x4), some (.int x5)] [] F G := by
  intro n
  induction n with
  | zero => intro x2 x3 x4 x5 h; exact nomatch h
  | succ n ih =>
    intro x2 x3 x4 x5 h
    rw [s_X9_waitsForRings_b6] at h
    refine aw_iload (pc := 6) (i := 5) (x := x5) hM dX9_waitsForRings_6  rfl ?_
    refine aw_aload_n (pc := 8) (i := 0) (x := 164) hM dX9_waitsForRings_8 rfl rfl ?_
    refine aw_getI (pc := 9) hM fd_X9_13 sk_164 rfl dX9_waitsForRings_9 ?_
    refine aw_icmp_ge (pc := 12) (tgt := 69) hM dX9_waitsForRings_12 (by decide) (fun c1 => ?_) (fun c1 => ?_)
    · rw [if_pos c1] at h
      refine aw_iload (pc := 69) (i := 4) (x := x4) hM dX9_waitsForRings_69  rfl ?_
      obtain ⟨c2, h⟩ := ite_some h
      obtain rfl := Option.some.inj h
      exact aw_zret (pc := 71) hM dX9_waitsForRings_71 c2 (Nat.le_of_ble_eq_true rfl) (Nat.le_of_ble_eq_true rfl) hq
    · rw [if_neg c1] at h
      refine aw_iload (pc := 15) (i := 4) (x := x4) hM dX9_waitsForRings_15  rfl ?_
      refine aw_if_ne (pc := 17) (tgt := 56) hM dX9_waitsForRings_17 (by decide) (fun c3 => ?_) (fun c3 => ?_)
      · rw [if_neg c3] at h
        refine aw_iconst (pc := 56) (v := 1) hM dX9_waitsForRings_56 (by decide) ?_
        refine aw_goto (pc := 57) (tgt := 61) hM dX9_waitsForRings_57 (by decide) ?_
        refine aw_istore (pc := 61) (i := 4) (L' := [some (.ref 164), some (.ref q0), some (.int x2), some (.int x3), some (.int 1), some (.int x5)]) hM dX9_waitsForRings_61  (by decide) rfl ?_
        obtain ⟨y4, e5, h⟩ := bind_some h
        have e5 := Option.some.inj e5
        refine aw_iinc (pc := 63) (v := y4) (L' := [some (.ref 164), some (.ref q0), some (.int x2), some (.int x3), some (.int 1), some (.int y4)]) hM dX9_waitsForRings_63 rfl e5 (by decide) rfl ?_
        refine aw_goto (pc := 66) (tgt := 6) hM dX9_waitsForRings_66 (by decide) ?_
        exact ih x2 x3 1 y4 h
      · rw [if_pos c3] at h
        refine aw_aload_n (pc := 20) (i := 0) (x := 164) hM dX9_waitsForRings_20 rfl rfl ?_
        refine aw_getR (pc := 21) (r := 166) hM fd_X9_26 sk_164 rfl dX9_waitsForRings_21 ?_
        refine aw_iload (pc := 24) (i := 5) (x := x5) hM dX9_waitsForRings_24  rfl ?_
        obtain ⟨c6, h⟩ := ite_some h
        refine aw_iald (pc := 26) hM sk_166 c6 dX9_waitsForRings_26 ?_
        refine aw_aload_n (pc := 27) (i := 0) (x := 164) hM dX9_waitsForRings_27 rfl rfl ?_
        refine aw_getR (pc := 28) (r := 166) hM fd_X9_26 sk_164 rfl dX9_waitsForRings_28 ?_
        refine aw_iload_n (pc := 31) (i := 2) (x := x2) hM dX9_waitsForRings_31 rfl rfl ?_
        obtain ⟨c7, h⟩ := ite_some h
        refine aw_iald (pc := 32) hM sk_166 c7 dX9_waitsForRings_32 ?_
        refine aw_icmp_ge (pc := 33) (tgt := 60) hM dX9_waitsForRings_33 (by decide) (fun c8 => ?_) (fun c8 => ?_)
        · rw [if_pos c8] at h
          refine aw_iconst (pc := 60) (v := 0) hM dX9_waitsForRings_60 (by decide) ?_
          refine aw_istore (pc := 61) (i := 4) (L' := [some (.ref 164), some (.ref q0), some (.int x2), some (.int x3), some (.int 0), some (.int x5)]) hM dX9_waitsForRings_61  (by decide) rfl ?_
          obtain ⟨y9, e10, h⟩ := bind_some h
          have e10 := Option.some.inj e10
          refine aw_iinc (pc := 63) (v := y9) (L' := [some (.ref 164), some (.ref q0), some (.int x2), some (.int x3), some (.int 0), some (.int y9)]) hM dX9_waitsForRings_63 rfl e10 (by decide) rfl ?_
          refine aw_goto (pc := 66) (tgt := 6) hM dX9_waitsForRings_66 (by decide) ?_
          exact ih x2 x3 0 y9 h
        · rw [if_neg c8] at h
          refine aw_aload_n (pc := 36) (i := 1) (x := q0) hM dX9_waitsForRings_36 rfl rfl ?_
          refine aw_iload (pc := 37) (i := 5) (x := x5) hM dX9_waitsForRings_37  rfl ?_
          obtain ⟨r12, h11, h⟩ := bind_some h
          refine aw_cs1 (pc := 39) (n := 2) (As := [.ref q0, .int x5]) (st := []) (vo := (some (.int r12))) (c2 := 0) (s2 := 0) hM (k_X9_isQuarantined hq0 h11) rfl cw_X9_170 (by decide +kernel) rfl rfl ⟨(Nat.le_of_ble_eq_true rfl), (Nat.le_of_ble_eq_true rfl)⟩ (Nat.le_of_ble_eq_true rfl) ⟨(Nat.le_of_ble_eq_true rfl), (Nat.le_of_ble_eq_true rfl)⟩ dX9_waitsForRings_39 rfl rfl ?_
          refine aw_if_ne (pc := 42) (tgt := 60) hM dX9_waitsForRings_42 (by decide) (fun c13 => ?_) (fun c13 => ?_)
          · rw [if_neg c13] at h
            refine aw_iconst (pc := 60) (v := 0) hM dX9_waitsForRings_60 (by decide) ?_
            refine aw_istore (pc := 61) (i := 4) (L' := [some (.ref 164), some (.ref q0), some (.int x2), some (.int x3), some (.int 0), some (.int x5)]) hM dX9_waitsForRings_61  (by decide) rfl ?_
            obtain ⟨y14, e15, h⟩ := bind_some h
            have e15 := Option.some.inj e15
            refine aw_iinc (pc := 63) (v := y14) (L' := [some (.ref 164), some (.ref q0), some (.int x2), some (.int x3), some (.int 0), some (.int y14)]) hM dX9_waitsForRings_63 rfl e15 (by decide) rfl ?_
            refine aw_goto (pc := 66) (tgt := 6) hM dX9_waitsForRings_66 (by decide) ?_
            exact ih x2 x3 0 y14 h
          · rw [if_pos c13] at h
            refine aw_aload_n (pc := 45) (i := 0) (x := 164) hM dX9_waitsForRings_45 rfl rfl ?_
            refine aw_aload_n (pc := 46) (i := 1) (x := q0) hM dX9_waitsForRings_46 rfl rfl ?_
            refine aw_iload (pc := 47) (i := 5) (x := x5) hM dX9_waitsForRings_47  rfl ?_
            refine aw_iload_n (pc := 49) (i := 3) (x := x3) hM dX9_waitsForRings_49 rfl rfl ?_
            obtain ⟨r17, h16, h⟩ := bind_some h
            refine aw_cv1 (pc := 50) (n := 3) (As := [.ref q0, .int x5, .int x3]) (st := []) (b := 164) (vo := (some (.int r17))) (c2 := 0) (s2 := 0) hM (k_X9_isDrifted hq0 h16) rfl cw_X9_163 sk_164 rfl rfl (by decide +kernel) rfl rfl ⟨(Nat.le_of_ble_eq_true rfl), (Nat.le_of_ble_eq_true rfl)⟩ (Nat.le_of_ble_eq_true rfl) ⟨(Nat.le_of_ble_eq_true rfl), (Nat.le_of_ble_eq_true rfl)⟩ dX9_waitsForRings_50 rfl rfl ?_
            refine aw_if_eq (pc := 53) (tgt := 60) hM dX9_waitsForRings_53 (by decide) (fun c18 => ?_) (fun c18 => ?_)
            · rw [if_pos c18] at h
              refine aw_iconst (pc := 60) (v := 0) hM dX9_waitsForRings_60 (by decide) ?_
              refine aw_istore (pc := 61) (i := 4) (L' := [some (.ref 164), some (.ref q0), some (.int x2), some (.int x3), some (.int 0), some (.int x5)]) hM dX9_waitsForRings_61  (by decide) rfl ?_
              obtain ⟨y19, e20, h⟩ := bind_some h
              have e20 := Option.some.inj e20
              refine aw_iinc (pc := 63) (v := y19) (L' := [some (.ref 164), some (.ref q0), some (.int x2), some (.int x3), some (.int 0), some (.int y19)]) hM dX9_waitsForRings_63 rfl e20 (by decide) rfl ?_
              refine aw_goto (pc := 66) (tgt := 6) hM dX9_waitsForRings_66 (by decide) ?_
              exact ih x2 x3 0 y19 h
            · rw [if_neg c18] at h
              refine aw_iconst (pc := 56) (v := 1) hM dX9_waitsForRings_56 (by decide) ?_
              refine aw_goto (pc := 57) (tgt := 61) hM dX9_waitsForRings_57 (by decide) ?_
              refine aw_istore (pc := 61) (i := 4) (L' := [some (.ref 164), some (.ref q0), some (.int x2), some (.int x3), some (.int 1), some (.int x5)]) hM dX9_waitsForRings_61  (by decide) rfl ?_
              obtain ⟨y21, e22, h⟩ := bind_some h
              have e22 := Option.some.inj e22
              refine aw_iinc (pc := 63) (v := y21) (L' := [some (.ref 164), some (.ref q0), some (.int x2), some (.int x3), some (.int 1), some (.int y21)]) hM dX9_waitsForRings_63 rfl e22 (by decide) rfl ?_
              refine aw_goto (pc := 66) (tgt := 6) hM dX9_waitsForRings_66 (by decide) ?_
              exact ih x2 x3 1 y21 h
set_option maxRecDepth 20000 in
theorem k_X9_waitsForRings {C : CX} {F : MM} {G : GG} {q0 : Nat} {p1 : Int32} {p2 : Int32} {r : Int32} (hq0 : isIA q0) (h : s_X9_waitsForRings F q0 p1 p2 = some r) : AM C yX9_waitsForRings cX9_waitsForRings 6 (some .boolean) rmX9_waitsForRings [.ref 164, .ref q0, .int p1, .int p2] F G (fun o F9 G9 => o = (.inl (some (.int r))) ∧ F9 = F ∧ G9 = G) := by
  refine am_of (L := [some (.ref 164), some (.ref q0), some (.int p1), some (.int p2), none, none]) (by decide) (Nat.le_of_ble_eq_true rfl) rfl (fun M hM hT => ?_)
  have hM : MOk C RX9 cX9_waitsForRings 6 (some .boolean) rmX9_waitsForRings M := hM
  obtain ⟨Q, hQ⟩ : ∃ Q : OUT → MM → GG → Prop, Q = (fun o F9 G9 => o = (.inl (some (.int r))) ∧ F9 = F ∧ G9 = G) := ⟨_, rfl⟩
  have hq : Q (.inl (some (.int r))) F G := by rw [hQ]; exact ⟨rfl, rfl, rfl⟩
  rw [← hQ]
  clear hQ
  rw [s_X9_waitsForRings] at h
  refine aw_iconst (pc := 0) (v := 0) hM dX9_waitsForRings_0 (by decide) ?_
  refine aw_istore (pc := 1) (i := 4) (L' := [some (.ref 164), some (.ref q0), some (.int p1), some (.int p2), some (.int 0), none]) hM dX9_waitsForRings_1  (by decide) rfl ?_
  refine aw_iconst (pc := 3) (v := 0) hM dX9_waitsForRings_3 (by decide) ?_
  refine aw_istore (pc := 4) (i := 5) (L' := [some (.ref 164), some (.ref q0), some (.int p1), some (.int p2), some (.int 0), some (.int 0)]) hM dX9_waitsForRings_4  (by decide) rfl ?_
  exact k_X9_waitsForRings_b6 hq0 hM hT hq fu_ p1 p2 0 0 h
def rmX9_codeOf : Room := { frames := 1, cells := 0, slots := 0, locals := 20 }
def s_X9_codeOf_b6 (F : MM) (q0 : Nat) : Nat → Int32 → Int32 → Int32 → Int32 → Option Int32
  | 0, _, _, _, _ => none
  | n + 1, x2, x3, x4, x5 => if (F 164 5) ≤ x5 then some x4 else (s_X9_at F x2).bind (fun r3 => if inb ((r3 + x3) + x5) (alen q0) then ((some (x4 ||| ((F q0 (ix ((r3 + x3) + x5))) <<< ((2 * x5) &&& 31)) : Int32)).bind (fun y5 => (some (x5 + 1 : Int32)).bind (fun y7 => s_X9_codeOf_b6 F q0 n x2 x3 y5 y7))) else none)
def s_X9_codeOf (F : MM) (q0 : Nat) (p1 : Int32) (p2 : Int32) : Option Int32 := s_X9_codeOf_b6 F q0 fu_ p1 p2 0 0
set_option maxRecDepth 20000 in
theorem k_X9_codeOf_b6 {C : CX} {M : MX} {G : GG} {Q : OUT → MM → GG → Prop} {F : MM} {q0 : Nat} {r : Int32}  (hq0 : isIA q0)(hM : MOk C RX9 cX9_codeOf 6 (some .int) rmX9_codeOf M) (hT : MNoT M) (hq : Q (.inl (some (.int r))) F G) : ∀ (n : Nat) (x2 : Int32) (x3 : Int32) (x4 : Int32) (x5 : Int32), s_X9_codeOf_b6 F q0 n x2 x3 x4 x5 = some r → AW C 6 (ZM C rmX9_codeOf Q M) M 0 0 6 [some (.ref 164), some (.ref q0), some (.int x2), some (.int x3), some (.int x4), some (.int x5)] [] F G := by
  intro n
  induction n with
  | zero => intro x2 x3 x4 x5 h; exact nomatch h
  | succ n ih =>
    intro x2 x3 x4 x5 h
    rw [s_X9_codeOf_b6] at h
    refine aw_iload (pc := 6) (i := 5) (x := x5) hM dX9_codeOf_6  rfl ?_
    refine aw_aload_n (pc := 8) (i := 0) (x := 164) hM dX9_codeOf_8 rfl rfl ?_
    refine aw_getI (pc := 9) hM fd_X9_17 sk_164 rfl dX9_codeOf_9 ?_
    refine aw_icmp_ge (pc := 12) (tgt := 42) hM dX9_codeOf_12 (by decide) (fun c1 => ?_) (fun c1 => ?_)
    · rw [if_pos c1] at h
      refine aw_iload (pc := 42) (i := 4) (x := x4) hM dX9_codeOf_42  rfl ?_
      obtain rfl := Option.some.inj h
      exact aw_iret (pc := 44) hM dX9_codeOf_44 (Nat.le_of_ble_eq_true rfl) (Nat.le_of_ble_eq_true rfl) hq
    · rw [if_neg c1] at h
      refine aw_iload (pc := 15) (i := 4) (x := x4) hM dX9_codeOf_15  rfl ?_
      refine aw_aload_n (pc := 17) (i := 1) (x := q0) hM dX9_codeOf_17 rfl rfl ?_
      refine aw_iload_n (pc := 18) (i := 2) (x := x2) hM dX9_codeOf_18 rfl rfl ?_
      obtain ⟨r3, h2, h⟩ := bind_some h
      refine aw_cs1 (pc := 19) (n := 1) (As := [.int x2]) (st := [.ref q0, .int x4]) (vo := (some (.int r3))) (c2 := 0) (s2 := 0) hM (k_X9_at h2) rfl cw_X9_126 (by decide +kernel) rfl rfl ⟨(Nat.le_of_ble_eq_true rfl), (Nat.le_of_ble_eq_true rfl)⟩ (Nat.le_of_ble_eq_true rfl) ⟨(Nat.le_of_ble_eq_true rfl), (Nat.le_of_ble_eq_true rfl)⟩ dX9_codeOf_19 rfl rfl ?_
      refine aw_iload_n (pc := 22) (i := 3) (x := x3) hM dX9_codeOf_22 rfl rfl ?_
      refine aw_iadd (pc := 23) hM dX9_codeOf_23 ?_
      refine aw_iload (pc := 24) (i := 5) (x := x5) hM dX9_codeOf_24  rfl ?_
      refine aw_iadd (pc := 26) hM dX9_codeOf_26 ?_
      obtain ⟨c4, h⟩ := ite_some h
      refine aw_iald (pc := 27) hM hq0 c4 dX9_codeOf_27 ?_
      refine aw_iconst (pc := 28) (v := 2) hM dX9_codeOf_28 (by decide) ?_
      refine aw_iload (pc := 29) (i := 5) (x := x5) hM dX9_codeOf_29  rfl ?_
      refine aw_imul (pc := 31) hM dX9_codeOf_31 ?_
      refine aw_ishl (pc := 32) hM dX9_codeOf_32 ?_
      refine aw_ior (pc := 33) hM dX9_codeOf_33 ?_
      obtain ⟨y5, e6, h⟩ := bind_some h
      have e6 := Option.some.inj e6
      refine aw_topi e6 ?_
      refine aw_istore (pc := 34) (i := 4) (L' := [some (.ref 164), some (.ref q0), some (.int x2), some (.int x3), some (.int y5), some (.int x5)]) hM dX9_codeOf_34  (by decide) rfl ?_
      obtain ⟨y7, e8, h⟩ := bind_some h
      have e8 := Option.some.inj e8
      refine aw_iinc (pc := 36) (v := y7) (L' := [some (.ref 164), some (.ref q0), some (.int x2), some (.int x3), some (.int y5), some (.int y7)]) hM dX9_codeOf_36 rfl e8 (by decide) rfl ?_
      refine aw_goto (pc := 39) (tgt := 6) hM dX9_codeOf_39 (by decide) ?_
      exact ih x2 x3 y5 y7 h
set_option maxRecDepth 20000 in
theorem k_X9_codeOf {C : CX} {F : MM} {G : GG} {q0 : Nat} {p1 : Int32} {p2 : Int32} {r : Int32} (hq0 : isIA q0) (h : s_X9_codeOf F q0 p1 p2 = some r) : AM C yX9_codeOf cX9_codeOf 6 (some .int) rmX9_codeOf [.ref 164, .ref q0, .int p1, .int p2] F G (fun o F9 G9 => o = (.inl (some (.int r))) ∧ F9 = F ∧ G9 = G) := by
  refine am_of (L := [some (.ref 164), some (.ref q0), some (.int p1), some (.int p2), none, none]) (by decide) (Nat.le_of_ble_eq_true rfl) rfl (fun M hM hT => ?_)
  have hM : MOk C RX9 cX9_codeOf 6 (some .int) rmX9_codeOf M := hM
  obtain ⟨Q, hQ⟩ : ∃ Q : OUT → MM → GG → Prop, Q = (fun o F9 G9 => o = (.inl (some (.int r))) ∧ F9 = F ∧ G9 = G) := ⟨_, rfl⟩
  have hq : Q (.inl (some (.int r))) F G := by rw [hQ]; exact ⟨rfl, rfl, rfl⟩
  rw [← hQ]
  clear hQ
  rw [s_X9_codeOf] at h
  refine aw_iconst (pc := 0) (v := 0) hM dX9_codeOf_0 (by decide) ?_
  refine aw_istore (pc := 1) (i := 4) (L' := [some (.ref 164), some (.ref q0), some (.int p1), some (.int p2), some (.int 0), none]) hM dX9_codeOf_1  (by decide) rfl ?_
  refine aw_iconst (pc := 3) (v := 0) hM dX9_codeOf_3 (by decide) ?_
  refine aw_istore (pc := 4) (i := 5) (L' := [some (.ref 164), some (.ref q0), some (.int p1), some (.int p2), some (.int 0), some (.int 0)]) hM dX9_codeOf_4  (by decide) rfl ?_
  exact k_X9_codeOf_b6 hq0 hM hT hq fu_ p1 p2 0 0 h
def rmX9_with : Room := { frames := 0, cells := 0, slots := 0, locals := 0 }
def s_X9_with (F : MM) (p0 : Int32) (p1 : Int32) (p2 : Int32) : Option Int32 := some ((p0 &&& (((3 : Int32) <<< ((2 * p1) &&& 31)) ^^^ (-1))) ||| (p2 <<< ((2 * p1) &&& 31)))
set_option maxRecDepth 20000 in
theorem k_X9_with {C : CX} {F : MM} {G : GG} {p0 : Int32} {p1 : Int32} {p2 : Int32} {r : Int32} (h : s_X9_with F p0 p1 p2 = some r) : AM C yX9_with cX9_with 3 (some .int) rmX9_with [.int p0, .int p1, .int p2] F G (fun o F9 G9 => o = (.inl (some (.int r))) ∧ F9 = F ∧ G9 = G) := by
  refine am_of (L := [some (.int p0), some (.int p1), some (.int p2)]) (by decide) (Nat.le_of_ble_eq_true rfl) rfl (fun M hM hT => ?_)
  have hM : MOk C RX9 cX9_with 3 (some .int) rmX9_with M := hM
  obtain ⟨Q, hQ⟩ : ∃ Q : OUT → MM → GG → Prop, Q = (fun o F9 G9 => o = (.inl (some (.int r))) ∧ F9 = F ∧ G9 = G) := ⟨_, rfl⟩
  have hq : Q (.inl (some (.int r))) F G := by rw [hQ]; exact ⟨rfl, rfl, rfl⟩
  rw [← hQ]
  clear hQ
  rw [s_X9_with] at h
  refine aw_iload_n (pc := 0) (i := 0) (x := p0) hM dX9_with_0 rfl rfl ?_
  refine aw_iconst (pc := 1) (v := 3) hM dX9_with_1 (by decide) ?_
  refine aw_iconst (pc := 2) (v := 2) hM dX9_with_2 (by decide) ?_
  refine aw_iload_n (pc := 3) (i := 1) (x := p1) hM dX9_with_3 rfl rfl ?_
  refine aw_imul (pc := 4) hM dX9_with_4 ?_
  refine aw_ishl (pc := 5) hM dX9_with_5 ?_
  refine aw_iconst (pc := 6) (v := (-1)) hM dX9_with_6 (by decide) ?_
  refine aw_ixor (pc := 7) hM dX9_with_7 ?_
  refine aw_iand (pc := 8) hM dX9_with_8 ?_
  refine aw_iload_n (pc := 9) (i := 2) (x := p2) hM dX9_with_9 rfl rfl ?_
  refine aw_iconst (pc := 10) (v := 2) hM dX9_with_10 (by decide) ?_
  refine aw_iload_n (pc := 11) (i := 1) (x := p1) hM dX9_with_11 rfl rfl ?_
  refine aw_imul (pc := 12) hM dX9_with_12 ?_
  refine aw_ishl (pc := 13) hM dX9_with_13 ?_
  refine aw_ior (pc := 14) hM dX9_with_14 ?_
  obtain rfl := Option.some.inj h
  exact aw_iret (pc := 15) hM dX9_with_15 (Nat.le_of_ble_eq_true rfl) (Nat.le_of_ble_eq_true rfl) hq
def rmX9_versionOf : Room := { frames := 0, cells := 0, slots := 0, locals := 0 }
def s_X9_versionOf (F : MM) (p0 : Int32) (p1 : Int32) : Option Int32 := some ((p0 >>> ((2 * p1) &&& 31)) &&& 3)
set_option maxRecDepth 20000 in
theorem k_X9_versionOf {C : CX} {F : MM} {G : GG} {p0 : Int32} {p1 : Int32} {r : Int32} (h : s_X9_versionOf F p0 p1 = some r) : AM C yX9_versionOf cX9_versionOf 2 (some .int) rmX9_versionOf [.int p0, .int p1] F G (fun o F9 G9 => o = (.inl (some (.int r))) ∧ F9 = F ∧ G9 = G) := by
  refine am_of (L := [some (.int p0), some (.int p1)]) (by decide) (Nat.le_of_ble_eq_true rfl) rfl (fun M hM hT => ?_)
  have hM : MOk C RX9 cX9_versionOf 2 (some .int) rmX9_versionOf M := hM
  obtain ⟨Q, hQ⟩ : ∃ Q : OUT → MM → GG → Prop, Q = (fun o F9 G9 => o = (.inl (some (.int r))) ∧ F9 = F ∧ G9 = G) := ⟨_, rfl⟩
  have hq : Q (.inl (some (.int r))) F G := by rw [hQ]; exact ⟨rfl, rfl, rfl⟩
  rw [← hQ]
  clear hQ
  rw [s_X9_versionOf] at h
  refine aw_iload_n (pc := 0) (i := 0) (x := p0) hM dX9_versionOf_0 rfl rfl ?_
  refine aw_iconst (pc := 1) (v := 2) hM dX9_versionOf_1 (by decide) ?_
  refine aw_iload_n (pc := 2) (i := 1) (x := p1) hM dX9_versionOf_2 rfl rfl ?_
  refine aw_imul (pc := 3) hM dX9_versionOf_3 ?_
  refine aw_ishr (pc := 4) hM dX9_versionOf_4 ?_
  refine aw_iconst (pc := 5) (v := 3) hM dX9_versionOf_5 (by decide) ?_
  refine aw_iand (pc := 6) hM dX9_versionOf_6 ?_
  obtain rfl := Option.some.inj h
  exact aw_iret (pc := 7) hM dX9_versionOf_7 (Nat.le_of_ble_eq_true rfl) (Nat.le_of_ble_eq_true rfl) hq
def rmX9_broken : Room := { frames := 1, cells := 0, slots := 0, locals := 21 }
def s_X9_broken_b105 (F : MM) (k4 : Int32 → Int32 → Int32 → Option Int32) (x1 : Int32) (x3 : Int32) (t0 : Int32) (t1 : Int32) (t2 : Int32) : Option Int32 := if t1 = t0 then (some (t2 ||| ((1 : Int32) <<< (x3 &&& 31)) : Int32)).bind (fun y26 => (some (x3 + 1 : Int32)).bind (fun y28 => k4 x1 y26 y28)) else (some (t2 ||| 0 : Int32)).bind (fun y22 => (some (x3 + 1 : Int32)).bind (fun y24 => k4 x1 y22 y24))
def s_X9_broken_b79 (F : MM) (k4 : Int32 → Int32 → Int32 → Option Int32) (x1 : Int32) (x2 : Int32) (x3 : Int32) (x4 : Int32) (x5 : Int32) (t0 : Int32) : Option Int32 := if x5 = 0 then (some (x2 ||| 0 : Int32)).bind (fun y15 => (some (x3 + 1 : Int32)).bind (fun y17 => k4 x1 y15 y17)) else if inb x4 50 then (if (F 167 (ix x4)) = 1 then s_X9_broken_b105 F k4 x1 x3 1 t0 x2 else s_X9_broken_b105 F k4 x1 x3 0 t0 x2) else none
def s_X9_broken_b47 (F : MM) (k4 : Int32 → Int32 → Int32 → Option Int32) (x1 : Int32) (x2 : Int32) (x3 : Int32) (x4 : Int32) (t0 : Int32) : Option Int32 := if inb (x4 + 3) 50 then ((s_X9_versionOf F x1 (F 167 (ix (x4 + 3)))).bind (fun r11 => if inb (x4 + 4) 50 then (if r11 < (F 167 (ix (x4 + 4))) then s_X9_broken_b79 F k4 x1 x2 x3 x4 t0 0 else s_X9_broken_b79 F k4 x1 x2 x3 x4 t0 1) else none)) else none
def s_X9_broken_b4 (F : MM) : Nat → Int32 → Int32 → Int32 → Option Int32
  | 0, _, _, _ => none
  | n + 1, x1, x2, x3 => if (F 164 6) ≤ x3 then some x2 else (some (5 * x3 : Int32)).bind (fun y2 => if inb (y2 + 1) 50 then ((s_X9_versionOf F x1 (F 167 (ix (y2 + 1)))).bind (fun r6 => if inb (y2 + 2) 50 then (if r6 < (F 167 (ix (y2 + 2))) then s_X9_broken_b47 F (s_X9_broken_b4 F n) x1 x2 x3 y2 0 else s_X9_broken_b47 F (s_X9_broken_b4 F n) x1 x2 x3 y2 1) else none)) else none)
def s_X9_broken (F : MM) (p0 : Int32) : Option Int32 := s_X9_broken_b4 F fu_ p0 0 0
set_option maxRecDepth 20000 in
theorem k_X9_broken_b105 {C : CX} {M : MX} {G : GG} {Q : OUT → MM → GG → Prop} {F : MM} {k4 : Int32 → Int32 → Int32 → Option Int32} {r : Int32} (hM : MOk C RX9 cX9_broken 7 (some .int) rmX9_broken M) (hT : MNoT M) (hk4 : ∀ (w0 : Int32) (w1 : Int32) (w2 : Int32), k4 w0 w1 w2 = some r → AW C 7 (ZM C rmX9_broken Q M) M 0 0 4 [some (.ref 164), some (.int w0), some (.int w1), some (.int w2), none, none, none] [] F G) (hq : Q (.inl (some (.int r))) F G) (x1 : Int32) (x3 : Int32) (t0 : Int32) (t1 : Int32) (t2 : Int32) (h : s_X9_broken_b105 F k4 x1 x3 t0 t1 t2 = some r) : AW C 7 (ZM C rmX9_broken Q M) M 0 0 105 [some (.ref 164), some (.int x1), none, some (.int x3), none, none, none] [.int t0, .int t1, .int t2] F G := by
  rw [s_X9_broken_b105] at h
  refine aw_icmp_ne (pc := 105) (tgt := 114) hM dX9_broken_105 (by decide) (fun c21 => ?_) (fun c21 => ?_)
  · rw [if_neg c21] at h
    refine aw_iconst (pc := 114) (v := 0) hM dX9_broken_114 (by decide) ?_
    refine aw_ior (pc := 115) hM dX9_broken_115 ?_
    obtain ⟨y22, e23, h⟩ := bind_some h
    have e23 := Option.some.inj e23
    refine aw_topi e23 ?_
    refine aw_istore_n (pc := 116) (i := 2) (L' := [some (.ref 164), some (.int x1), some (.int y22), some (.int x3), none, none, none]) hM dX9_broken_116 rfl (by decide) rfl ?_
    obtain ⟨y24, e25, h⟩ := bind_some h
    have e25 := Option.some.inj e25
    refine aw_iinc (pc := 117) (v := y24) (L' := [some (.ref 164), some (.int x1), some (.int y22), some (.int y24), none, none, none]) hM dX9_broken_117 rfl e25 (by decide) rfl ?_
    refine aw_goto (pc := 120) (tgt := 4) hM dX9_broken_120 (by decide) ?_
    exact hk4 x1 y22 y24 h
  · rw [if_pos c21] at h
    refine aw_iconst (pc := 108) (v := 1) hM dX9_broken_108 (by decide) ?_
    refine aw_iload_n (pc := 109) (i := 3) (x := x3) hM dX9_broken_109 rfl rfl ?_
    refine aw_ishl (pc := 110) hM dX9_broken_110 ?_
    refine aw_goto (pc := 111) (tgt := 115) hM dX9_broken_111 (by decide) ?_
    refine aw_ior (pc := 115) hM dX9_broken_115 ?_
    obtain ⟨y26, e27, h⟩ := bind_some h
    have e27 := Option.some.inj e27
    refine aw_topi e27 ?_
    refine aw_istore_n (pc := 116) (i := 2) (L' := [some (.ref 164), some (.int x1), some (.int y26), some (.int x3), none, none, none]) hM dX9_broken_116 rfl (by decide) rfl ?_
    obtain ⟨y28, e29, h⟩ := bind_some h
    have e29 := Option.some.inj e29
    refine aw_iinc (pc := 117) (v := y28) (L' := [some (.ref 164), some (.int x1), some (.int y26), some (.int y28), none, none, none]) hM dX9_broken_117 rfl e29 (by decide) rfl ?_
    refine aw_goto (pc := 120) (tgt := 4) hM dX9_broken_120 (by decide) ?_
    exact hk4 x1 y26 y28 h
set_option maxRecDepth 20000 in
theorem k_X9_broken_b79 {C : CX} {M : MX} {G : GG} {Q : OUT → MM → GG → Prop} {F : MM} {k4 : Int32 → Int32 → Int32 → Option Int32} {r : Int32} (hM : MOk C RX9 cX9_broken 7 (some .int) rmX9_broken M) (hT : MNoT M) (hk4 : ∀ (w0 : Int32) (w1 : Int32) (w2 : Int32), k4 w0 w1 w2 = some r → AW C 7 (ZM C rmX9_broken Q M) M 0 0 4 [some (.ref 164), some (.int w0), some (.int w1), some (.int w2), none, none, none] [] F G) (hq : Q (.inl (some (.int r))) F G) (x1 : Int32) (x2 : Int32) (x3 : Int32) (x4 : Int32) (x5 : Int32) (t0 : Int32) (h : s_X9_broken_b79 F k4 x1 x2 x3 x4 x5 t0 = some r) : AW C 7 (ZM C rmX9_broken Q M) M 0 0 79 [some (.ref 164), some (.int x1), some (.int x2), some (.int x3), some (.int x4), some (.int x5), none] [.int t0] F G := by
  rw [s_X9_broken_b79] at h
  refine aw_istore (pc := 79) (i := 6) (L' := [some (.ref 164), some (.int x1), some (.int x2), some (.int x3), some (.int x4), some (.int x5), some (.int t0)]) hM dX9_broken_79  (by decide) rfl ?_
  refine aw_iload_n (pc := 81) (i := 2) (x := x2) hM dX9_broken_81 rfl rfl ?_
  refine aw_iload (pc := 82) (i := 5) (x := x5) hM dX9_broken_82  rfl ?_
  refine aw_if_eq (pc := 84) (tgt := 114) hM dX9_broken_84 (by decide) (fun c14 => ?_) (fun c14 => ?_)
  · rw [if_pos c14] at h
    refine aw_iconst (pc := 114) (v := 0) hM dX9_broken_114 (by decide) ?_
    refine aw_ior (pc := 115) hM dX9_broken_115 ?_
    obtain ⟨y15, e16, h⟩ := bind_some h
    have e16 := Option.some.inj e16
    refine aw_topi e16 ?_
    refine aw_istore_n (pc := 116) (i := 2) (L' := [some (.ref 164), some (.int x1), some (.int y15), some (.int x3), some (.int x4), some (.int x5), some (.int t0)]) hM dX9_broken_116 rfl (by decide) rfl ?_
    obtain ⟨y17, e18, h⟩ := bind_some h
    have e18 := Option.some.inj e18
    refine aw_iinc (pc := 117) (v := y17) (L' := [some (.ref 164), some (.int x1), some (.int y15), some (.int y17), some (.int x4), some (.int x5), some (.int t0)]) hM dX9_broken_117 rfl e18 (by decide) rfl ?_
    refine aw_goto (pc := 120) (tgt := 4) hM dX9_broken_120 (by decide) ?_
    refine aw_weak (L' := [some (.ref 164), some (.int x1), some (.int y15), some (.int y17), none, none, none]) ?_ (lw_of [true, true, true, true, false, false, false] rfl)
    exact hk4 x1 y15 y17 h
  · rw [if_neg c14] at h
    refine aw_iload (pc := 87) (i := 6) (x := t0) hM dX9_broken_87  rfl ?_
    refine aw_aload_n (pc := 89) (i := 0) (x := 164) hM dX9_broken_89 rfl rfl ?_
    refine aw_getR (pc := 90) (r := 167) hM fd_X9_29 sk_164 rfl dX9_broken_90 ?_
    refine aw_iload (pc := 93) (i := 4) (x := x4) hM dX9_broken_93  rfl ?_
    obtain ⟨c19, h⟩ := ite_some h
    refine aw_iald (pc := 95) hM sk_167 c19 dX9_broken_95 ?_
    refine aw_iconst (pc := 96) (v := 1) hM dX9_broken_96 (by decide) ?_
    refine aw_icmp_ne (pc := 97) (tgt := 104) hM dX9_broken_97 (by decide) (fun c20 => ?_) (fun c20 => ?_)
    · rw [if_neg c20] at h
      refine aw_iconst (pc := 104) (v := 0) hM dX9_broken_104 (by decide) ?_
      refine aw_weak (L' := [some (.ref 164), some (.int x1), none, some (.int x3), none, none, none]) ?_ (lw_of [true, true, false, true, false, false, false] rfl)
      exact k_X9_broken_b105 hM hT hk4 hq x1 x3 0 t0 x2 h
    · rw [if_pos c20] at h
      refine aw_iconst (pc := 100) (v := 1) hM dX9_broken_100 (by decide) ?_
      refine aw_goto (pc := 101) (tgt := 105) hM dX9_broken_101 (by decide) ?_
      refine aw_weak (L' := [some (.ref 164), some (.int x1), none, some (.int x3), none, none, none]) ?_ (lw_of [true, true, false, true, false, false, false] rfl)
      exact k_X9_broken_b105 hM hT hk4 hq x1 x3 1 t0 x2 h
set_option maxRecDepth 20000 in
theorem k_X9_broken_b47 {C : CX} {M : MX} {G : GG} {Q : OUT → MM → GG → Prop} {F : MM} {k4 : Int32 → Int32 → Int32 → Option Int32} {r : Int32} (hM : MOk C RX9 cX9_broken 7 (some .int) rmX9_broken M) (hT : MNoT M) (hk4 : ∀ (w0 : Int32) (w1 : Int32) (w2 : Int32), k4 w0 w1 w2 = some r → AW C 7 (ZM C rmX9_broken Q M) M 0 0 4 [some (.ref 164), some (.int w0), some (.int w1), some (.int w2), none, none, none] [] F G) (hq : Q (.inl (some (.int r))) F G) (x1 : Int32) (x2 : Int32) (x3 : Int32) (x4 : Int32) (t0 : Int32) (h : s_X9_broken_b47 F k4 x1 x2 x3 x4 t0 = some r) : AW C 7 (ZM C rmX9_broken Q M) M 0 0 47 [some (.ref 164), some (.int x1), some (.int x2), some (.int x3), some (.int x4), none, none] [.int t0] F G := by
  rw [s_X9_broken_b47] at h
  refine aw_istore (pc := 47) (i := 5) (L' := [some (.ref 164), some (.int x1), some (.int x2), some (.int x3), some (.int x4), some (.int t0), none]) hM dX9_broken_47  (by decide) rfl ?_
  refine aw_iload_n (pc := 49) (i := 1) (x := x1) hM dX9_broken_49 rfl rfl ?_
  refine aw_aload_n (pc := 50) (i := 0) (x := 164) hM dX9_broken_50 rfl rfl ?_
  refine aw_getR (pc := 51) (r := 167) hM fd_X9_29 sk_164 rfl dX9_broken_51 ?_
  refine aw_iload (pc := 54) (i := 4) (x := x4) hM dX9_broken_54  rfl ?_
  refine aw_iconst (pc := 56) (v := 3) hM dX9_broken_56 (by decide) ?_
  refine aw_iadd (pc := 57) hM dX9_broken_57 ?_
  obtain ⟨c9, h⟩ := ite_some h
  refine aw_iald (pc := 58) hM sk_167 c9 dX9_broken_58 ?_
  obtain ⟨r11, h10, h⟩ := bind_some h
  refine aw_cs1 (pc := 59) (n := 2) (As := [.int x1, .int (F 167 (ix (x4 + 3)))]) (st := []) (vo := (some (.int r11))) (c2 := 0) (s2 := 0) hM (k_X9_versionOf h10) rfl cw_X9_149 (by decide +kernel) rfl rfl ⟨(Nat.le_of_ble_eq_true rfl), (Nat.le_of_ble_eq_true rfl)⟩ (Nat.le_of_ble_eq_true rfl) ⟨(Nat.le_of_ble_eq_true rfl), (Nat.le_of_ble_eq_true rfl)⟩ dX9_broken_59 rfl rfl ?_
  refine aw_aload_n (pc := 62) (i := 0) (x := 164) hM dX9_broken_62 rfl rfl ?_
  refine aw_getR (pc := 63) (r := 167) hM fd_X9_29 sk_164 rfl dX9_broken_63 ?_
  refine aw_iload (pc := 66) (i := 4) (x := x4) hM dX9_broken_66  rfl ?_
  refine aw_iconst (pc := 68) (v := 4) hM dX9_broken_68 (by decide) ?_
  refine aw_iadd (pc := 69) hM dX9_broken_69 ?_
  obtain ⟨c12, h⟩ := ite_some h
  refine aw_iald (pc := 70) hM sk_167 c12 dX9_broken_70 ?_
  refine aw_icmp_lt (pc := 71) (tgt := 78) hM dX9_broken_71 (by decide) (fun c13 => ?_) (fun c13 => ?_)
  · rw [if_pos c13] at h
    refine aw_iconst (pc := 78) (v := 0) hM dX9_broken_78 (by decide) ?_
    exact k_X9_broken_b79 hM hT hk4 hq x1 x2 x3 x4 t0 0 h
  · rw [if_neg c13] at h
    refine aw_iconst (pc := 74) (v := 1) hM dX9_broken_74 (by decide) ?_
    refine aw_goto (pc := 75) (tgt := 79) hM dX9_broken_75 (by decide) ?_
    exact k_X9_broken_b79 hM hT hk4 hq x1 x2 x3 x4 t0 1 h
set_option maxRecDepth 20000 in
theorem k_X9_broken_b4 {C : CX} {M : MX} {G : GG} {Q : OUT → MM → GG → Prop} {F : MM} {r : Int32} (hM : MOk C RX9 cX9_broken 7 (some .int) rmX9_broken M) (hT : MNoT M) (hq : Q (.inl (some (.int r))) F G) : ∀ (n : Nat) (x1 : Int32) (x2 : Int32) (x3 : Int32), s_X9_broken_b4 F n x1 x2 x3 = some r → AW C 7 (ZM C rmX9_broken Q M) M 0 0 4 [some (.ref 164), some (.int x1), some (.int x2), some (.int x3), none, none, none] [] F G := by
  intro n
  induction n with
  | zero => intro x1 x2 x3 h; exact nomatch h
  | succ n ih =>
    intro x1 x2 x3 h
    rw [s_X9_broken_b4] at h
    refine aw_iload_n (pc := 4) (i := 3) (x := x3) hM dX9_broken_4 rfl rfl ?_
    refine aw_aload_n (pc := 5) (i := 0) (x := 164) hM dX9_broken_5 rfl rfl ?_
    refine aw_getI (pc := 6) hM fd_X9_146 sk_164 rfl dX9_broken_6 ?_
    refine aw_icmp_ge (pc := 9) (tgt := 123) hM dX9_broken_9 (by decide) (fun c1 => ?_) (fun c1 => ?_)
    · rw [if_pos c1] at h
      refine aw_iload_n (pc := 123) (i := 2) (x := x2) hM dX9_broken_123 rfl rfl ?_
      obtain rfl := Option.some.inj h
      exact aw_iret (pc := 124) hM dX9_broken_124 (Nat.le_of_ble_eq_true rfl) (Nat.le_of_ble_eq_true rfl) hq
    · rw [if_neg c1] at h
      refine aw_iconst (pc := 12) (v := 5) hM dX9_broken_12 (by decide) ?_
      refine aw_iload_n (pc := 13) (i := 3) (x := x3) hM dX9_broken_13 rfl rfl ?_
      refine aw_imul (pc := 14) hM dX9_broken_14 ?_
      obtain ⟨y2, e3, h⟩ := bind_some h
      have e3 := Option.some.inj e3
      refine aw_topi e3 ?_
      refine aw_istore (pc := 15) (i := 4) (L' := [some (.ref 164), some (.int x1), some (.int x2), some (.int x3), some (.int y2), none, none]) hM dX9_broken_15  (by decide) rfl ?_
      refine aw_iload_n (pc := 17) (i := 1) (x := x1) hM dX9_broken_17 rfl rfl ?_
      refine aw_aload_n (pc := 18) (i := 0) (x := 164) hM dX9_broken_18 rfl rfl ?_
      refine aw_getR (pc := 19) (r := 167) hM fd_X9_29 sk_164 rfl dX9_broken_19 ?_
      refine aw_iload (pc := 22) (i := 4) (x := y2) hM dX9_broken_22  rfl ?_
      refine aw_iconst (pc := 24) (v := 1) hM dX9_broken_24 (by decide) ?_
      refine aw_iadd (pc := 25) hM dX9_broken_25 ?_
      obtain ⟨c4, h⟩ := ite_some h
      refine aw_iald (pc := 26) hM sk_167 c4 dX9_broken_26 ?_
      obtain ⟨r6, h5, h⟩ := bind_some h
      refine aw_cs1 (pc := 27) (n := 2) (As := [.int x1, .int (F 167 (ix (y2 + 1)))]) (st := []) (vo := (some (.int r6))) (c2 := 0) (s2 := 0) hM (k_X9_versionOf h5) rfl cw_X9_149 (by decide +kernel) rfl rfl ⟨(Nat.le_of_ble_eq_true rfl), (Nat.le_of_ble_eq_true rfl)⟩ (Nat.le_of_ble_eq_true rfl) ⟨(Nat.le_of_ble_eq_true rfl), (Nat.le_of_ble_eq_true rfl)⟩ dX9_broken_27 rfl rfl ?_
      refine aw_aload_n (pc := 30) (i := 0) (x := 164) hM dX9_broken_30 rfl rfl ?_
      refine aw_getR (pc := 31) (r := 167) hM fd_X9_29 sk_164 rfl dX9_broken_31 ?_
      refine aw_iload (pc := 34) (i := 4) (x := y2) hM dX9_broken_34  rfl ?_
      refine aw_iconst (pc := 36) (v := 2) hM dX9_broken_36 (by decide) ?_
      refine aw_iadd (pc := 37) hM dX9_broken_37 ?_
      obtain ⟨c7, h⟩ := ite_some h
      refine aw_iald (pc := 38) hM sk_167 c7 dX9_broken_38 ?_
      refine aw_icmp_lt (pc := 39) (tgt := 46) hM dX9_broken_39 (by decide) (fun c8 => ?_) (fun c8 => ?_)
      · rw [if_pos c8] at h
        refine aw_iconst (pc := 46) (v := 0) hM dX9_broken_46 (by decide) ?_
        exact k_X9_broken_b47 hM hT (fun w0 w1 w2 h9 => ih w0 w1 w2 h9) hq x1 x2 x3 y2 0 h
      · rw [if_neg c8] at h
        refine aw_iconst (pc := 42) (v := 1) hM dX9_broken_42 (by decide) ?_
        refine aw_goto (pc := 43) (tgt := 47) hM dX9_broken_43 (by decide) ?_
        exact k_X9_broken_b47 hM hT (fun w0 w1 w2 h9 => ih w0 w1 w2 h9) hq x1 x2 x3 y2 1 h
set_option maxRecDepth 20000 in
theorem k_X9_broken {C : CX} {F : MM} {G : GG} {p0 : Int32} {r : Int32} (h : s_X9_broken F p0 = some r) : AM C yX9_broken cX9_broken 7 (some .int) rmX9_broken [.ref 164, .int p0] F G (fun o F9 G9 => o = (.inl (some (.int r))) ∧ F9 = F ∧ G9 = G) := by
  refine am_of (L := [some (.ref 164), some (.int p0), none, none, none, none, none]) (by decide) (Nat.le_of_ble_eq_true rfl) rfl (fun M hM hT => ?_)
  have hM : MOk C RX9 cX9_broken 7 (some .int) rmX9_broken M := hM
  obtain ⟨Q, hQ⟩ : ∃ Q : OUT → MM → GG → Prop, Q = (fun o F9 G9 => o = (.inl (some (.int r))) ∧ F9 = F ∧ G9 = G) := ⟨_, rfl⟩
  have hq : Q (.inl (some (.int r))) F G := by rw [hQ]; exact ⟨rfl, rfl, rfl⟩
  rw [← hQ]
  clear hQ
  rw [s_X9_broken] at h
  refine aw_iconst (pc := 0) (v := 0) hM dX9_broken_0 (by decide) ?_
  refine aw_istore_n (pc := 1) (i := 2) (L' := [some (.ref 164), some (.int p0), some (.int 0), none, none, none, none]) hM dX9_broken_1 rfl (by decide) rfl ?_
  refine aw_iconst (pc := 2) (v := 0) hM dX9_broken_2 (by decide) ?_
  refine aw_istore_n (pc := 3) (i := 3) (L' := [some (.ref 164), some (.int p0), some (.int 0), some (.int 0), none, none, none]) hM dX9_broken_3 rfl (by decide) rfl ?_
  exact k_X9_broken_b4 hM hT hq fu_ p0 0 0 h
def rmX9_newlyBroken : Room := { frames := 2, cells := 0, slots := 0, locals := 47 }
def s_X9_newlyBroken (F : MM) (q0 : Nat) (p1 : Int32) (p2 : Int32) (p3 : Int32) : Option Int32 := (s_X9_codeOf F q0 p1 0).bind (fun r2 => (s_X9_with F r2 p2 p3).bind (fun r4 => (s_X9_broken F r4).bind (fun r6 => (s_X9_broken F r2).bind (fun r8 => some (r6 &&& (r8 ^^^ (-1)))))))
set_option maxRecDepth 20000 in
theorem k_X9_newlyBroken {C : CX} {F : MM} {G : GG} {q0 : Nat} {p1 : Int32} {p2 : Int32} {p3 : Int32} {r : Int32} (hq0 : isIA q0) (h : s_X9_newlyBroken F q0 p1 p2 p3 = some r) : AM C yX9_newlyBroken cX9_newlyBroken 6 (some .int) rmX9_newlyBroken [.ref 164, .ref q0, .int p1, .int p2, .int p3] F G (fun o F9 G9 => o = (.inl (some (.int r))) ∧ F9 = F ∧ G9 = G) := by
  refine am_of (L := [some (.ref 164), some (.ref q0), some (.int p1), some (.int p2), some (.int p3), none]) (by decide) (Nat.le_of_ble_eq_true rfl) rfl (fun M hM hT => ?_)
  have hM : MOk C RX9 cX9_newlyBroken 6 (some .int) rmX9_newlyBroken M := hM
  obtain ⟨Q, hQ⟩ : ∃ Q : OUT → MM → GG → Prop, Q = (fun o F9 G9 => o = (.inl (some (.int r))) ∧ F9 = F ∧ G9 = G) := ⟨_, rfl⟩
  have hq : Q (.inl (some (.int r))) F G := by rw [hQ]; exact ⟨rfl, rfl, rfl⟩
  rw [← hQ]
  clear hQ
  rw [s_X9_newlyBroken] at h
  refine aw_aload_n (pc := 0) (i := 0) (x := 164) hM dX9_newlyBroken_0 rfl rfl ?_
  refine aw_aload_n (pc := 1) (i := 1) (x := q0) hM dX9_newlyBroken_1 rfl rfl ?_
  refine aw_iload_n (pc := 2) (i := 2) (x := p1) hM dX9_newlyBroken_2 rfl rfl ?_
  refine aw_iconst (pc := 3) (v := 0) hM dX9_newlyBroken_3 (by decide) ?_
  obtain ⟨r2, h1, h⟩ := bind_some h
  refine aw_cv1 (pc := 4) (n := 3) (As := [.ref q0, .int p1, .int 0]) (st := []) (b := 164) (vo := (some (.int r2))) (c2 := 0) (s2 := 0) hM (k_X9_codeOf hq0 h1) rfl cw_X9_153 sk_164 rfl rfl (by decide +kernel) rfl rfl ⟨(Nat.le_of_ble_eq_true rfl), (Nat.le_of_ble_eq_true rfl)⟩ (Nat.le_of_ble_eq_true rfl) ⟨(Nat.le_of_ble_eq_true rfl), (Nat.le_of_ble_eq_true rfl)⟩ dX9_newlyBroken_4 rfl rfl ?_
  refine aw_istore (pc := 7) (i := 5) (L' := [some (.ref 164), some (.ref q0), some (.int p1), some (.int p2), some (.int p3), some (.int r2)]) hM dX9_newlyBroken_7  (by decide) rfl ?_
  refine aw_aload_n (pc := 9) (i := 0) (x := 164) hM dX9_newlyBroken_9 rfl rfl ?_
  refine aw_iload (pc := 10) (i := 5) (x := r2) hM dX9_newlyBroken_10  rfl ?_
  refine aw_iload_n (pc := 12) (i := 3) (x := p2) hM dX9_newlyBroken_12 rfl rfl ?_
  refine aw_iload (pc := 13) (i := 4) (x := p3) hM dX9_newlyBroken_13  rfl ?_
  obtain ⟨r4, h3, h⟩ := bind_some h
  refine aw_cs1 (pc := 15) (n := 3) (As := [.int r2, .int p2, .int p3]) (st := [.ref 164]) (vo := (some (.int r4))) (c2 := 0) (s2 := 0) hM (k_X9_with h3) rfl cw_X9_157 (by decide +kernel) rfl rfl ⟨(Nat.le_of_ble_eq_true rfl), (Nat.le_of_ble_eq_true rfl)⟩ (Nat.le_of_ble_eq_true rfl) ⟨(Nat.le_of_ble_eq_true rfl), (Nat.le_of_ble_eq_true rfl)⟩ dX9_newlyBroken_15 rfl rfl ?_
  obtain ⟨r6, h5, h⟩ := bind_some h
  refine aw_cv1 (pc := 18) (n := 1) (As := [.int r4]) (st := []) (b := 164) (vo := (some (.int r6))) (c2 := 0) (s2 := 0) hM (k_X9_broken h5) rfl cw_X9_160 sk_164 rfl rfl (by decide +kernel) rfl rfl ⟨(Nat.le_of_ble_eq_true rfl), (Nat.le_of_ble_eq_true rfl)⟩ (Nat.le_of_ble_eq_true rfl) ⟨(Nat.le_of_ble_eq_true rfl), (Nat.le_of_ble_eq_true rfl)⟩ dX9_newlyBroken_18 rfl rfl ?_
  refine aw_aload_n (pc := 21) (i := 0) (x := 164) hM dX9_newlyBroken_21 rfl rfl ?_
  refine aw_iload (pc := 22) (i := 5) (x := r2) hM dX9_newlyBroken_22  rfl ?_
  obtain ⟨r8, h7, h⟩ := bind_some h
  refine aw_cv1 (pc := 24) (n := 1) (As := [.int r2]) (st := [.int r6]) (b := 164) (vo := (some (.int r8))) (c2 := 0) (s2 := 0) hM (k_X9_broken h7) rfl cw_X9_160 sk_164 rfl rfl (by decide +kernel) rfl rfl ⟨(Nat.le_of_ble_eq_true rfl), (Nat.le_of_ble_eq_true rfl)⟩ (Nat.le_of_ble_eq_true rfl) ⟨(Nat.le_of_ble_eq_true rfl), (Nat.le_of_ble_eq_true rfl)⟩ dX9_newlyBroken_24 rfl rfl ?_
  refine aw_iconst (pc := 27) (v := (-1)) hM dX9_newlyBroken_27 (by decide) ?_
  refine aw_ixor (pc := 28) hM dX9_newlyBroken_28 ?_
  refine aw_iand (pc := 29) hM dX9_newlyBroken_29 ?_
  obtain rfl := Option.some.inj h
  exact aw_iret (pc := 30) hM dX9_newlyBroken_30 (Nat.le_of_ble_eq_true rfl) (Nat.le_of_ble_eq_true rfl) hq
def rmX9_stateOf : Room := { frames := 3, cells := 0, slots := 0, locals := 72 }
def s_X9_stateOf (F : MM) (q0 : Nat) (p1 : Int32) (p2 : Int32) : Option Int32 := (s_X9_at F p1).bind (fun r2 => if inb ((r2 + 6) + p2) (alen q0) then ((some (F q0 (ix ((r2 + 6) + p2)) : Int32)).bind (fun y4 => (s_X9_isDrifted F q0 p1 p2).bind (fun r7 => if r7 = 0 then some 1 else (s_X9_isQuarantined F q0 p1).bind (fun r10 => if r10 = 0 then (s_X9_lacking F q0 p2 y4).bind (fun r13 => if r13 ≤ 0 then (s_X9_waitsForRings F q0 p1 p2).bind (fun r16 => if r16 = 0 then (s_X9_newlyBroken F q0 p1 p2 y4).bind (fun r19 => if r19 = 0 then some 0 else some 5) else some 4) else some 3) else some 2)))) else none)
set_option maxRecDepth 20000 in
theorem k_X9_stateOf {C : CX} {F : MM} {G : GG} {q0 : Nat} {p1 : Int32} {p2 : Int32} {r : Int32} (hq0 : isIA q0) (h : s_X9_stateOf F q0 p1 p2 = some r) : AM C yX9_stateOf cX9_stateOf 5 (some .int) rmX9_stateOf [.ref 164, .ref q0, .int p1, .int p2] F G (fun o F9 G9 => o = (.inl (some (.int r))) ∧ F9 = F ∧ G9 = G) := by
  refine am_of (L := [some (.ref 164), some (.ref q0), some (.int p1), some (.int p2), none]) (by decide) (Nat.le_of_ble_eq_true rfl) rfl (fun M hM hT => ?_)
  have hM : MOk C RX9 cX9_stateOf 5 (some .int) rmX9_stateOf M := hM
  obtain ⟨Q, hQ⟩ : ∃ Q : OUT → MM → GG → Prop, Q = (fun o F9 G9 => o = (.inl (some (.int r))) ∧ F9 = F ∧ G9 = G) := ⟨_, rfl⟩
  have hq : Q (.inl (some (.int r))) F G := by rw [hQ]; exact ⟨rfl, rfl, rfl⟩
  rw [← hQ]
  clear hQ
  rw [s_X9_stateOf] at h
  refine aw_aload_n (pc := 0) (i := 1) (x := q0) hM dX9_stateOf_0 rfl rfl ?_
  refine aw_iload_n (pc := 1) (i := 2) (x := p1) hM dX9_stateOf_1 rfl rfl ?_
  obtain ⟨r2, h1, h⟩ := bind_some h
  refine aw_cs1 (pc := 2) (n := 1) (As := [.int p1]) (st := [.ref q0]) (vo := (some (.int r2))) (c2 := 0) (s2 := 0) hM (k_X9_at h1) rfl cw_X9_126 (by decide +kernel) rfl rfl ⟨(Nat.le_of_ble_eq_true rfl), (Nat.le_of_ble_eq_true rfl)⟩ (Nat.le_of_ble_eq_true rfl) ⟨(Nat.le_of_ble_eq_true rfl), (Nat.le_of_ble_eq_true rfl)⟩ dX9_stateOf_2 rfl rfl ?_
  refine aw_bipush (pc := 5) (v := 6) hM dX9_stateOf_5 (by decide) ?_
  refine aw_iadd (pc := 7) hM dX9_stateOf_7 ?_
  refine aw_iload_n (pc := 8) (i := 3) (x := p2) hM dX9_stateOf_8 rfl rfl ?_
  refine aw_iadd (pc := 9) hM dX9_stateOf_9 ?_
  obtain ⟨c3, h⟩ := ite_some h
  refine aw_iald (pc := 10) hM hq0 c3 dX9_stateOf_10 ?_
  obtain ⟨y4, e5, h⟩ := bind_some h
  have e5 := Option.some.inj e5
  refine aw_topi e5 ?_
  refine aw_istore (pc := 11) (i := 4) (L' := [some (.ref 164), some (.ref q0), some (.int p1), some (.int p2), some (.int y4)]) hM dX9_stateOf_11  (by decide) rfl ?_
  refine aw_aload_n (pc := 13) (i := 0) (x := 164) hM dX9_stateOf_13 rfl rfl ?_
  refine aw_aload_n (pc := 14) (i := 1) (x := q0) hM dX9_stateOf_14 rfl rfl ?_
  refine aw_iload_n (pc := 15) (i := 2) (x := p1) hM dX9_stateOf_15 rfl rfl ?_
  refine aw_iload_n (pc := 16) (i := 3) (x := p2) hM dX9_stateOf_16 rfl rfl ?_
  obtain ⟨r7, h6, h⟩ := bind_some h
  refine aw_cv1 (pc := 17) (n := 3) (As := [.ref q0, .int p1, .int p2]) (st := []) (b := 164) (vo := (some (.int r7))) (c2 := 0) (s2 := 0) hM (k_X9_isDrifted hq0 h6) rfl cw_X9_163 sk_164 rfl rfl (by decide +kernel) rfl rfl ⟨(Nat.le_of_ble_eq_true rfl), (Nat.le_of_ble_eq_true rfl)⟩ (Nat.le_of_ble_eq_true rfl) ⟨(Nat.le_of_ble_eq_true rfl), (Nat.le_of_ble_eq_true rfl)⟩ dX9_stateOf_17 rfl rfl ?_
  refine aw_if_ne (pc := 20) (tgt := 25) hM dX9_stateOf_20 (by decide) (fun c8 => ?_) (fun c8 => ?_)
  · rw [if_neg c8] at h
    refine aw_aload_n (pc := 25) (i := 1) (x := q0) hM dX9_stateOf_25 rfl rfl ?_
    refine aw_iload_n (pc := 26) (i := 2) (x := p1) hM dX9_stateOf_26 rfl rfl ?_
    obtain ⟨r10, h9, h⟩ := bind_some h
    refine aw_cs1 (pc := 27) (n := 2) (As := [.ref q0, .int p1]) (st := []) (vo := (some (.int r10))) (c2 := 0) (s2 := 0) hM (k_X9_isQuarantined hq0 h9) rfl cw_X9_170 (by decide +kernel) rfl rfl ⟨(Nat.le_of_ble_eq_true rfl), (Nat.le_of_ble_eq_true rfl)⟩ (Nat.le_of_ble_eq_true rfl) ⟨(Nat.le_of_ble_eq_true rfl), (Nat.le_of_ble_eq_true rfl)⟩ dX9_stateOf_27 rfl rfl ?_
    refine aw_if_eq (pc := 30) (tgt := 35) hM dX9_stateOf_30 (by decide) (fun c11 => ?_) (fun c11 => ?_)
    · rw [if_pos c11] at h
      refine aw_aload_n (pc := 35) (i := 1) (x := q0) hM dX9_stateOf_35 rfl rfl ?_
      refine aw_iload_n (pc := 36) (i := 3) (x := p2) hM dX9_stateOf_36 rfl rfl ?_
      refine aw_iload (pc := 37) (i := 4) (x := y4) hM dX9_stateOf_37  rfl ?_
      obtain ⟨r13, h12, h⟩ := bind_some h
      refine aw_cs1 (pc := 39) (n := 3) (As := [.ref q0, .int p2, .int y4]) (st := []) (vo := (some (.int r13))) (c2 := 0) (s2 := 0) hM (k_X9_lacking hq0 h12) rfl cw_X9_174 (by decide +kernel) rfl rfl ⟨(Nat.le_of_ble_eq_true rfl), (Nat.le_of_ble_eq_true rfl)⟩ (Nat.le_of_ble_eq_true rfl) ⟨(Nat.le_of_ble_eq_true rfl), (Nat.le_of_ble_eq_true rfl)⟩ dX9_stateOf_39 rfl rfl ?_
      refine aw_if_le (pc := 42) (tgt := 47) hM dX9_stateOf_42 (by decide) (fun c14 => ?_) (fun c14 => ?_)
      · rw [if_pos c14] at h
        refine aw_aload_n (pc := 47) (i := 0) (x := 164) hM dX9_stateOf_47 rfl rfl ?_
        refine aw_aload_n (pc := 48) (i := 1) (x := q0) hM dX9_stateOf_48 rfl rfl ?_
        refine aw_iload_n (pc := 49) (i := 2) (x := p1) hM dX9_stateOf_49 rfl rfl ?_
        refine aw_iload_n (pc := 50) (i := 3) (x := p2) hM dX9_stateOf_50 rfl rfl ?_
        obtain ⟨r16, h15, h⟩ := bind_some h
        refine aw_cv1 (pc := 51) (n := 3) (As := [.ref q0, .int p1, .int p2]) (st := []) (b := 164) (vo := (some (.int r16))) (c2 := 0) (s2 := 0) hM (k_X9_waitsForRings hq0 h15) rfl cw_X9_177 sk_164 rfl rfl (by decide +kernel) rfl rfl ⟨(Nat.le_of_ble_eq_true rfl), (Nat.le_of_ble_eq_true rfl)⟩ (Nat.le_of_ble_eq_true rfl) ⟨(Nat.le_of_ble_eq_true rfl), (Nat.le_of_ble_eq_true rfl)⟩ dX9_stateOf_51 rfl rfl ?_
        refine aw_if_eq (pc := 54) (tgt := 59) hM dX9_stateOf_54 (by decide) (fun c17 => ?_) (fun c17 => ?_)
        · rw [if_pos c17] at h
          refine aw_aload_n (pc := 59) (i := 0) (x := 164) hM dX9_stateOf_59 rfl rfl ?_
          refine aw_aload_n (pc := 60) (i := 1) (x := q0) hM dX9_stateOf_60 rfl rfl ?_
          refine aw_iload_n (pc := 61) (i := 2) (x := p1) hM dX9_stateOf_61 rfl rfl ?_
          refine aw_iload_n (pc := 62) (i := 3) (x := p2) hM dX9_stateOf_62 rfl rfl ?_
          refine aw_iload (pc := 63) (i := 4) (x := y4) hM dX9_stateOf_63  rfl ?_
          obtain ⟨r19, h18, h⟩ := bind_some h
          refine aw_cv1 (pc := 65) (n := 4) (As := [.ref q0, .int p1, .int p2, .int y4]) (st := []) (b := 164) (vo := (some (.int r19))) (c2 := 0) (s2 := 0) hM (k_X9_newlyBroken hq0 h18) rfl cw_X9_180 sk_164 rfl rfl (by decide +kernel) rfl rfl ⟨(Nat.le_of_ble_eq_true rfl), (Nat.le_of_ble_eq_true rfl)⟩ (Nat.le_of_ble_eq_true rfl) ⟨(Nat.le_of_ble_eq_true rfl), (Nat.le_of_ble_eq_true rfl)⟩ dX9_stateOf_65 rfl rfl ?_
          refine aw_if_eq (pc := 68) (tgt := 75) hM dX9_stateOf_68 (by decide) (fun c20 => ?_) (fun c20 => ?_)
          · rw [if_pos c20] at h
            refine aw_iconst (pc := 75) (v := 0) hM dX9_stateOf_75 (by decide) ?_
            obtain rfl := Option.some.inj h
            exact aw_iret (pc := 76) hM dX9_stateOf_76 (Nat.le_of_ble_eq_true rfl) (Nat.le_of_ble_eq_true rfl) hq
          · rw [if_neg c20] at h
            refine aw_iconst (pc := 71) (v := 5) hM dX9_stateOf_71 (by decide) ?_
            refine aw_goto (pc := 72) (tgt := 76) hM dX9_stateOf_72 (by decide) ?_
            obtain rfl := Option.some.inj h
            exact aw_iret (pc := 76) hM dX9_stateOf_76 (Nat.le_of_ble_eq_true rfl) (Nat.le_of_ble_eq_true rfl) hq
        · rw [if_neg c17] at h
          refine aw_iconst (pc := 57) (v := 4) hM dX9_stateOf_57 (by decide) ?_
          obtain rfl := Option.some.inj h
          exact aw_iret (pc := 58) hM dX9_stateOf_58 (Nat.le_of_ble_eq_true rfl) (Nat.le_of_ble_eq_true rfl) hq
      · rw [if_neg c14] at h
        refine aw_iconst (pc := 45) (v := 3) hM dX9_stateOf_45 (by decide) ?_
        obtain rfl := Option.some.inj h
        exact aw_iret (pc := 46) hM dX9_stateOf_46 (Nat.le_of_ble_eq_true rfl) (Nat.le_of_ble_eq_true rfl) hq
    · rw [if_neg c11] at h
      refine aw_iconst (pc := 33) (v := 2) hM dX9_stateOf_33 (by decide) ?_
      obtain rfl := Option.some.inj h
      exact aw_iret (pc := 34) hM dX9_stateOf_34 (Nat.le_of_ble_eq_true rfl) (Nat.le_of_ble_eq_true rfl) hq
  · rw [if_pos c8] at h
    refine aw_iconst (pc := 23) (v := 1) hM dX9_stateOf_23 (by decide) ?_
    obtain rfl := Option.some.inj h
    exact aw_iret (pc := 24) hM dX9_stateOf_24 (Nat.le_of_ble_eq_true rfl) (Nat.le_of_ble_eq_true rfl) hq
def rmX9_nextOf : Room := { frames := 4, cells := 0, slots := 0, locals := 96 }
def s_X9_nextOf_b2 (F : MM) (q0 : Nat) : Nat → Int32 → Int32 → Option Int32
  | 0, _, _ => none
  | n + 1, x2, x3 => if (F 164 5) ≤ x3 then some (-9) else (s_X9_stateOf F q0 x2 x3).bind (fun r3 => if r3 = 0 then some x3 else (some (x3 + 1 : Int32)).bind (fun y5 => s_X9_nextOf_b2 F q0 n x2 y5))
def s_X9_nextOf (F : MM) (q0 : Nat) (p1 : Int32) : Option Int32 := s_X9_nextOf_b2 F q0 fu_ p1 0
set_option maxRecDepth 20000 in
theorem k_X9_nextOf_b2 {C : CX} {M : MX} {G : GG} {Q : OUT → MM → GG → Prop} {F : MM} {q0 : Nat} {r : Int32}  (hq0 : isIA q0)(hM : MOk C RX9 cX9_nextOf 4 (some .int) rmX9_nextOf M) (hT : MNoT M) (hq : Q (.inl (some (.int r))) F G) : ∀ (n : Nat) (x2 : Int32) (x3 : Int32), s_X9_nextOf_b2 F q0 n x2 x3 = some r → AW C 4 (ZM C rmX9_nextOf Q M) M 0 0 2 [some (.ref 164), some (.ref q0), some (.int x2), some (.int x3)] [] F G := by
  intro n
  induction n with
  | zero => intro x2 x3 h; exact nomatch h
  | succ n ih =>
    intro x2 x3 h
    rw [s_X9_nextOf_b2] at h
    refine aw_iload_n (pc := 2) (i := 3) (x := x3) hM dX9_nextOf_2 rfl rfl ?_
    refine aw_aload_n (pc := 3) (i := 0) (x := 164) hM dX9_nextOf_3 rfl rfl ?_
    refine aw_getI (pc := 4) hM fd_X9_17 sk_164 rfl dX9_nextOf_4 ?_
    refine aw_icmp_ge (pc := 7) (tgt := 28) hM dX9_nextOf_7 (by decide) (fun c1 => ?_) (fun c1 => ?_)
    · rw [if_pos c1] at h
      refine aw_bipush (pc := 28) (v := (-9)) hM dX9_nextOf_28 (by decide) ?_
      obtain rfl := Option.some.inj h
      exact aw_iret (pc := 30) hM dX9_nextOf_30 (Nat.le_of_ble_eq_true rfl) (Nat.le_of_ble_eq_true rfl) hq
    · rw [if_neg c1] at h
      refine aw_aload_n (pc := 10) (i := 0) (x := 164) hM dX9_nextOf_10 rfl rfl ?_
      refine aw_aload_n (pc := 11) (i := 1) (x := q0) hM dX9_nextOf_11 rfl rfl ?_
      refine aw_iload_n (pc := 12) (i := 2) (x := x2) hM dX9_nextOf_12 rfl rfl ?_
      refine aw_iload_n (pc := 13) (i := 3) (x := x3) hM dX9_nextOf_13 rfl rfl ?_
      obtain ⟨r3, h2, h⟩ := bind_some h
      refine aw_cv1 (pc := 14) (n := 3) (As := [.ref q0, .int x2, .int x3]) (st := []) (b := 164) (vo := (some (.int r3))) (c2 := 0) (s2 := 0) hM (k_X9_stateOf hq0 h2) rfl cw_X9_184 sk_164 rfl rfl (by decide +kernel) rfl rfl ⟨(Nat.le_of_ble_eq_true rfl), (Nat.le_of_ble_eq_true rfl)⟩ (Nat.le_of_ble_eq_true rfl) ⟨(Nat.le_of_ble_eq_true rfl), (Nat.le_of_ble_eq_true rfl)⟩ dX9_nextOf_14 rfl rfl ?_
      refine aw_if_ne (pc := 17) (tgt := 22) hM dX9_nextOf_17 (by decide) (fun c4 => ?_) (fun c4 => ?_)
      · rw [if_neg c4] at h
        obtain ⟨y5, e6, h⟩ := bind_some h
        have e6 := Option.some.inj e6
        refine aw_iinc (pc := 22) (v := y5) (L' := [some (.ref 164), some (.ref q0), some (.int x2), some (.int y5)]) hM dX9_nextOf_22 rfl e6 (by decide) rfl ?_
        refine aw_goto (pc := 25) (tgt := 2) hM dX9_nextOf_25 (by decide) ?_
        exact ih x2 y5 h
      · rw [if_pos c4] at h
        refine aw_iload_n (pc := 20) (i := 3) (x := x3) hM dX9_nextOf_20 rfl rfl ?_
        obtain rfl := Option.some.inj h
        exact aw_iret (pc := 21) hM dX9_nextOf_21 (Nat.le_of_ble_eq_true rfl) (Nat.le_of_ble_eq_true rfl) hq
set_option maxRecDepth 20000 in
theorem k_X9_nextOf {C : CX} {F : MM} {G : GG} {q0 : Nat} {p1 : Int32} {r : Int32} (hq0 : isIA q0) (h : s_X9_nextOf F q0 p1 = some r) : AM C yX9_nextOf cX9_nextOf 4 (some .int) rmX9_nextOf [.ref 164, .ref q0, .int p1] F G (fun o F9 G9 => o = (.inl (some (.int r))) ∧ F9 = F ∧ G9 = G) := by
  refine am_of (L := [some (.ref 164), some (.ref q0), some (.int p1), none]) (by decide) (Nat.le_of_ble_eq_true rfl) rfl (fun M hM hT => ?_)
  have hM : MOk C RX9 cX9_nextOf 4 (some .int) rmX9_nextOf M := hM
  obtain ⟨Q, hQ⟩ : ∃ Q : OUT → MM → GG → Prop, Q = (fun o F9 G9 => o = (.inl (some (.int r))) ∧ F9 = F ∧ G9 = G) := ⟨_, rfl⟩
  have hq : Q (.inl (some (.int r))) F G := by rw [hQ]; exact ⟨rfl, rfl, rfl⟩
  rw [← hQ]
  clear hQ
  rw [s_X9_nextOf] at h
  refine aw_iconst (pc := 0) (v := 0) hM dX9_nextOf_0 (by decide) ?_
  refine aw_istore_n (pc := 1) (i := 3) (L' := [some (.ref 164), some (.ref q0), some (.int p1), some (.int 0)]) hM dX9_nextOf_1 rfl (by decide) rfl ?_
  exact k_X9_nextOf_b2 hq0 hM hT hq fu_ p1 0 h
def rmX9_tickOn : Room := { frames := 5, cells := 0, slots := 0, locals := 119 }
def s_X9_tickOn_b108 (q0 : Nat) (k9 : MM → Int32 → Option MM) (F : MM) (x2 : Int32) (x3 : Int32) (x4 : Int32) : Option MM := if x3 = (-9) then (some (x2 + 1 : Int32)).bind (fun y35 => k9 F y35) else if inb ((x4 + 6) + x3) (alen q0) then (if inb (x4 + x3) (alen q0) then ((some (mup F q0 (ix (x4 + x3)) (F q0 (ix ((x4 + 6) + x3))))).bind (fun F39 => if inb (x4 + 13) (alen q0) then ((some (mup F39 q0 (ix (x4 + 13)) 0)).bind (fun F42 => if inb 1 (alen q0) then (if inb 1 (alen q0) then ((some (mup F42 q0 (ix 1) ((F42 q0 (ix 1)) + 1))).bind (fun F46 => (some (x2 + 1 : Int32)).bind (fun y48 => k9 F46 y48))) else none) else none)) else none)) else none) else none
def s_X9_tickOn_b9 (q0 : Nat) : Nat → MM → Int32 → Option MM
  | 0, _, _ => none
  | n + 1, F, x2 => if (F 164 4) ≤ x2 then some F else (s_X9_nextOf F q0 x2).bind (fun r7 => (s_X9_at F x2).bind (fun r9 => if r7 = (-9) then s_X9_tickOn_b108 q0 (s_X9_tickOn_b9 q0 n) F x2 r7 r9 else if inb (r9 + 12) (alen q0) then (if (F q0 (ix (r9 + 12))) ≤ 0 then s_X9_tickOn_b108 q0 (s_X9_tickOn_b9 q0 n) F x2 r7 r9 else if inb (r9 + 12) (alen q0) then (if inb (r9 + 12) (alen q0) then ((some (mup F q0 (ix (r9 + 12)) ((F q0 (ix (r9 + 12))) - 1))).bind (fun F15 => if inb (r9 + 13) (alen q0) then (if inb (r9 + 13) (alen q0) then ((some (mup F15 q0 (ix (r9 + 13)) ((F15 q0 (ix (r9 + 13))) + 1))).bind (fun F19 => if inb (r9 + 13) (alen q0) then (if (F19 q0 (ix (r9 + 13))) = (F19 164 7) then if inb (r9 + 13) (alen q0) then ((some (mup F19 q0 (ix (r9 + 13)) 0)).bind (fun F26 => if inb 0 (alen q0) then (if inb (r9 + 14) (alen q0) then ((some (mup F26 q0 (ix (r9 + 14)) ((F26 q0 (ix 0)) + (F26 164 8)))).bind (fun F30 => (some (x2 + 1 : Int32)).bind (fun y32 => s_X9_tickOn_b9 q0 n F30 y32))) else none) else none)) else none else (some (x2 + 1 : Int32)).bind (fun y23 => s_X9_tickOn_b9 q0 n F19 y23)) else none)) else none) else none)) else none) else none) else none))
def s_X9_tickOn (F : MM) (q0 : Nat) : Option MM := if inb 0 (alen q0) then (if inb 0 (alen q0) then ((some (mup F q0 (ix 0) ((F q0 (ix 0)) + 1))).bind (fun F3 => s_X9_tickOn_b9 q0 fu_ F3 0)) else none) else none
set_option maxRecDepth 20000 in
theorem k_X9_tickOn_b108 {C : CX} {M : MX} {G : GG} {Q : OUT → MM → GG → Prop} {q0 : Nat} {k9 : MM → Int32 → Option MM} {r : MM}  (hq0 : isIA q0)(hM : MOk C RX9 cX9_tickOn 5 none rmX9_tickOn M) (hT : MNoT M) (hk9 : ∀ (wF : MM) (w0 : Int32), k9 wF w0 = some r → AW C 5 (ZM C rmX9_tickOn Q M) M 0 0 9 [some (.ref 164), some (.ref q0), some (.int w0), none, none] [] wF G) (hq : Q (.inl none) r G) (F : MM) (x2 : Int32) (x3 : Int32) (x4 : Int32) (h : s_X9_tickOn_b108 q0 k9 F x2 x3 x4 = some r) : AW C 5 (ZM C rmX9_tickOn Q M) M 0 0 108 [some (.ref 164), some (.ref q0), some (.int x2), some (.int x3), some (.int x4)] [] F G := by
  rw [s_X9_tickOn_b108] at h
  refine aw_iload_n (pc := 108) (i := 3) (x := x3) hM dX9_tickOn_108 rfl rfl ?_
  refine aw_bipush (pc := 109) (v := (-9)) hM dX9_tickOn_109 (by decide) ?_
  refine aw_icmp_eq (pc := 111) (tgt := 144) hM dX9_tickOn_111 (by decide) (fun c34 => ?_) (fun c34 => ?_)
  · rw [if_pos c34] at h
    obtain ⟨y35, e36, h⟩ := bind_some h
    have e36 := Option.some.inj e36
    refine aw_iinc (pc := 144) (v := y35) (L' := [some (.ref 164), some (.ref q0), some (.int y35), some (.int x3), some (.int x4)]) hM dX9_tickOn_144 rfl e36 (by decide) rfl ?_
    refine aw_goto (pc := 147) (tgt := 9) hM dX9_tickOn_147 (by decide) ?_
    refine aw_weak (L' := [some (.ref 164), some (.ref q0), some (.int y35), none, none]) ?_ (lw_of [true, true, true, false, false] rfl)
    exact hk9 F y35 h
  · rw [if_neg c34] at h
    refine aw_aload_n (pc := 114) (i := 1) (x := q0) hM dX9_tickOn_114 rfl rfl ?_
    refine aw_iload (pc := 115) (i := 4) (x := x4) hM dX9_tickOn_115  rfl ?_
    refine aw_iload_n (pc := 117) (i := 3) (x := x3) hM dX9_tickOn_117 rfl rfl ?_
    refine aw_iadd (pc := 118) hM dX9_tickOn_118 ?_
    refine aw_aload_n (pc := 119) (i := 1) (x := q0) hM dX9_tickOn_119 rfl rfl ?_
    refine aw_iload (pc := 120) (i := 4) (x := x4) hM dX9_tickOn_120  rfl ?_
    refine aw_bipush (pc := 122) (v := 6) hM dX9_tickOn_122 (by decide) ?_
    refine aw_iadd (pc := 124) hM dX9_tickOn_124 ?_
    refine aw_iload_n (pc := 125) (i := 3) (x := x3) hM dX9_tickOn_125 rfl rfl ?_
    refine aw_iadd (pc := 126) hM dX9_tickOn_126 ?_
    obtain ⟨c37, h⟩ := ite_some h
    refine aw_iald (pc := 127) hM hq0 c37 dX9_tickOn_127 ?_
    obtain ⟨c38, h⟩ := ite_some h
    obtain ⟨F39, e40, h⟩ := bind_some h
    have e40 := Option.some.inj e40
    refine aw_iast (pc := 128) hM hq0 c38 dX9_tickOn_128 ?_
    refine aw_mem e40 ?_
    refine aw_aload_n (pc := 129) (i := 1) (x := q0) hM dX9_tickOn_129 rfl rfl ?_
    refine aw_iload (pc := 130) (i := 4) (x := x4) hM dX9_tickOn_130  rfl ?_
    refine aw_bipush (pc := 132) (v := 13) hM dX9_tickOn_132 (by decide) ?_
    refine aw_iadd (pc := 134) hM dX9_tickOn_134 ?_
    refine aw_iconst (pc := 135) (v := 0) hM dX9_tickOn_135 (by decide) ?_
    obtain ⟨c41, h⟩ := ite_some h
    obtain ⟨F42, e43, h⟩ := bind_some h
    have e43 := Option.some.inj e43
    refine aw_iast (pc := 136) hM hq0 c41 dX9_tickOn_136 ?_
    refine aw_mem e43 ?_
    refine aw_aload_n (pc := 137) (i := 1) (x := q0) hM dX9_tickOn_137 rfl rfl ?_
    refine aw_iconst (pc := 138) (v := 1) hM dX9_tickOn_138 (by decide) ?_
    refine aw_dup2 (pc := 139) hM dX9_tickOn_139 rfl rfl ?_
    obtain ⟨c44, h⟩ := ite_some h
    refine aw_iald (pc := 140) hM hq0 c44 dX9_tickOn_140 ?_
    refine aw_iconst (pc := 141) (v := 1) hM dX9_tickOn_141 (by decide) ?_
    refine aw_iadd (pc := 142) hM dX9_tickOn_142 ?_
    obtain ⟨c45, h⟩ := ite_some h
    obtain ⟨F46, e47, h⟩ := bind_some h
    have e47 := Option.some.inj e47
    refine aw_iast (pc := 143) hM hq0 c45 dX9_tickOn_143 ?_
    refine aw_mem e47 ?_
    obtain ⟨y48, e49, h⟩ := bind_some h
    have e49 := Option.some.inj e49
    refine aw_iinc (pc := 144) (v := y48) (L' := [some (.ref 164), some (.ref q0), some (.int y48), some (.int x3), some (.int x4)]) hM dX9_tickOn_144 rfl e49 (by decide) rfl ?_
    refine aw_goto (pc := 147) (tgt := 9) hM dX9_tickOn_147 (by decide) ?_
    refine aw_weak (L' := [some (.ref 164), some (.ref q0), some (.int y48), none, none]) ?_ (lw_of [true, true, true, false, false] rfl)
    exact hk9 F46 y48 h
set_option maxRecDepth 20000 in
theorem k_X9_tickOn_b9 {C : CX} {M : MX} {G : GG} {Q : OUT → MM → GG → Prop} {q0 : Nat} {r : MM}  (hq0 : isIA q0)(hM : MOk C RX9 cX9_tickOn 5 none rmX9_tickOn M) (hT : MNoT M) (hq : Q (.inl none) r G) : ∀ (n : Nat) (F : MM) (x2 : Int32), s_X9_tickOn_b9 q0 n F x2 = some r → AW C 5 (ZM C rmX9_tickOn Q M) M 0 0 9 [some (.ref 164), some (.ref q0), some (.int x2), none, none] [] F G := by
  intro n
  induction n with
  | zero => intro F x2 h; exact nomatch h
  | succ n ih =>
    intro F x2 h
    rw [s_X9_tickOn_b9] at h
    refine aw_iload_n (pc := 9) (i := 2) (x := x2) hM dX9_tickOn_9 rfl rfl ?_
    refine aw_aload_n (pc := 10) (i := 0) (x := 164) hM dX9_tickOn_10 rfl rfl ?_
    refine aw_getI (pc := 11) hM fd_X9_13 sk_164 rfl dX9_tickOn_11 ?_
    refine aw_icmp_ge (pc := 14) (tgt := 150) hM dX9_tickOn_14 (by decide) (fun c5 => ?_) (fun c5 => ?_)
    · rw [if_pos c5] at h
      obtain rfl := Option.some.inj h
      exact aw_vret (pc := 150) hM dX9_tickOn_150 (Nat.le_of_ble_eq_true rfl) (Nat.le_of_ble_eq_true rfl) hq
    · rw [if_neg c5] at h
      refine aw_aload_n (pc := 17) (i := 0) (x := 164) hM dX9_tickOn_17 rfl rfl ?_
      refine aw_aload_n (pc := 18) (i := 1) (x := q0) hM dX9_tickOn_18 rfl rfl ?_
      refine aw_iload_n (pc := 19) (i := 2) (x := x2) hM dX9_tickOn_19 rfl rfl ?_
      obtain ⟨r7, h6, h⟩ := bind_some h
      refine aw_cv1 (pc := 20) (n := 2) (As := [.ref q0, .int x2]) (st := []) (b := 164) (vo := (some (.int r7))) (c2 := 0) (s2 := 0) hM (k_X9_nextOf hq0 h6) rfl cw_X9_187 sk_164 rfl rfl (by decide +kernel) rfl rfl ⟨(Nat.le_of_ble_eq_true rfl), (Nat.le_of_ble_eq_true rfl)⟩ (Nat.le_of_ble_eq_true rfl) ⟨(Nat.le_of_ble_eq_true rfl), (Nat.le_of_ble_eq_true rfl)⟩ dX9_tickOn_20 rfl rfl ?_
      refine aw_istore_n (pc := 23) (i := 3) (L' := [some (.ref 164), some (.ref q0), some (.int x2), some (.int r7), none]) hM dX9_tickOn_23 rfl (by decide) rfl ?_
      refine aw_iload_n (pc := 24) (i := 2) (x := x2) hM dX9_tickOn_24 rfl rfl ?_
      obtain ⟨r9, h8, h⟩ := bind_some h
      refine aw_cs1 (pc := 25) (n := 1) (As := [.int x2]) (st := []) (vo := (some (.int r9))) (c2 := 0) (s2 := 0) hM (k_X9_at h8) rfl cw_X9_126 (by decide +kernel) rfl rfl ⟨(Nat.le_of_ble_eq_true rfl), (Nat.le_of_ble_eq_true rfl)⟩ (Nat.le_of_ble_eq_true rfl) ⟨(Nat.le_of_ble_eq_true rfl), (Nat.le_of_ble_eq_true rfl)⟩ dX9_tickOn_25 rfl rfl ?_
      refine aw_istore (pc := 28) (i := 4) (L' := [some (.ref 164), some (.ref q0), some (.int x2), some (.int r7), some (.int r9)]) hM dX9_tickOn_28  (by decide) rfl ?_
      refine aw_iload_n (pc := 30) (i := 3) (x := r7) hM dX9_tickOn_30 rfl rfl ?_
      refine aw_bipush (pc := 31) (v := (-9)) hM dX9_tickOn_31 (by decide) ?_
      refine aw_icmp_eq (pc := 33) (tgt := 108) hM dX9_tickOn_33 (by decide) (fun c10 => ?_) (fun c10 => ?_)
      · rw [if_pos c10] at h
        exact k_X9_tickOn_b108 hq0 hM hT (fun wF w0 h9 => ih wF w0 h9) hq F x2 r7 r9 h
      · rw [if_neg c10] at h
        refine aw_aload_n (pc := 36) (i := 1) (x := q0) hM dX9_tickOn_36 rfl rfl ?_
        refine aw_iload (pc := 37) (i := 4) (x := r9) hM dX9_tickOn_37  rfl ?_
        refine aw_bipush (pc := 39) (v := 12) hM dX9_tickOn_39 (by decide) ?_
        refine aw_iadd (pc := 41) hM dX9_tickOn_41 ?_
        obtain ⟨c11, h⟩ := ite_some h
        refine aw_iald (pc := 42) hM hq0 c11 dX9_tickOn_42 ?_
        refine aw_if_le (pc := 43) (tgt := 108) hM dX9_tickOn_43 (by decide) (fun c12 => ?_) (fun c12 => ?_)
        · rw [if_pos c12] at h
          exact k_X9_tickOn_b108 hq0 hM hT (fun wF w0 h9 => ih wF w0 h9) hq F x2 r7 r9 h
        · rw [if_neg c12] at h
          refine aw_aload_n (pc := 46) (i := 1) (x := q0) hM dX9_tickOn_46 rfl rfl ?_
          refine aw_iload (pc := 47) (i := 4) (x := r9) hM dX9_tickOn_47  rfl ?_
          refine aw_bipush (pc := 49) (v := 12) hM dX9_tickOn_49 (by decide) ?_
          refine aw_iadd (pc := 51) hM dX9_tickOn_51 ?_
          refine aw_dup2 (pc := 52) hM dX9_tickOn_52 rfl rfl ?_
          obtain ⟨c13, h⟩ := ite_some h
          refine aw_iald (pc := 53) hM hq0 c13 dX9_tickOn_53 ?_
          refine aw_iconst (pc := 54) (v := 1) hM dX9_tickOn_54 (by decide) ?_
          refine aw_isub (pc := 55) hM dX9_tickOn_55 ?_
          obtain ⟨c14, h⟩ := ite_some h
          obtain ⟨F15, e16, h⟩ := bind_some h
          have e16 := Option.some.inj e16
          refine aw_iast (pc := 56) hM hq0 c14 dX9_tickOn_56 ?_
          refine aw_mem e16 ?_
          refine aw_aload_n (pc := 57) (i := 1) (x := q0) hM dX9_tickOn_57 rfl rfl ?_
          refine aw_iload (pc := 58) (i := 4) (x := r9) hM dX9_tickOn_58  rfl ?_
          refine aw_bipush (pc := 60) (v := 13) hM dX9_tickOn_60 (by decide) ?_
          refine aw_iadd (pc := 62) hM dX9_tickOn_62 ?_
          refine aw_dup2 (pc := 63) hM dX9_tickOn_63 rfl rfl ?_
          obtain ⟨c17, h⟩ := ite_some h
          refine aw_iald (pc := 64) hM hq0 c17 dX9_tickOn_64 ?_
          refine aw_iconst (pc := 65) (v := 1) hM dX9_tickOn_65 (by decide) ?_
          refine aw_iadd (pc := 66) hM dX9_tickOn_66 ?_
          obtain ⟨c18, h⟩ := ite_some h
          obtain ⟨F19, e20, h⟩ := bind_some h
          have e20 := Option.some.inj e20
          refine aw_iast (pc := 67) hM hq0 c18 dX9_tickOn_67 ?_
          refine aw_mem e20 ?_
          refine aw_aload_n (pc := 68) (i := 1) (x := q0) hM dX9_tickOn_68 rfl rfl ?_
          refine aw_iload (pc := 69) (i := 4) (x := r9) hM dX9_tickOn_69  rfl ?_
          refine aw_bipush (pc := 71) (v := 13) hM dX9_tickOn_71 (by decide) ?_
          refine aw_iadd (pc := 73) hM dX9_tickOn_73 ?_
          obtain ⟨c21, h⟩ := ite_some h
          refine aw_iald (pc := 74) hM hq0 c21 dX9_tickOn_74 ?_
          refine aw_aload_n (pc := 75) (i := 0) (x := 164) hM dX9_tickOn_75 rfl rfl ?_
          refine aw_getI (pc := 76) hM fd_X9_20 sk_164 rfl dX9_tickOn_76 ?_
          refine aw_icmp_ne (pc := 79) (tgt := 144) hM dX9_tickOn_79 (by decide) (fun c22 => ?_) (fun c22 => ?_)
          · rw [if_neg c22] at h
            obtain ⟨y23, e24, h⟩ := bind_some h
            have e24 := Option.some.inj e24
            refine aw_iinc (pc := 144) (v := y23) (L' := [some (.ref 164), some (.ref q0), some (.int y23), some (.int r7), some (.int r9)]) hM dX9_tickOn_144 rfl e24 (by decide) rfl ?_
            refine aw_goto (pc := 147) (tgt := 9) hM dX9_tickOn_147 (by decide) ?_
            refine aw_weak (L' := [some (.ref 164), some (.ref q0), some (.int y23), none, none]) ?_ (lw_of [true, true, true, false, false] rfl)
            exact ih F19 y23 h
          · rw [if_pos c22] at h
            refine aw_aload_n (pc := 82) (i := 1) (x := q0) hM dX9_tickOn_82 rfl rfl ?_
            refine aw_iload (pc := 83) (i := 4) (x := r9) hM dX9_tickOn_83  rfl ?_
            refine aw_bipush (pc := 85) (v := 13) hM dX9_tickOn_85 (by decide) ?_
            refine aw_iadd (pc := 87) hM dX9_tickOn_87 ?_
            refine aw_iconst (pc := 88) (v := 0) hM dX9_tickOn_88 (by decide) ?_
            obtain ⟨c25, h⟩ := ite_some h
            obtain ⟨F26, e27, h⟩ := bind_some h
            have e27 := Option.some.inj e27
            refine aw_iast (pc := 89) hM hq0 c25 dX9_tickOn_89 ?_
            refine aw_mem e27 ?_
            refine aw_aload_n (pc := 90) (i := 1) (x := q0) hM dX9_tickOn_90 rfl rfl ?_
            refine aw_iload (pc := 91) (i := 4) (x := r9) hM dX9_tickOn_91  rfl ?_
            refine aw_bipush (pc := 93) (v := 14) hM dX9_tickOn_93 (by decide) ?_
            refine aw_iadd (pc := 95) hM dX9_tickOn_95 ?_
            refine aw_aload_n (pc := 96) (i := 1) (x := q0) hM dX9_tickOn_96 rfl rfl ?_
            refine aw_iconst (pc := 97) (v := 0) hM dX9_tickOn_97 (by decide) ?_
            obtain ⟨c28, h⟩ := ite_some h
            refine aw_iald (pc := 98) hM hq0 c28 dX9_tickOn_98 ?_
            refine aw_aload_n (pc := 99) (i := 0) (x := 164) hM dX9_tickOn_99 rfl rfl ?_
            refine aw_getI (pc := 100) hM fd_X9_23 sk_164 rfl dX9_tickOn_100 ?_
            refine aw_iadd (pc := 103) hM dX9_tickOn_103 ?_
            obtain ⟨c29, h⟩ := ite_some h
            obtain ⟨F30, e31, h⟩ := bind_some h
            have e31 := Option.some.inj e31
            refine aw_iast (pc := 104) hM hq0 c29 dX9_tickOn_104 ?_
            refine aw_mem e31 ?_
            refine aw_goto (pc := 105) (tgt := 144) hM dX9_tickOn_105 (by decide) ?_
            obtain ⟨y32, e33, h⟩ := bind_some h
            have e33 := Option.some.inj e33
            refine aw_iinc (pc := 144) (v := y32) (L' := [some (.ref 164), some (.ref q0), some (.int y32), some (.int r7), some (.int r9)]) hM dX9_tickOn_144 rfl e33 (by decide) rfl ?_
            refine aw_goto (pc := 147) (tgt := 9) hM dX9_tickOn_147 (by decide) ?_
            refine aw_weak (L' := [some (.ref 164), some (.ref q0), some (.int y32), none, none]) ?_ (lw_of [true, true, true, false, false] rfl)
            exact ih F30 y32 h
set_option maxRecDepth 20000 in
theorem k_X9_tickOn {C : CX} {F : MM} {G : GG} {q0 : Nat} {r : MM} (hq0 : isIA q0) (h : s_X9_tickOn F q0 = some r) : AM C yX9_tickOn cX9_tickOn 5 none rmX9_tickOn [.ref 164, .ref q0] F G (fun o F9 G9 => o = (.inl none) ∧ F9 = r ∧ G9 = G) := by
  refine am_of (L := [some (.ref 164), some (.ref q0), none, none, none]) (by decide) (Nat.le_of_ble_eq_true rfl) rfl (fun M hM hT => ?_)
  have hM : MOk C RX9 cX9_tickOn 5 none rmX9_tickOn M := hM
  obtain ⟨Q, hQ⟩ : ∃ Q : OUT → MM → GG → Prop, Q = (fun o F9 G9 => o = (.inl none) ∧ F9 = r ∧ G9 = G) := ⟨_, rfl⟩
  have hq : Q (.inl none) r G := by rw [hQ]; exact ⟨rfl, rfl, rfl⟩
  rw [← hQ]
  clear hQ
  rw [s_X9_tickOn] at h
  refine aw_aload_n (pc := 0) (i := 1) (x := q0) hM dX9_tickOn_0 rfl rfl ?_
  refine aw_iconst (pc := 1) (v := 0) hM dX9_tickOn_1 (by decide) ?_
  refine aw_dup2 (pc := 2) hM dX9_tickOn_2 rfl rfl ?_
  obtain ⟨c1, h⟩ := ite_some h
  refine aw_iald (pc := 3) hM hq0 c1 dX9_tickOn_3 ?_
  refine aw_iconst (pc := 4) (v := 1) hM dX9_tickOn_4 (by decide) ?_
  refine aw_iadd (pc := 5) hM dX9_tickOn_5 ?_
  obtain ⟨c2, h⟩ := ite_some h
  obtain ⟨F3, e4, h⟩ := bind_some h
  have e4 := Option.some.inj e4
  refine aw_iast (pc := 6) hM hq0 c2 dX9_tickOn_6 ?_
  refine aw_mem e4 ?_
  refine aw_iconst (pc := 7) (v := 0) hM dX9_tickOn_7 (by decide) ?_
  refine aw_istore_n (pc := 8) (i := 2) (L' := [some (.ref 164), some (.ref q0), some (.int 0), none, none]) hM dX9_tickOn_8 rfl (by decide) rfl ?_
  exact k_X9_tickOn_b9 hq0 hM hT hq fu_ F3 0 h
def rmX9_digestOf : Room := { frames := 1, cells := 0, slots := 0, locals := 20 }
def s_X9_digestOf_b5 (F : MM) (q0 : Nat) : Nat → Int32 → Int32 → Int32 → Option Int32
  | 0, _, _, _ => none
  | n + 1, x2, x3, x4 => if (F 164 5) ≤ x4 then some x3 else (s_X9_at F x2).bind (fun r3 => if inb (r3 + x4) (alen q0) then ((some (x3 + ((x4 + 1) * (F q0 (ix (r3 + x4)))) : Int32)).bind (fun y5 => (some (x4 + 1 : Int32)).bind (fun y7 => s_X9_digestOf_b5 F q0 n x2 y5 y7))) else none)
def s_X9_digestOf (F : MM) (q0 : Nat) (p1 : Int32) : Option Int32 := s_X9_digestOf_b5 F q0 fu_ p1 0 0
set_option maxRecDepth 20000 in
theorem k_X9_digestOf_b5 {C : CX} {M : MX} {G : GG} {Q : OUT → MM → GG → Prop} {F : MM} {q0 : Nat} {r : Int32}  (hq0 : isIA q0)(hM : MOk C RX9 cX9_digestOf 5 (some .int) rmX9_digestOf M) (hT : MNoT M) (hq : Q (.inl (some (.int r))) F G) : ∀ (n : Nat) (x2 : Int32) (x3 : Int32) (x4 : Int32), s_X9_digestOf_b5 F q0 n x2 x3 x4 = some r → AW C 5 (ZM C rmX9_digestOf Q M) M 0 0 5 [some (.ref 164), some (.ref q0), some (.int x2), some (.int x3), some (.int x4)] [] F G := by
  intro n
  induction n with
  | zero => intro x2 x3 x4 h; exact nomatch h
  | succ n ih =>
    intro x2 x3 x4 h
    rw [s_X9_digestOf_b5] at h
    refine aw_iload (pc := 5) (i := 4) (x := x4) hM dX9_digestOf_5  rfl ?_
    refine aw_aload_n (pc := 7) (i := 0) (x := 164) hM dX9_digestOf_7 rfl rfl ?_
    refine aw_getI (pc := 8) hM fd_X9_17 sk_164 rfl dX9_digestOf_8 ?_
    refine aw_icmp_ge (pc := 11) (tgt := 37) hM dX9_digestOf_11 (by decide) (fun c1 => ?_) (fun c1 => ?_)
    · rw [if_pos c1] at h
      refine aw_iload_n (pc := 37) (i := 3) (x := x3) hM dX9_digestOf_37 rfl rfl ?_
      obtain rfl := Option.some.inj h
      exact aw_iret (pc := 38) hM dX9_digestOf_38 (Nat.le_of_ble_eq_true rfl) (Nat.le_of_ble_eq_true rfl) hq
    · rw [if_neg c1] at h
      refine aw_iload_n (pc := 14) (i := 3) (x := x3) hM dX9_digestOf_14 rfl rfl ?_
      refine aw_iload (pc := 15) (i := 4) (x := x4) hM dX9_digestOf_15  rfl ?_
      refine aw_iconst (pc := 17) (v := 1) hM dX9_digestOf_17 (by decide) ?_
      refine aw_iadd (pc := 18) hM dX9_digestOf_18 ?_
      refine aw_aload_n (pc := 19) (i := 1) (x := q0) hM dX9_digestOf_19 rfl rfl ?_
      refine aw_iload_n (pc := 20) (i := 2) (x := x2) hM dX9_digestOf_20 rfl rfl ?_
      obtain ⟨r3, h2, h⟩ := bind_some h
      refine aw_cs1 (pc := 21) (n := 1) (As := [.int x2]) (st := [.ref q0, .int (x4 + 1), .int x3]) (vo := (some (.int r3))) (c2 := 0) (s2 := 0) hM (k_X9_at h2) rfl cw_X9_126 (by decide +kernel) rfl rfl ⟨(Nat.le_of_ble_eq_true rfl), (Nat.le_of_ble_eq_true rfl)⟩ (Nat.le_of_ble_eq_true rfl) ⟨(Nat.le_of_ble_eq_true rfl), (Nat.le_of_ble_eq_true rfl)⟩ dX9_digestOf_21 rfl rfl ?_
      refine aw_iload (pc := 24) (i := 4) (x := x4) hM dX9_digestOf_24  rfl ?_
      refine aw_iadd (pc := 26) hM dX9_digestOf_26 ?_
      obtain ⟨c4, h⟩ := ite_some h
      refine aw_iald (pc := 27) hM hq0 c4 dX9_digestOf_27 ?_
      refine aw_imul (pc := 28) hM dX9_digestOf_28 ?_
      refine aw_iadd (pc := 29) hM dX9_digestOf_29 ?_
      obtain ⟨y5, e6, h⟩ := bind_some h
      have e6 := Option.some.inj e6
      refine aw_topi e6 ?_
      refine aw_istore_n (pc := 30) (i := 3) (L' := [some (.ref 164), some (.ref q0), some (.int x2), some (.int y5), some (.int x4)]) hM dX9_digestOf_30 rfl (by decide) rfl ?_
      obtain ⟨y7, e8, h⟩ := bind_some h
      have e8 := Option.some.inj e8
      refine aw_iinc (pc := 31) (v := y7) (L' := [some (.ref 164), some (.ref q0), some (.int x2), some (.int y5), some (.int y7)]) hM dX9_digestOf_31 rfl e8 (by decide) rfl ?_
      refine aw_goto (pc := 34) (tgt := 5) hM dX9_digestOf_34 (by decide) ?_
      exact ih x2 y5 y7 h
set_option maxRecDepth 20000 in
theorem k_X9_digestOf {C : CX} {F : MM} {G : GG} {q0 : Nat} {p1 : Int32} {r : Int32} (hq0 : isIA q0) (h : s_X9_digestOf F q0 p1 = some r) : AM C yX9_digestOf cX9_digestOf 5 (some .int) rmX9_digestOf [.ref 164, .ref q0, .int p1] F G (fun o F9 G9 => o = (.inl (some (.int r))) ∧ F9 = F ∧ G9 = G) := by
  refine am_of (L := [some (.ref 164), some (.ref q0), some (.int p1), none, none]) (by decide) (Nat.le_of_ble_eq_true rfl) rfl (fun M hM hT => ?_)
  have hM : MOk C RX9 cX9_digestOf 5 (some .int) rmX9_digestOf M := hM
  obtain ⟨Q, hQ⟩ : ∃ Q : OUT → MM → GG → Prop, Q = (fun o F9 G9 => o = (.inl (some (.int r))) ∧ F9 = F ∧ G9 = G) := ⟨_, rfl⟩
  have hq : Q (.inl (some (.int r))) F G := by rw [hQ]; exact ⟨rfl, rfl, rfl⟩
  rw [← hQ]
  clear hQ
  rw [s_X9_digestOf] at h
  refine aw_iconst (pc := 0) (v := 0) hM dX9_digestOf_0 (by decide) ?_
  refine aw_istore_n (pc := 1) (i := 3) (L' := [some (.ref 164), some (.ref q0), some (.int p1), some (.int 0), none]) hM dX9_digestOf_1 rfl (by decide) rfl ?_
  refine aw_iconst (pc := 2) (v := 0) hM dX9_digestOf_2 (by decide) ?_
  refine aw_istore (pc := 3) (i := 4) (L' := [some (.ref 164), some (.ref q0), some (.int p1), some (.int 0), some (.int 0)]) hM dX9_digestOf_3  (by decide) rfl ?_
  exact k_X9_digestOf_b5 hq0 hM hT hq fu_ p1 0 0 h
def rmX9_tell : Room := { frames := 3, cells := 0, slots := 0, locals := 67 }
def s_X9_tell (F : MM) (q0 : Nat) (p1 : Int32) (p2 : Int32) : Option Int32 := if p2 = 0 then if inb p1 5 then (some (F 166 (ix p1))) else none else if p2 = 1 then (s_X9_at F p1).bind (fun r5 => if inb (r5 + 12) (alen q0) then (some (F q0 (ix (r5 + 12)))) else none) else if p2 = 2 then (s_X9_at F p1).bind (fun r9 => if inb (r9 + 13) (alen q0) then (some (F q0 (ix (r9 + 13)))) else none) else if p2 = 3 then (s_X9_isQuarantined F q0 p1).bind (fun r13 => if r13 = 0 then some (-9) else (s_X9_at F p1).bind (fun r16 => if inb (r16 + 14) (alen q0) then (some (F q0 (ix (r16 + 14)))) else none)) else if p2 = 4 then (s_X9_drifted F q0 p1).bind (fun r20 => some r20) else if p2 = 5 then (s_X9_codeOf F q0 p1 0).bind (fun r23 => (s_X9_broken F r23).bind (fun r25 => some r25)) else (s_X9_digestOf F q0 p1).bind (fun r27 => some r27)
set_option maxRecDepth 20000 in
theorem k_X9_tell {C : CX} {F : MM} {G : GG} {q0 : Nat} {p1 : Int32} {p2 : Int32} {r : Int32} (hq0 : isIA q0) (h : s_X9_tell F q0 p1 p2 = some r) : AM C yX9_tell cX9_tell 4 (some .int) rmX9_tell [.ref 164, .ref q0, .int p1, .int p2] F G (fun o F9 G9 => o = (.inl (some (.int r))) ∧ F9 = F ∧ G9 = G) := by
  refine am_of (L := [some (.ref 164), some (.ref q0), some (.int p1), some (.int p2)]) (by decide) (Nat.le_of_ble_eq_true rfl) rfl (fun M hM hT => ?_)
  have hM : MOk C RX9 cX9_tell 4 (some .int) rmX9_tell M := hM
  obtain ⟨Q, hQ⟩ : ∃ Q : OUT → MM → GG → Prop, Q = (fun o F9 G9 => o = (.inl (some (.int r))) ∧ F9 = F ∧ G9 = G) := ⟨_, rfl⟩
  have hq : Q (.inl (some (.int r))) F G := by rw [hQ]; exact ⟨rfl, rfl, rfl⟩
  rw [← hQ]
  clear hQ
  rw [s_X9_tell] at h
  refine aw_iload_n (pc := 0) (i := 3) (x := p2) hM dX9_tell_0 rfl rfl ?_
  by_cases c1 : p2 = 0
  · rw [if_pos c1] at h
    refine aw_tableIn (pc := 1) (off := 39) (tgt := 40) hM dX9_tell_1 (by rw [c1]; decide) (by rw [c1]; decide) (by rw [c1]; rfl) (by decide) ?_
    refine aw_aload_n (pc := 40) (i := 0) (x := 164) hM dX9_tell_40 rfl rfl ?_
    refine aw_getR (pc := 41) (r := 166) hM fd_X9_26 sk_164 rfl dX9_tell_41 ?_
    refine aw_iload_n (pc := 44) (i := 2) (x := p1) hM dX9_tell_44 rfl rfl ?_
    obtain ⟨c2, h⟩ := ite_some h
    refine aw_iald (pc := 45) hM sk_166 c2 dX9_tell_45 ?_
    obtain rfl := Option.some.inj h
    exact aw_iret (pc := 46) hM dX9_tell_46 (Nat.le_of_ble_eq_true rfl) (Nat.le_of_ble_eq_true rfl) hq
  rw [if_neg c1] at h
  by_cases c3 : p2 = 1
  · rw [if_pos c3] at h
    refine aw_tableIn (pc := 1) (off := 46) (tgt := 47) hM dX9_tell_1 (by rw [c3]; decide) (by rw [c3]; decide) (by rw [c3]; rfl) (by decide) ?_
    refine aw_aload_n (pc := 47) (i := 1) (x := q0) hM dX9_tell_47 rfl rfl ?_
    refine aw_iload_n (pc := 48) (i := 2) (x := p1) hM dX9_tell_48 rfl rfl ?_
    obtain ⟨r5, h4, h⟩ := bind_some h
    refine aw_cs1 (pc := 49) (n := 1) (As := [.int p1]) (st := [.ref q0]) (vo := (some (.int r5))) (c2 := 0) (s2 := 0) hM (k_X9_at h4) rfl cw_X9_126 (by decide +kernel) rfl rfl ⟨(Nat.le_of_ble_eq_true rfl), (Nat.le_of_ble_eq_true rfl)⟩ (Nat.le_of_ble_eq_true rfl) ⟨(Nat.le_of_ble_eq_true rfl), (Nat.le_of_ble_eq_true rfl)⟩ dX9_tell_49 rfl rfl ?_
    refine aw_bipush (pc := 52) (v := 12) hM dX9_tell_52 (by decide) ?_
    refine aw_iadd (pc := 54) hM dX9_tell_54 ?_
    obtain ⟨c6, h⟩ := ite_some h
    refine aw_iald (pc := 55) hM hq0 c6 dX9_tell_55 ?_
    obtain rfl := Option.some.inj h
    exact aw_iret (pc := 56) hM dX9_tell_56 (Nat.le_of_ble_eq_true rfl) (Nat.le_of_ble_eq_true rfl) hq
  rw [if_neg c3] at h
  by_cases c7 : p2 = 2
  · rw [if_pos c7] at h
    refine aw_tableIn (pc := 1) (off := 56) (tgt := 57) hM dX9_tell_1 (by rw [c7]; decide) (by rw [c7]; decide) (by rw [c7]; rfl) (by decide) ?_
    refine aw_aload_n (pc := 57) (i := 1) (x := q0) hM dX9_tell_57 rfl rfl ?_
    refine aw_iload_n (pc := 58) (i := 2) (x := p1) hM dX9_tell_58 rfl rfl ?_
    obtain ⟨r9, h8, h⟩ := bind_some h
    refine aw_cs1 (pc := 59) (n := 1) (As := [.int p1]) (st := [.ref q0]) (vo := (some (.int r9))) (c2 := 0) (s2 := 0) hM (k_X9_at h8) rfl cw_X9_126 (by decide +kernel) rfl rfl ⟨(Nat.le_of_ble_eq_true rfl), (Nat.le_of_ble_eq_true rfl)⟩ (Nat.le_of_ble_eq_true rfl) ⟨(Nat.le_of_ble_eq_true rfl), (Nat.le_of_ble_eq_true rfl)⟩ dX9_tell_59 rfl rfl ?_
    refine aw_bipush (pc := 62) (v := 13) hM dX9_tell_62 (by decide) ?_
    refine aw_iadd (pc := 64) hM dX9_tell_64 ?_
    obtain ⟨c10, h⟩ := ite_some h
    refine aw_iald (pc := 65) hM hq0 c10 dX9_tell_65 ?_
    obtain rfl := Option.some.inj h
    exact aw_iret (pc := 66) hM dX9_tell_66 (Nat.le_of_ble_eq_true rfl) (Nat.le_of_ble_eq_true rfl) hq
  rw [if_neg c7] at h
  by_cases c11 : p2 = 3
  · rw [if_pos c11] at h
    refine aw_tableIn (pc := 1) (off := 66) (tgt := 67) hM dX9_tell_1 (by rw [c11]; decide) (by rw [c11]; decide) (by rw [c11]; rfl) (by decide) ?_
    refine aw_aload_n (pc := 67) (i := 1) (x := q0) hM dX9_tell_67 rfl rfl ?_
    refine aw_iload_n (pc := 68) (i := 2) (x := p1) hM dX9_tell_68 rfl rfl ?_
    obtain ⟨r13, h12, h⟩ := bind_some h
    refine aw_cs1 (pc := 69) (n := 2) (As := [.ref q0, .int p1]) (st := []) (vo := (some (.int r13))) (c2 := 0) (s2 := 0) hM (k_X9_isQuarantined hq0 h12) rfl cw_X9_170 (by decide +kernel) rfl rfl ⟨(Nat.le_of_ble_eq_true rfl), (Nat.le_of_ble_eq_true rfl)⟩ (Nat.le_of_ble_eq_true rfl) ⟨(Nat.le_of_ble_eq_true rfl), (Nat.le_of_ble_eq_true rfl)⟩ dX9_tell_69 rfl rfl ?_
    refine aw_if_eq (pc := 72) (tgt := 87) hM dX9_tell_72 (by decide) (fun c14 => ?_) (fun c14 => ?_)
    · rw [if_pos c14] at h
      refine aw_bipush (pc := 87) (v := (-9)) hM dX9_tell_87 (by decide) ?_
      obtain rfl := Option.some.inj h
      exact aw_iret (pc := 89) hM dX9_tell_89 (Nat.le_of_ble_eq_true rfl) (Nat.le_of_ble_eq_true rfl) hq
    · rw [if_neg c14] at h
      refine aw_aload_n (pc := 75) (i := 1) (x := q0) hM dX9_tell_75 rfl rfl ?_
      refine aw_iload_n (pc := 76) (i := 2) (x := p1) hM dX9_tell_76 rfl rfl ?_
      obtain ⟨r16, h15, h⟩ := bind_some h
      refine aw_cs1 (pc := 77) (n := 1) (As := [.int p1]) (st := [.ref q0]) (vo := (some (.int r16))) (c2 := 0) (s2 := 0) hM (k_X9_at h15) rfl cw_X9_126 (by decide +kernel) rfl rfl ⟨(Nat.le_of_ble_eq_true rfl), (Nat.le_of_ble_eq_true rfl)⟩ (Nat.le_of_ble_eq_true rfl) ⟨(Nat.le_of_ble_eq_true rfl), (Nat.le_of_ble_eq_true rfl)⟩ dX9_tell_77 rfl rfl ?_
      refine aw_bipush (pc := 80) (v := 14) hM dX9_tell_80 (by decide) ?_
      refine aw_iadd (pc := 82) hM dX9_tell_82 ?_
      obtain ⟨c17, h⟩ := ite_some h
      refine aw_iald (pc := 83) hM hq0 c17 dX9_tell_83 ?_
      refine aw_goto (pc := 84) (tgt := 89) hM dX9_tell_84 (by decide) ?_
      obtain rfl := Option.some.inj h
      exact aw_iret (pc := 89) hM dX9_tell_89 (Nat.le_of_ble_eq_true rfl) (Nat.le_of_ble_eq_true rfl) hq
  rw [if_neg c11] at h
  by_cases c18 : p2 = 4
  · rw [if_pos c18] at h
    refine aw_tableIn (pc := 1) (off := 89) (tgt := 90) hM dX9_tell_1 (by rw [c18]; decide) (by rw [c18]; decide) (by rw [c18]; rfl) (by decide) ?_
    refine aw_aload_n (pc := 90) (i := 0) (x := 164) hM dX9_tell_90 rfl rfl ?_
    refine aw_aload_n (pc := 91) (i := 1) (x := q0) hM dX9_tell_91 rfl rfl ?_
    refine aw_iload_n (pc := 92) (i := 2) (x := p1) hM dX9_tell_92 rfl rfl ?_
    obtain ⟨r20, h19, h⟩ := bind_some h
    refine aw_cv1 (pc := 93) (n := 2) (As := [.ref q0, .int p1]) (st := []) (b := 164) (vo := (some (.int r20))) (c2 := 0) (s2 := 0) hM (k_X9_drifted hq0 h19) rfl cw_X9_191 sk_164 rfl rfl (by decide +kernel) rfl rfl ⟨(Nat.le_of_ble_eq_true rfl), (Nat.le_of_ble_eq_true rfl)⟩ (Nat.le_of_ble_eq_true rfl) ⟨(Nat.le_of_ble_eq_true rfl), (Nat.le_of_ble_eq_true rfl)⟩ dX9_tell_93 rfl rfl ?_
    obtain rfl := Option.some.inj h
    exact aw_iret (pc := 96) hM dX9_tell_96 (Nat.le_of_ble_eq_true rfl) (Nat.le_of_ble_eq_true rfl) hq
  rw [if_neg c18] at h
  by_cases c21 : p2 = 5
  · rw [if_pos c21] at h
    refine aw_tableIn (pc := 1) (off := 96) (tgt := 97) hM dX9_tell_1 (by rw [c21]; decide) (by rw [c21]; decide) (by rw [c21]; rfl) (by decide) ?_
    refine aw_aload_n (pc := 97) (i := 0) (x := 164) hM dX9_tell_97 rfl rfl ?_
    refine aw_aload_n (pc := 98) (i := 0) (x := 164) hM dX9_tell_98 rfl rfl ?_
    refine aw_aload_n (pc := 99) (i := 1) (x := q0) hM dX9_tell_99 rfl rfl ?_
    refine aw_iload_n (pc := 100) (i := 2) (x := p1) hM dX9_tell_100 rfl rfl ?_
    refine aw_iconst (pc := 101) (v := 0) hM dX9_tell_101 (by decide) ?_
    obtain ⟨r23, h22, h⟩ := bind_some h
    refine aw_cv1 (pc := 102) (n := 3) (As := [.ref q0, .int p1, .int 0]) (st := [.ref 164]) (b := 164) (vo := (some (.int r23))) (c2 := 0) (s2 := 0) hM (k_X9_codeOf hq0 h22) rfl cw_X9_153 sk_164 rfl rfl (by decide +kernel) rfl rfl ⟨(Nat.le_of_ble_eq_true rfl), (Nat.le_of_ble_eq_true rfl)⟩ (Nat.le_of_ble_eq_true rfl) ⟨(Nat.le_of_ble_eq_true rfl), (Nat.le_of_ble_eq_true rfl)⟩ dX9_tell_102 rfl rfl ?_
    obtain ⟨r25, h24, h⟩ := bind_some h
    refine aw_cv1 (pc := 105) (n := 1) (As := [.int r23]) (st := []) (b := 164) (vo := (some (.int r25))) (c2 := 0) (s2 := 0) hM (k_X9_broken h24) rfl cw_X9_160 sk_164 rfl rfl (by decide +kernel) rfl rfl ⟨(Nat.le_of_ble_eq_true rfl), (Nat.le_of_ble_eq_true rfl)⟩ (Nat.le_of_ble_eq_true rfl) ⟨(Nat.le_of_ble_eq_true rfl), (Nat.le_of_ble_eq_true rfl)⟩ dX9_tell_105 rfl rfl ?_
    obtain rfl := Option.some.inj h
    exact aw_iret (pc := 108) hM dX9_tell_108 (Nat.le_of_ble_eq_true rfl) (Nat.le_of_ble_eq_true rfl) hq
  rw [if_neg c21] at h
  refine aw_tableOut (pc := 1) (tgt := 109) hM dX9_tell_1 (by have := ts_ne c1 (k := 0) rfl; have := ts_ne c3 (k := 1) rfl; have := ts_ne c7 (k := 2) rfl; have := ts_ne c11 (k := 3) rfl; have := ts_ne c18 (k := 4) rfl; have := ts_ne c21 (k := 5) rfl; omega) (by decide) ?_
  refine aw_aload_n (pc := 109) (i := 0) (x := 164) hM dX9_tell_109 rfl rfl ?_
  refine aw_aload_n (pc := 110) (i := 1) (x := q0) hM dX9_tell_110 rfl rfl ?_
  refine aw_iload_n (pc := 111) (i := 2) (x := p1) hM dX9_tell_111 rfl rfl ?_
  obtain ⟨r27, h26, h⟩ := bind_some h
  refine aw_cv1 (pc := 112) (n := 2) (As := [.ref q0, .int p1]) (st := []) (b := 164) (vo := (some (.int r27))) (c2 := 0) (s2 := 0) hM (k_X9_digestOf hq0 h26) rfl cw_X9_200 sk_164 rfl rfl (by decide +kernel) rfl rfl ⟨(Nat.le_of_ble_eq_true rfl), (Nat.le_of_ble_eq_true rfl)⟩ (Nat.le_of_ble_eq_true rfl) ⟨(Nat.le_of_ble_eq_true rfl), (Nat.le_of_ble_eq_true rfl)⟩ dX9_tell_112 rfl rfl ?_
  obtain rfl := Option.some.inj h
  exact aw_iret (pc := 115) hM dX9_tell_115 (Nat.le_of_ble_eq_true rfl) (Nat.le_of_ble_eq_true rfl) hq
def rmX9_ahead : Room := { frames := 6, cells := 0, slots := 0, locals := 143 }
def s_X9_ahead_b68 : Nat → MM → Int32 → Int32 → Int32 → Int32 → Option (Int32 × MM)
  | 0, _, _, _, _, _ => none
  | n + 1, F, x1, x2, x3, x4 => if x1 ≤ x4 then (s_X9_tell F 172 x2 x3).bind (fun r18 => some (r18, F)) else (s_X9_tickOn F 172).bind (fun F20 => (some (x4 + 1 : Int32)).bind (fun y21 => s_X9_ahead_b68 n F20 x1 x2 x3 y21))
def s_X9_ahead_b42 (F : MM) (x1 : Int32) (x2 : Int32) (x3 : Int32) (t0 : Int32) : Option (Int32 × MM) := (s_X9_refused F t0).bind (fun z12 => if z12.1 = 0 then (s_X9_copy z12.2 171 0 172 0 107).bind (fun F15 => s_X9_ahead_b68 fu_ F15 x1 x2 x3 0) else some (0, z12.2))
def s_X9_ahead (F : MM) (p0 : Int32) (p1 : Int32) (p2 : Int32) : Option (Int32 × MM) := (s_X9_isNode F p1).bind (fun r2 => if r2 = 0 then s_X9_ahead_b42 F p0 p1 p2 1 else (s_X9_in F (Int32.toInt64 p0) 0 99).bind (fun r5 => if r5 = 0 then s_X9_ahead_b42 F p0 p1 p2 2 else (s_X9_in F (Int32.toInt64 p2) 0 6).bind (fun r8 => if r8 = 0 then s_X9_ahead_b42 F p0 p1 p2 2 else s_X9_ahead_b42 F p0 p1 p2 0)))
set_option maxRecDepth 20000 in
theorem k_X9_ahead_b68 {C : CX} {M : MX} {G : GG} {Q : OUT → MM → GG → Prop} {r : (Int32 × MM)} (hM : MOk C RX9 cX9_ahead 5 (some .int) rmX9_ahead M) (hT : MNoT M) (hq : Q (.inl (some (.int r.1))) r.2 G) : ∀ (n : Nat) (F : MM) (x1 : Int32) (x2 : Int32) (x3 : Int32) (x4 : Int32), s_X9_ahead_b68 n F x1 x2 x3 x4 = some r → AW C 5 (ZM C rmX9_ahead Q M) M 0 0 68 [some (.ref 164), some (.int x1), some (.int x2), some (.int x3), some (.int x4)] [] F G := by
  intro n
  induction n with
  | zero => intro F x1 x2 x3 x4 h; exact nomatch h
  | succ n ih =>
    intro F x1 x2 x3 x4 h
    rw [s_X9_ahead_b68] at h
    refine aw_iload (pc := 68) (i := 4) (x := x4) hM dX9_ahead_68  rfl ?_
    refine aw_iload_n (pc := 70) (i := 1) (x := x1) hM dX9_ahead_70 rfl rfl ?_
    refine aw_icmp_ge (pc := 71) (tgt := 88) hM dX9_ahead_71 (by decide) (fun c16 => ?_) (fun c16 => ?_)
    · rw [if_pos c16] at h
      refine aw_aload_n (pc := 88) (i := 0) (x := 164) hM dX9_ahead_88 rfl rfl ?_
      refine aw_aload_n (pc := 89) (i := 0) (x := 164) hM dX9_ahead_89 rfl rfl ?_
      refine aw_getR (pc := 90) (r := 172) hM fd_X9_44 sk_164 rfl dX9_ahead_90 ?_
      refine aw_iload_n (pc := 93) (i := 2) (x := x2) hM dX9_ahead_93 rfl rfl ?_
      refine aw_iload_n (pc := 94) (i := 3) (x := x3) hM dX9_ahead_94 rfl rfl ?_
      obtain ⟨r18, h17, h⟩ := bind_some h
      refine aw_cv1 (pc := 95) (n := 3) (As := [.ref 172, .int x2, .int x3]) (st := []) (b := 164) (vo := (some (.int r18))) (c2 := 0) (s2 := 0) hM (k_X9_tell (ia_of sk_172) h17) rfl cw_X9_208 sk_164 rfl rfl (by decide +kernel) rfl rfl ⟨(Nat.le_of_ble_eq_true rfl), (Nat.le_of_ble_eq_true rfl)⟩ (Nat.le_of_ble_eq_true rfl) ⟨(Nat.le_of_ble_eq_true rfl), (Nat.le_of_ble_eq_true rfl)⟩ dX9_ahead_95 rfl rfl ?_
      obtain rfl := Option.some.inj h
      exact aw_iret (pc := 98) hM dX9_ahead_98 (Nat.le_of_ble_eq_true rfl) (Nat.le_of_ble_eq_true rfl) hq
    · rw [if_neg c16] at h
      refine aw_aload_n (pc := 74) (i := 0) (x := 164) hM dX9_ahead_74 rfl rfl ?_
      refine aw_aload_n (pc := 75) (i := 0) (x := 164) hM dX9_ahead_75 rfl rfl ?_
      refine aw_getR (pc := 76) (r := 172) hM fd_X9_44 sk_164 rfl dX9_ahead_76 ?_
      obtain ⟨F20, h19, h⟩ := bind_some h
      refine aw_cv1 (pc := 79) (n := 1) (As := [.ref 172]) (st := []) (b := 164) (vo := none) (c2 := 0) (s2 := 0) hM (k_X9_tickOn (ia_of sk_172) h19) rfl cw_X9_230 sk_164 rfl rfl (by decide +kernel) rfl rfl ⟨(Nat.le_of_ble_eq_true rfl), (Nat.le_of_ble_eq_true rfl)⟩ (Nat.le_of_ble_eq_true rfl) ⟨(Nat.le_of_ble_eq_true rfl), (Nat.le_of_ble_eq_true rfl)⟩ dX9_ahead_79 rfl rfl ?_
      obtain ⟨y21, e22, h⟩ := bind_some h
      have e22 := Option.some.inj e22
      refine aw_iinc (pc := 82) (v := y21) (L' := [some (.ref 164), some (.int x1), some (.int x2), some (.int x3), some (.int y21)]) hM dX9_ahead_82 rfl e22 (by decide) rfl ?_
      refine aw_goto (pc := 85) (tgt := 68) hM dX9_ahead_85 (by decide) ?_
      exact ih F20 x1 x2 x3 y21 h
set_option maxRecDepth 20000 in
theorem k_X9_ahead_b42 {C : CX} {M : MX} {G : GG} {Q : OUT → MM → GG → Prop} {r : (Int32 × MM)} (hM : MOk C RX9 cX9_ahead 5 (some .int) rmX9_ahead M) (hT : MNoT M) (hq : Q (.inl (some (.int r.1))) r.2 G) (F : MM) (x1 : Int32) (x2 : Int32) (x3 : Int32) (t0 : Int32) (h : s_X9_ahead_b42 F x1 x2 x3 t0 = some r) : AW C 5 (ZM C rmX9_ahead Q M) M 0 0 42 [some (.ref 164), some (.int x1), some (.int x2), some (.int x3), none] [.int t0, .ref 164] F G := by
  rw [s_X9_ahead_b42] at h
  obtain ⟨z12, h10, h⟩ := bind_some h
  refine aw_cv1 (pc := 42) (n := 1) (As := [.int t0]) (st := []) (b := 164) (vo := (some (.int z12.1))) (c2 := 0) (s2 := 0) hM (k_X9_refused h10) rfl cw_X9_93 sk_164 rfl rfl (by decide +kernel) rfl rfl ⟨(Nat.le_of_ble_eq_true rfl), (Nat.le_of_ble_eq_true rfl)⟩ (Nat.le_of_ble_eq_true rfl) ⟨(Nat.le_of_ble_eq_true rfl), (Nat.le_of_ble_eq_true rfl)⟩ dX9_ahead_42 rfl rfl ?_
  refine aw_if_eq (pc := 45) (tgt := 50) hM dX9_ahead_45 (by decide) (fun c13 => ?_) (fun c13 => ?_)
  · rw [if_pos c13] at h
    refine aw_aload_n (pc := 50) (i := 0) (x := 164) hM dX9_ahead_50 rfl rfl ?_
    refine aw_getR (pc := 51) (r := 171) hM fd_X9_41 sk_164 rfl dX9_ahead_51 ?_
    refine aw_iconst (pc := 54) (v := 0) hM dX9_ahead_54 (by decide) ?_
    refine aw_aload_n (pc := 55) (i := 0) (x := 164) hM dX9_ahead_55 rfl rfl ?_
    refine aw_getR (pc := 56) (r := 172) hM fd_X9_44 sk_164 rfl dX9_ahead_56 ?_
    refine aw_iconst (pc := 59) (v := 0) hM dX9_ahead_59 (by decide) ?_
    refine aw_bipush (pc := 60) (v := 107) hM dX9_ahead_60 (by decide) ?_
    obtain ⟨F15, h14, h⟩ := bind_some h
    refine aw_cs1 (pc := 62) (n := 5) (As := [.ref 171, .int 0, .ref 172, .int 0, .int 107]) (st := []) (vo := none) (c2 := 0) (s2 := 0) hM (k_X9_copy (ia_of sk_171) (ia_of sk_172) h14) rfl cw_X9_75 (by decide +kernel) rfl rfl ⟨(Nat.le_of_ble_eq_true rfl), (Nat.le_of_ble_eq_true rfl)⟩ (Nat.le_of_ble_eq_true rfl) ⟨(Nat.le_of_ble_eq_true rfl), (Nat.le_of_ble_eq_true rfl)⟩ dX9_ahead_62 rfl rfl ?_
    refine aw_iconst (pc := 65) (v := 0) hM dX9_ahead_65 (by decide) ?_
    refine aw_istore (pc := 66) (i := 4) (L' := [some (.ref 164), some (.int x1), some (.int x2), some (.int x3), some (.int 0)]) hM dX9_ahead_66  (by decide) rfl ?_
    exact k_X9_ahead_b68 hM hT hq fu_ F15 x1 x2 x3 0 h
  · rw [if_neg c13] at h
    refine aw_iconst (pc := 48) (v := 0) hM dX9_ahead_48 (by decide) ?_
    obtain rfl := Option.some.inj h
    exact aw_iret (pc := 49) hM dX9_ahead_49 (Nat.le_of_ble_eq_true rfl) (Nat.le_of_ble_eq_true rfl) hq
set_option maxRecDepth 20000 in
theorem k_X9_ahead {C : CX} {F : MM} {G : GG} {p0 : Int32} {p1 : Int32} {p2 : Int32} {r : (Int32 × MM)} (h : s_X9_ahead F p0 p1 p2 = some r) : AM C yX9_ahead cX9_ahead 5 (some .int) rmX9_ahead [.ref 164, .int p0, .int p1, .int p2] F G (fun o F9 G9 => o = (.inl (some (.int r.1))) ∧ F9 = r.2 ∧ G9 = G) := by
  refine am_of (L := [some (.ref 164), some (.int p0), some (.int p1), some (.int p2), none]) (by decide) (Nat.le_of_ble_eq_true rfl) rfl (fun M hM hT => ?_)
  have hM : MOk C RX9 cX9_ahead 5 (some .int) rmX9_ahead M := hM
  obtain ⟨Q, hQ⟩ : ∃ Q : OUT → MM → GG → Prop, Q = (fun o F9 G9 => o = (.inl (some (.int r.1))) ∧ F9 = r.2 ∧ G9 = G) := ⟨_, rfl⟩
  have hq : Q (.inl (some (.int r.1))) r.2 G := by rw [hQ]; exact ⟨rfl, rfl, rfl⟩
  rw [← hQ]
  clear hQ
  rw [s_X9_ahead] at h
  refine aw_aload_n (pc := 0) (i := 0) (x := 164) hM dX9_ahead_0 rfl rfl ?_
  refine aw_aload_n (pc := 1) (i := 0) (x := 164) hM dX9_ahead_1 rfl rfl ?_
  refine aw_iload_n (pc := 2) (i := 2) (x := p1) hM dX9_ahead_2 rfl rfl ?_
  obtain ⟨r2, h1, h⟩ := bind_some h
  refine aw_cv1 (pc := 3) (n := 1) (As := [.int p1]) (st := [.ref 164]) (b := 164) (vo := (some (.int r2))) (c2 := 0) (s2 := 0) hM (k_X9_isNode h1) rfl cw_X9_203 sk_164 rfl rfl (by decide +kernel) rfl rfl ⟨(Nat.le_of_ble_eq_true rfl), (Nat.le_of_ble_eq_true rfl)⟩ (Nat.le_of_ble_eq_true rfl) ⟨(Nat.le_of_ble_eq_true rfl), (Nat.le_of_ble_eq_true rfl)⟩ dX9_ahead_3 rfl rfl ?_
  refine aw_if_ne (pc := 6) (tgt := 13) hM dX9_ahead_6 (by decide) (fun c3 => ?_) (fun c3 => ?_)
  · rw [if_neg c3] at h
    refine aw_iload_n (pc := 13) (i := 1) (x := p0) hM dX9_ahead_13 rfl rfl ?_
    refine aw_i2l (pc := 14) hM dX9_ahead_14 ?_
    refine aw_lconst (pc := 15) (v := 0) hM dX9_ahead_15 (by decide) ?_
    refine aw_ldc2 (pc := 16) hM gw_1350 dX9_ahead_16 ?_
    obtain ⟨r5, h4, h⟩ := bind_some h
    refine aw_cs1 (pc := 19) (n := 3) (As := [.long (Int32.toInt64 p0), .long 0, .long 99]) (st := [.ref 164]) (vo := (some (.int r5))) (c2 := 0) (s2 := 0) hM (k_X9_in h4) rfl cw_X9_82 (by decide +kernel) rfl rfl ⟨(Nat.le_of_ble_eq_true rfl), (Nat.le_of_ble_eq_true rfl)⟩ (Nat.le_of_ble_eq_true rfl) ⟨(Nat.le_of_ble_eq_true rfl), (Nat.le_of_ble_eq_true rfl)⟩ dX9_ahead_19 rfl rfl ?_
    refine aw_if_eq (pc := 22) (tgt := 37) hM dX9_ahead_22 (by decide) (fun c6 => ?_) (fun c6 => ?_)
    · rw [if_pos c6] at h
      refine aw_iconst (pc := 37) (v := 2) hM dX9_ahead_37 (by decide) ?_
      refine aw_goto (pc := 38) (tgt := 42) hM dX9_ahead_38 (by decide) ?_
      exact k_X9_ahead_b42 hM hT hq F p0 p1 p2 2 h
    · rw [if_neg c6] at h
      refine aw_iload_n (pc := 25) (i := 3) (x := p2) hM dX9_ahead_25 rfl rfl ?_
      refine aw_i2l (pc := 26) hM dX9_ahead_26 ?_
      refine aw_lconst (pc := 27) (v := 0) hM dX9_ahead_27 (by decide) ?_
      refine aw_ldc2 (pc := 28) hM gw_1197 dX9_ahead_28 ?_
      obtain ⟨r8, h7, h⟩ := bind_some h
      refine aw_cs1 (pc := 31) (n := 3) (As := [.long (Int32.toInt64 p2), .long 0, .long 6]) (st := [.ref 164]) (vo := (some (.int r8))) (c2 := 0) (s2 := 0) hM (k_X9_in h7) rfl cw_X9_82 (by decide +kernel) rfl rfl ⟨(Nat.le_of_ble_eq_true rfl), (Nat.le_of_ble_eq_true rfl)⟩ (Nat.le_of_ble_eq_true rfl) ⟨(Nat.le_of_ble_eq_true rfl), (Nat.le_of_ble_eq_true rfl)⟩ dX9_ahead_31 rfl rfl ?_
      refine aw_if_ne (pc := 34) (tgt := 41) hM dX9_ahead_34 (by decide) (fun c9 => ?_) (fun c9 => ?_)
      · rw [if_neg c9] at h
        refine aw_iconst (pc := 41) (v := 0) hM dX9_ahead_41 (by decide) ?_
        exact k_X9_ahead_b42 hM hT hq F p0 p1 p2 0 h
      · rw [if_pos c9] at h
        refine aw_iconst (pc := 37) (v := 2) hM dX9_ahead_37 (by decide) ?_
        refine aw_goto (pc := 38) (tgt := 42) hM dX9_ahead_38 (by decide) ?_
        exact k_X9_ahead_b42 hM hT hq F p0 p1 p2 2 h
  · rw [if_pos c3] at h
    refine aw_iconst (pc := 9) (v := 1) hM dX9_ahead_9 (by decide) ?_
    refine aw_goto (pc := 10) (tgt := 42) hM dX9_ahead_10 (by decide) ?_
    exact k_X9_ahead_b42 hM hT hq F p0 p1 p2 1 h
def rmX9_append : Room := { frames := 1, cells := 0, slots := 0, locals := 25 }
def s_X9_append_b32 (F : MM) (x1 : Int32) (t0 : Int32) : Option (Int32 × MM) := (s_X9_refused F t0).bind (fun z7 => if z7.1 = 0 then if inb (z7.2 164 2) 160 then ((some (mup z7.2 165 (ix (z7.2 164 2)) x1)).bind (fun F10 => (some (mup F10 164 2 ((F10 164 2) + 1))).bind (fun F12 => some (F12 164 2, F12)))) else none else some (0, z7.2))
def s_X9_append (F : MM) (p0 : Int32) : Option (Int32 × MM) := (s_X9_in F (Int32.toInt64 p0) 0 255).bind (fun r2 => if r2 = 0 then s_X9_append_b32 F p0 1 else if (F 164 2) = 160 then s_X9_append_b32 F p0 2 else s_X9_append_b32 F p0 0)
set_option maxRecDepth 20000 in
theorem k_X9_append_b32 {C : CX} {M : MX} {G : GG} {Q : OUT → MM → GG → Prop} {r : (Int32 × MM)} (hM : MOk C RX9 cX9_append 2 (some .int) rmX9_append M) (hT : MNoT M) (hq : Q (.inl (some (.int r.1))) r.2 G) (F : MM) (x1 : Int32) (t0 : Int32) (h : s_X9_append_b32 F x1 t0 = some r) : AW C 2 (ZM C rmX9_append Q M) M 0 0 32 [some (.ref 164), some (.int x1)] [.int t0, .ref 164] F G := by
  rw [s_X9_append_b32] at h
  obtain ⟨z7, h5, h⟩ := bind_some h
  refine aw_cv1 (pc := 32) (n := 1) (As := [.int t0]) (st := []) (b := 164) (vo := (some (.int z7.1))) (c2 := 0) (s2 := 0) hM (k_X9_refused h5) rfl cw_X9_93 sk_164 rfl rfl (by decide +kernel) rfl rfl ⟨(Nat.le_of_ble_eq_true rfl), (Nat.le_of_ble_eq_true rfl)⟩ (Nat.le_of_ble_eq_true rfl) ⟨(Nat.le_of_ble_eq_true rfl), (Nat.le_of_ble_eq_true rfl)⟩ dX9_append_32 rfl rfl ?_
  refine aw_if_eq (pc := 35) (tgt := 40) hM dX9_append_35 (by decide) (fun c8 => ?_) (fun c8 => ?_)
  · rw [if_pos c8] at h
    refine aw_aload_n (pc := 40) (i := 0) (x := 164) hM dX9_append_40 rfl rfl ?_
    refine aw_getR (pc := 41) (r := 165) hM fd_X9_7 sk_164 rfl dX9_append_41 ?_
    refine aw_aload_n (pc := 44) (i := 0) (x := 164) hM dX9_append_44 rfl rfl ?_
    refine aw_getI (pc := 45) hM fd_X9_90 sk_164 rfl dX9_append_45 ?_
    refine aw_iload_n (pc := 48) (i := 1) (x := x1) hM dX9_append_48 rfl rfl ?_
    obtain ⟨c9, h⟩ := ite_some h
    obtain ⟨F10, e11, h⟩ := bind_some h
    have e11 := Option.some.inj e11
    refine aw_iast (pc := 49) hM sk_165 c9 dX9_append_49 ?_
    refine aw_mem e11 ?_
    refine aw_aload_n (pc := 50) (i := 0) (x := 164) hM dX9_append_50 rfl rfl ?_
    refine aw_dup (pc := 51) hM dX9_append_51 rfl ?_
    refine aw_getI (pc := 52) hM fd_X9_90 sk_164 rfl dX9_append_52 ?_
    refine aw_iconst (pc := 55) (v := 1) hM dX9_append_55 (by decide) ?_
    refine aw_iadd (pc := 56) hM dX9_append_56 ?_
    obtain ⟨F12, e13, h⟩ := bind_some h
    have e13 := Option.some.inj e13
    refine aw_put (pc := 57) (ty := .int) hM fd_X9_90 tyX9_ok nmX9 rfl (by decide +kernel) rfl rfl sk_164 rfl dX9_append_57 ?_
    refine aw_mem e13 ?_
    refine aw_aload_n (pc := 60) (i := 0) (x := 164) hM dX9_append_60 rfl rfl ?_
    refine aw_getI (pc := 61) hM fd_X9_90 sk_164 rfl dX9_append_61 ?_
    obtain rfl := Option.some.inj h
    exact aw_iret (pc := 64) hM dX9_append_64 (Nat.le_of_ble_eq_true rfl) (Nat.le_of_ble_eq_true rfl) hq
  · rw [if_neg c8] at h
    refine aw_iconst (pc := 38) (v := 0) hM dX9_append_38 (by decide) ?_
    obtain rfl := Option.some.inj h
    exact aw_iret (pc := 39) hM dX9_append_39 (Nat.le_of_ble_eq_true rfl) (Nat.le_of_ble_eq_true rfl) hq
set_option maxRecDepth 20000 in
theorem k_X9_append {C : CX} {F : MM} {G : GG} {p0 : Int32} {r : (Int32 × MM)} (h : s_X9_append F p0 = some r) : AM C yX9_append cX9_append 2 (some .int) rmX9_append [.ref 164, .int p0] F G (fun o F9 G9 => o = (.inl (some (.int r.1))) ∧ F9 = r.2 ∧ G9 = G) := by
  refine am_of (L := [some (.ref 164), some (.int p0)]) (by decide) (Nat.le_of_ble_eq_true rfl) rfl (fun M hM hT => ?_)
  have hM : MOk C RX9 cX9_append 2 (some .int) rmX9_append M := hM
  obtain ⟨Q, hQ⟩ : ∃ Q : OUT → MM → GG → Prop, Q = (fun o F9 G9 => o = (.inl (some (.int r.1))) ∧ F9 = r.2 ∧ G9 = G) := ⟨_, rfl⟩
  have hq : Q (.inl (some (.int r.1))) r.2 G := by rw [hQ]; exact ⟨rfl, rfl, rfl⟩
  rw [← hQ]
  clear hQ
  rw [s_X9_append] at h
  refine aw_aload_n (pc := 0) (i := 0) (x := 164) hM dX9_append_0 rfl rfl ?_
  refine aw_iload_n (pc := 1) (i := 1) (x := p0) hM dX9_append_1 rfl rfl ?_
  refine aw_i2l (pc := 2) hM dX9_append_2 ?_
  refine aw_lconst (pc := 3) (v := 0) hM dX9_append_3 (by decide) ?_
  refine aw_ldc2 (pc := 4) hM gw_1115 dX9_append_4 ?_
  obtain ⟨r2, h1, h⟩ := bind_some h
  refine aw_cs1 (pc := 7) (n := 3) (As := [.long (Int32.toInt64 p0), .long 0, .long 255]) (st := [.ref 164]) (vo := (some (.int r2))) (c2 := 0) (s2 := 0) hM (k_X9_in h1) rfl cw_X9_82 (by decide +kernel) rfl rfl ⟨(Nat.le_of_ble_eq_true rfl), (Nat.le_of_ble_eq_true rfl)⟩ (Nat.le_of_ble_eq_true rfl) ⟨(Nat.le_of_ble_eq_true rfl), (Nat.le_of_ble_eq_true rfl)⟩ dX9_append_7 rfl rfl ?_
  refine aw_if_ne (pc := 10) (tgt := 17) hM dX9_append_10 (by decide) (fun c3 => ?_) (fun c3 => ?_)
  · rw [if_neg c3] at h
    refine aw_aload_n (pc := 17) (i := 0) (x := 164) hM dX9_append_17 rfl rfl ?_
    refine aw_getI (pc := 18) hM fd_X9_90 sk_164 rfl dX9_append_18 ?_
    refine aw_sipush (pc := 21) (v := 160) hM dX9_append_21 (by decide) ?_
    refine aw_icmp_ne (pc := 24) (tgt := 31) hM dX9_append_24 (by decide) (fun c4 => ?_) (fun c4 => ?_)
    · rw [if_neg c4] at h
      refine aw_iconst (pc := 31) (v := 0) hM dX9_append_31 (by decide) ?_
      exact k_X9_append_b32 hM hT hq F p0 0 h
    · rw [if_pos c4] at h
      refine aw_iconst (pc := 27) (v := 2) hM dX9_append_27 (by decide) ?_
      refine aw_goto (pc := 28) (tgt := 32) hM dX9_append_28 (by decide) ?_
      exact k_X9_append_b32 hM hT hq F p0 2 h
  · rw [if_pos c3] at h
    refine aw_iconst (pc := 13) (v := 1) hM dX9_append_13 (by decide) ?_
    refine aw_goto (pc := 14) (tgt := 32) hM dX9_append_14 (by decide) ?_
    exact k_X9_append_b32 hM hT hq F p0 1 h
def rmX9_isPart : Room := { frames := 1, cells := 0, slots := 0, locals := 25 }
def s_X9_isPart (F : MM) (p0 : Int32) : Option Int32 := (s_X9_in F (Int32.toInt64 p0) 0 (Int32.toInt64 ((F 164 5) - 1))).bind (fun r2 => if r2 &&& 1 = r2 then (some r2) else none)
set_option maxRecDepth 20000 in
theorem k_X9_isPart {C : CX} {F : MM} {G : GG} {p0 : Int32} {r : Int32} (h : s_X9_isPart F p0 = some r) : AM C yX9_isPart cX9_isPart 2 (some .boolean) rmX9_isPart [.ref 164, .int p0] F G (fun o F9 G9 => o = (.inl (some (.int r))) ∧ F9 = F ∧ G9 = G) := by
  refine am_of (L := [some (.ref 164), some (.int p0)]) (by decide) (Nat.le_of_ble_eq_true rfl) rfl (fun M hM hT => ?_)
  have hM : MOk C RX9 cX9_isPart 2 (some .boolean) rmX9_isPart M := hM
  obtain ⟨Q, hQ⟩ : ∃ Q : OUT → MM → GG → Prop, Q = (fun o F9 G9 => o = (.inl (some (.int r))) ∧ F9 = F ∧ G9 = G) := ⟨_, rfl⟩
  have hq : Q (.inl (some (.int r))) F G := by rw [hQ]; exact ⟨rfl, rfl, rfl⟩
  rw [← hQ]
  clear hQ
  rw [s_X9_isPart] at h
  refine aw_iload_n (pc := 0) (i := 1) (x := p0) hM dX9_isPart_0 rfl rfl ?_
  refine aw_i2l (pc := 1) hM dX9_isPart_1 ?_
  refine aw_lconst (pc := 2) (v := 0) hM dX9_isPart_2 (by decide) ?_
  refine aw_aload_n (pc := 3) (i := 0) (x := 164) hM dX9_isPart_3 rfl rfl ?_
  refine aw_getI (pc := 4) hM fd_X9_17 sk_164 rfl dX9_isPart_4 ?_
  refine aw_iconst (pc := 7) (v := 1) hM dX9_isPart_7 (by decide) ?_
  refine aw_isub (pc := 8) hM dX9_isPart_8 ?_
  refine aw_i2l (pc := 9) hM dX9_isPart_9 ?_
  obtain ⟨r2, h1, h⟩ := bind_some h
  refine aw_cs1 (pc := 10) (n := 3) (As := [.long (Int32.toInt64 p0), .long 0, .long (Int32.toInt64 ((F 164 5) - 1))]) (st := []) (vo := (some (.int r2))) (c2 := 0) (s2 := 0) hM (k_X9_in h1) rfl cw_X9_82 (by decide +kernel) rfl rfl ⟨(Nat.le_of_ble_eq_true rfl), (Nat.le_of_ble_eq_true rfl)⟩ (Nat.le_of_ble_eq_true rfl) ⟨(Nat.le_of_ble_eq_true rfl), (Nat.le_of_ble_eq_true rfl)⟩ dX9_isPart_10 rfl rfl ?_
  obtain ⟨c3, h⟩ := ite_some h
  obtain rfl := Option.some.inj h
  exact aw_zret (pc := 13) hM dX9_isPart_13 c3 (Nat.le_of_ble_eq_true rfl) (Nat.le_of_ble_eq_true rfl) hq
def rmX9_isVersion : Room := { frames := 1, cells := 0, slots := 0, locals := 25 }
def s_X9_isVersion (F : MM) (p0 : Int32) : Option Int32 := (s_X9_in F (Int32.toInt64 p0) 0 3).bind (fun r2 => if r2 &&& 1 = r2 then (some r2) else none)
set_option maxRecDepth 20000 in
theorem k_X9_isVersion {C : CX} {F : MM} {G : GG} {p0 : Int32} {r : Int32} (h : s_X9_isVersion F p0 = some r) : AM C yX9_isVersion cX9_isVersion 1 (some .boolean) rmX9_isVersion [.int p0] F G (fun o F9 G9 => o = (.inl (some (.int r))) ∧ F9 = F ∧ G9 = G) := by
  refine am_of (L := [some (.int p0)]) (by decide) (Nat.le_of_ble_eq_true rfl) rfl (fun M hM hT => ?_)
  have hM : MOk C RX9 cX9_isVersion 1 (some .boolean) rmX9_isVersion M := hM
  obtain ⟨Q, hQ⟩ : ∃ Q : OUT → MM → GG → Prop, Q = (fun o F9 G9 => o = (.inl (some (.int r))) ∧ F9 = F ∧ G9 = G) := ⟨_, rfl⟩
  have hq : Q (.inl (some (.int r))) F G := by rw [hQ]; exact ⟨rfl, rfl, rfl⟩
  rw [← hQ]
  clear hQ
  rw [s_X9_isVersion] at h
  refine aw_iload_n (pc := 0) (i := 0) (x := p0) hM dX9_isVersion_0 rfl rfl ?_
  refine aw_i2l (pc := 1) hM dX9_isVersion_1 ?_
  refine aw_lconst (pc := 2) (v := 0) hM dX9_isVersion_2 (by decide) ?_
  refine aw_ldc2 (pc := 3) hM gw_1240 dX9_isVersion_3 ?_
  obtain ⟨r2, h1, h⟩ := bind_some h
  refine aw_cs1 (pc := 6) (n := 3) (As := [.long (Int32.toInt64 p0), .long 0, .long 3]) (st := []) (vo := (some (.int r2))) (c2 := 0) (s2 := 0) hM (k_X9_in h1) rfl cw_X9_82 (by decide +kernel) rfl rfl ⟨(Nat.le_of_ble_eq_true rfl), (Nat.le_of_ble_eq_true rfl)⟩ (Nat.le_of_ble_eq_true rfl) ⟨(Nat.le_of_ble_eq_true rfl), (Nat.le_of_ble_eq_true rfl)⟩ dX9_isVersion_6 rfl rfl ?_
  obtain ⟨c3, h⟩ := ite_some h
  obtain rfl := Option.some.inj h
  exact aw_zret (pc := 9) hM dX9_isVersion_9 c3 (Nat.le_of_ble_eq_true rfl) (Nat.le_of_ble_eq_true rfl) hq
def rmX9_approvals : Room := { frames := 2, cells := 0, slots := 0, locals := 46 }
def s_X9_approvals (F : MM) (p0 : Int32) (p1 : Int32) : Option (Int32 × MM) := (s_X9_isPart F p0).bind (fun r2 => if r2 = 0 then (s_X9_refused F 1).bind (fun z23 => if z23.1 = 0 then (s_X9_partAt z23.2 p0).bind (fun r26 => if inb ((r26 + 1) + p1) 107 then (some (z23.2 171 (ix ((r26 + 1) + p1)), z23.2)) else none) else some (0, z23.2)) else (s_X9_isVersion F p1).bind (fun r5 => if r5 = 0 then (s_X9_refused F 2).bind (fun z16 => if z16.1 = 0 then (s_X9_partAt z16.2 p0).bind (fun r19 => if inb ((r19 + 1) + p1) 107 then (some (z16.2 171 (ix ((r19 + 1) + p1)), z16.2)) else none) else some (0, z16.2)) else (s_X9_refused F 0).bind (fun z9 => if z9.1 = 0 then (s_X9_partAt z9.2 p0).bind (fun r12 => if inb ((r12 + 1) + p1) 107 then (some (z9.2 171 (ix ((r12 + 1) + p1)), z9.2)) else none) else some (0, z9.2))))
set_option maxRecDepth 20000 in
theorem k_X9_approvals {C : CX} {F : MM} {G : GG} {p0 : Int32} {p1 : Int32} {r : (Int32 × MM)} (h : s_X9_approvals F p0 p1 = some r) : AM C yX9_approvals cX9_approvals 3 (some .int) rmX9_approvals [.ref 164, .int p0, .int p1] F G (fun o F9 G9 => o = (.inl (some (.int r.1))) ∧ F9 = r.2 ∧ G9 = G) := by
  refine am_of (L := [some (.ref 164), some (.int p0), some (.int p1)]) (by decide) (Nat.le_of_ble_eq_true rfl) rfl (fun M hM hT => ?_)
  have hM : MOk C RX9 cX9_approvals 3 (some .int) rmX9_approvals M := hM
  obtain ⟨Q, hQ⟩ : ∃ Q : OUT → MM → GG → Prop, Q = (fun o F9 G9 => o = (.inl (some (.int r.1))) ∧ F9 = r.2 ∧ G9 = G) := ⟨_, rfl⟩
  have hq : Q (.inl (some (.int r.1))) r.2 G := by rw [hQ]; exact ⟨rfl, rfl, rfl⟩
  rw [← hQ]
  clear hQ
  rw [s_X9_approvals] at h
  refine aw_aload_n (pc := 0) (i := 0) (x := 164) hM dX9_approvals_0 rfl rfl ?_
  refine aw_aload_n (pc := 1) (i := 0) (x := 164) hM dX9_approvals_1 rfl rfl ?_
  refine aw_iload_n (pc := 2) (i := 1) (x := p0) hM dX9_approvals_2 rfl rfl ?_
  obtain ⟨r2, h1, h⟩ := bind_some h
  refine aw_cv1 (pc := 3) (n := 1) (As := [.int p0]) (st := [.ref 164]) (b := 164) (vo := (some (.int r2))) (c2 := 0) (s2 := 0) hM (k_X9_isPart h1) rfl cw_X9_211 sk_164 rfl rfl (by decide +kernel) rfl rfl ⟨(Nat.le_of_ble_eq_true rfl), (Nat.le_of_ble_eq_true rfl)⟩ (Nat.le_of_ble_eq_true rfl) ⟨(Nat.le_of_ble_eq_true rfl), (Nat.le_of_ble_eq_true rfl)⟩ dX9_approvals_3 rfl rfl ?_
  refine aw_if_ne (pc := 6) (tgt := 13) hM dX9_approvals_6 (by decide) (fun c3 => ?_) (fun c3 => ?_)
  · rw [if_neg c3] at h
    refine aw_iload_n (pc := 13) (i := 2) (x := p1) hM dX9_approvals_13 rfl rfl ?_
    obtain ⟨r5, h4, h⟩ := bind_some h
    refine aw_cs1 (pc := 14) (n := 1) (As := [.int p1]) (st := [.ref 164]) (vo := (some (.int r5))) (c2 := 0) (s2 := 0) hM (k_X9_isVersion h4) rfl cw_X9_216 (by decide +kernel) rfl rfl ⟨(Nat.le_of_ble_eq_true rfl), (Nat.le_of_ble_eq_true rfl)⟩ (Nat.le_of_ble_eq_true rfl) ⟨(Nat.le_of_ble_eq_true rfl), (Nat.le_of_ble_eq_true rfl)⟩ dX9_approvals_14 rfl rfl ?_
    refine aw_if_ne (pc := 17) (tgt := 24) hM dX9_approvals_17 (by decide) (fun c6 => ?_) (fun c6 => ?_)
    · rw [if_neg c6] at h
      refine aw_iconst (pc := 24) (v := 0) hM dX9_approvals_24 (by decide) ?_
      obtain ⟨z9, h7, h⟩ := bind_some h
      refine aw_cv1 (pc := 25) (n := 1) (As := [.int 0]) (st := []) (b := 164) (vo := (some (.int z9.1))) (c2 := 0) (s2 := 0) hM (k_X9_refused h7) rfl cw_X9_93 sk_164 rfl rfl (by decide +kernel) rfl rfl ⟨(Nat.le_of_ble_eq_true rfl), (Nat.le_of_ble_eq_true rfl)⟩ (Nat.le_of_ble_eq_true rfl) ⟨(Nat.le_of_ble_eq_true rfl), (Nat.le_of_ble_eq_true rfl)⟩ dX9_approvals_25 rfl rfl ?_
      refine aw_if_eq (pc := 28) (tgt := 33) hM dX9_approvals_28 (by decide) (fun c10 => ?_) (fun c10 => ?_)
      · rw [if_pos c10] at h
        refine aw_aload_n (pc := 33) (i := 0) (x := 164) hM dX9_approvals_33 rfl rfl ?_
        refine aw_getR (pc := 34) (r := 171) hM fd_X9_41 sk_164 rfl dX9_approvals_34 ?_
        refine aw_iload_n (pc := 37) (i := 1) (x := p0) hM dX9_approvals_37 rfl rfl ?_
        obtain ⟨r12, h11, h⟩ := bind_some h
        refine aw_cs1 (pc := 38) (n := 1) (As := [.int p0]) (st := [.ref 171]) (vo := (some (.int r12))) (c2 := 0) (s2 := 0) hM (k_X9_partAt h11) rfl cw_X9_119 (by decide +kernel) rfl rfl ⟨(Nat.le_of_ble_eq_true rfl), (Nat.le_of_ble_eq_true rfl)⟩ (Nat.le_of_ble_eq_true rfl) ⟨(Nat.le_of_ble_eq_true rfl), (Nat.le_of_ble_eq_true rfl)⟩ dX9_approvals_38 rfl rfl ?_
        refine aw_iconst (pc := 41) (v := 1) hM dX9_approvals_41 (by decide) ?_
        refine aw_iadd (pc := 42) hM dX9_approvals_42 ?_
        refine aw_iload_n (pc := 43) (i := 2) (x := p1) hM dX9_approvals_43 rfl rfl ?_
        refine aw_iadd (pc := 44) hM dX9_approvals_44 ?_
        obtain ⟨c13, h⟩ := ite_some h
        refine aw_iald (pc := 45) hM sk_171 c13 dX9_approvals_45 ?_
        obtain rfl := Option.some.inj h
        exact aw_iret (pc := 46) hM dX9_approvals_46 (Nat.le_of_ble_eq_true rfl) (Nat.le_of_ble_eq_true rfl) hq
      · rw [if_neg c10] at h
        refine aw_iconst (pc := 31) (v := 0) hM dX9_approvals_31 (by decide) ?_
        obtain rfl := Option.some.inj h
        exact aw_iret (pc := 32) hM dX9_approvals_32 (Nat.le_of_ble_eq_true rfl) (Nat.le_of_ble_eq_true rfl) hq
    · rw [if_pos c6] at h
      refine aw_iconst (pc := 20) (v := 2) hM dX9_approvals_20 (by decide) ?_
      refine aw_goto (pc := 21) (tgt := 25) hM dX9_approvals_21 (by decide) ?_
      obtain ⟨z16, h14, h⟩ := bind_some h
      refine aw_cv1 (pc := 25) (n := 1) (As := [.int 2]) (st := []) (b := 164) (vo := (some (.int z16.1))) (c2 := 0) (s2 := 0) hM (k_X9_refused h14) rfl cw_X9_93 sk_164 rfl rfl (by decide +kernel) rfl rfl ⟨(Nat.le_of_ble_eq_true rfl), (Nat.le_of_ble_eq_true rfl)⟩ (Nat.le_of_ble_eq_true rfl) ⟨(Nat.le_of_ble_eq_true rfl), (Nat.le_of_ble_eq_true rfl)⟩ dX9_approvals_25 rfl rfl ?_
      refine aw_if_eq (pc := 28) (tgt := 33) hM dX9_approvals_28 (by decide) (fun c17 => ?_) (fun c17 => ?_)
      · rw [if_pos c17] at h
        refine aw_aload_n (pc := 33) (i := 0) (x := 164) hM dX9_approvals_33 rfl rfl ?_
        refine aw_getR (pc := 34) (r := 171) hM fd_X9_41 sk_164 rfl dX9_approvals_34 ?_
        refine aw_iload_n (pc := 37) (i := 1) (x := p0) hM dX9_approvals_37 rfl rfl ?_
        obtain ⟨r19, h18, h⟩ := bind_some h
        refine aw_cs1 (pc := 38) (n := 1) (As := [.int p0]) (st := [.ref 171]) (vo := (some (.int r19))) (c2 := 0) (s2 := 0) hM (k_X9_partAt h18) rfl cw_X9_119 (by decide +kernel) rfl rfl ⟨(Nat.le_of_ble_eq_true rfl), (Nat.le_of_ble_eq_true rfl)⟩ (Nat.le_of_ble_eq_true rfl) ⟨(Nat.le_of_ble_eq_true rfl), (Nat.le_of_ble_eq_true rfl)⟩ dX9_approvals_38 rfl rfl ?_
        refine aw_iconst (pc := 41) (v := 1) hM dX9_approvals_41 (by decide) ?_
        refine aw_iadd (pc := 42) hM dX9_approvals_42 ?_
        refine aw_iload_n (pc := 43) (i := 2) (x := p1) hM dX9_approvals_43 rfl rfl ?_
        refine aw_iadd (pc := 44) hM dX9_approvals_44 ?_
        obtain ⟨c20, h⟩ := ite_some h
        refine aw_iald (pc := 45) hM sk_171 c20 dX9_approvals_45 ?_
        obtain rfl := Option.some.inj h
        exact aw_iret (pc := 46) hM dX9_approvals_46 (Nat.le_of_ble_eq_true rfl) (Nat.le_of_ble_eq_true rfl) hq
      · rw [if_neg c17] at h
        refine aw_iconst (pc := 31) (v := 0) hM dX9_approvals_31 (by decide) ?_
        obtain rfl := Option.some.inj h
        exact aw_iret (pc := 32) hM dX9_approvals_32 (Nat.le_of_ble_eq_true rfl) (Nat.le_of_ble_eq_true rfl) hq
  · rw [if_pos c3] at h
    refine aw_iconst (pc := 9) (v := 1) hM dX9_approvals_9 (by decide) ?_
    refine aw_goto (pc := 10) (tgt := 25) hM dX9_approvals_10 (by decide) ?_
    obtain ⟨z23, h21, h⟩ := bind_some h
    refine aw_cv1 (pc := 25) (n := 1) (As := [.int 1]) (st := []) (b := 164) (vo := (some (.int z23.1))) (c2 := 0) (s2 := 0) hM (k_X9_refused h21) rfl cw_X9_93 sk_164 rfl rfl (by decide +kernel) rfl rfl ⟨(Nat.le_of_ble_eq_true rfl), (Nat.le_of_ble_eq_true rfl)⟩ (Nat.le_of_ble_eq_true rfl) ⟨(Nat.le_of_ble_eq_true rfl), (Nat.le_of_ble_eq_true rfl)⟩ dX9_approvals_25 rfl rfl ?_
    refine aw_if_eq (pc := 28) (tgt := 33) hM dX9_approvals_28 (by decide) (fun c24 => ?_) (fun c24 => ?_)
    · rw [if_pos c24] at h
      refine aw_aload_n (pc := 33) (i := 0) (x := 164) hM dX9_approvals_33 rfl rfl ?_
      refine aw_getR (pc := 34) (r := 171) hM fd_X9_41 sk_164 rfl dX9_approvals_34 ?_
      refine aw_iload_n (pc := 37) (i := 1) (x := p0) hM dX9_approvals_37 rfl rfl ?_
      obtain ⟨r26, h25, h⟩ := bind_some h
      refine aw_cs1 (pc := 38) (n := 1) (As := [.int p0]) (st := [.ref 171]) (vo := (some (.int r26))) (c2 := 0) (s2 := 0) hM (k_X9_partAt h25) rfl cw_X9_119 (by decide +kernel) rfl rfl ⟨(Nat.le_of_ble_eq_true rfl), (Nat.le_of_ble_eq_true rfl)⟩ (Nat.le_of_ble_eq_true rfl) ⟨(Nat.le_of_ble_eq_true rfl), (Nat.le_of_ble_eq_true rfl)⟩ dX9_approvals_38 rfl rfl ?_
      refine aw_iconst (pc := 41) (v := 1) hM dX9_approvals_41 (by decide) ?_
      refine aw_iadd (pc := 42) hM dX9_approvals_42 ?_
      refine aw_iload_n (pc := 43) (i := 2) (x := p1) hM dX9_approvals_43 rfl rfl ?_
      refine aw_iadd (pc := 44) hM dX9_approvals_44 ?_
      obtain ⟨c27, h⟩ := ite_some h
      refine aw_iald (pc := 45) hM sk_171 c27 dX9_approvals_45 ?_
      obtain rfl := Option.some.inj h
      exact aw_iret (pc := 46) hM dX9_approvals_46 (Nat.le_of_ble_eq_true rfl) (Nat.le_of_ble_eq_true rfl) hq
    · rw [if_neg c24] at h
      refine aw_iconst (pc := 31) (v := 0) hM dX9_approvals_31 (by decide) ?_
      obtain rfl := Option.some.inj h
      exact aw_iret (pc := 32) hM dX9_approvals_32 (Nat.le_of_ble_eq_true rfl) (Nat.le_of_ble_eq_true rfl) hq
def rmX9_note : Room := { frames := 1, cells := 0, slots := 0, locals := 25 }
def s_X9_note_b36 (F : MM) : Option MM := (s_X9_copy F 171 0 173 (107 * (F 164 22)) 107).bind (fun F7 => (some (mup F7 164 22 ((F7 164 22) + 1))).bind (fun F8 => some F8))
def s_X9_note (F : MM) : Option MM := if (F 164 22) = 14 then (s_X9_copy F 173 107 173 0 1391).bind (fun F3 => (some (mup F3 164 22 ((F3 164 22) - 1))).bind (fun F4 => s_X9_note_b36 F4)) else s_X9_note_b36 F
set_option maxRecDepth 20000 in
theorem k_X9_note_b36 {C : CX} {M : MX} {G : GG} {Q : OUT → MM → GG → Prop} {r : MM} (hM : MOk C RX9 cX9_note 1 none rmX9_note M) (hT : MNoT M) (hq : Q (.inl none) r G) (F : MM) (h : s_X9_note_b36 F = some r) : AW C 1 (ZM C rmX9_note Q M) M 0 0 36 [some (.ref 164)] [] F G := by
  rw [s_X9_note_b36] at h
  refine aw_aload_n (pc := 36) (i := 0) (x := 164) hM dX9_note_36 rfl rfl ?_
  refine aw_getR (pc := 37) (r := 171) hM fd_X9_41 sk_164 rfl dX9_note_37 ?_
  refine aw_iconst (pc := 40) (v := 0) hM dX9_note_40 (by decide) ?_
  refine aw_aload_n (pc := 41) (i := 0) (x := 164) hM dX9_note_41 rfl rfl ?_
  refine aw_getR (pc := 42) (r := 173) hM fd_X9_47 sk_164 rfl dX9_note_42 ?_
  refine aw_bipush (pc := 45) (v := 107) hM dX9_note_45 (by decide) ?_
  refine aw_aload_n (pc := 47) (i := 0) (x := 164) hM dX9_note_47 rfl rfl ?_
  refine aw_getI (pc := 48) hM fd_X9_72 sk_164 rfl dX9_note_48 ?_
  refine aw_imul (pc := 51) hM dX9_note_51 ?_
  refine aw_bipush (pc := 52) (v := 107) hM dX9_note_52 (by decide) ?_
  obtain ⟨F7, h6, h⟩ := bind_some h
  refine aw_cs1 (pc := 54) (n := 5) (As := [.ref 171, .int 0, .ref 173, .int (107 * (F 164 22)), .int 107]) (st := []) (vo := none) (c2 := 0) (s2 := 0) hM (k_X9_copy (ia_of sk_171) (ia_of sk_173) h6) rfl cw_X9_75 (by decide +kernel) rfl rfl ⟨(Nat.le_of_ble_eq_true rfl), (Nat.le_of_ble_eq_true rfl)⟩ (Nat.le_of_ble_eq_true rfl) ⟨(Nat.le_of_ble_eq_true rfl), (Nat.le_of_ble_eq_true rfl)⟩ dX9_note_54 rfl rfl ?_
  refine aw_aload_n (pc := 57) (i := 0) (x := 164) hM dX9_note_57 rfl rfl ?_
  refine aw_dup (pc := 58) hM dX9_note_58 rfl ?_
  refine aw_getI (pc := 59) hM fd_X9_72 sk_164 rfl dX9_note_59 ?_
  refine aw_iconst (pc := 62) (v := 1) hM dX9_note_62 (by decide) ?_
  refine aw_iadd (pc := 63) hM dX9_note_63 ?_
  obtain ⟨F8, e9, h⟩ := bind_some h
  have e9 := Option.some.inj e9
  refine aw_put (pc := 64) (ty := .int) hM fd_X9_72 tyX9_ok nmX9 rfl (by decide +kernel) rfl rfl sk_164 rfl dX9_note_64 ?_
  refine aw_mem e9 ?_
  obtain rfl := Option.some.inj h
  exact aw_vret (pc := 67) hM dX9_note_67 (Nat.le_of_ble_eq_true rfl) (Nat.le_of_ble_eq_true rfl) hq
set_option maxRecDepth 20000 in
theorem k_X9_note {C : CX} {F : MM} {G : GG} {r : MM} (h : s_X9_note F = some r) : AM C yX9_note cX9_note 1 none rmX9_note [.ref 164] F G (fun o F9 G9 => o = (.inl none) ∧ F9 = r ∧ G9 = G) := by
  refine am_of (L := [some (.ref 164)]) (by decide) (Nat.le_of_ble_eq_true rfl) rfl (fun M hM hT => ?_)
  have hM : MOk C RX9 cX9_note 1 none rmX9_note M := hM
  obtain ⟨Q, hQ⟩ : ∃ Q : OUT → MM → GG → Prop, Q = (fun o F9 G9 => o = (.inl none) ∧ F9 = r ∧ G9 = G) := ⟨_, rfl⟩
  have hq : Q (.inl none) r G := by rw [hQ]; exact ⟨rfl, rfl, rfl⟩
  rw [← hQ]
  clear hQ
  rw [s_X9_note] at h
  refine aw_aload_n (pc := 0) (i := 0) (x := 164) hM dX9_note_0 rfl rfl ?_
  refine aw_getI (pc := 1) hM fd_X9_72 sk_164 rfl dX9_note_1 ?_
  refine aw_bipush (pc := 4) (v := 14) hM dX9_note_4 (by decide) ?_
  refine aw_icmp_ne (pc := 6) (tgt := 36) hM dX9_note_6 (by decide) (fun c1 => ?_) (fun c1 => ?_)
  · rw [if_neg c1] at h
    exact k_X9_note_b36 hM hT hq F h
  · rw [if_pos c1] at h
    refine aw_aload_n (pc := 9) (i := 0) (x := 164) hM dX9_note_9 rfl rfl ?_
    refine aw_getR (pc := 10) (r := 173) hM fd_X9_47 sk_164 rfl dX9_note_10 ?_
    refine aw_bipush (pc := 13) (v := 107) hM dX9_note_13 (by decide) ?_
    refine aw_aload_n (pc := 15) (i := 0) (x := 164) hM dX9_note_15 rfl rfl ?_
    refine aw_getR (pc := 16) (r := 173) hM fd_X9_47 sk_164 rfl dX9_note_16 ?_
    refine aw_iconst (pc := 19) (v := 0) hM dX9_note_19 (by decide) ?_
    refine aw_sipush (pc := 20) (v := 1391) hM dX9_note_20 (by decide) ?_
    obtain ⟨F3, h2, h⟩ := bind_some h
    refine aw_cs1 (pc := 23) (n := 5) (As := [.ref 173, .int 107, .ref 173, .int 0, .int 1391]) (st := []) (vo := none) (c2 := 0) (s2 := 0) hM (k_X9_copy (ia_of sk_173) (ia_of sk_173) h2) rfl cw_X9_75 (by decide +kernel) rfl rfl ⟨(Nat.le_of_ble_eq_true rfl), (Nat.le_of_ble_eq_true rfl)⟩ (Nat.le_of_ble_eq_true rfl) ⟨(Nat.le_of_ble_eq_true rfl), (Nat.le_of_ble_eq_true rfl)⟩ dX9_note_23 rfl rfl ?_
    refine aw_aload_n (pc := 26) (i := 0) (x := 164) hM dX9_note_26 rfl rfl ?_
    refine aw_dup (pc := 27) hM dX9_note_27 rfl ?_
    refine aw_getI (pc := 28) hM fd_X9_72 sk_164 rfl dX9_note_28 ?_
    refine aw_iconst (pc := 31) (v := 1) hM dX9_note_31 (by decide) ?_
    refine aw_isub (pc := 32) hM dX9_note_32 ?_
    obtain ⟨F4, e5, h⟩ := bind_some h
    have e5 := Option.some.inj e5
    refine aw_put (pc := 33) (ty := .int) hM fd_X9_72 tyX9_ok nmX9 rfl (by decide +kernel) rfl rfl sk_164 rfl dX9_note_33 ?_
    refine aw_mem e5 ?_
    exact k_X9_note_b36 hM hT hq F4 h
def rmX9_approve : Room := { frames := 2, cells := 0, slots := 0, locals := 46 }
def s_X9_approve_b74 (F : MM) (x1 : Int32) (x2 : Int32) (x3 : Int32) (t0 : Int32) : Option (Int32 × MM) := (s_X9_refused F t0).bind (fun z17 => if z17.1 = 0 then (s_X9_note z17.2).bind (fun F20 => (s_X9_partAt F20 x1).bind (fun r22 => if inb ((r22 + 1) + x2) 107 then (if inb ((r22 + 1) + x2) 107 then ((some (mup F20 171 (ix ((r22 + 1) + x2)) ((F20 171 (ix ((r22 + 1) + x2))) ||| ((1 : Int32) <<< (x3 &&& 31))))).bind (fun F25 => (s_X9_partAt F25 x1).bind (fun r28 => if inb ((r28 + 1) + x2) 107 then ((s_X9_ones F25 (F25 171 (ix ((r28 + 1) + x2)))).bind (fun r31 => some (r31, F25))) else none))) else none) else none)) else some (0, z17.2))
def s_X9_approve_b25 (F : MM) (x1 : Int32) (x2 : Int32) (x3 : Int32) (t0 : Int32) : Option (Int32 × MM) := if t0 = 0 then s_X9_approve_b74 F x1 x2 x3 1 else (s_X9_isVersion F x2).bind (fun r9 => if r9 = 0 then s_X9_approve_b74 F x1 x2 x3 2 else (s_X9_partAt F x1).bind (fun r12 => if inb ((r12 + 1) + x2) 107 then (if (((F 171 (ix ((r12 + 1) + x2))) >>> (x3 &&& 31)) &&& 1) = 1 then s_X9_approve_b74 F x1 x2 x3 3 else s_X9_approve_b74 F x1 x2 x3 0) else none))
def s_X9_approve (F : MM) (p0 : Int32) (p1 : Int32) (p2 : Int32) : Option (Int32 × MM) := (s_X9_isPart F p0).bind (fun r2 => if r2 = 0 then s_X9_approve_b25 F p0 p1 p2 0 else (s_X9_in F (Int32.toInt64 p2) 0 4).bind (fun r5 => if r5 = 0 then s_X9_approve_b25 F p0 p1 p2 0 else s_X9_approve_b25 F p0 p1 p2 1))
set_option maxRecDepth 20000 in
theorem k_X9_approve_b74 {C : CX} {M : MX} {G : GG} {Q : OUT → MM → GG → Prop} {r : (Int32 × MM)} (hM : MOk C RX9 cX9_approve 5 (some .int) rmX9_approve M) (hT : MNoT M) (hq : Q (.inl (some (.int r.1))) r.2 G) (F : MM) (x1 : Int32) (x2 : Int32) (x3 : Int32) (t0 : Int32) (h : s_X9_approve_b74 F x1 x2 x3 t0 = some r) : AW C 5 (ZM C rmX9_approve Q M) M 0 0 74 [some (.ref 164), some (.int x1), some (.int x2), some (.int x3), none] [.int t0, .ref 164] F G := by
  rw [s_X9_approve_b74] at h
  obtain ⟨z17, h15, h⟩ := bind_some h
  refine aw_cv1 (pc := 74) (n := 1) (As := [.int t0]) (st := []) (b := 164) (vo := (some (.int z17.1))) (c2 := 0) (s2 := 0) hM (k_X9_refused h15) rfl cw_X9_93 sk_164 rfl rfl (by decide +kernel) rfl rfl ⟨(Nat.le_of_ble_eq_true rfl), (Nat.le_of_ble_eq_true rfl)⟩ (Nat.le_of_ble_eq_true rfl) ⟨(Nat.le_of_ble_eq_true rfl), (Nat.le_of_ble_eq_true rfl)⟩ dX9_approve_74 rfl rfl ?_
  refine aw_if_eq (pc := 77) (tgt := 82) hM dX9_approve_77 (by decide) (fun c18 => ?_) (fun c18 => ?_)
  · rw [if_pos c18] at h
    refine aw_aload_n (pc := 82) (i := 0) (x := 164) hM dX9_approve_82 rfl rfl ?_
    obtain ⟨F20, h19, h⟩ := bind_some h
    refine aw_cv1 (pc := 83) (n := 0) (As := []) (st := []) (b := 164) (vo := none) (c2 := 0) (s2 := 0) hM (k_X9_note h19) rfl cw_X9_79 sk_164 rfl rfl (by decide +kernel) rfl rfl ⟨(Nat.le_of_ble_eq_true rfl), (Nat.le_of_ble_eq_true rfl)⟩ (Nat.le_of_ble_eq_true rfl) ⟨(Nat.le_of_ble_eq_true rfl), (Nat.le_of_ble_eq_true rfl)⟩ dX9_approve_83 rfl rfl ?_
    refine aw_aload_n (pc := 86) (i := 0) (x := 164) hM dX9_approve_86 rfl rfl ?_
    refine aw_getR (pc := 87) (r := 171) hM fd_X9_41 sk_164 rfl dX9_approve_87 ?_
    refine aw_iload_n (pc := 90) (i := 1) (x := x1) hM dX9_approve_90 rfl rfl ?_
    obtain ⟨r22, h21, h⟩ := bind_some h
    refine aw_cs1 (pc := 91) (n := 1) (As := [.int x1]) (st := [.ref 171]) (vo := (some (.int r22))) (c2 := 0) (s2 := 0) hM (k_X9_partAt h21) rfl cw_X9_119 (by decide +kernel) rfl rfl ⟨(Nat.le_of_ble_eq_true rfl), (Nat.le_of_ble_eq_true rfl)⟩ (Nat.le_of_ble_eq_true rfl) ⟨(Nat.le_of_ble_eq_true rfl), (Nat.le_of_ble_eq_true rfl)⟩ dX9_approve_91 rfl rfl ?_
    refine aw_iconst (pc := 94) (v := 1) hM dX9_approve_94 (by decide) ?_
    refine aw_iadd (pc := 95) hM dX9_approve_95 ?_
    refine aw_iload_n (pc := 96) (i := 2) (x := x2) hM dX9_approve_96 rfl rfl ?_
    refine aw_iadd (pc := 97) hM dX9_approve_97 ?_
    refine aw_dup2 (pc := 98) hM dX9_approve_98 rfl rfl ?_
    obtain ⟨c23, h⟩ := ite_some h
    refine aw_iald (pc := 99) hM sk_171 c23 dX9_approve_99 ?_
    refine aw_iconst (pc := 100) (v := 1) hM dX9_approve_100 (by decide) ?_
    refine aw_iload_n (pc := 101) (i := 3) (x := x3) hM dX9_approve_101 rfl rfl ?_
    refine aw_ishl (pc := 102) hM dX9_approve_102 ?_
    refine aw_ior (pc := 103) hM dX9_approve_103 ?_
    obtain ⟨c24, h⟩ := ite_some h
    obtain ⟨F25, e26, h⟩ := bind_some h
    have e26 := Option.some.inj e26
    refine aw_iast (pc := 104) hM sk_171 c24 dX9_approve_104 ?_
    refine aw_mem e26 ?_
    refine aw_aload_n (pc := 105) (i := 0) (x := 164) hM dX9_approve_105 rfl rfl ?_
    refine aw_getR (pc := 106) (r := 171) hM fd_X9_41 sk_164 rfl dX9_approve_106 ?_
    refine aw_iload_n (pc := 109) (i := 1) (x := x1) hM dX9_approve_109 rfl rfl ?_
    obtain ⟨r28, h27, h⟩ := bind_some h
    refine aw_cs1 (pc := 110) (n := 1) (As := [.int x1]) (st := [.ref 171]) (vo := (some (.int r28))) (c2 := 0) (s2 := 0) hM (k_X9_partAt h27) rfl cw_X9_119 (by decide +kernel) rfl rfl ⟨(Nat.le_of_ble_eq_true rfl), (Nat.le_of_ble_eq_true rfl)⟩ (Nat.le_of_ble_eq_true rfl) ⟨(Nat.le_of_ble_eq_true rfl), (Nat.le_of_ble_eq_true rfl)⟩ dX9_approve_110 rfl rfl ?_
    refine aw_iconst (pc := 113) (v := 1) hM dX9_approve_113 (by decide) ?_
    refine aw_iadd (pc := 114) hM dX9_approve_114 ?_
    refine aw_iload_n (pc := 115) (i := 2) (x := x2) hM dX9_approve_115 rfl rfl ?_
    refine aw_iadd (pc := 116) hM dX9_approve_116 ?_
    obtain ⟨c29, h⟩ := ite_some h
    refine aw_iald (pc := 117) hM sk_171 c29 dX9_approve_117 ?_
    obtain ⟨r31, h30, h⟩ := bind_some h
    refine aw_cs1 (pc := 118) (n := 1) (As := [.int (F25 171 (ix ((r28 + 1) + x2)))]) (st := []) (vo := (some (.int r31))) (c2 := 0) (s2 := 0) hM (k_X9_ones h30) rfl cw_X9_167 (by decide +kernel) rfl rfl ⟨(Nat.le_of_ble_eq_true rfl), (Nat.le_of_ble_eq_true rfl)⟩ (Nat.le_of_ble_eq_true rfl) ⟨(Nat.le_of_ble_eq_true rfl), (Nat.le_of_ble_eq_true rfl)⟩ dX9_approve_118 rfl rfl ?_
    obtain rfl := Option.some.inj h
    exact aw_iret (pc := 121) hM dX9_approve_121 (Nat.le_of_ble_eq_true rfl) (Nat.le_of_ble_eq_true rfl) hq
  · rw [if_neg c18] at h
    refine aw_iconst (pc := 80) (v := 0) hM dX9_approve_80 (by decide) ?_
    obtain rfl := Option.some.inj h
    exact aw_iret (pc := 81) hM dX9_approve_81 (Nat.le_of_ble_eq_true rfl) (Nat.le_of_ble_eq_true rfl) hq
set_option maxRecDepth 20000 in
theorem k_X9_approve_b25 {C : CX} {M : MX} {G : GG} {Q : OUT → MM → GG → Prop} {r : (Int32 × MM)} (hM : MOk C RX9 cX9_approve 5 (some .int) rmX9_approve M) (hT : MNoT M) (hq : Q (.inl (some (.int r.1))) r.2 G) (F : MM) (x1 : Int32) (x2 : Int32) (x3 : Int32) (t0 : Int32) (h : s_X9_approve_b25 F x1 x2 x3 t0 = some r) : AW C 5 (ZM C rmX9_approve Q M) M 0 0 25 [some (.ref 164), some (.int x1), some (.int x2), some (.int x3), none] [.int t0] F G := by
  rw [s_X9_approve_b25] at h
  refine aw_istore (pc := 25) (i := 4) (L' := [some (.ref 164), some (.int x1), some (.int x2), some (.int x3), some (.int t0)]) hM dX9_approve_25  (by decide) rfl ?_
  refine aw_aload_n (pc := 27) (i := 0) (x := 164) hM dX9_approve_27 rfl rfl ?_
  refine aw_iload (pc := 28) (i := 4) (x := t0) hM dX9_approve_28  rfl ?_
  refine aw_if_ne (pc := 30) (tgt := 37) hM dX9_approve_30 (by decide) (fun c7 => ?_) (fun c7 => ?_)
  · rw [if_neg c7] at h
    refine aw_iload_n (pc := 37) (i := 2) (x := x2) hM dX9_approve_37 rfl rfl ?_
    obtain ⟨r9, h8, h⟩ := bind_some h
    refine aw_cs1 (pc := 38) (n := 1) (As := [.int x2]) (st := [.ref 164]) (vo := (some (.int r9))) (c2 := 0) (s2 := 0) hM (k_X9_isVersion h8) rfl cw_X9_216 (by decide +kernel) rfl rfl ⟨(Nat.le_of_ble_eq_true rfl), (Nat.le_of_ble_eq_true rfl)⟩ (Nat.le_of_ble_eq_true rfl) ⟨(Nat.le_of_ble_eq_true rfl), (Nat.le_of_ble_eq_true rfl)⟩ dX9_approve_38 rfl rfl ?_
    refine aw_if_ne (pc := 41) (tgt := 48) hM dX9_approve_41 (by decide) (fun c10 => ?_) (fun c10 => ?_)
    · rw [if_neg c10] at h
      refine aw_aload_n (pc := 48) (i := 0) (x := 164) hM dX9_approve_48 rfl rfl ?_
      refine aw_getR (pc := 49) (r := 171) hM fd_X9_41 sk_164 rfl dX9_approve_49 ?_
      refine aw_iload_n (pc := 52) (i := 1) (x := x1) hM dX9_approve_52 rfl rfl ?_
      obtain ⟨r12, h11, h⟩ := bind_some h
      refine aw_cs1 (pc := 53) (n := 1) (As := [.int x1]) (st := [.ref 171, .ref 164]) (vo := (some (.int r12))) (c2 := 0) (s2 := 0) hM (k_X9_partAt h11) rfl cw_X9_119 (by decide +kernel) rfl rfl ⟨(Nat.le_of_ble_eq_true rfl), (Nat.le_of_ble_eq_true rfl)⟩ (Nat.le_of_ble_eq_true rfl) ⟨(Nat.le_of_ble_eq_true rfl), (Nat.le_of_ble_eq_true rfl)⟩ dX9_approve_53 rfl rfl ?_
      refine aw_iconst (pc := 56) (v := 1) hM dX9_approve_56 (by decide) ?_
      refine aw_iadd (pc := 57) hM dX9_approve_57 ?_
      refine aw_iload_n (pc := 58) (i := 2) (x := x2) hM dX9_approve_58 rfl rfl ?_
      refine aw_iadd (pc := 59) hM dX9_approve_59 ?_
      obtain ⟨c13, h⟩ := ite_some h
      refine aw_iald (pc := 60) hM sk_171 c13 dX9_approve_60 ?_
      refine aw_iload_n (pc := 61) (i := 3) (x := x3) hM dX9_approve_61 rfl rfl ?_
      refine aw_ishr (pc := 62) hM dX9_approve_62 ?_
      refine aw_iconst (pc := 63) (v := 1) hM dX9_approve_63 (by decide) ?_
      refine aw_iand (pc := 64) hM dX9_approve_64 ?_
      refine aw_iconst (pc := 65) (v := 1) hM dX9_approve_65 (by decide) ?_
      refine aw_icmp_ne (pc := 66) (tgt := 73) hM dX9_approve_66 (by decide) (fun c14 => ?_) (fun c14 => ?_)
      · rw [if_neg c14] at h
        refine aw_iconst (pc := 73) (v := 0) hM dX9_approve_73 (by decide) ?_
        refine aw_weak (L' := [some (.ref 164), some (.int x1), some (.int x2), some (.int x3), none]) ?_ (lw_of [true, true, true, true, false] rfl)
        exact k_X9_approve_b74 hM hT hq F x1 x2 x3 0 h
      · rw [if_pos c14] at h
        refine aw_iconst (pc := 69) (v := 3) hM dX9_approve_69 (by decide) ?_
        refine aw_goto (pc := 70) (tgt := 74) hM dX9_approve_70 (by decide) ?_
        refine aw_weak (L' := [some (.ref 164), some (.int x1), some (.int x2), some (.int x3), none]) ?_ (lw_of [true, true, true, true, false] rfl)
        exact k_X9_approve_b74 hM hT hq F x1 x2 x3 3 h
    · rw [if_pos c10] at h
      refine aw_iconst (pc := 44) (v := 2) hM dX9_approve_44 (by decide) ?_
      refine aw_goto (pc := 45) (tgt := 74) hM dX9_approve_45 (by decide) ?_
      refine aw_weak (L' := [some (.ref 164), some (.int x1), some (.int x2), some (.int x3), none]) ?_ (lw_of [true, true, true, true, false] rfl)
      exact k_X9_approve_b74 hM hT hq F x1 x2 x3 2 h
  · rw [if_pos c7] at h
    refine aw_iconst (pc := 33) (v := 1) hM dX9_approve_33 (by decide) ?_
    refine aw_goto (pc := 34) (tgt := 74) hM dX9_approve_34 (by decide) ?_
    refine aw_weak (L' := [some (.ref 164), some (.int x1), some (.int x2), some (.int x3), none]) ?_ (lw_of [true, true, true, true, false] rfl)
    exact k_X9_approve_b74 hM hT hq F x1 x2 x3 1 h
set_option maxRecDepth 20000 in
theorem k_X9_approve {C : CX} {F : MM} {G : GG} {p0 : Int32} {p1 : Int32} {p2 : Int32} {r : (Int32 × MM)} (h : s_X9_approve F p0 p1 p2 = some r) : AM C yX9_approve cX9_approve 5 (some .int) rmX9_approve [.ref 164, .int p0, .int p1, .int p2] F G (fun o F9 G9 => o = (.inl (some (.int r.1))) ∧ F9 = r.2 ∧ G9 = G) := by
  refine am_of (L := [some (.ref 164), some (.int p0), some (.int p1), some (.int p2), none]) (by decide) (Nat.le_of_ble_eq_true rfl) rfl (fun M hM hT => ?_)
  have hM : MOk C RX9 cX9_approve 5 (some .int) rmX9_approve M := hM
  obtain ⟨Q, hQ⟩ : ∃ Q : OUT → MM → GG → Prop, Q = (fun o F9 G9 => o = (.inl (some (.int r.1))) ∧ F9 = r.2 ∧ G9 = G) := ⟨_, rfl⟩
  have hq : Q (.inl (some (.int r.1))) r.2 G := by rw [hQ]; exact ⟨rfl, rfl, rfl⟩
  rw [← hQ]
  clear hQ
  rw [s_X9_approve] at h
  refine aw_aload_n (pc := 0) (i := 0) (x := 164) hM dX9_approve_0 rfl rfl ?_
  refine aw_iload_n (pc := 1) (i := 1) (x := p0) hM dX9_approve_1 rfl rfl ?_
  obtain ⟨r2, h1, h⟩ := bind_some h
  refine aw_cv1 (pc := 2) (n := 1) (As := [.int p0]) (st := []) (b := 164) (vo := (some (.int r2))) (c2 := 0) (s2 := 0) hM (k_X9_isPart h1) rfl cw_X9_211 sk_164 rfl rfl (by decide +kernel) rfl rfl ⟨(Nat.le_of_ble_eq_true rfl), (Nat.le_of_ble_eq_true rfl)⟩ (Nat.le_of_ble_eq_true rfl) ⟨(Nat.le_of_ble_eq_true rfl), (Nat.le_of_ble_eq_true rfl)⟩ dX9_approve_2 rfl rfl ?_
  refine aw_if_eq (pc := 5) (tgt := 24) hM dX9_approve_5 (by decide) (fun c3 => ?_) (fun c3 => ?_)
  · rw [if_pos c3] at h
    refine aw_iconst (pc := 24) (v := 0) hM dX9_approve_24 (by decide) ?_
    exact k_X9_approve_b25 hM hT hq F p0 p1 p2 0 h
  · rw [if_neg c3] at h
    refine aw_iload_n (pc := 8) (i := 3) (x := p2) hM dX9_approve_8 rfl rfl ?_
    refine aw_i2l (pc := 9) hM dX9_approve_9 ?_
    refine aw_lconst (pc := 10) (v := 0) hM dX9_approve_10 (by decide) ?_
    refine aw_ldc2 (pc := 11) hM gw_1232 dX9_approve_11 ?_
    obtain ⟨r5, h4, h⟩ := bind_some h
    refine aw_cs1 (pc := 14) (n := 3) (As := [.long (Int32.toInt64 p2), .long 0, .long 4]) (st := []) (vo := (some (.int r5))) (c2 := 0) (s2 := 0) hM (k_X9_in h4) rfl cw_X9_82 (by decide +kernel) rfl rfl ⟨(Nat.le_of_ble_eq_true rfl), (Nat.le_of_ble_eq_true rfl)⟩ (Nat.le_of_ble_eq_true rfl) ⟨(Nat.le_of_ble_eq_true rfl), (Nat.le_of_ble_eq_true rfl)⟩ dX9_approve_14 rfl rfl ?_
    refine aw_if_eq (pc := 17) (tgt := 24) hM dX9_approve_17 (by decide) (fun c6 => ?_) (fun c6 => ?_)
    · rw [if_pos c6] at h
      refine aw_iconst (pc := 24) (v := 0) hM dX9_approve_24 (by decide) ?_
      exact k_X9_approve_b25 hM hT hq F p0 p1 p2 0 h
    · rw [if_neg c6] at h
      refine aw_iconst (pc := 20) (v := 1) hM dX9_approve_20 (by decide) ?_
      refine aw_goto (pc := 21) (tgt := 25) hM dX9_approve_21 (by decide) ?_
      exact k_X9_approve_b25 hM hT hq F p0 p1 p2 1 h
def rmX9_breaks : Room := { frames := 3, cells := 0, slots := 0, locals := 72 }
def s_X9_breaks (F : MM) (p0 : Int32) (p1 : Int32) (p2 : Int32) : Option (Int32 × MM) := (s_X9_isNode F p0).bind (fun r2 => if r2 = 0 then (s_X9_refused F 1).bind (fun z6 => if z6.1 = 0 then (s_X9_newlyBroken z6.2 171 p0 p1 p2).bind (fun r9 => some (r9, z6.2)) else some (0, z6.2)) else (s_X9_isPart F p1).bind (fun r11 => if r11 = 0 then (s_X9_refused F 1).bind (fun z30 => if z30.1 = 0 then (s_X9_newlyBroken z30.2 171 p0 p1 p2).bind (fun r33 => some (r33, z30.2)) else some (0, z30.2)) else (s_X9_isVersion F p2).bind (fun r14 => if r14 = 0 then (s_X9_refused F 2).bind (fun z24 => if z24.1 = 0 then (s_X9_newlyBroken z24.2 171 p0 p1 p2).bind (fun r27 => some (r27, z24.2)) else some (0, z24.2)) else (s_X9_refused F 0).bind (fun z18 => if z18.1 = 0 then (s_X9_newlyBroken z18.2 171 p0 p1 p2).bind (fun r21 => some (r21, z18.2)) else some (0, z18.2)))))
set_option maxRecDepth 20000 in
theorem k_X9_breaks {C : CX} {F : MM} {G : GG} {p0 : Int32} {p1 : Int32} {p2 : Int32} {r : (Int32 × MM)} (h : s_X9_breaks F p0 p1 p2 = some r) : AM C yX9_breaks cX9_breaks 4 (some .int) rmX9_breaks [.ref 164, .int p0, .int p1, .int p2] F G (fun o F9 G9 => o = (.inl (some (.int r.1))) ∧ F9 = r.2 ∧ G9 = G) := by
  refine am_of (L := [some (.ref 164), some (.int p0), some (.int p1), some (.int p2)]) (by decide) (Nat.le_of_ble_eq_true rfl) rfl (fun M hM hT => ?_)
  have hM : MOk C RX9 cX9_breaks 4 (some .int) rmX9_breaks M := hM
  obtain ⟨Q, hQ⟩ : ∃ Q : OUT → MM → GG → Prop, Q = (fun o F9 G9 => o = (.inl (some (.int r.1))) ∧ F9 = r.2 ∧ G9 = G) := ⟨_, rfl⟩
  have hq : Q (.inl (some (.int r.1))) r.2 G := by rw [hQ]; exact ⟨rfl, rfl, rfl⟩
  rw [← hQ]
  clear hQ
  rw [s_X9_breaks] at h
  refine aw_aload_n (pc := 0) (i := 0) (x := 164) hM dX9_breaks_0 rfl rfl ?_
  refine aw_aload_n (pc := 1) (i := 0) (x := 164) hM dX9_breaks_1 rfl rfl ?_
  refine aw_iload_n (pc := 2) (i := 1) (x := p0) hM dX9_breaks_2 rfl rfl ?_
  obtain ⟨r2, h1, h⟩ := bind_some h
  refine aw_cv1 (pc := 3) (n := 1) (As := [.int p0]) (st := [.ref 164]) (b := 164) (vo := (some (.int r2))) (c2 := 0) (s2 := 0) hM (k_X9_isNode h1) rfl cw_X9_203 sk_164 rfl rfl (by decide +kernel) rfl rfl ⟨(Nat.le_of_ble_eq_true rfl), (Nat.le_of_ble_eq_true rfl)⟩ (Nat.le_of_ble_eq_true rfl) ⟨(Nat.le_of_ble_eq_true rfl), (Nat.le_of_ble_eq_true rfl)⟩ dX9_breaks_3 rfl rfl ?_
  refine aw_if_eq (pc := 6) (tgt := 17) hM dX9_breaks_6 (by decide) (fun c3 => ?_) (fun c3 => ?_)
  · rw [if_pos c3] at h
    refine aw_iconst (pc := 17) (v := 1) hM dX9_breaks_17 (by decide) ?_
    refine aw_goto (pc := 18) (tgt := 33) hM dX9_breaks_18 (by decide) ?_
    obtain ⟨z6, h4, h⟩ := bind_some h
    refine aw_cv1 (pc := 33) (n := 1) (As := [.int 1]) (st := []) (b := 164) (vo := (some (.int z6.1))) (c2 := 0) (s2 := 0) hM (k_X9_refused h4) rfl cw_X9_93 sk_164 rfl rfl (by decide +kernel) rfl rfl ⟨(Nat.le_of_ble_eq_true rfl), (Nat.le_of_ble_eq_true rfl)⟩ (Nat.le_of_ble_eq_true rfl) ⟨(Nat.le_of_ble_eq_true rfl), (Nat.le_of_ble_eq_true rfl)⟩ dX9_breaks_33 rfl rfl ?_
    refine aw_if_eq (pc := 36) (tgt := 41) hM dX9_breaks_36 (by decide) (fun c7 => ?_) (fun c7 => ?_)
    · rw [if_pos c7] at h
      refine aw_aload_n (pc := 41) (i := 0) (x := 164) hM dX9_breaks_41 rfl rfl ?_
      refine aw_aload_n (pc := 42) (i := 0) (x := 164) hM dX9_breaks_42 rfl rfl ?_
      refine aw_getR (pc := 43) (r := 171) hM fd_X9_41 sk_164 rfl dX9_breaks_43 ?_
      refine aw_iload_n (pc := 46) (i := 1) (x := p0) hM dX9_breaks_46 rfl rfl ?_
      refine aw_iload_n (pc := 47) (i := 2) (x := p1) hM dX9_breaks_47 rfl rfl ?_
      refine aw_iload_n (pc := 48) (i := 3) (x := p2) hM dX9_breaks_48 rfl rfl ?_
      obtain ⟨r9, h8, h⟩ := bind_some h
      refine aw_cv1 (pc := 49) (n := 4) (As := [.ref 171, .int p0, .int p1, .int p2]) (st := []) (b := 164) (vo := (some (.int r9))) (c2 := 0) (s2 := 0) hM (k_X9_newlyBroken (ia_of sk_171) h8) rfl cw_X9_180 sk_164 rfl rfl (by decide +kernel) rfl rfl ⟨(Nat.le_of_ble_eq_true rfl), (Nat.le_of_ble_eq_true rfl)⟩ (Nat.le_of_ble_eq_true rfl) ⟨(Nat.le_of_ble_eq_true rfl), (Nat.le_of_ble_eq_true rfl)⟩ dX9_breaks_49 rfl rfl ?_
      obtain rfl := Option.some.inj h
      exact aw_iret (pc := 52) hM dX9_breaks_52 (Nat.le_of_ble_eq_true rfl) (Nat.le_of_ble_eq_true rfl) hq
    · rw [if_neg c7] at h
      refine aw_iconst (pc := 39) (v := 0) hM dX9_breaks_39 (by decide) ?_
      obtain rfl := Option.some.inj h
      exact aw_iret (pc := 40) hM dX9_breaks_40 (Nat.le_of_ble_eq_true rfl) (Nat.le_of_ble_eq_true rfl) hq
  · rw [if_neg c3] at h
    refine aw_aload_n (pc := 9) (i := 0) (x := 164) hM dX9_breaks_9 rfl rfl ?_
    refine aw_iload_n (pc := 10) (i := 2) (x := p1) hM dX9_breaks_10 rfl rfl ?_
    obtain ⟨r11, h10, h⟩ := bind_some h
    refine aw_cv1 (pc := 11) (n := 1) (As := [.int p1]) (st := [.ref 164]) (b := 164) (vo := (some (.int r11))) (c2 := 0) (s2 := 0) hM (k_X9_isPart h10) rfl cw_X9_211 sk_164 rfl rfl (by decide +kernel) rfl rfl ⟨(Nat.le_of_ble_eq_true rfl), (Nat.le_of_ble_eq_true rfl)⟩ (Nat.le_of_ble_eq_true rfl) ⟨(Nat.le_of_ble_eq_true rfl), (Nat.le_of_ble_eq_true rfl)⟩ dX9_breaks_11 rfl rfl ?_
    refine aw_if_ne (pc := 14) (tgt := 21) hM dX9_breaks_14 (by decide) (fun c12 => ?_) (fun c12 => ?_)
    · rw [if_neg c12] at h
      refine aw_iload_n (pc := 21) (i := 3) (x := p2) hM dX9_breaks_21 rfl rfl ?_
      obtain ⟨r14, h13, h⟩ := bind_some h
      refine aw_cs1 (pc := 22) (n := 1) (As := [.int p2]) (st := [.ref 164]) (vo := (some (.int r14))) (c2 := 0) (s2 := 0) hM (k_X9_isVersion h13) rfl cw_X9_216 (by decide +kernel) rfl rfl ⟨(Nat.le_of_ble_eq_true rfl), (Nat.le_of_ble_eq_true rfl)⟩ (Nat.le_of_ble_eq_true rfl) ⟨(Nat.le_of_ble_eq_true rfl), (Nat.le_of_ble_eq_true rfl)⟩ dX9_breaks_22 rfl rfl ?_
      refine aw_if_ne (pc := 25) (tgt := 32) hM dX9_breaks_25 (by decide) (fun c15 => ?_) (fun c15 => ?_)
      · rw [if_neg c15] at h
        refine aw_iconst (pc := 32) (v := 0) hM dX9_breaks_32 (by decide) ?_
        obtain ⟨z18, h16, h⟩ := bind_some h
        refine aw_cv1 (pc := 33) (n := 1) (As := [.int 0]) (st := []) (b := 164) (vo := (some (.int z18.1))) (c2 := 0) (s2 := 0) hM (k_X9_refused h16) rfl cw_X9_93 sk_164 rfl rfl (by decide +kernel) rfl rfl ⟨(Nat.le_of_ble_eq_true rfl), (Nat.le_of_ble_eq_true rfl)⟩ (Nat.le_of_ble_eq_true rfl) ⟨(Nat.le_of_ble_eq_true rfl), (Nat.le_of_ble_eq_true rfl)⟩ dX9_breaks_33 rfl rfl ?_
        refine aw_if_eq (pc := 36) (tgt := 41) hM dX9_breaks_36 (by decide) (fun c19 => ?_) (fun c19 => ?_)
        · rw [if_pos c19] at h
          refine aw_aload_n (pc := 41) (i := 0) (x := 164) hM dX9_breaks_41 rfl rfl ?_
          refine aw_aload_n (pc := 42) (i := 0) (x := 164) hM dX9_breaks_42 rfl rfl ?_
          refine aw_getR (pc := 43) (r := 171) hM fd_X9_41 sk_164 rfl dX9_breaks_43 ?_
          refine aw_iload_n (pc := 46) (i := 1) (x := p0) hM dX9_breaks_46 rfl rfl ?_
          refine aw_iload_n (pc := 47) (i := 2) (x := p1) hM dX9_breaks_47 rfl rfl ?_
          refine aw_iload_n (pc := 48) (i := 3) (x := p2) hM dX9_breaks_48 rfl rfl ?_
          obtain ⟨r21, h20, h⟩ := bind_some h
          refine aw_cv1 (pc := 49) (n := 4) (As := [.ref 171, .int p0, .int p1, .int p2]) (st := []) (b := 164) (vo := (some (.int r21))) (c2 := 0) (s2 := 0) hM (k_X9_newlyBroken (ia_of sk_171) h20) rfl cw_X9_180 sk_164 rfl rfl (by decide +kernel) rfl rfl ⟨(Nat.le_of_ble_eq_true rfl), (Nat.le_of_ble_eq_true rfl)⟩ (Nat.le_of_ble_eq_true rfl) ⟨(Nat.le_of_ble_eq_true rfl), (Nat.le_of_ble_eq_true rfl)⟩ dX9_breaks_49 rfl rfl ?_
          obtain rfl := Option.some.inj h
          exact aw_iret (pc := 52) hM dX9_breaks_52 (Nat.le_of_ble_eq_true rfl) (Nat.le_of_ble_eq_true rfl) hq
        · rw [if_neg c19] at h
          refine aw_iconst (pc := 39) (v := 0) hM dX9_breaks_39 (by decide) ?_
          obtain rfl := Option.some.inj h
          exact aw_iret (pc := 40) hM dX9_breaks_40 (Nat.le_of_ble_eq_true rfl) (Nat.le_of_ble_eq_true rfl) hq
      · rw [if_pos c15] at h
        refine aw_iconst (pc := 28) (v := 2) hM dX9_breaks_28 (by decide) ?_
        refine aw_goto (pc := 29) (tgt := 33) hM dX9_breaks_29 (by decide) ?_
        obtain ⟨z24, h22, h⟩ := bind_some h
        refine aw_cv1 (pc := 33) (n := 1) (As := [.int 2]) (st := []) (b := 164) (vo := (some (.int z24.1))) (c2 := 0) (s2 := 0) hM (k_X9_refused h22) rfl cw_X9_93 sk_164 rfl rfl (by decide +kernel) rfl rfl ⟨(Nat.le_of_ble_eq_true rfl), (Nat.le_of_ble_eq_true rfl)⟩ (Nat.le_of_ble_eq_true rfl) ⟨(Nat.le_of_ble_eq_true rfl), (Nat.le_of_ble_eq_true rfl)⟩ dX9_breaks_33 rfl rfl ?_
        refine aw_if_eq (pc := 36) (tgt := 41) hM dX9_breaks_36 (by decide) (fun c25 => ?_) (fun c25 => ?_)
        · rw [if_pos c25] at h
          refine aw_aload_n (pc := 41) (i := 0) (x := 164) hM dX9_breaks_41 rfl rfl ?_
          refine aw_aload_n (pc := 42) (i := 0) (x := 164) hM dX9_breaks_42 rfl rfl ?_
          refine aw_getR (pc := 43) (r := 171) hM fd_X9_41 sk_164 rfl dX9_breaks_43 ?_
          refine aw_iload_n (pc := 46) (i := 1) (x := p0) hM dX9_breaks_46 rfl rfl ?_
          refine aw_iload_n (pc := 47) (i := 2) (x := p1) hM dX9_breaks_47 rfl rfl ?_
          refine aw_iload_n (pc := 48) (i := 3) (x := p2) hM dX9_breaks_48 rfl rfl ?_
          obtain ⟨r27, h26, h⟩ := bind_some h
          refine aw_cv1 (pc := 49) (n := 4) (As := [.ref 171, .int p0, .int p1, .int p2]) (st := []) (b := 164) (vo := (some (.int r27))) (c2 := 0) (s2 := 0) hM (k_X9_newlyBroken (ia_of sk_171) h26) rfl cw_X9_180 sk_164 rfl rfl (by decide +kernel) rfl rfl ⟨(Nat.le_of_ble_eq_true rfl), (Nat.le_of_ble_eq_true rfl)⟩ (Nat.le_of_ble_eq_true rfl) ⟨(Nat.le_of_ble_eq_true rfl), (Nat.le_of_ble_eq_true rfl)⟩ dX9_breaks_49 rfl rfl ?_
          obtain rfl := Option.some.inj h
          exact aw_iret (pc := 52) hM dX9_breaks_52 (Nat.le_of_ble_eq_true rfl) (Nat.le_of_ble_eq_true rfl) hq
        · rw [if_neg c25] at h
          refine aw_iconst (pc := 39) (v := 0) hM dX9_breaks_39 (by decide) ?_
          obtain rfl := Option.some.inj h
          exact aw_iret (pc := 40) hM dX9_breaks_40 (Nat.le_of_ble_eq_true rfl) (Nat.le_of_ble_eq_true rfl) hq
    · rw [if_pos c12] at h
      refine aw_iconst (pc := 17) (v := 1) hM dX9_breaks_17 (by decide) ?_
      refine aw_goto (pc := 18) (tgt := 33) hM dX9_breaks_18 (by decide) ?_
      obtain ⟨z30, h28, h⟩ := bind_some h
      refine aw_cv1 (pc := 33) (n := 1) (As := [.int 1]) (st := []) (b := 164) (vo := (some (.int z30.1))) (c2 := 0) (s2 := 0) hM (k_X9_refused h28) rfl cw_X9_93 sk_164 rfl rfl (by decide +kernel) rfl rfl ⟨(Nat.le_of_ble_eq_true rfl), (Nat.le_of_ble_eq_true rfl)⟩ (Nat.le_of_ble_eq_true rfl) ⟨(Nat.le_of_ble_eq_true rfl), (Nat.le_of_ble_eq_true rfl)⟩ dX9_breaks_33 rfl rfl ?_
      refine aw_if_eq (pc := 36) (tgt := 41) hM dX9_breaks_36 (by decide) (fun c31 => ?_) (fun c31 => ?_)
      · rw [if_pos c31] at h
        refine aw_aload_n (pc := 41) (i := 0) (x := 164) hM dX9_breaks_41 rfl rfl ?_
        refine aw_aload_n (pc := 42) (i := 0) (x := 164) hM dX9_breaks_42 rfl rfl ?_
        refine aw_getR (pc := 43) (r := 171) hM fd_X9_41 sk_164 rfl dX9_breaks_43 ?_
        refine aw_iload_n (pc := 46) (i := 1) (x := p0) hM dX9_breaks_46 rfl rfl ?_
        refine aw_iload_n (pc := 47) (i := 2) (x := p1) hM dX9_breaks_47 rfl rfl ?_
        refine aw_iload_n (pc := 48) (i := 3) (x := p2) hM dX9_breaks_48 rfl rfl ?_
        obtain ⟨r33, h32, h⟩ := bind_some h
        refine aw_cv1 (pc := 49) (n := 4) (As := [.ref 171, .int p0, .int p1, .int p2]) (st := []) (b := 164) (vo := (some (.int r33))) (c2 := 0) (s2 := 0) hM (k_X9_newlyBroken (ia_of sk_171) h32) rfl cw_X9_180 sk_164 rfl rfl (by decide +kernel) rfl rfl ⟨(Nat.le_of_ble_eq_true rfl), (Nat.le_of_ble_eq_true rfl)⟩ (Nat.le_of_ble_eq_true rfl) ⟨(Nat.le_of_ble_eq_true rfl), (Nat.le_of_ble_eq_true rfl)⟩ dX9_breaks_49 rfl rfl ?_
        obtain rfl := Option.some.inj h
        exact aw_iret (pc := 52) hM dX9_breaks_52 (Nat.le_of_ble_eq_true rfl) (Nat.le_of_ble_eq_true rfl) hq
      · rw [if_neg c31] at h
        refine aw_iconst (pc := 39) (v := 0) hM dX9_breaks_39 (by decide) ?_
        obtain rfl := Option.some.inj h
        exact aw_iret (pc := 40) hM dX9_breaks_40 (Nat.le_of_ble_eq_true rfl) (Nat.le_of_ble_eq_true rfl) hq
def rmX9_calmAfter : Room := { frames := 6, cells := 0, slots := 0, locals := 143 }
def s_X9_calmAfter_b22 : Nat → MM → Int32 → Option (Int32 × MM)
  | 0, _, _ => none
  | n + 1, F, x1 => if 100 ≤ x1 then some ((-9), F) else (s_X9_calmNodes F 172).bind (fun r7 => if r7 = (((1 : Int32) <<< ((F 164 4) &&& 31)) - 1) then some (x1, F) else (s_X9_tickOn F 172).bind (fun F10 => (some (x1 + 1 : Int32)).bind (fun y11 => s_X9_calmAfter_b22 n F10 y11)))
def s_X9_calmAfter (F : MM) : Option (Int32 × MM) := (some (mup F 164 0 0)).bind (fun F1 => (s_X9_copy F1 171 0 172 0 107).bind (fun F4 => s_X9_calmAfter_b22 fu_ F4 0))
set_option maxRecDepth 20000 in
theorem k_X9_calmAfter_b22 {C : CX} {M : MX} {G : GG} {Q : OUT → MM → GG → Prop} {r : (Int32 × MM)} (hM : MOk C RX9 cX9_calmAfter 2 (some .int) rmX9_calmAfter M) (hT : MNoT M) (hq : Q (.inl (some (.int r.1))) r.2 G) : ∀ (n : Nat) (F : MM) (x1 : Int32), s_X9_calmAfter_b22 n F x1 = some r → AW C 2 (ZM C rmX9_calmAfter Q M) M 0 0 22 [some (.ref 164), some (.int x1)] [] F G := by
  intro n
  induction n with
  | zero => intro F x1 h; exact nomatch h
  | succ n ih =>
    intro F x1 h
    rw [s_X9_calmAfter_b22] at h
    refine aw_iload_n (pc := 22) (i := 1) (x := x1) hM dX9_calmAfter_22 rfl rfl ?_
    refine aw_bipush (pc := 23) (v := 100) hM dX9_calmAfter_23 (by decide) ?_
    refine aw_icmp_ge (pc := 25) (tgt := 63) hM dX9_calmAfter_25 (by decide) (fun c5 => ?_) (fun c5 => ?_)
    · rw [if_pos c5] at h
      refine aw_bipush (pc := 63) (v := (-9)) hM dX9_calmAfter_63 (by decide) ?_
      obtain rfl := Option.some.inj h
      exact aw_iret (pc := 65) hM dX9_calmAfter_65 (Nat.le_of_ble_eq_true rfl) (Nat.le_of_ble_eq_true rfl) hq
    · rw [if_neg c5] at h
      refine aw_aload_n (pc := 28) (i := 0) (x := 164) hM dX9_calmAfter_28 rfl rfl ?_
      refine aw_aload_n (pc := 29) (i := 0) (x := 164) hM dX9_calmAfter_29 rfl rfl ?_
      refine aw_getR (pc := 30) (r := 172) hM fd_X9_44 sk_164 rfl dX9_calmAfter_30 ?_
      obtain ⟨r7, h6, h⟩ := bind_some h
      refine aw_cv1 (pc := 33) (n := 1) (As := [.ref 172]) (st := []) (b := 164) (vo := (some (.int r7))) (c2 := 0) (s2 := 0) hM (k_X9_calmNodes (ia_of sk_172) h6) rfl cw_X9_196 sk_164 rfl rfl (by decide +kernel) rfl rfl ⟨(Nat.le_of_ble_eq_true rfl), (Nat.le_of_ble_eq_true rfl)⟩ (Nat.le_of_ble_eq_true rfl) ⟨(Nat.le_of_ble_eq_true rfl), (Nat.le_of_ble_eq_true rfl)⟩ dX9_calmAfter_33 rfl rfl ?_
      refine aw_iconst (pc := 36) (v := 1) hM dX9_calmAfter_36 (by decide) ?_
      refine aw_aload_n (pc := 37) (i := 0) (x := 164) hM dX9_calmAfter_37 rfl rfl ?_
      refine aw_getI (pc := 38) hM fd_X9_13 sk_164 rfl dX9_calmAfter_38 ?_
      refine aw_ishl (pc := 41) hM dX9_calmAfter_41 ?_
      refine aw_iconst (pc := 42) (v := 1) hM dX9_calmAfter_42 (by decide) ?_
      refine aw_isub (pc := 43) hM dX9_calmAfter_43 ?_
      refine aw_icmp_ne (pc := 44) (tgt := 49) hM dX9_calmAfter_44 (by decide) (fun c8 => ?_) (fun c8 => ?_)
      · rw [if_neg c8] at h
        refine aw_aload_n (pc := 49) (i := 0) (x := 164) hM dX9_calmAfter_49 rfl rfl ?_
        refine aw_aload_n (pc := 50) (i := 0) (x := 164) hM dX9_calmAfter_50 rfl rfl ?_
        refine aw_getR (pc := 51) (r := 172) hM fd_X9_44 sk_164 rfl dX9_calmAfter_51 ?_
        obtain ⟨F10, h9, h⟩ := bind_some h
        refine aw_cv1 (pc := 54) (n := 1) (As := [.ref 172]) (st := []) (b := 164) (vo := none) (c2 := 0) (s2 := 0) hM (k_X9_tickOn (ia_of sk_172) h9) rfl cw_X9_230 sk_164 rfl rfl (by decide +kernel) rfl rfl ⟨(Nat.le_of_ble_eq_true rfl), (Nat.le_of_ble_eq_true rfl)⟩ (Nat.le_of_ble_eq_true rfl) ⟨(Nat.le_of_ble_eq_true rfl), (Nat.le_of_ble_eq_true rfl)⟩ dX9_calmAfter_54 rfl rfl ?_
        obtain ⟨y11, e12, h⟩ := bind_some h
        have e12 := Option.some.inj e12
        refine aw_iinc (pc := 57) (v := y11) (L' := [some (.ref 164), some (.int y11)]) hM dX9_calmAfter_57 rfl e12 (by decide) rfl ?_
        refine aw_goto (pc := 60) (tgt := 22) hM dX9_calmAfter_60 (by decide) ?_
        exact ih F10 y11 h
      · rw [if_pos c8] at h
        refine aw_iload_n (pc := 47) (i := 1) (x := x1) hM dX9_calmAfter_47 rfl rfl ?_
        obtain rfl := Option.some.inj h
        exact aw_iret (pc := 48) hM dX9_calmAfter_48 (Nat.le_of_ble_eq_true rfl) (Nat.le_of_ble_eq_true rfl) hq
set_option maxRecDepth 20000 in
theorem k_X9_calmAfter {C : CX} {F : MM} {G : GG} {r : (Int32 × MM)} (h : s_X9_calmAfter F = some r) : AM C yX9_calmAfter cX9_calmAfter 2 (some .int) rmX9_calmAfter [.ref 164] F G (fun o F9 G9 => o = (.inl (some (.int r.1))) ∧ F9 = r.2 ∧ G9 = G) := by
  refine am_of (L := [some (.ref 164), none]) (by decide) (Nat.le_of_ble_eq_true rfl) rfl (fun M hM hT => ?_)
  have hM : MOk C RX9 cX9_calmAfter 2 (some .int) rmX9_calmAfter M := hM
  obtain ⟨Q, hQ⟩ : ∃ Q : OUT → MM → GG → Prop, Q = (fun o F9 G9 => o = (.inl (some (.int r.1))) ∧ F9 = r.2 ∧ G9 = G) := ⟨_, rfl⟩
  have hq : Q (.inl (some (.int r.1))) r.2 G := by rw [hQ]; exact ⟨rfl, rfl, rfl⟩
  rw [← hQ]
  clear hQ
  rw [s_X9_calmAfter] at h
  refine aw_aload_n (pc := 0) (i := 0) (x := 164) hM dX9_calmAfter_0 rfl rfl ?_
  refine aw_iconst (pc := 1) (v := 0) hM dX9_calmAfter_1 (by decide) ?_
  obtain ⟨F1, e2, h⟩ := bind_some h
  have e2 := Option.some.inj e2
  refine aw_put (pc := 2) (ty := .int) hM fd_X9_69 tyX9_ok nmX9 rfl (by decide +kernel) rfl rfl sk_164 rfl dX9_calmAfter_2 ?_
  refine aw_mem e2 ?_
  refine aw_aload_n (pc := 5) (i := 0) (x := 164) hM dX9_calmAfter_5 rfl rfl ?_
  refine aw_getR (pc := 6) (r := 171) hM fd_X9_41 sk_164 rfl dX9_calmAfter_6 ?_
  refine aw_iconst (pc := 9) (v := 0) hM dX9_calmAfter_9 (by decide) ?_
  refine aw_aload_n (pc := 10) (i := 0) (x := 164) hM dX9_calmAfter_10 rfl rfl ?_
  refine aw_getR (pc := 11) (r := 172) hM fd_X9_44 sk_164 rfl dX9_calmAfter_11 ?_
  refine aw_iconst (pc := 14) (v := 0) hM dX9_calmAfter_14 (by decide) ?_
  refine aw_bipush (pc := 15) (v := 107) hM dX9_calmAfter_15 (by decide) ?_
  obtain ⟨F4, h3, h⟩ := bind_some h
  refine aw_cs1 (pc := 17) (n := 5) (As := [.ref 171, .int 0, .ref 172, .int 0, .int 107]) (st := []) (vo := none) (c2 := 0) (s2 := 0) hM (k_X9_copy (ia_of sk_171) (ia_of sk_172) h3) rfl cw_X9_75 (by decide +kernel) rfl rfl ⟨(Nat.le_of_ble_eq_true rfl), (Nat.le_of_ble_eq_true rfl)⟩ (Nat.le_of_ble_eq_true rfl) ⟨(Nat.le_of_ble_eq_true rfl), (Nat.le_of_ble_eq_true rfl)⟩ dX9_calmAfter_17 rfl rfl ?_
  refine aw_iconst (pc := 20) (v := 0) hM dX9_calmAfter_20 (by decide) ?_
  refine aw_istore_n (pc := 21) (i := 1) (L' := [some (.ref 164), some (.int 0)]) hM dX9_calmAfter_21 rfl (by decide) rfl ?_
  exact k_X9_calmAfter_b22 hM hT hq fu_ F4 0 h
def rmX9_change : Room := { frames := 2, cells := 0, slots := 0, locals := 45 }
def s_X9_change (F : MM) (p0 : Int32) (p1 : Int32) : Option (Int32 × MM) := (s_X9_note F).bind (fun F2 => if inb p0 107 then ((some (F2 171 (ix p0) : Int32)).bind (fun y4 => if inb p0 107 then ((some (mup F2 171 (ix p0) p1)).bind (fun F7 => some (y4, F7))) else none)) else none)
set_option maxRecDepth 20000 in
theorem k_X9_change {C : CX} {F : MM} {G : GG} {p0 : Int32} {p1 : Int32} {r : (Int32 × MM)} (h : s_X9_change F p0 p1 = some r) : AM C yX9_change cX9_change 4 (some .int) rmX9_change [.ref 164, .int p0, .int p1] F G (fun o F9 G9 => o = (.inl (some (.int r.1))) ∧ F9 = r.2 ∧ G9 = G) := by
  refine am_of (L := [some (.ref 164), some (.int p0), some (.int p1), none]) (by decide) (Nat.le_of_ble_eq_true rfl) rfl (fun M hM hT => ?_)
  have hM : MOk C RX9 cX9_change 4 (some .int) rmX9_change M := hM
  obtain ⟨Q, hQ⟩ : ∃ Q : OUT → MM → GG → Prop, Q = (fun o F9 G9 => o = (.inl (some (.int r.1))) ∧ F9 = r.2 ∧ G9 = G) := ⟨_, rfl⟩
  have hq : Q (.inl (some (.int r.1))) r.2 G := by rw [hQ]; exact ⟨rfl, rfl, rfl⟩
  rw [← hQ]
  clear hQ
  rw [s_X9_change] at h
  refine aw_aload_n (pc := 0) (i := 0) (x := 164) hM dX9_change_0 rfl rfl ?_
  obtain ⟨F2, h1, h⟩ := bind_some h
  refine aw_cv1 (pc := 1) (n := 0) (As := []) (st := []) (b := 164) (vo := none) (c2 := 0) (s2 := 0) hM (k_X9_note h1) rfl cw_X9_79 sk_164 rfl rfl (by decide +kernel) rfl rfl ⟨(Nat.le_of_ble_eq_true rfl), (Nat.le_of_ble_eq_true rfl)⟩ (Nat.le_of_ble_eq_true rfl) ⟨(Nat.le_of_ble_eq_true rfl), (Nat.le_of_ble_eq_true rfl)⟩ dX9_change_1 rfl rfl ?_
  refine aw_aload_n (pc := 4) (i := 0) (x := 164) hM dX9_change_4 rfl rfl ?_
  refine aw_getR (pc := 5) (r := 171) hM fd_X9_41 sk_164 rfl dX9_change_5 ?_
  refine aw_iload_n (pc := 8) (i := 1) (x := p0) hM dX9_change_8 rfl rfl ?_
  obtain ⟨c3, h⟩ := ite_some h
  refine aw_iald (pc := 9) hM sk_171 c3 dX9_change_9 ?_
  obtain ⟨y4, e5, h⟩ := bind_some h
  have e5 := Option.some.inj e5
  refine aw_topi e5 ?_
  refine aw_istore_n (pc := 10) (i := 3) (L' := [some (.ref 164), some (.int p0), some (.int p1), some (.int y4)]) hM dX9_change_10 rfl (by decide) rfl ?_
  refine aw_aload_n (pc := 11) (i := 0) (x := 164) hM dX9_change_11 rfl rfl ?_
  refine aw_getR (pc := 12) (r := 171) hM fd_X9_41 sk_164 rfl dX9_change_12 ?_
  refine aw_iload_n (pc := 15) (i := 1) (x := p0) hM dX9_change_15 rfl rfl ?_
  refine aw_iload_n (pc := 16) (i := 2) (x := p1) hM dX9_change_16 rfl rfl ?_
  obtain ⟨c6, h⟩ := ite_some h
  obtain ⟨F7, e8, h⟩ := bind_some h
  have e8 := Option.some.inj e8
  refine aw_iast (pc := 17) hM sk_171 c6 dX9_change_17 ?_
  refine aw_mem e8 ?_
  refine aw_iload_n (pc := 18) (i := 3) (x := y4) hM dX9_change_18 rfl rfl ?_
  obtain rfl := Option.some.inj h
  exact aw_iret (pc := 19) hM dX9_change_19 (Nat.le_of_ble_eq_true rfl) (Nat.le_of_ble_eq_true rfl) hq
def rmX9_clearText : Room := { frames := 0, cells := 0, slots := 0, locals := 0 }
def s_X9_clearText (F : MM) : Option (Int32 × MM) := (some (mup F 164 0 0)).bind (fun F1 => (some (F1 164 2 : Int32)).bind (fun y3 => (some (mup F1 164 2 0)).bind (fun F5 => some (y3, F5))))
set_option maxRecDepth 20000 in
theorem k_X9_clearText {C : CX} {F : MM} {G : GG} {r : (Int32 × MM)} (h : s_X9_clearText F = some r) : AM C yX9_clearText cX9_clearText 2 (some .int) rmX9_clearText [.ref 164] F G (fun o F9 G9 => o = (.inl (some (.int r.1))) ∧ F9 = r.2 ∧ G9 = G) := by
  refine am_of (L := [some (.ref 164), none]) (by decide) (Nat.le_of_ble_eq_true rfl) rfl (fun M hM hT => ?_)
  have hM : MOk C RX9 cX9_clearText 2 (some .int) rmX9_clearText M := hM
  obtain ⟨Q, hQ⟩ : ∃ Q : OUT → MM → GG → Prop, Q = (fun o F9 G9 => o = (.inl (some (.int r.1))) ∧ F9 = r.2 ∧ G9 = G) := ⟨_, rfl⟩
  have hq : Q (.inl (some (.int r.1))) r.2 G := by rw [hQ]; exact ⟨rfl, rfl, rfl⟩
  rw [← hQ]
  clear hQ
  rw [s_X9_clearText] at h
  refine aw_aload_n (pc := 0) (i := 0) (x := 164) hM dX9_clearText_0 rfl rfl ?_
  refine aw_iconst (pc := 1) (v := 0) hM dX9_clearText_1 (by decide) ?_
  obtain ⟨F1, e2, h⟩ := bind_some h
  have e2 := Option.some.inj e2
  refine aw_put (pc := 2) (ty := .int) hM fd_X9_69 tyX9_ok nmX9 rfl (by decide +kernel) rfl rfl sk_164 rfl dX9_clearText_2 ?_
  refine aw_mem e2 ?_
  refine aw_aload_n (pc := 5) (i := 0) (x := 164) hM dX9_clearText_5 rfl rfl ?_
  refine aw_getI (pc := 6) hM fd_X9_90 sk_164 rfl dX9_clearText_6 ?_
  obtain ⟨y3, e4, h⟩ := bind_some h
  have e4 := Option.some.inj e4
  refine aw_topi e4 ?_
  refine aw_istore_n (pc := 9) (i := 1) (L' := [some (.ref 164), some (.int y3)]) hM dX9_clearText_9 rfl (by decide) rfl ?_
  refine aw_aload_n (pc := 10) (i := 0) (x := 164) hM dX9_clearText_10 rfl rfl ?_
  refine aw_iconst (pc := 11) (v := 0) hM dX9_clearText_11 (by decide) ?_
  obtain ⟨F5, e6, h⟩ := bind_some h
  have e6 := Option.some.inj e6
  refine aw_put (pc := 12) (ty := .int) hM fd_X9_90 tyX9_ok nmX9 rfl (by decide +kernel) rfl rfl sk_164 rfl dX9_clearText_12 ?_
  refine aw_mem e6 ?_
  refine aw_iload_n (pc := 15) (i := 1) (x := y3) hM dX9_clearText_15 rfl rfl ?_
  obtain rfl := Option.some.inj h
  exact aw_iret (pc := 16) hM dX9_clearText_16 (Nat.le_of_ble_eq_true rfl) (Nat.le_of_ble_eq_true rfl) hq
def rmX9_command : Room := { frames := 6, cells := 0, slots := 0, locals := 143 }
def s_X9_command_b230 (F : MM) (x2 : Int32) (x5 : Int32) : Option (Int32 × MM) := if x2 = 0 then (s_X9_in F (Int32.toInt64 x5) 1 50).bind (fun r92 => if r92 = 0 then some (0, F) else some (1, F)) else some (0, F)
def s_X9_command_b198 : Nat → MM → Int32 → Int32 → Int32 → Option (Int32 × MM)
  | 0, _, _, _, _ => none
  | n + 1, F, x2, x5, x7 => if x5 ≤ x7 then s_X9_command_b230 F x2 x5 else if x2 = 0 then if 50 < x5 then s_X9_command_b230 F x2 x5 else (s_X9_tickOn F 172).bind (fun F87 => (some (x7 + 1 : Int32)).bind (fun y88 => s_X9_command_b198 n F87 x2 x5 y88)) else s_X9_command_b230 F x2 x5
def s_X9_command_b49 (F : MM) (x1 : Int32) (x2 : Int32) (x3 : Int32) (x4 : Int32) (x5 : Int32) (t0 : Int32) : Option (Int32 × MM) := if (x1 / 1000) = 1 then if t0 = 0 then some (0, F) else (s_X9_isVersion F x4).bind (fun r18 => if r18 = 0 then some (0, F) else (s_X9_at F x2).bind (fun r21 => if (x1 / 1000) = 1 then if inb ((r21 + 6) + x3) 107 then ((some (mup F 172 (ix ((r21 + 6) + x3)) x4)).bind (fun F27 => some (1, F27))) else none else if inb ((r21 + 0) + x3) 107 then ((some (mup F 172 (ix ((r21 + 0) + x3)) x4)).bind (fun F24 => some (1, F24))) else none)) else if (x1 / 1000) = 2 then if t0 = 0 then some (0, F) else (s_X9_isVersion F x4).bind (fun r32 => if r32 = 0 then some (0, F) else (s_X9_at F x2).bind (fun r35 => if (x1 / 1000) = 1 then if inb ((r35 + 6) + x3) 107 then ((some (mup F 172 (ix ((r35 + 6) + x3)) x4)).bind (fun F41 => some (1, F41))) else none else if inb ((r35 + 0) + x3) 107 then ((some (mup F 172 (ix ((r35 + 0) + x3)) x4)).bind (fun F38 => some (1, F38))) else none)) else if (x1 / 1000) = 3 then (s_X9_isPart F x2).bind (fun r45 => if r45 = 0 then some (0, F) else (s_X9_isVersion F x3).bind (fun r48 => if r48 = 0 then some (0, F) else if x4 < 5 then (s_X9_partAt F x2).bind (fun r52 => if inb ((r52 + 1) + x3) 107 then (if inb ((r52 + 1) + x3) 107 then ((some (mup F 172 (ix ((r52 + 1) + x3)) ((F 172 (ix ((r52 + 1) + x3))) ||| ((1 : Int32) <<< (x4 &&& 31))))).bind (fun F55 => some (1, F55))) else none) else none) else some (0, F))) else if (x1 / 1000) = 4 then s_X9_command_b198 fu_ F x2 x5 0 else if (x1 / 1000) = 5 then (s_X9_isNode F x2).bind (fun r60 => if r60 = 0 then some (0, F) else if x3 = 0 then (s_X9_at F x2).bind (fun r64 => if inb (r64 + 12) 107 then ((some (mup F 172 (ix (r64 + 12)) x4)).bind (fun F66 => some (1, F66))) else none) else some (0, F)) else if (x1 / 1000) = 6 then if t0 = 0 then some (0, F) else (s_X9_at F x2).bind (fun r71 => if inb (r71 + x3) 107 then (if (F 172 (ix (r71 + x3))) = x4 then some (1, F) else some (0, F)) else none) else if (x1 / 1000) = 7 then if t0 = 0 then some (0, F) else (s_X9_stateOf F 172 x2 x3).bind (fun r77 => if r77 = x4 then some (1, F) else some (0, F)) else if (x1 / 1000) = 8 then if x2 = 0 then if inb 1 107 then (if (F 172 (ix 1)) < x5 then some (0, F) else some (1, F)) else none else some (0, F) else some (0, F)
def s_X9_command (F : MM) (p0 : Int32) : Option (Int32 × MM) := (some ((p0 / 100) - (p0 / 100) / 10 * 10 : Int32)).bind (fun y1 => (some ((p0 / 10) - (p0 / 10) / 10 * 10 : Int32)).bind (fun y3 => (some (p0 - p0 / 10 * 10 : Int32)).bind (fun y5 => (some (p0 - p0 / 100 * 100 : Int32)).bind (fun y7 => (s_X9_isNode F y1).bind (fun r10 => if r10 = 0 then s_X9_command_b49 F p0 y1 y3 y5 y7 0 else (s_X9_isPart F y3).bind (fun r13 => if r13 = 0 then s_X9_command_b49 F p0 y1 y3 y5 y7 0 else s_X9_command_b49 F p0 y1 y3 y5 y7 1))))))
set_option maxRecDepth 20000 in
theorem k_X9_command_b230 {C : CX} {M : MX} {G : GG} {Q : OUT → MM → GG → Prop} {r : (Int32 × MM)} (hM : MOk C RX9 cX9_command 8 (some .boolean) rmX9_command M) (hT : MNoT M) (hq : Q (.inl (some (.int r.1))) r.2 G) (F : MM) (x2 : Int32) (x5 : Int32) (h : s_X9_command_b230 F x2 x5 = some r) : AW C 8 (ZM C rmX9_command Q M) M 0 0 230 [none, none, some (.int x2), none, none, some (.int x5), none, none] [] F G := by
  rw [s_X9_command_b230] at h
  refine aw_iload_n (pc := 230) (i := 2) (x := x2) hM dX9_command_230 rfl rfl ?_
  refine aw_if_ne (pc := 231) (tgt := 251) hM dX9_command_231 (by decide) (fun c90 => ?_) (fun c90 => ?_)
  · rw [if_neg c90] at h
    refine aw_iconst (pc := 251) (v := 0) hM dX9_command_251 (by decide) ?_
    obtain rfl := Option.some.inj h
    exact aw_zret (pc := 252) hM dX9_command_252 (by decide) (Nat.le_of_ble_eq_true rfl) (Nat.le_of_ble_eq_true rfl) hq
  · rw [if_pos c90] at h
    refine aw_iload (pc := 234) (i := 5) (x := x5) hM dX9_command_234  rfl ?_
    refine aw_i2l (pc := 236) hM dX9_command_236 ?_
    refine aw_lconst (pc := 237) (v := 1) hM dX9_command_237 (by decide) ?_
    refine aw_ldc2 (pc := 238) hM gw_1295 dX9_command_238 ?_
    obtain ⟨r92, h91, h⟩ := bind_some h
    refine aw_cs1 (pc := 241) (n := 3) (As := [.long (Int32.toInt64 x5), .long 1, .long 50]) (st := []) (vo := (some (.int r92))) (c2 := 0) (s2 := 0) hM (k_X9_in h91) rfl cw_X9_82 (by decide +kernel) rfl rfl ⟨(Nat.le_of_ble_eq_true rfl), (Nat.le_of_ble_eq_true rfl)⟩ (Nat.le_of_ble_eq_true rfl) ⟨(Nat.le_of_ble_eq_true rfl), (Nat.le_of_ble_eq_true rfl)⟩ dX9_command_241 rfl rfl ?_
    refine aw_if_eq (pc := 244) (tgt := 251) hM dX9_command_244 (by decide) (fun c93 => ?_) (fun c93 => ?_)
    · rw [if_pos c93] at h
      refine aw_iconst (pc := 251) (v := 0) hM dX9_command_251 (by decide) ?_
      obtain rfl := Option.some.inj h
      exact aw_zret (pc := 252) hM dX9_command_252 (by decide) (Nat.le_of_ble_eq_true rfl) (Nat.le_of_ble_eq_true rfl) hq
    · rw [if_neg c93] at h
      refine aw_iconst (pc := 247) (v := 1) hM dX9_command_247 (by decide) ?_
      refine aw_goto (pc := 248) (tgt := 252) hM dX9_command_248 (by decide) ?_
      obtain rfl := Option.some.inj h
      exact aw_zret (pc := 252) hM dX9_command_252 (by decide) (Nat.le_of_ble_eq_true rfl) (Nat.le_of_ble_eq_true rfl) hq
set_option maxRecDepth 20000 in
theorem k_X9_command_b198 {C : CX} {M : MX} {G : GG} {Q : OUT → MM → GG → Prop} {r : (Int32 × MM)} (hM : MOk C RX9 cX9_command 8 (some .boolean) rmX9_command M) (hT : MNoT M) (hq : Q (.inl (some (.int r.1))) r.2 G) : ∀ (n : Nat) (F : MM) (x2 : Int32) (x5 : Int32) (x7 : Int32), s_X9_command_b198 n F x2 x5 x7 = some r → AW C 8 (ZM C rmX9_command Q M) M 0 0 198 [some (.ref 164), none, some (.int x2), none, none, some (.int x5), none, some (.int x7)] [] F G := by
  intro n
  induction n with
  | zero => intro F x2 x5 x7 h; exact nomatch h
  | succ n ih =>
    intro F x2 x5 x7 h
    rw [s_X9_command_b198] at h
    refine aw_iload (pc := 198) (i := 7) (x := x7) hM dX9_command_198  rfl ?_
    refine aw_iload (pc := 200) (i := 5) (x := x5) hM dX9_command_200  rfl ?_
    refine aw_icmp_ge (pc := 202) (tgt := 230) hM dX9_command_202 (by decide) (fun c83 => ?_) (fun c83 => ?_)
    · rw [if_pos c83] at h
      refine aw_weak (L' := [none, none, some (.int x2), none, none, some (.int x5), none, none]) ?_ (lw_of [false, true, true, true, true, true, true, false] rfl)
      exact k_X9_command_b230 hM hT hq F x2 x5 h
    · rw [if_neg c83] at h
      refine aw_iload_n (pc := 205) (i := 2) (x := x2) hM dX9_command_205 rfl rfl ?_
      refine aw_if_ne (pc := 206) (tgt := 230) hM dX9_command_206 (by decide) (fun c84 => ?_) (fun c84 => ?_)
      · rw [if_neg c84] at h
        refine aw_weak (L' := [none, none, some (.int x2), none, none, some (.int x5), none, none]) ?_ (lw_of [false, true, true, true, true, true, true, false] rfl)
        exact k_X9_command_b230 hM hT hq F x2 x5 h
      · rw [if_pos c84] at h
        refine aw_iload (pc := 209) (i := 5) (x := x5) hM dX9_command_209  rfl ?_
        refine aw_bipush (pc := 211) (v := 50) hM dX9_command_211 (by decide) ?_
        refine aw_icmp_gt (pc := 213) (tgt := 230) hM dX9_command_213 (by decide) (fun c85 => ?_) (fun c85 => ?_)
        · rw [if_pos c85] at h
          refine aw_weak (L' := [none, none, some (.int x2), none, none, some (.int x5), none, none]) ?_ (lw_of [false, true, true, true, true, true, true, false] rfl)
          exact k_X9_command_b230 hM hT hq F x2 x5 h
        · rw [if_neg c85] at h
          refine aw_aload_n (pc := 216) (i := 0) (x := 164) hM dX9_command_216 rfl rfl ?_
          refine aw_aload_n (pc := 217) (i := 0) (x := 164) hM dX9_command_217 rfl rfl ?_
          refine aw_getR (pc := 218) (r := 172) hM fd_X9_44 sk_164 rfl dX9_command_218 ?_
          obtain ⟨F87, h86, h⟩ := bind_some h
          refine aw_cv1 (pc := 221) (n := 1) (As := [.ref 172]) (st := []) (b := 164) (vo := none) (c2 := 0) (s2 := 0) hM (k_X9_tickOn (ia_of sk_172) h86) rfl cw_X9_230 sk_164 rfl rfl (by decide +kernel) rfl rfl ⟨(Nat.le_of_ble_eq_true rfl), (Nat.le_of_ble_eq_true rfl)⟩ (Nat.le_of_ble_eq_true rfl) ⟨(Nat.le_of_ble_eq_true rfl), (Nat.le_of_ble_eq_true rfl)⟩ dX9_command_221 rfl rfl ?_
          obtain ⟨y88, e89, h⟩ := bind_some h
          have e89 := Option.some.inj e89
          refine aw_iinc (pc := 224) (v := y88) (L' := [some (.ref 164), none, some (.int x2), none, none, some (.int x5), none, some (.int y88)]) hM dX9_command_224 rfl e89 (by decide) rfl ?_
          refine aw_goto (pc := 227) (tgt := 198) hM dX9_command_227 (by decide) ?_
          exact ih F87 x2 x5 y88 h
set_option maxRecDepth 20000 in
theorem k_X9_command_b49 {C : CX} {M : MX} {G : GG} {Q : OUT → MM → GG → Prop} {r : (Int32 × MM)} (hM : MOk C RX9 cX9_command 8 (some .boolean) rmX9_command M) (hT : MNoT M) (hq : Q (.inl (some (.int r.1))) r.2 G) (F : MM) (x1 : Int32) (x2 : Int32) (x3 : Int32) (x4 : Int32) (x5 : Int32) (t0 : Int32) (h : s_X9_command_b49 F x1 x2 x3 x4 x5 t0 = some r) : AW C 8 (ZM C rmX9_command Q M) M 0 0 49 [some (.ref 164), some (.int x1), some (.int x2), some (.int x3), some (.int x4), some (.int x5), none, none] [.int t0] F G := by
  rw [s_X9_command_b49] at h
  refine aw_istore (pc := 49) (i := 6) (L' := [some (.ref 164), some (.int x1), some (.int x2), some (.int x3), some (.int x4), some (.int x5), some (.int t0), none]) hM dX9_command_49  (by decide) rfl ?_
  refine aw_iload_n (pc := 51) (i := 1) (x := x1) hM dX9_command_51 rfl rfl ?_
  refine aw_sipush (pc := 52) (v := 1000) hM dX9_command_52 (by decide) ?_
  refine aw_idiv (pc := 55) hM dX9_command_55 (by decide) ?_
  by_cases c15 : (x1 / 1000) = 1
  · rw [if_pos c15] at h
    refine aw_tableIn (pc := 56) (off := 48) (tgt := 104) hM dX9_command_56 (by rw [c15]; decide) (by rw [c15]; decide) (by rw [c15]; rfl) (by decide) ?_
    refine aw_iload (pc := 104) (i := 6) (x := t0) hM dX9_command_104  rfl ?_
    refine aw_if_eq (pc := 106) (tgt := 117) hM dX9_command_106 (by decide) (fun c16 => ?_) (fun c16 => ?_)
    · rw [if_pos c16] at h
      refine aw_iconst (pc := 117) (v := 0) hM dX9_command_117 (by decide) ?_
      obtain rfl := Option.some.inj h
      exact aw_zret (pc := 118) hM dX9_command_118 (by decide) (Nat.le_of_ble_eq_true rfl) (Nat.le_of_ble_eq_true rfl) hq
    · rw [if_neg c16] at h
      refine aw_iload (pc := 109) (i := 4) (x := x4) hM dX9_command_109  rfl ?_
      obtain ⟨r18, h17, h⟩ := bind_some h
      refine aw_cs1 (pc := 111) (n := 1) (As := [.int x4]) (st := []) (vo := (some (.int r18))) (c2 := 0) (s2 := 0) hM (k_X9_isVersion h17) rfl cw_X9_216 (by decide +kernel) rfl rfl ⟨(Nat.le_of_ble_eq_true rfl), (Nat.le_of_ble_eq_true rfl)⟩ (Nat.le_of_ble_eq_true rfl) ⟨(Nat.le_of_ble_eq_true rfl), (Nat.le_of_ble_eq_true rfl)⟩ dX9_command_111 rfl rfl ?_
      refine aw_if_ne (pc := 114) (tgt := 119) hM dX9_command_114 (by decide) (fun c19 => ?_) (fun c19 => ?_)
      · rw [if_neg c19] at h
        refine aw_aload_n (pc := 119) (i := 0) (x := 164) hM dX9_command_119 rfl rfl ?_
        refine aw_getR (pc := 120) (r := 172) hM fd_X9_44 sk_164 rfl dX9_command_120 ?_
        refine aw_iload_n (pc := 123) (i := 2) (x := x2) hM dX9_command_123 rfl rfl ?_
        obtain ⟨r21, h20, h⟩ := bind_some h
        refine aw_cs1 (pc := 124) (n := 1) (As := [.int x2]) (st := [.ref 172]) (vo := (some (.int r21))) (c2 := 0) (s2 := 0) hM (k_X9_at h20) rfl cw_X9_126 (by decide +kernel) rfl rfl ⟨(Nat.le_of_ble_eq_true rfl), (Nat.le_of_ble_eq_true rfl)⟩ (Nat.le_of_ble_eq_true rfl) ⟨(Nat.le_of_ble_eq_true rfl), (Nat.le_of_ble_eq_true rfl)⟩ dX9_command_124 rfl rfl ?_
        refine aw_iload_n (pc := 127) (i := 1) (x := x1) hM dX9_command_127 rfl rfl ?_
        refine aw_sipush (pc := 128) (v := 1000) hM dX9_command_128 (by decide) ?_
        refine aw_idiv (pc := 131) hM dX9_command_131 (by decide) ?_
        refine aw_iconst (pc := 132) (v := 1) hM dX9_command_132 (by decide) ?_
        refine aw_icmp_ne (pc := 133) (tgt := 141) hM dX9_command_133 (by decide) (fun c22 => ?_) (fun c22 => ?_)
        · rw [if_neg c22] at h
          refine aw_iconst (pc := 141) (v := 0) hM dX9_command_141 (by decide) ?_
          refine aw_iadd (pc := 142) hM dX9_command_142 ?_
          refine aw_iload_n (pc := 143) (i := 3) (x := x3) hM dX9_command_143 rfl rfl ?_
          refine aw_iadd (pc := 144) hM dX9_command_144 ?_
          refine aw_iload (pc := 145) (i := 4) (x := x4) hM dX9_command_145  rfl ?_
          obtain ⟨c23, h⟩ := ite_some h
          obtain ⟨F24, e25, h⟩ := bind_some h
          have e25 := Option.some.inj e25
          refine aw_iast (pc := 147) hM sk_172 c23 dX9_command_147 ?_
          refine aw_mem e25 ?_
          refine aw_iconst (pc := 148) (v := 1) hM dX9_command_148 (by decide) ?_
          obtain rfl := Option.some.inj h
          exact aw_zret (pc := 149) hM dX9_command_149 (by decide) (Nat.le_of_ble_eq_true rfl) (Nat.le_of_ble_eq_true rfl) hq
        · rw [if_pos c22] at h
          refine aw_bipush (pc := 136) (v := 6) hM dX9_command_136 (by decide) ?_
          refine aw_goto (pc := 138) (tgt := 142) hM dX9_command_138 (by decide) ?_
          refine aw_iadd (pc := 142) hM dX9_command_142 ?_
          refine aw_iload_n (pc := 143) (i := 3) (x := x3) hM dX9_command_143 rfl rfl ?_
          refine aw_iadd (pc := 144) hM dX9_command_144 ?_
          refine aw_iload (pc := 145) (i := 4) (x := x4) hM dX9_command_145  rfl ?_
          obtain ⟨c26, h⟩ := ite_some h
          obtain ⟨F27, e28, h⟩ := bind_some h
          have e28 := Option.some.inj e28
          refine aw_iast (pc := 147) hM sk_172 c26 dX9_command_147 ?_
          refine aw_mem e28 ?_
          refine aw_iconst (pc := 148) (v := 1) hM dX9_command_148 (by decide) ?_
          obtain rfl := Option.some.inj h
          exact aw_zret (pc := 149) hM dX9_command_149 (by decide) (Nat.le_of_ble_eq_true rfl) (Nat.le_of_ble_eq_true rfl) hq
      · rw [if_pos c19] at h
        refine aw_iconst (pc := 117) (v := 0) hM dX9_command_117 (by decide) ?_
        obtain rfl := Option.some.inj h
        exact aw_zret (pc := 118) hM dX9_command_118 (by decide) (Nat.le_of_ble_eq_true rfl) (Nat.le_of_ble_eq_true rfl) hq
  rw [if_neg c15] at h
  by_cases c29 : (x1 / 1000) = 2
  · rw [if_pos c29] at h
    refine aw_tableIn (pc := 56) (off := 48) (tgt := 104) hM dX9_command_56 (by rw [c29]; decide) (by rw [c29]; decide) (by rw [c29]; rfl) (by decide) ?_
    refine aw_iload (pc := 104) (i := 6) (x := t0) hM dX9_command_104  rfl ?_
    refine aw_if_eq (pc := 106) (tgt := 117) hM dX9_command_106 (by decide) (fun c30 => ?_) (fun c30 => ?_)
    · rw [if_pos c30] at h
      refine aw_iconst (pc := 117) (v := 0) hM dX9_command_117 (by decide) ?_
      obtain rfl := Option.some.inj h
      exact aw_zret (pc := 118) hM dX9_command_118 (by decide) (Nat.le_of_ble_eq_true rfl) (Nat.le_of_ble_eq_true rfl) hq
    · rw [if_neg c30] at h
      refine aw_iload (pc := 109) (i := 4) (x := x4) hM dX9_command_109  rfl ?_
      obtain ⟨r32, h31, h⟩ := bind_some h
      refine aw_cs1 (pc := 111) (n := 1) (As := [.int x4]) (st := []) (vo := (some (.int r32))) (c2 := 0) (s2 := 0) hM (k_X9_isVersion h31) rfl cw_X9_216 (by decide +kernel) rfl rfl ⟨(Nat.le_of_ble_eq_true rfl), (Nat.le_of_ble_eq_true rfl)⟩ (Nat.le_of_ble_eq_true rfl) ⟨(Nat.le_of_ble_eq_true rfl), (Nat.le_of_ble_eq_true rfl)⟩ dX9_command_111 rfl rfl ?_
      refine aw_if_ne (pc := 114) (tgt := 119) hM dX9_command_114 (by decide) (fun c33 => ?_) (fun c33 => ?_)
      · rw [if_neg c33] at h
        refine aw_aload_n (pc := 119) (i := 0) (x := 164) hM dX9_command_119 rfl rfl ?_
        refine aw_getR (pc := 120) (r := 172) hM fd_X9_44 sk_164 rfl dX9_command_120 ?_
        refine aw_iload_n (pc := 123) (i := 2) (x := x2) hM dX9_command_123 rfl rfl ?_
        obtain ⟨r35, h34, h⟩ := bind_some h
        refine aw_cs1 (pc := 124) (n := 1) (As := [.int x2]) (st := [.ref 172]) (vo := (some (.int r35))) (c2 := 0) (s2 := 0) hM (k_X9_at h34) rfl cw_X9_126 (by decide +kernel) rfl rfl ⟨(Nat.le_of_ble_eq_true rfl), (Nat.le_of_ble_eq_true rfl)⟩ (Nat.le_of_ble_eq_true rfl) ⟨(Nat.le_of_ble_eq_true rfl), (Nat.le_of_ble_eq_true rfl)⟩ dX9_command_124 rfl rfl ?_
        refine aw_iload_n (pc := 127) (i := 1) (x := x1) hM dX9_command_127 rfl rfl ?_
        refine aw_sipush (pc := 128) (v := 1000) hM dX9_command_128 (by decide) ?_
        refine aw_idiv (pc := 131) hM dX9_command_131 (by decide) ?_
        refine aw_iconst (pc := 132) (v := 1) hM dX9_command_132 (by decide) ?_
        refine aw_icmp_ne (pc := 133) (tgt := 141) hM dX9_command_133 (by decide) (fun c36 => ?_) (fun c36 => ?_)
        · rw [if_neg c36] at h
          refine aw_iconst (pc := 141) (v := 0) hM dX9_command_141 (by decide) ?_
          refine aw_iadd (pc := 142) hM dX9_command_142 ?_
          refine aw_iload_n (pc := 143) (i := 3) (x := x3) hM dX9_command_143 rfl rfl ?_
          refine aw_iadd (pc := 144) hM dX9_command_144 ?_
          refine aw_iload (pc := 145) (i := 4) (x := x4) hM dX9_command_145  rfl ?_
          obtain ⟨c37, h⟩ := ite_some h
          obtain ⟨F38, e39, h⟩ := bind_some h
          have e39 := Option.some.inj e39
          refine aw_iast (pc := 147) hM sk_172 c37 dX9_command_147 ?_
          refine aw_mem e39 ?_
          refine aw_iconst (pc := 148) (v := 1) hM dX9_command_148 (by decide) ?_
          obtain rfl := Option.some.inj h
          exact aw_zret (pc := 149) hM dX9_command_149 (by decide) (Nat.le_of_ble_eq_true rfl) (Nat.le_of_ble_eq_true rfl) hq
        · rw [if_pos c36] at h
          refine aw_bipush (pc := 136) (v := 6) hM dX9_command_136 (by decide) ?_
          refine aw_goto (pc := 138) (tgt := 142) hM dX9_command_138 (by decide) ?_
          refine aw_iadd (pc := 142) hM dX9_command_142 ?_
          refine aw_iload_n (pc := 143) (i := 3) (x := x3) hM dX9_command_143 rfl rfl ?_
          refine aw_iadd (pc := 144) hM dX9_command_144 ?_
          refine aw_iload (pc := 145) (i := 4) (x := x4) hM dX9_command_145  rfl ?_
          obtain ⟨c40, h⟩ := ite_some h
          obtain ⟨F41, e42, h⟩ := bind_some h
          have e42 := Option.some.inj e42
          refine aw_iast (pc := 147) hM sk_172 c40 dX9_command_147 ?_
          refine aw_mem e42 ?_
          refine aw_iconst (pc := 148) (v := 1) hM dX9_command_148 (by decide) ?_
          obtain rfl := Option.some.inj h
          exact aw_zret (pc := 149) hM dX9_command_149 (by decide) (Nat.le_of_ble_eq_true rfl) (Nat.le_of_ble_eq_true rfl) hq
      · rw [if_pos c33] at h
        refine aw_iconst (pc := 117) (v := 0) hM dX9_command_117 (by decide) ?_
        obtain rfl := Option.some.inj h
        exact aw_zret (pc := 118) hM dX9_command_118 (by decide) (Nat.le_of_ble_eq_true rfl) (Nat.le_of_ble_eq_true rfl) hq
  rw [if_neg c29] at h
  by_cases c43 : (x1 / 1000) = 3
  · rw [if_pos c43] at h
    refine aw_tableIn (pc := 56) (off := 94) (tgt := 150) hM dX9_command_56 (by rw [c43]; decide) (by rw [c43]; decide) (by rw [c43]; rfl) (by decide) ?_
    refine aw_aload_n (pc := 150) (i := 0) (x := 164) hM dX9_command_150 rfl rfl ?_
    refine aw_iload_n (pc := 151) (i := 2) (x := x2) hM dX9_command_151 rfl rfl ?_
    obtain ⟨r45, h44, h⟩ := bind_some h
    refine aw_cv1 (pc := 152) (n := 1) (As := [.int x2]) (st := []) (b := 164) (vo := (some (.int r45))) (c2 := 0) (s2 := 0) hM (k_X9_isPart h44) rfl cw_X9_211 sk_164 rfl rfl (by decide +kernel) rfl rfl ⟨(Nat.le_of_ble_eq_true rfl), (Nat.le_of_ble_eq_true rfl)⟩ (Nat.le_of_ble_eq_true rfl) ⟨(Nat.le_of_ble_eq_true rfl), (Nat.le_of_ble_eq_true rfl)⟩ dX9_command_152 rfl rfl ?_
    refine aw_if_eq (pc := 155) (tgt := 171) hM dX9_command_155 (by decide) (fun c46 => ?_) (fun c46 => ?_)
    · rw [if_pos c46] at h
      refine aw_iconst (pc := 171) (v := 0) hM dX9_command_171 (by decide) ?_
      obtain rfl := Option.some.inj h
      exact aw_zret (pc := 172) hM dX9_command_172 (by decide) (Nat.le_of_ble_eq_true rfl) (Nat.le_of_ble_eq_true rfl) hq
    · rw [if_neg c46] at h
      refine aw_iload_n (pc := 158) (i := 3) (x := x3) hM dX9_command_158 rfl rfl ?_
      obtain ⟨r48, h47, h⟩ := bind_some h
      refine aw_cs1 (pc := 159) (n := 1) (As := [.int x3]) (st := []) (vo := (some (.int r48))) (c2 := 0) (s2 := 0) hM (k_X9_isVersion h47) rfl cw_X9_216 (by decide +kernel) rfl rfl ⟨(Nat.le_of_ble_eq_true rfl), (Nat.le_of_ble_eq_true rfl)⟩ (Nat.le_of_ble_eq_true rfl) ⟨(Nat.le_of_ble_eq_true rfl), (Nat.le_of_ble_eq_true rfl)⟩ dX9_command_159 rfl rfl ?_
      refine aw_if_eq (pc := 162) (tgt := 171) hM dX9_command_162 (by decide) (fun c49 => ?_) (fun c49 => ?_)
      · rw [if_pos c49] at h
        refine aw_iconst (pc := 171) (v := 0) hM dX9_command_171 (by decide) ?_
        obtain rfl := Option.some.inj h
        exact aw_zret (pc := 172) hM dX9_command_172 (by decide) (Nat.le_of_ble_eq_true rfl) (Nat.le_of_ble_eq_true rfl) hq
      · rw [if_neg c49] at h
        refine aw_iload (pc := 165) (i := 4) (x := x4) hM dX9_command_165  rfl ?_
        refine aw_iconst (pc := 167) (v := 5) hM dX9_command_167 (by decide) ?_
        refine aw_icmp_lt (pc := 168) (tgt := 173) hM dX9_command_168 (by decide) (fun c50 => ?_) (fun c50 => ?_)
        · rw [if_pos c50] at h
          refine aw_aload_n (pc := 173) (i := 0) (x := 164) hM dX9_command_173 rfl rfl ?_
          refine aw_getR (pc := 174) (r := 172) hM fd_X9_44 sk_164 rfl dX9_command_174 ?_
          refine aw_iload_n (pc := 177) (i := 2) (x := x2) hM dX9_command_177 rfl rfl ?_
          obtain ⟨r52, h51, h⟩ := bind_some h
          refine aw_cs1 (pc := 178) (n := 1) (As := [.int x2]) (st := [.ref 172]) (vo := (some (.int r52))) (c2 := 0) (s2 := 0) hM (k_X9_partAt h51) rfl cw_X9_119 (by decide +kernel) rfl rfl ⟨(Nat.le_of_ble_eq_true rfl), (Nat.le_of_ble_eq_true rfl)⟩ (Nat.le_of_ble_eq_true rfl) ⟨(Nat.le_of_ble_eq_true rfl), (Nat.le_of_ble_eq_true rfl)⟩ dX9_command_178 rfl rfl ?_
          refine aw_iconst (pc := 181) (v := 1) hM dX9_command_181 (by decide) ?_
          refine aw_iadd (pc := 182) hM dX9_command_182 ?_
          refine aw_iload_n (pc := 183) (i := 3) (x := x3) hM dX9_command_183 rfl rfl ?_
          refine aw_iadd (pc := 184) hM dX9_command_184 ?_
          refine aw_dup2 (pc := 185) hM dX9_command_185 rfl rfl ?_
          obtain ⟨c53, h⟩ := ite_some h
          refine aw_iald (pc := 186) hM sk_172 c53 dX9_command_186 ?_
          refine aw_iconst (pc := 187) (v := 1) hM dX9_command_187 (by decide) ?_
          refine aw_iload (pc := 188) (i := 4) (x := x4) hM dX9_command_188  rfl ?_
          refine aw_ishl (pc := 190) hM dX9_command_190 ?_
          refine aw_ior (pc := 191) hM dX9_command_191 ?_
          obtain ⟨c54, h⟩ := ite_some h
          obtain ⟨F55, e56, h⟩ := bind_some h
          have e56 := Option.some.inj e56
          refine aw_iast (pc := 192) hM sk_172 c54 dX9_command_192 ?_
          refine aw_mem e56 ?_
          refine aw_iconst (pc := 193) (v := 1) hM dX9_command_193 (by decide) ?_
          obtain rfl := Option.some.inj h
          exact aw_zret (pc := 194) hM dX9_command_194 (by decide) (Nat.le_of_ble_eq_true rfl) (Nat.le_of_ble_eq_true rfl) hq
        · rw [if_neg c50] at h
          refine aw_iconst (pc := 171) (v := 0) hM dX9_command_171 (by decide) ?_
          obtain rfl := Option.some.inj h
          exact aw_zret (pc := 172) hM dX9_command_172 (by decide) (Nat.le_of_ble_eq_true rfl) (Nat.le_of_ble_eq_true rfl) hq
  rw [if_neg c43] at h
  by_cases c57 : (x1 / 1000) = 4
  · rw [if_pos c57] at h
    refine aw_tableIn (pc := 56) (off := 139) (tgt := 195) hM dX9_command_56 (by rw [c57]; decide) (by rw [c57]; decide) (by rw [c57]; rfl) (by decide) ?_
    refine aw_iconst (pc := 195) (v := 0) hM dX9_command_195 (by decide) ?_
    refine aw_istore (pc := 196) (i := 7) (L' := [some (.ref 164), some (.int x1), some (.int x2), some (.int x3), some (.int x4), some (.int x5), some (.int t0), some (.int 0)]) hM dX9_command_196  (by decide) rfl ?_
    refine aw_weak (L' := [some (.ref 164), none, some (.int x2), none, none, some (.int x5), none, some (.int 0)]) ?_ (lw_of [true, false, true, false, false, true, false, true] rfl)
    exact k_X9_command_b198 hM hT hq fu_ F x2 x5 0 h
  rw [if_neg c57] at h
  by_cases c58 : (x1 / 1000) = 5
  · rw [if_pos c58] at h
    refine aw_tableIn (pc := 56) (off := 197) (tgt := 253) hM dX9_command_56 (by rw [c58]; decide) (by rw [c58]; decide) (by rw [c58]; rfl) (by decide) ?_
    refine aw_aload_n (pc := 253) (i := 0) (x := 164) hM dX9_command_253 rfl rfl ?_
    refine aw_iload_n (pc := 254) (i := 2) (x := x2) hM dX9_command_254 rfl rfl ?_
    obtain ⟨r60, h59, h⟩ := bind_some h
    refine aw_cv1 (pc := 255) (n := 1) (As := [.int x2]) (st := []) (b := 164) (vo := (some (.int r60))) (c2 := 0) (s2 := 0) hM (k_X9_isNode h59) rfl cw_X9_203 sk_164 rfl rfl (by decide +kernel) rfl rfl ⟨(Nat.le_of_ble_eq_true rfl), (Nat.le_of_ble_eq_true rfl)⟩ (Nat.le_of_ble_eq_true rfl) ⟨(Nat.le_of_ble_eq_true rfl), (Nat.le_of_ble_eq_true rfl)⟩ dX9_command_255 rfl rfl ?_
    refine aw_if_eq (pc := 258) (tgt := 265) hM dX9_command_258 (by decide) (fun c61 => ?_) (fun c61 => ?_)
    · rw [if_pos c61] at h
      refine aw_iconst (pc := 265) (v := 0) hM dX9_command_265 (by decide) ?_
      obtain rfl := Option.some.inj h
      exact aw_zret (pc := 266) hM dX9_command_266 (by decide) (Nat.le_of_ble_eq_true rfl) (Nat.le_of_ble_eq_true rfl) hq
    · rw [if_neg c61] at h
      refine aw_iload_n (pc := 261) (i := 3) (x := x3) hM dX9_command_261 rfl rfl ?_
      refine aw_if_eq (pc := 262) (tgt := 267) hM dX9_command_262 (by decide) (fun c62 => ?_) (fun c62 => ?_)
      · rw [if_pos c62] at h
        refine aw_aload_n (pc := 267) (i := 0) (x := 164) hM dX9_command_267 rfl rfl ?_
        refine aw_getR (pc := 268) (r := 172) hM fd_X9_44 sk_164 rfl dX9_command_268 ?_
        refine aw_iload_n (pc := 271) (i := 2) (x := x2) hM dX9_command_271 rfl rfl ?_
        obtain ⟨r64, h63, h⟩ := bind_some h
        refine aw_cs1 (pc := 272) (n := 1) (As := [.int x2]) (st := [.ref 172]) (vo := (some (.int r64))) (c2 := 0) (s2 := 0) hM (k_X9_at h63) rfl cw_X9_126 (by decide +kernel) rfl rfl ⟨(Nat.le_of_ble_eq_true rfl), (Nat.le_of_ble_eq_true rfl)⟩ (Nat.le_of_ble_eq_true rfl) ⟨(Nat.le_of_ble_eq_true rfl), (Nat.le_of_ble_eq_true rfl)⟩ dX9_command_272 rfl rfl ?_
        refine aw_bipush (pc := 275) (v := 12) hM dX9_command_275 (by decide) ?_
        refine aw_iadd (pc := 277) hM dX9_command_277 ?_
        refine aw_iload (pc := 278) (i := 4) (x := x4) hM dX9_command_278  rfl ?_
        obtain ⟨c65, h⟩ := ite_some h
        obtain ⟨F66, e67, h⟩ := bind_some h
        have e67 := Option.some.inj e67
        refine aw_iast (pc := 280) hM sk_172 c65 dX9_command_280 ?_
        refine aw_mem e67 ?_
        refine aw_iconst (pc := 281) (v := 1) hM dX9_command_281 (by decide) ?_
        obtain rfl := Option.some.inj h
        exact aw_zret (pc := 282) hM dX9_command_282 (by decide) (Nat.le_of_ble_eq_true rfl) (Nat.le_of_ble_eq_true rfl) hq
      · rw [if_neg c62] at h
        refine aw_iconst (pc := 265) (v := 0) hM dX9_command_265 (by decide) ?_
        obtain rfl := Option.some.inj h
        exact aw_zret (pc := 266) hM dX9_command_266 (by decide) (Nat.le_of_ble_eq_true rfl) (Nat.le_of_ble_eq_true rfl) hq
  rw [if_neg c58] at h
  by_cases c68 : (x1 / 1000) = 6
  · rw [if_pos c68] at h
    refine aw_tableIn (pc := 56) (off := 227) (tgt := 283) hM dX9_command_56 (by rw [c68]; decide) (by rw [c68]; decide) (by rw [c68]; rfl) (by decide) ?_
    refine aw_iload (pc := 283) (i := 6) (x := t0) hM dX9_command_283  rfl ?_
    refine aw_if_eq (pc := 285) (tgt := 308) hM dX9_command_285 (by decide) (fun c69 => ?_) (fun c69 => ?_)
    · rw [if_pos c69] at h
      refine aw_iconst (pc := 308) (v := 0) hM dX9_command_308 (by decide) ?_
      obtain rfl := Option.some.inj h
      exact aw_zret (pc := 309) hM dX9_command_309 (by decide) (Nat.le_of_ble_eq_true rfl) (Nat.le_of_ble_eq_true rfl) hq
    · rw [if_neg c69] at h
      refine aw_aload_n (pc := 288) (i := 0) (x := 164) hM dX9_command_288 rfl rfl ?_
      refine aw_getR (pc := 289) (r := 172) hM fd_X9_44 sk_164 rfl dX9_command_289 ?_
      refine aw_iload_n (pc := 292) (i := 2) (x := x2) hM dX9_command_292 rfl rfl ?_
      obtain ⟨r71, h70, h⟩ := bind_some h
      refine aw_cs1 (pc := 293) (n := 1) (As := [.int x2]) (st := [.ref 172]) (vo := (some (.int r71))) (c2 := 0) (s2 := 0) hM (k_X9_at h70) rfl cw_X9_126 (by decide +kernel) rfl rfl ⟨(Nat.le_of_ble_eq_true rfl), (Nat.le_of_ble_eq_true rfl)⟩ (Nat.le_of_ble_eq_true rfl) ⟨(Nat.le_of_ble_eq_true rfl), (Nat.le_of_ble_eq_true rfl)⟩ dX9_command_293 rfl rfl ?_
      refine aw_iload_n (pc := 296) (i := 3) (x := x3) hM dX9_command_296 rfl rfl ?_
      refine aw_iadd (pc := 297) hM dX9_command_297 ?_
      obtain ⟨c72, h⟩ := ite_some h
      refine aw_iald (pc := 298) hM sk_172 c72 dX9_command_298 ?_
      refine aw_iload (pc := 299) (i := 4) (x := x4) hM dX9_command_299  rfl ?_
      refine aw_icmp_ne (pc := 301) (tgt := 308) hM dX9_command_301 (by decide) (fun c73 => ?_) (fun c73 => ?_)
      · rw [if_neg c73] at h
        refine aw_iconst (pc := 308) (v := 0) hM dX9_command_308 (by decide) ?_
        obtain rfl := Option.some.inj h
        exact aw_zret (pc := 309) hM dX9_command_309 (by decide) (Nat.le_of_ble_eq_true rfl) (Nat.le_of_ble_eq_true rfl) hq
      · rw [if_pos c73] at h
        refine aw_iconst (pc := 304) (v := 1) hM dX9_command_304 (by decide) ?_
        refine aw_goto (pc := 305) (tgt := 309) hM dX9_command_305 (by decide) ?_
        obtain rfl := Option.some.inj h
        exact aw_zret (pc := 309) hM dX9_command_309 (by decide) (Nat.le_of_ble_eq_true rfl) (Nat.le_of_ble_eq_true rfl) hq
  rw [if_neg c68] at h
  by_cases c74 : (x1 / 1000) = 7
  · rw [if_pos c74] at h
    refine aw_tableIn (pc := 56) (off := 254) (tgt := 310) hM dX9_command_56 (by rw [c74]; decide) (by rw [c74]; decide) (by rw [c74]; rfl) (by decide) ?_
    refine aw_iload (pc := 310) (i := 6) (x := t0) hM dX9_command_310  rfl ?_
    refine aw_if_eq (pc := 312) (tgt := 334) hM dX9_command_312 (by decide) (fun c75 => ?_) (fun c75 => ?_)
    · rw [if_pos c75] at h
      refine aw_iconst (pc := 334) (v := 0) hM dX9_command_334 (by decide) ?_
      obtain rfl := Option.some.inj h
      exact aw_zret (pc := 335) hM dX9_command_335 (by decide) (Nat.le_of_ble_eq_true rfl) (Nat.le_of_ble_eq_true rfl) hq
    · rw [if_neg c75] at h
      refine aw_aload_n (pc := 315) (i := 0) (x := 164) hM dX9_command_315 rfl rfl ?_
      refine aw_aload_n (pc := 316) (i := 0) (x := 164) hM dX9_command_316 rfl rfl ?_
      refine aw_getR (pc := 317) (r := 172) hM fd_X9_44 sk_164 rfl dX9_command_317 ?_
      refine aw_iload_n (pc := 320) (i := 2) (x := x2) hM dX9_command_320 rfl rfl ?_
      refine aw_iload_n (pc := 321) (i := 3) (x := x3) hM dX9_command_321 rfl rfl ?_
      obtain ⟨r77, h76, h⟩ := bind_some h
      refine aw_cv1 (pc := 322) (n := 3) (As := [.ref 172, .int x2, .int x3]) (st := []) (b := 164) (vo := (some (.int r77))) (c2 := 0) (s2 := 0) hM (k_X9_stateOf (ia_of sk_172) h76) rfl cw_X9_184 sk_164 rfl rfl (by decide +kernel) rfl rfl ⟨(Nat.le_of_ble_eq_true rfl), (Nat.le_of_ble_eq_true rfl)⟩ (Nat.le_of_ble_eq_true rfl) ⟨(Nat.le_of_ble_eq_true rfl), (Nat.le_of_ble_eq_true rfl)⟩ dX9_command_322 rfl rfl ?_
      refine aw_iload (pc := 325) (i := 4) (x := x4) hM dX9_command_325  rfl ?_
      refine aw_icmp_ne (pc := 327) (tgt := 334) hM dX9_command_327 (by decide) (fun c78 => ?_) (fun c78 => ?_)
      · rw [if_neg c78] at h
        refine aw_iconst (pc := 334) (v := 0) hM dX9_command_334 (by decide) ?_
        obtain rfl := Option.some.inj h
        exact aw_zret (pc := 335) hM dX9_command_335 (by decide) (Nat.le_of_ble_eq_true rfl) (Nat.le_of_ble_eq_true rfl) hq
      · rw [if_pos c78] at h
        refine aw_iconst (pc := 330) (v := 1) hM dX9_command_330 (by decide) ?_
        refine aw_goto (pc := 331) (tgt := 335) hM dX9_command_331 (by decide) ?_
        obtain rfl := Option.some.inj h
        exact aw_zret (pc := 335) hM dX9_command_335 (by decide) (Nat.le_of_ble_eq_true rfl) (Nat.le_of_ble_eq_true rfl) hq
  rw [if_neg c74] at h
  by_cases c79 : (x1 / 1000) = 8
  · rw [if_pos c79] at h
    refine aw_tableIn (pc := 56) (off := 280) (tgt := 336) hM dX9_command_56 (by rw [c79]; decide) (by rw [c79]; decide) (by rw [c79]; rfl) (by decide) ?_
    refine aw_iload_n (pc := 336) (i := 2) (x := x2) hM dX9_command_336 rfl rfl ?_
    refine aw_if_ne (pc := 337) (tgt := 355) hM dX9_command_337 (by decide) (fun c80 => ?_) (fun c80 => ?_)
    · rw [if_neg c80] at h
      refine aw_iconst (pc := 355) (v := 0) hM dX9_command_355 (by decide) ?_
      obtain rfl := Option.some.inj h
      exact aw_zret (pc := 356) hM dX9_command_356 (by decide) (Nat.le_of_ble_eq_true rfl) (Nat.le_of_ble_eq_true rfl) hq
    · rw [if_pos c80] at h
      refine aw_aload_n (pc := 340) (i := 0) (x := 164) hM dX9_command_340 rfl rfl ?_
      refine aw_getR (pc := 341) (r := 172) hM fd_X9_44 sk_164 rfl dX9_command_341 ?_
      refine aw_iconst (pc := 344) (v := 1) hM dX9_command_344 (by decide) ?_
      obtain ⟨c81, h⟩ := ite_some h
      refine aw_iald (pc := 345) hM sk_172 c81 dX9_command_345 ?_
      refine aw_iload (pc := 346) (i := 5) (x := x5) hM dX9_command_346  rfl ?_
      refine aw_icmp_lt (pc := 348) (tgt := 355) hM dX9_command_348 (by decide) (fun c82 => ?_) (fun c82 => ?_)
      · rw [if_pos c82] at h
        refine aw_iconst (pc := 355) (v := 0) hM dX9_command_355 (by decide) ?_
        obtain rfl := Option.some.inj h
        exact aw_zret (pc := 356) hM dX9_command_356 (by decide) (Nat.le_of_ble_eq_true rfl) (Nat.le_of_ble_eq_true rfl) hq
      · rw [if_neg c82] at h
        refine aw_iconst (pc := 351) (v := 1) hM dX9_command_351 (by decide) ?_
        refine aw_goto (pc := 352) (tgt := 356) hM dX9_command_352 (by decide) ?_
        obtain rfl := Option.some.inj h
        exact aw_zret (pc := 356) hM dX9_command_356 (by decide) (Nat.le_of_ble_eq_true rfl) (Nat.le_of_ble_eq_true rfl) hq
  rw [if_neg c79] at h
  refine aw_tableOut (pc := 56) (tgt := 357) hM dX9_command_56 (by have := ts_ne c15 (k := 1) rfl; have := ts_ne c29 (k := 2) rfl; have := ts_ne c43 (k := 3) rfl; have := ts_ne c57 (k := 4) rfl; have := ts_ne c58 (k := 5) rfl; have := ts_ne c68 (k := 6) rfl; have := ts_ne c74 (k := 7) rfl; have := ts_ne c79 (k := 8) rfl; omega) (by decide) ?_
  refine aw_iconst (pc := 357) (v := 0) hM dX9_command_357 (by decide) ?_
  obtain rfl := Option.some.inj h
  exact aw_zret (pc := 358) hM dX9_command_358 (by decide) (Nat.le_of_ble_eq_true rfl) (Nat.le_of_ble_eq_true rfl) hq
set_option maxRecDepth 20000 in
theorem k_X9_command {C : CX} {F : MM} {G : GG} {p0 : Int32} {r : (Int32 × MM)} (h : s_X9_command F p0 = some r) : AM C yX9_command cX9_command 8 (some .boolean) rmX9_command [.ref 164, .int p0] F G (fun o F9 G9 => o = (.inl (some (.int r.1))) ∧ F9 = r.2 ∧ G9 = G) := by
  refine am_of (L := [some (.ref 164), some (.int p0), none, none, none, none, none, none]) (by decide) (Nat.le_of_ble_eq_true rfl) rfl (fun M hM hT => ?_)
  have hM : MOk C RX9 cX9_command 8 (some .boolean) rmX9_command M := hM
  obtain ⟨Q, hQ⟩ : ∃ Q : OUT → MM → GG → Prop, Q = (fun o F9 G9 => o = (.inl (some (.int r.1))) ∧ F9 = r.2 ∧ G9 = G) := ⟨_, rfl⟩
  have hq : Q (.inl (some (.int r.1))) r.2 G := by rw [hQ]; exact ⟨rfl, rfl, rfl⟩
  rw [← hQ]
  clear hQ
  rw [s_X9_command] at h
  refine aw_iload_n (pc := 0) (i := 1) (x := p0) hM dX9_command_0 rfl rfl ?_
  refine aw_bipush (pc := 1) (v := 100) hM dX9_command_1 (by decide) ?_
  refine aw_idiv (pc := 3) hM dX9_command_3 (by decide) ?_
  refine aw_bipush (pc := 4) (v := 10) hM dX9_command_4 (by decide) ?_
  refine aw_irem (pc := 6) hM dX9_command_6 (by decide) ?_
  obtain ⟨y1, e2, h⟩ := bind_some h
  have e2 := Option.some.inj e2
  refine aw_topi e2 ?_
  refine aw_istore_n (pc := 7) (i := 2) (L' := [some (.ref 164), some (.int p0), some (.int y1), none, none, none, none, none]) hM dX9_command_7 rfl (by decide) rfl ?_
  refine aw_iload_n (pc := 8) (i := 1) (x := p0) hM dX9_command_8 rfl rfl ?_
  refine aw_bipush (pc := 9) (v := 10) hM dX9_command_9 (by decide) ?_
  refine aw_idiv (pc := 11) hM dX9_command_11 (by decide) ?_
  refine aw_bipush (pc := 12) (v := 10) hM dX9_command_12 (by decide) ?_
  refine aw_irem (pc := 14) hM dX9_command_14 (by decide) ?_
  obtain ⟨y3, e4, h⟩ := bind_some h
  have e4 := Option.some.inj e4
  refine aw_topi e4 ?_
  refine aw_istore_n (pc := 15) (i := 3) (L' := [some (.ref 164), some (.int p0), some (.int y1), some (.int y3), none, none, none, none]) hM dX9_command_15 rfl (by decide) rfl ?_
  refine aw_iload_n (pc := 16) (i := 1) (x := p0) hM dX9_command_16 rfl rfl ?_
  refine aw_bipush (pc := 17) (v := 10) hM dX9_command_17 (by decide) ?_
  refine aw_irem (pc := 19) hM dX9_command_19 (by decide) ?_
  obtain ⟨y5, e6, h⟩ := bind_some h
  have e6 := Option.some.inj e6
  refine aw_topi e6 ?_
  refine aw_istore (pc := 20) (i := 4) (L' := [some (.ref 164), some (.int p0), some (.int y1), some (.int y3), some (.int y5), none, none, none]) hM dX9_command_20  (by decide) rfl ?_
  refine aw_iload_n (pc := 22) (i := 1) (x := p0) hM dX9_command_22 rfl rfl ?_
  refine aw_bipush (pc := 23) (v := 100) hM dX9_command_23 (by decide) ?_
  refine aw_irem (pc := 25) hM dX9_command_25 (by decide) ?_
  obtain ⟨y7, e8, h⟩ := bind_some h
  have e8 := Option.some.inj e8
  refine aw_topi e8 ?_
  refine aw_istore (pc := 26) (i := 5) (L' := [some (.ref 164), some (.int p0), some (.int y1), some (.int y3), some (.int y5), some (.int y7), none, none]) hM dX9_command_26  (by decide) rfl ?_
  refine aw_aload_n (pc := 28) (i := 0) (x := 164) hM dX9_command_28 rfl rfl ?_
  refine aw_iload_n (pc := 29) (i := 2) (x := y1) hM dX9_command_29 rfl rfl ?_
  obtain ⟨r10, h9, h⟩ := bind_some h
  refine aw_cv1 (pc := 30) (n := 1) (As := [.int y1]) (st := []) (b := 164) (vo := (some (.int r10))) (c2 := 0) (s2 := 0) hM (k_X9_isNode h9) rfl cw_X9_203 sk_164 rfl rfl (by decide +kernel) rfl rfl ⟨(Nat.le_of_ble_eq_true rfl), (Nat.le_of_ble_eq_true rfl)⟩ (Nat.le_of_ble_eq_true rfl) ⟨(Nat.le_of_ble_eq_true rfl), (Nat.le_of_ble_eq_true rfl)⟩ dX9_command_30 rfl rfl ?_
  refine aw_if_eq (pc := 33) (tgt := 48) hM dX9_command_33 (by decide) (fun c11 => ?_) (fun c11 => ?_)
  · rw [if_pos c11] at h
    refine aw_iconst (pc := 48) (v := 0) hM dX9_command_48 (by decide) ?_
    exact k_X9_command_b49 hM hT hq F p0 y1 y3 y5 y7 0 h
  · rw [if_neg c11] at h
    refine aw_aload_n (pc := 36) (i := 0) (x := 164) hM dX9_command_36 rfl rfl ?_
    refine aw_iload_n (pc := 37) (i := 3) (x := y3) hM dX9_command_37 rfl rfl ?_
    obtain ⟨r13, h12, h⟩ := bind_some h
    refine aw_cv1 (pc := 38) (n := 1) (As := [.int y3]) (st := []) (b := 164) (vo := (some (.int r13))) (c2 := 0) (s2 := 0) hM (k_X9_isPart h12) rfl cw_X9_211 sk_164 rfl rfl (by decide +kernel) rfl rfl ⟨(Nat.le_of_ble_eq_true rfl), (Nat.le_of_ble_eq_true rfl)⟩ (Nat.le_of_ble_eq_true rfl) ⟨(Nat.le_of_ble_eq_true rfl), (Nat.le_of_ble_eq_true rfl)⟩ dX9_command_38 rfl rfl ?_
    refine aw_if_eq (pc := 41) (tgt := 48) hM dX9_command_41 (by decide) (fun c14 => ?_) (fun c14 => ?_)
    · rw [if_pos c14] at h
      refine aw_iconst (pc := 48) (v := 0) hM dX9_command_48 (by decide) ?_
      exact k_X9_command_b49 hM hT hq F p0 y1 y3 y5 y7 0 h
    · rw [if_neg c14] at h
      refine aw_iconst (pc := 44) (v := 1) hM dX9_command_44 (by decide) ?_
      refine aw_goto (pc := 45) (tgt := 49) hM dX9_command_45 (by decide) ?_
      exact k_X9_command_b49 hM hT hq F p0 y1 y3 y5 y7 1 h
def rmX9_digit : Room := { frames := 1, cells := 0, slots := 0, locals := 25 }
def s_X9_digit_b28 (F : MM) (x1 : Int32) (x2 : Int32) (x3 : Int32) (t0 : Int32) : Option (Int32 × MM) := (s_X9_in F (Int32.toInt64 t0) (Int32.toInt64 x1) (Int32.toInt64 x2)).bind (fun r4 => if r4 = 0 then some ((-9), F) else if t0 = x3 then some ((-9), F) else (some (mup F 164 3 ((F 164 3) + 1))).bind (fun F7 => some (t0, F7)))
def s_X9_digit (F : MM) (p0 : Int32) (p1 : Int32) (p2 : Int32) : Option (Int32 × MM) := if (F 164 2) ≤ (F 164 3) then s_X9_digit_b28 F p0 p1 p2 (-9) else if inb (F 164 3) 160 then (s_X9_digit_b28 F p0 p1 p2 ((F 165 (ix (F 164 3))) - 48)) else none
set_option maxRecDepth 20000 in
theorem k_X9_digit_b28 {C : CX} {M : MX} {G : GG} {Q : OUT → MM → GG → Prop} {r : (Int32 × MM)} (hM : MOk C RX9 cX9_digit 5 (some .int) rmX9_digit M) (hT : MNoT M) (hq : Q (.inl (some (.int r.1))) r.2 G) (F : MM) (x1 : Int32) (x2 : Int32) (x3 : Int32) (t0 : Int32) (h : s_X9_digit_b28 F x1 x2 x3 t0 = some r) : AW C 5 (ZM C rmX9_digit Q M) M 0 0 28 [some (.ref 164), some (.int x1), some (.int x2), some (.int x3), none] [.int t0] F G := by
  rw [s_X9_digit_b28] at h
  refine aw_istore (pc := 28) (i := 4) (L' := [some (.ref 164), some (.int x1), some (.int x2), some (.int x3), some (.int t0)]) hM dX9_digit_28  (by decide) rfl ?_
  refine aw_iload (pc := 30) (i := 4) (x := t0) hM dX9_digit_30  rfl ?_
  refine aw_i2l (pc := 32) hM dX9_digit_32 ?_
  refine aw_iload_n (pc := 33) (i := 1) (x := x1) hM dX9_digit_33 rfl rfl ?_
  refine aw_i2l (pc := 34) hM dX9_digit_34 ?_
  refine aw_iload_n (pc := 35) (i := 2) (x := x2) hM dX9_digit_35 rfl rfl ?_
  refine aw_i2l (pc := 36) hM dX9_digit_36 ?_
  obtain ⟨r4, h3, h⟩ := bind_some h
  refine aw_cs1 (pc := 37) (n := 3) (As := [.long (Int32.toInt64 t0), .long (Int32.toInt64 x1), .long (Int32.toInt64 x2)]) (st := []) (vo := (some (.int r4))) (c2 := 0) (s2 := 0) hM (k_X9_in h3) rfl cw_X9_82 (by decide +kernel) rfl rfl ⟨(Nat.le_of_ble_eq_true rfl), (Nat.le_of_ble_eq_true rfl)⟩ (Nat.le_of_ble_eq_true rfl) ⟨(Nat.le_of_ble_eq_true rfl), (Nat.le_of_ble_eq_true rfl)⟩ dX9_digit_37 rfl rfl ?_
  refine aw_if_eq (pc := 40) (tgt := 49) hM dX9_digit_40 (by decide) (fun c5 => ?_) (fun c5 => ?_)
  · rw [if_pos c5] at h
    refine aw_bipush (pc := 49) (v := (-9)) hM dX9_digit_49 (by decide) ?_
    obtain rfl := Option.some.inj h
    exact aw_iret (pc := 51) hM dX9_digit_51 (Nat.le_of_ble_eq_true rfl) (Nat.le_of_ble_eq_true rfl) hq
  · rw [if_neg c5] at h
    refine aw_iload (pc := 43) (i := 4) (x := t0) hM dX9_digit_43  rfl ?_
    refine aw_iload_n (pc := 45) (i := 3) (x := x3) hM dX9_digit_45 rfl rfl ?_
    refine aw_icmp_ne (pc := 46) (tgt := 52) hM dX9_digit_46 (by decide) (fun c6 => ?_) (fun c6 => ?_)
    · rw [if_neg c6] at h
      refine aw_aload_n (pc := 52) (i := 0) (x := 164) hM dX9_digit_52 rfl rfl ?_
      refine aw_dup (pc := 53) hM dX9_digit_53 rfl ?_
      refine aw_getI (pc := 54) hM fd_X9_97 sk_164 rfl dX9_digit_54 ?_
      refine aw_iconst (pc := 57) (v := 1) hM dX9_digit_57 (by decide) ?_
      refine aw_iadd (pc := 58) hM dX9_digit_58 ?_
      obtain ⟨F7, e8, h⟩ := bind_some h
      have e8 := Option.some.inj e8
      refine aw_put (pc := 59) (ty := .int) hM fd_X9_97 tyX9_ok nmX9 rfl (by decide +kernel) rfl rfl sk_164 rfl dX9_digit_59 ?_
      refine aw_mem e8 ?_
      refine aw_iload (pc := 62) (i := 4) (x := t0) hM dX9_digit_62  rfl ?_
      obtain rfl := Option.some.inj h
      exact aw_iret (pc := 64) hM dX9_digit_64 (Nat.le_of_ble_eq_true rfl) (Nat.le_of_ble_eq_true rfl) hq
    · rw [if_pos c6] at h
      refine aw_bipush (pc := 49) (v := (-9)) hM dX9_digit_49 (by decide) ?_
      obtain rfl := Option.some.inj h
      exact aw_iret (pc := 51) hM dX9_digit_51 (Nat.le_of_ble_eq_true rfl) (Nat.le_of_ble_eq_true rfl) hq
set_option maxRecDepth 20000 in
theorem k_X9_digit {C : CX} {F : MM} {G : GG} {p0 : Int32} {p1 : Int32} {p2 : Int32} {r : (Int32 × MM)} (h : s_X9_digit F p0 p1 p2 = some r) : AM C yX9_digit cX9_digit 5 (some .int) rmX9_digit [.ref 164, .int p0, .int p1, .int p2] F G (fun o F9 G9 => o = (.inl (some (.int r.1))) ∧ F9 = r.2 ∧ G9 = G) := by
  refine am_of (L := [some (.ref 164), some (.int p0), some (.int p1), some (.int p2), none]) (by decide) (Nat.le_of_ble_eq_true rfl) rfl (fun M hM hT => ?_)
  have hM : MOk C RX9 cX9_digit 5 (some .int) rmX9_digit M := hM
  obtain ⟨Q, hQ⟩ : ∃ Q : OUT → MM → GG → Prop, Q = (fun o F9 G9 => o = (.inl (some (.int r.1))) ∧ F9 = r.2 ∧ G9 = G) := ⟨_, rfl⟩
  have hq : Q (.inl (some (.int r.1))) r.2 G := by rw [hQ]; exact ⟨rfl, rfl, rfl⟩
  rw [← hQ]
  clear hQ
  rw [s_X9_digit] at h
  refine aw_aload_n (pc := 0) (i := 0) (x := 164) hM dX9_digit_0 rfl rfl ?_
  refine aw_getI (pc := 1) hM fd_X9_97 sk_164 rfl dX9_digit_1 ?_
  refine aw_aload_n (pc := 4) (i := 0) (x := 164) hM dX9_digit_4 rfl rfl ?_
  refine aw_getI (pc := 5) hM fd_X9_90 sk_164 rfl dX9_digit_5 ?_
  refine aw_icmp_ge (pc := 8) (tgt := 26) hM dX9_digit_8 (by decide) (fun c1 => ?_) (fun c1 => ?_)
  · rw [if_pos c1] at h
    refine aw_bipush (pc := 26) (v := (-9)) hM dX9_digit_26 (by decide) ?_
    exact k_X9_digit_b28 hM hT hq F p0 p1 p2 (-9) h
  · rw [if_neg c1] at h
    refine aw_aload_n (pc := 11) (i := 0) (x := 164) hM dX9_digit_11 rfl rfl ?_
    refine aw_getR (pc := 12) (r := 165) hM fd_X9_7 sk_164 rfl dX9_digit_12 ?_
    refine aw_aload_n (pc := 15) (i := 0) (x := 164) hM dX9_digit_15 rfl rfl ?_
    refine aw_getI (pc := 16) hM fd_X9_97 sk_164 rfl dX9_digit_16 ?_
    obtain ⟨c2, h⟩ := ite_some h
    refine aw_iald (pc := 19) hM sk_165 c2 dX9_digit_19 ?_
    refine aw_bipush (pc := 20) (v := 48) hM dX9_digit_20 (by decide) ?_
    refine aw_isub (pc := 22) hM dX9_digit_22 ?_
    refine aw_goto (pc := 23) (tgt := 28) hM dX9_digit_23 (by decide) ?_
    exact k_X9_digit_b28 hM hT hq F p0 p1 p2 ((F 165 (ix (F 164 3))) - 48) h
def rmX9_dismiss : Room := { frames := 2, cells := 0, slots := 0, locals := 45 }
def s_X9_dismiss_b45 (k34 : MM → Int32 → Int32 → Int32 → Option (Int32 × MM)) : Nat → MM → Int32 → Int32 → Int32 → Int32 → Option (Int32 × MM)
  | 0, _, _, _, _, _ => none
  | n + 1, F, x1, x2, x3, x4 => if 4 ≤ x4 then (some (x3 + 1 : Int32)).bind (fun y18 => k34 F x1 x2 y18) else (s_X9_partAt F x3).bind (fun r21 => if inb ((r21 + 1) + x4) 107 then ((some (x2 + (((F 171 (ix ((r21 + 1) + x4))) >>> (x1 &&& 31)) &&& 1) : Int32)).bind (fun y23 => (s_X9_partAt F x3).bind (fun r26 => if inb ((r26 + 1) + x4) 107 then (if inb ((r26 + 1) + x4) 107 then ((some (mup F 171 (ix ((r26 + 1) + x4)) ((F 171 (ix ((r26 + 1) + x4))) &&& (((1 : Int32) <<< (x1 &&& 31)) ^^^ (-1))))).bind (fun F29 => (some (x4 + 1 : Int32)).bind (fun y31 => s_X9_dismiss_b45 k34 n F29 x1 y23 x3 y31))) else none) else none))) else none)
def s_X9_dismiss_b34 : Nat → MM → Int32 → Int32 → Int32 → Option (Int32 × MM)
  | 0, _, _, _, _ => none
  | n + 1, F, x1, x2, x3 => if (F 164 5) ≤ x3 then some (x2, F) else s_X9_dismiss_b45 (s_X9_dismiss_b34 n) fu_ F x1 x2 x3 0
def s_X9_dismiss (F : MM) (p0 : Int32) : Option (Int32 × MM) := (s_X9_in F (Int32.toInt64 p0) 0 4).bind (fun r2 => if r2 = 0 then (s_X9_refused F 1).bind (fun z6 => if z6.1 = 0 then (s_X9_note z6.2).bind (fun F9 => s_X9_dismiss_b34 fu_ F9 p0 0 0) else some (0, z6.2)) else (s_X9_refused F 0).bind (fun z12 => if z12.1 = 0 then (s_X9_note z12.2).bind (fun F15 => s_X9_dismiss_b34 fu_ F15 p0 0 0) else some (0, z12.2)))
set_option maxRecDepth 20000 in
theorem k_X9_dismiss_b45 {C : CX} {M : MX} {G : GG} {Q : OUT → MM → GG → Prop} {k34 : MM → Int32 → Int32 → Int32 → Option (Int32 × MM)} {r : (Int32 × MM)} (hM : MOk C RX9 cX9_dismiss 5 (some .int) rmX9_dismiss M) (hT : MNoT M) (hk34 : ∀ (wF : MM) (w0 : Int32) (w1 : Int32) (w2 : Int32), k34 wF w0 w1 w2 = some r → AW C 5 (ZM C rmX9_dismiss Q M) M 0 0 34 [some (.ref 164), some (.int w0), some (.int w1), some (.int w2), none] [] wF G) (hq : Q (.inl (some (.int r.1))) r.2 G) : ∀ (n : Nat) (F : MM) (x1 : Int32) (x2 : Int32) (x3 : Int32) (x4 : Int32), s_X9_dismiss_b45 k34 n F x1 x2 x3 x4 = some r → AW C 5 (ZM C rmX9_dismiss Q M) M 0 0 45 [some (.ref 164), some (.int x1), some (.int x2), some (.int x3), some (.int x4)] [] F G := by
  intro n
  induction n with
  | zero => intro F x1 x2 x3 x4 h; exact nomatch h
  | succ n ih =>
    intro F x1 x2 x3 x4 h
    rw [s_X9_dismiss_b45] at h
    refine aw_iload (pc := 45) (i := 4) (x := x4) hM dX9_dismiss_45  rfl ?_
    refine aw_iconst (pc := 47) (v := 4) hM dX9_dismiss_47 (by decide) ?_
    refine aw_icmp_ge (pc := 48) (tgt := 100) hM dX9_dismiss_48 (by decide) (fun c17 => ?_) (fun c17 => ?_)
    · rw [if_pos c17] at h
      obtain ⟨y18, e19, h⟩ := bind_some h
      have e19 := Option.some.inj e19
      refine aw_iinc (pc := 100) (v := y18) (L' := [some (.ref 164), some (.int x1), some (.int x2), some (.int y18), some (.int x4)]) hM dX9_dismiss_100 rfl e19 (by decide) rfl ?_
      refine aw_goto (pc := 103) (tgt := 34) hM dX9_dismiss_103 (by decide) ?_
      refine aw_weak (L' := [some (.ref 164), some (.int x1), some (.int x2), some (.int y18), none]) ?_ (lw_of [true, true, true, true, false] rfl)
      exact hk34 F x1 x2 y18 h
    · rw [if_neg c17] at h
      refine aw_iload_n (pc := 51) (i := 2) (x := x2) hM dX9_dismiss_51 rfl rfl ?_
      refine aw_aload_n (pc := 52) (i := 0) (x := 164) hM dX9_dismiss_52 rfl rfl ?_
      refine aw_getR (pc := 53) (r := 171) hM fd_X9_41 sk_164 rfl dX9_dismiss_53 ?_
      refine aw_iload_n (pc := 56) (i := 3) (x := x3) hM dX9_dismiss_56 rfl rfl ?_
      obtain ⟨r21, h20, h⟩ := bind_some h
      refine aw_cs1 (pc := 57) (n := 1) (As := [.int x3]) (st := [.ref 171, .int x2]) (vo := (some (.int r21))) (c2 := 0) (s2 := 0) hM (k_X9_partAt h20) rfl cw_X9_119 (by decide +kernel) rfl rfl ⟨(Nat.le_of_ble_eq_true rfl), (Nat.le_of_ble_eq_true rfl)⟩ (Nat.le_of_ble_eq_true rfl) ⟨(Nat.le_of_ble_eq_true rfl), (Nat.le_of_ble_eq_true rfl)⟩ dX9_dismiss_57 rfl rfl ?_
      refine aw_iconst (pc := 60) (v := 1) hM dX9_dismiss_60 (by decide) ?_
      refine aw_iadd (pc := 61) hM dX9_dismiss_61 ?_
      refine aw_iload (pc := 62) (i := 4) (x := x4) hM dX9_dismiss_62  rfl ?_
      refine aw_iadd (pc := 64) hM dX9_dismiss_64 ?_
      obtain ⟨c22, h⟩ := ite_some h
      refine aw_iald (pc := 65) hM sk_171 c22 dX9_dismiss_65 ?_
      refine aw_iload_n (pc := 66) (i := 1) (x := x1) hM dX9_dismiss_66 rfl rfl ?_
      refine aw_ishr (pc := 67) hM dX9_dismiss_67 ?_
      refine aw_iconst (pc := 68) (v := 1) hM dX9_dismiss_68 (by decide) ?_
      refine aw_iand (pc := 69) hM dX9_dismiss_69 ?_
      refine aw_iadd (pc := 70) hM dX9_dismiss_70 ?_
      obtain ⟨y23, e24, h⟩ := bind_some h
      have e24 := Option.some.inj e24
      refine aw_topi e24 ?_
      refine aw_istore_n (pc := 71) (i := 2) (L' := [some (.ref 164), some (.int x1), some (.int y23), some (.int x3), some (.int x4)]) hM dX9_dismiss_71 rfl (by decide) rfl ?_
      refine aw_aload_n (pc := 72) (i := 0) (x := 164) hM dX9_dismiss_72 rfl rfl ?_
      refine aw_getR (pc := 73) (r := 171) hM fd_X9_41 sk_164 rfl dX9_dismiss_73 ?_
      refine aw_iload_n (pc := 76) (i := 3) (x := x3) hM dX9_dismiss_76 rfl rfl ?_
      obtain ⟨r26, h25, h⟩ := bind_some h
      refine aw_cs1 (pc := 77) (n := 1) (As := [.int x3]) (st := [.ref 171]) (vo := (some (.int r26))) (c2 := 0) (s2 := 0) hM (k_X9_partAt h25) rfl cw_X9_119 (by decide +kernel) rfl rfl ⟨(Nat.le_of_ble_eq_true rfl), (Nat.le_of_ble_eq_true rfl)⟩ (Nat.le_of_ble_eq_true rfl) ⟨(Nat.le_of_ble_eq_true rfl), (Nat.le_of_ble_eq_true rfl)⟩ dX9_dismiss_77 rfl rfl ?_
      refine aw_iconst (pc := 80) (v := 1) hM dX9_dismiss_80 (by decide) ?_
      refine aw_iadd (pc := 81) hM dX9_dismiss_81 ?_
      refine aw_iload (pc := 82) (i := 4) (x := x4) hM dX9_dismiss_82  rfl ?_
      refine aw_iadd (pc := 84) hM dX9_dismiss_84 ?_
      refine aw_dup2 (pc := 85) hM dX9_dismiss_85 rfl rfl ?_
      obtain ⟨c27, h⟩ := ite_some h
      refine aw_iald (pc := 86) hM sk_171 c27 dX9_dismiss_86 ?_
      refine aw_iconst (pc := 87) (v := 1) hM dX9_dismiss_87 (by decide) ?_
      refine aw_iload_n (pc := 88) (i := 1) (x := x1) hM dX9_dismiss_88 rfl rfl ?_
      refine aw_ishl (pc := 89) hM dX9_dismiss_89 ?_
      refine aw_iconst (pc := 90) (v := (-1)) hM dX9_dismiss_90 (by decide) ?_
      refine aw_ixor (pc := 91) hM dX9_dismiss_91 ?_
      refine aw_iand (pc := 92) hM dX9_dismiss_92 ?_
      obtain ⟨c28, h⟩ := ite_some h
      obtain ⟨F29, e30, h⟩ := bind_some h
      have e30 := Option.some.inj e30
      refine aw_iast (pc := 93) hM sk_171 c28 dX9_dismiss_93 ?_
      refine aw_mem e30 ?_
      obtain ⟨y31, e32, h⟩ := bind_some h
      have e32 := Option.some.inj e32
      refine aw_iinc (pc := 94) (v := y31) (L' := [some (.ref 164), some (.int x1), some (.int y23), some (.int x3), some (.int y31)]) hM dX9_dismiss_94 rfl e32 (by decide) rfl ?_
      refine aw_goto (pc := 97) (tgt := 45) hM dX9_dismiss_97 (by decide) ?_
      exact ih F29 x1 y23 x3 y31 h
set_option maxRecDepth 20000 in
theorem k_X9_dismiss_b34 {C : CX} {M : MX} {G : GG} {Q : OUT → MM → GG → Prop} {r : (Int32 × MM)} (hM : MOk C RX9 cX9_dismiss 5 (some .int) rmX9_dismiss M) (hT : MNoT M) (hq : Q (.inl (some (.int r.1))) r.2 G) : ∀ (n : Nat) (F : MM) (x1 : Int32) (x2 : Int32) (x3 : Int32), s_X9_dismiss_b34 n F x1 x2 x3 = some r → AW C 5 (ZM C rmX9_dismiss Q M) M 0 0 34 [some (.ref 164), some (.int x1), some (.int x2), some (.int x3), none] [] F G := by
  intro n
  induction n with
  | zero => intro F x1 x2 x3 h; exact nomatch h
  | succ n ih =>
    intro F x1 x2 x3 h
    rw [s_X9_dismiss_b34] at h
    refine aw_iload_n (pc := 34) (i := 3) (x := x3) hM dX9_dismiss_34 rfl rfl ?_
    refine aw_aload_n (pc := 35) (i := 0) (x := 164) hM dX9_dismiss_35 rfl rfl ?_
    refine aw_getI (pc := 36) hM fd_X9_17 sk_164 rfl dX9_dismiss_36 ?_
    refine aw_icmp_ge (pc := 39) (tgt := 106) hM dX9_dismiss_39 (by decide) (fun c16 => ?_) (fun c16 => ?_)
    · rw [if_pos c16] at h
      refine aw_iload_n (pc := 106) (i := 2) (x := x2) hM dX9_dismiss_106 rfl rfl ?_
      obtain rfl := Option.some.inj h
      exact aw_iret (pc := 107) hM dX9_dismiss_107 (Nat.le_of_ble_eq_true rfl) (Nat.le_of_ble_eq_true rfl) hq
    · rw [if_neg c16] at h
      refine aw_iconst (pc := 42) (v := 0) hM dX9_dismiss_42 (by decide) ?_
      refine aw_istore (pc := 43) (i := 4) (L' := [some (.ref 164), some (.int x1), some (.int x2), some (.int x3), some (.int 0)]) hM dX9_dismiss_43  (by decide) rfl ?_
      exact k_X9_dismiss_b45 hM hT (fun wF w0 w1 w2 h9 => ih wF w0 w1 w2 h9) hq fu_ F x1 x2 x3 0 h
set_option maxRecDepth 20000 in
theorem k_X9_dismiss {C : CX} {F : MM} {G : GG} {p0 : Int32} {r : (Int32 × MM)} (h : s_X9_dismiss F p0 = some r) : AM C yX9_dismiss cX9_dismiss 5 (some .int) rmX9_dismiss [.ref 164, .int p0] F G (fun o F9 G9 => o = (.inl (some (.int r.1))) ∧ F9 = r.2 ∧ G9 = G) := by
  refine am_of (L := [some (.ref 164), some (.int p0), none, none, none]) (by decide) (Nat.le_of_ble_eq_true rfl) rfl (fun M hM hT => ?_)
  have hM : MOk C RX9 cX9_dismiss 5 (some .int) rmX9_dismiss M := hM
  obtain ⟨Q, hQ⟩ : ∃ Q : OUT → MM → GG → Prop, Q = (fun o F9 G9 => o = (.inl (some (.int r.1))) ∧ F9 = r.2 ∧ G9 = G) := ⟨_, rfl⟩
  have hq : Q (.inl (some (.int r.1))) r.2 G := by rw [hQ]; exact ⟨rfl, rfl, rfl⟩
  rw [← hQ]
  clear hQ
  rw [s_X9_dismiss] at h
  refine aw_aload_n (pc := 0) (i := 0) (x := 164) hM dX9_dismiss_0 rfl rfl ?_
  refine aw_iload_n (pc := 1) (i := 1) (x := p0) hM dX9_dismiss_1 rfl rfl ?_
  refine aw_i2l (pc := 2) hM dX9_dismiss_2 ?_
  refine aw_lconst (pc := 3) (v := 0) hM dX9_dismiss_3 (by decide) ?_
  refine aw_ldc2 (pc := 4) hM gw_1232 dX9_dismiss_4 ?_
  obtain ⟨r2, h1, h⟩ := bind_some h
  refine aw_cs1 (pc := 7) (n := 3) (As := [.long (Int32.toInt64 p0), .long 0, .long 4]) (st := [.ref 164]) (vo := (some (.int r2))) (c2 := 0) (s2 := 0) hM (k_X9_in h1) rfl cw_X9_82 (by decide +kernel) rfl rfl ⟨(Nat.le_of_ble_eq_true rfl), (Nat.le_of_ble_eq_true rfl)⟩ (Nat.le_of_ble_eq_true rfl) ⟨(Nat.le_of_ble_eq_true rfl), (Nat.le_of_ble_eq_true rfl)⟩ dX9_dismiss_7 rfl rfl ?_
  refine aw_if_eq (pc := 10) (tgt := 17) hM dX9_dismiss_10 (by decide) (fun c3 => ?_) (fun c3 => ?_)
  · rw [if_pos c3] at h
    refine aw_iconst (pc := 17) (v := 1) hM dX9_dismiss_17 (by decide) ?_
    obtain ⟨z6, h4, h⟩ := bind_some h
    refine aw_cv1 (pc := 18) (n := 1) (As := [.int 1]) (st := []) (b := 164) (vo := (some (.int z6.1))) (c2 := 0) (s2 := 0) hM (k_X9_refused h4) rfl cw_X9_93 sk_164 rfl rfl (by decide +kernel) rfl rfl ⟨(Nat.le_of_ble_eq_true rfl), (Nat.le_of_ble_eq_true rfl)⟩ (Nat.le_of_ble_eq_true rfl) ⟨(Nat.le_of_ble_eq_true rfl), (Nat.le_of_ble_eq_true rfl)⟩ dX9_dismiss_18 rfl rfl ?_
    refine aw_if_eq (pc := 21) (tgt := 26) hM dX9_dismiss_21 (by decide) (fun c7 => ?_) (fun c7 => ?_)
    · rw [if_pos c7] at h
      refine aw_aload_n (pc := 26) (i := 0) (x := 164) hM dX9_dismiss_26 rfl rfl ?_
      obtain ⟨F9, h8, h⟩ := bind_some h
      refine aw_cv1 (pc := 27) (n := 0) (As := []) (st := []) (b := 164) (vo := none) (c2 := 0) (s2 := 0) hM (k_X9_note h8) rfl cw_X9_79 sk_164 rfl rfl (by decide +kernel) rfl rfl ⟨(Nat.le_of_ble_eq_true rfl), (Nat.le_of_ble_eq_true rfl)⟩ (Nat.le_of_ble_eq_true rfl) ⟨(Nat.le_of_ble_eq_true rfl), (Nat.le_of_ble_eq_true rfl)⟩ dX9_dismiss_27 rfl rfl ?_
      refine aw_iconst (pc := 30) (v := 0) hM dX9_dismiss_30 (by decide) ?_
      refine aw_istore_n (pc := 31) (i := 2) (L' := [some (.ref 164), some (.int p0), some (.int 0), none, none]) hM dX9_dismiss_31 rfl (by decide) rfl ?_
      refine aw_iconst (pc := 32) (v := 0) hM dX9_dismiss_32 (by decide) ?_
      refine aw_istore_n (pc := 33) (i := 3) (L' := [some (.ref 164), some (.int p0), some (.int 0), some (.int 0), none]) hM dX9_dismiss_33 rfl (by decide) rfl ?_
      exact k_X9_dismiss_b34 hM hT hq fu_ F9 p0 0 0 h
    · rw [if_neg c7] at h
      refine aw_iconst (pc := 24) (v := 0) hM dX9_dismiss_24 (by decide) ?_
      obtain rfl := Option.some.inj h
      exact aw_iret (pc := 25) hM dX9_dismiss_25 (Nat.le_of_ble_eq_true rfl) (Nat.le_of_ble_eq_true rfl) hq
  · rw [if_neg c3] at h
    refine aw_iconst (pc := 13) (v := 0) hM dX9_dismiss_13 (by decide) ?_
    refine aw_goto (pc := 14) (tgt := 18) hM dX9_dismiss_14 (by decide) ?_
    obtain ⟨z12, h10, h⟩ := bind_some h
    refine aw_cv1 (pc := 18) (n := 1) (As := [.int 0]) (st := []) (b := 164) (vo := (some (.int z12.1))) (c2 := 0) (s2 := 0) hM (k_X9_refused h10) rfl cw_X9_93 sk_164 rfl rfl (by decide +kernel) rfl rfl ⟨(Nat.le_of_ble_eq_true rfl), (Nat.le_of_ble_eq_true rfl)⟩ (Nat.le_of_ble_eq_true rfl) ⟨(Nat.le_of_ble_eq_true rfl), (Nat.le_of_ble_eq_true rfl)⟩ dX9_dismiss_18 rfl rfl ?_
    refine aw_if_eq (pc := 21) (tgt := 26) hM dX9_dismiss_21 (by decide) (fun c13 => ?_) (fun c13 => ?_)
    · rw [if_pos c13] at h
      refine aw_aload_n (pc := 26) (i := 0) (x := 164) hM dX9_dismiss_26 rfl rfl ?_
      obtain ⟨F15, h14, h⟩ := bind_some h
      refine aw_cv1 (pc := 27) (n := 0) (As := []) (st := []) (b := 164) (vo := none) (c2 := 0) (s2 := 0) hM (k_X9_note h14) rfl cw_X9_79 sk_164 rfl rfl (by decide +kernel) rfl rfl ⟨(Nat.le_of_ble_eq_true rfl), (Nat.le_of_ble_eq_true rfl)⟩ (Nat.le_of_ble_eq_true rfl) ⟨(Nat.le_of_ble_eq_true rfl), (Nat.le_of_ble_eq_true rfl)⟩ dX9_dismiss_27 rfl rfl ?_
      refine aw_iconst (pc := 30) (v := 0) hM dX9_dismiss_30 (by decide) ?_
      refine aw_istore_n (pc := 31) (i := 2) (L' := [some (.ref 164), some (.int p0), some (.int 0), none, none]) hM dX9_dismiss_31 rfl (by decide) rfl ?_
      refine aw_iconst (pc := 32) (v := 0) hM dX9_dismiss_32 (by decide) ?_
      refine aw_istore_n (pc := 33) (i := 3) (L' := [some (.ref 164), some (.int p0), some (.int 0), some (.int 0), none]) hM dX9_dismiss_33 rfl (by decide) rfl ?_
      exact k_X9_dismiss_b34 hM hT hq fu_ F15 p0 0 0 h
    · rw [if_neg c13] at h
      refine aw_iconst (pc := 24) (v := 0) hM dX9_dismiss_24 (by decide) ?_
      obtain rfl := Option.some.inj h
      exact aw_iret (pc := 25) hM dX9_dismiss_25 (Nat.le_of_ble_eq_true rfl) (Nat.le_of_ble_eq_true rfl) hq
def rmX9_distance : Room := { frames := 3, cells := 0, slots := 0, locals := 67 }
def s_X9_distance (F : MM) (p0 : Int32) : Option Int32 := (s_X9_drifted F 171 p0).bind (fun r2 => (s_X9_ones F r2).bind (fun r4 => (s_X9_codeOf F 171 p0 0).bind (fun r6 => (s_X9_broken F r6).bind (fun r8 => (s_X9_ones F r8).bind (fun r10 => some ((100 * r4) + r10))))))
set_option maxRecDepth 20000 in
theorem k_X9_distance {C : CX} {F : MM} {G : GG} {p0 : Int32} {r : Int32} (h : s_X9_distance F p0 = some r) : AM C yX9_distance cX9_distance 2 (some .int) rmX9_distance [.ref 164, .int p0] F G (fun o F9 G9 => o = (.inl (some (.int r))) ∧ F9 = F ∧ G9 = G) := by
  refine am_of (L := [some (.ref 164), some (.int p0)]) (by decide) (Nat.le_of_ble_eq_true rfl) rfl (fun M hM hT => ?_)
  have hM : MOk C RX9 cX9_distance 2 (some .int) rmX9_distance M := hM
  obtain ⟨Q, hQ⟩ : ∃ Q : OUT → MM → GG → Prop, Q = (fun o F9 G9 => o = (.inl (some (.int r))) ∧ F9 = F ∧ G9 = G) := ⟨_, rfl⟩
  have hq : Q (.inl (some (.int r))) F G := by rw [hQ]; exact ⟨rfl, rfl, rfl⟩
  rw [← hQ]
  clear hQ
  rw [s_X9_distance] at h
  refine aw_bipush (pc := 0) (v := 100) hM dX9_distance_0 (by decide) ?_
  refine aw_aload_n (pc := 2) (i := 0) (x := 164) hM dX9_distance_2 rfl rfl ?_
  refine aw_aload_n (pc := 3) (i := 0) (x := 164) hM dX9_distance_3 rfl rfl ?_
  refine aw_getR (pc := 4) (r := 171) hM fd_X9_41 sk_164 rfl dX9_distance_4 ?_
  refine aw_iload_n (pc := 7) (i := 1) (x := p0) hM dX9_distance_7 rfl rfl ?_
  obtain ⟨r2, h1, h⟩ := bind_some h
  refine aw_cv1 (pc := 8) (n := 2) (As := [.ref 171, .int p0]) (st := [.int 100]) (b := 164) (vo := (some (.int r2))) (c2 := 0) (s2 := 0) hM (k_X9_drifted (ia_of sk_171) h1) rfl cw_X9_191 sk_164 rfl rfl (by decide +kernel) rfl rfl ⟨(Nat.le_of_ble_eq_true rfl), (Nat.le_of_ble_eq_true rfl)⟩ (Nat.le_of_ble_eq_true rfl) ⟨(Nat.le_of_ble_eq_true rfl), (Nat.le_of_ble_eq_true rfl)⟩ dX9_distance_8 rfl rfl ?_
  obtain ⟨r4, h3, h⟩ := bind_some h
  refine aw_cs1 (pc := 11) (n := 1) (As := [.int r2]) (st := [.int 100]) (vo := (some (.int r4))) (c2 := 0) (s2 := 0) hM (k_X9_ones h3) rfl cw_X9_167 (by decide +kernel) rfl rfl ⟨(Nat.le_of_ble_eq_true rfl), (Nat.le_of_ble_eq_true rfl)⟩ (Nat.le_of_ble_eq_true rfl) ⟨(Nat.le_of_ble_eq_true rfl), (Nat.le_of_ble_eq_true rfl)⟩ dX9_distance_11 rfl rfl ?_
  refine aw_imul (pc := 14) hM dX9_distance_14 ?_
  refine aw_aload_n (pc := 15) (i := 0) (x := 164) hM dX9_distance_15 rfl rfl ?_
  refine aw_aload_n (pc := 16) (i := 0) (x := 164) hM dX9_distance_16 rfl rfl ?_
  refine aw_aload_n (pc := 17) (i := 0) (x := 164) hM dX9_distance_17 rfl rfl ?_
  refine aw_getR (pc := 18) (r := 171) hM fd_X9_41 sk_164 rfl dX9_distance_18 ?_
  refine aw_iload_n (pc := 21) (i := 1) (x := p0) hM dX9_distance_21 rfl rfl ?_
  refine aw_iconst (pc := 22) (v := 0) hM dX9_distance_22 (by decide) ?_
  obtain ⟨r6, h5, h⟩ := bind_some h
  refine aw_cv1 (pc := 23) (n := 3) (As := [.ref 171, .int p0, .int 0]) (st := [.ref 164, .int (100 * r4)]) (b := 164) (vo := (some (.int r6))) (c2 := 0) (s2 := 0) hM (k_X9_codeOf (ia_of sk_171) h5) rfl cw_X9_153 sk_164 rfl rfl (by decide +kernel) rfl rfl ⟨(Nat.le_of_ble_eq_true rfl), (Nat.le_of_ble_eq_true rfl)⟩ (Nat.le_of_ble_eq_true rfl) ⟨(Nat.le_of_ble_eq_true rfl), (Nat.le_of_ble_eq_true rfl)⟩ dX9_distance_23 rfl rfl ?_
  obtain ⟨r8, h7, h⟩ := bind_some h
  refine aw_cv1 (pc := 26) (n := 1) (As := [.int r6]) (st := [.int (100 * r4)]) (b := 164) (vo := (some (.int r8))) (c2 := 0) (s2 := 0) hM (k_X9_broken h7) rfl cw_X9_160 sk_164 rfl rfl (by decide +kernel) rfl rfl ⟨(Nat.le_of_ble_eq_true rfl), (Nat.le_of_ble_eq_true rfl)⟩ (Nat.le_of_ble_eq_true rfl) ⟨(Nat.le_of_ble_eq_true rfl), (Nat.le_of_ble_eq_true rfl)⟩ dX9_distance_26 rfl rfl ?_
  obtain ⟨r10, h9, h⟩ := bind_some h
  refine aw_cs1 (pc := 29) (n := 1) (As := [.int r8]) (st := [.int (100 * r4)]) (vo := (some (.int r10))) (c2 := 0) (s2 := 0) hM (k_X9_ones h9) rfl cw_X9_167 (by decide +kernel) rfl rfl ⟨(Nat.le_of_ble_eq_true rfl), (Nat.le_of_ble_eq_true rfl)⟩ (Nat.le_of_ble_eq_true rfl) ⟨(Nat.le_of_ble_eq_true rfl), (Nat.le_of_ble_eq_true rfl)⟩ dX9_distance_29 rfl rfl ?_
  refine aw_iadd (pc := 32) hM dX9_distance_32 ?_
  obtain rfl := Option.some.inj h
  exact aw_iret (pc := 33) hM dX9_distance_33 (Nat.le_of_ble_eq_true rfl) (Nat.le_of_ble_eq_true rfl) hq
def rmX9_drift : Room := { frames := 3, cells := 0, slots := 0, locals := 68 }
def s_X9_drift (F : MM) (p0 : Int32) (p1 : Int32) (p2 : Int32) : Option (Int32 × MM) := (s_X9_isNode F p0).bind (fun r2 => if r2 = 0 then (s_X9_refused F 1).bind (fun z6 => if z6.1 = 0 then (s_X9_at z6.2 p0).bind (fun r9 => (s_X9_change z6.2 (r9 + p1) p2).bind (fun z12 => some (z12.1, z12.2))) else some (0, z6.2)) else (s_X9_isPart F p1).bind (fun r14 => if r14 = 0 then (s_X9_refused F 1).bind (fun z39 => if z39.1 = 0 then (s_X9_at z39.2 p0).bind (fun r42 => (s_X9_change z39.2 (r42 + p1) p2).bind (fun z45 => some (z45.1, z45.2))) else some (0, z39.2)) else (s_X9_isVersion F p2).bind (fun r17 => if r17 = 0 then (s_X9_refused F 2).bind (fun z30 => if z30.1 = 0 then (s_X9_at z30.2 p0).bind (fun r33 => (s_X9_change z30.2 (r33 + p1) p2).bind (fun z36 => some (z36.1, z36.2))) else some (0, z30.2)) else (s_X9_refused F 0).bind (fun z21 => if z21.1 = 0 then (s_X9_at z21.2 p0).bind (fun r24 => (s_X9_change z21.2 (r24 + p1) p2).bind (fun z27 => some (z27.1, z27.2))) else some (0, z21.2)))))
set_option maxRecDepth 20000 in
theorem k_X9_drift {C : CX} {F : MM} {G : GG} {p0 : Int32} {p1 : Int32} {p2 : Int32} {r : (Int32 × MM)} (h : s_X9_drift F p0 p1 p2 = some r) : AM C yX9_drift cX9_drift 4 (some .int) rmX9_drift [.ref 164, .int p0, .int p1, .int p2] F G (fun o F9 G9 => o = (.inl (some (.int r.1))) ∧ F9 = r.2 ∧ G9 = G) := by
  refine am_of (L := [some (.ref 164), some (.int p0), some (.int p1), some (.int p2)]) (by decide) (Nat.le_of_ble_eq_true rfl) rfl (fun M hM hT => ?_)
  have hM : MOk C RX9 cX9_drift 4 (some .int) rmX9_drift M := hM
  obtain ⟨Q, hQ⟩ : ∃ Q : OUT → MM → GG → Prop, Q = (fun o F9 G9 => o = (.inl (some (.int r.1))) ∧ F9 = r.2 ∧ G9 = G) := ⟨_, rfl⟩
  have hq : Q (.inl (some (.int r.1))) r.2 G := by rw [hQ]; exact ⟨rfl, rfl, rfl⟩
  rw [← hQ]
  clear hQ
  rw [s_X9_drift] at h
  refine aw_aload_n (pc := 0) (i := 0) (x := 164) hM dX9_drift_0 rfl rfl ?_
  refine aw_aload_n (pc := 1) (i := 0) (x := 164) hM dX9_drift_1 rfl rfl ?_
  refine aw_iload_n (pc := 2) (i := 1) (x := p0) hM dX9_drift_2 rfl rfl ?_
  obtain ⟨r2, h1, h⟩ := bind_some h
  refine aw_cv1 (pc := 3) (n := 1) (As := [.int p0]) (st := [.ref 164]) (b := 164) (vo := (some (.int r2))) (c2 := 0) (s2 := 0) hM (k_X9_isNode h1) rfl cw_X9_203 sk_164 rfl rfl (by decide +kernel) rfl rfl ⟨(Nat.le_of_ble_eq_true rfl), (Nat.le_of_ble_eq_true rfl)⟩ (Nat.le_of_ble_eq_true rfl) ⟨(Nat.le_of_ble_eq_true rfl), (Nat.le_of_ble_eq_true rfl)⟩ dX9_drift_3 rfl rfl ?_
  refine aw_if_eq (pc := 6) (tgt := 17) hM dX9_drift_6 (by decide) (fun c3 => ?_) (fun c3 => ?_)
  · rw [if_pos c3] at h
    refine aw_iconst (pc := 17) (v := 1) hM dX9_drift_17 (by decide) ?_
    refine aw_goto (pc := 18) (tgt := 33) hM dX9_drift_18 (by decide) ?_
    obtain ⟨z6, h4, h⟩ := bind_some h
    refine aw_cv1 (pc := 33) (n := 1) (As := [.int 1]) (st := []) (b := 164) (vo := (some (.int z6.1))) (c2 := 0) (s2 := 0) hM (k_X9_refused h4) rfl cw_X9_93 sk_164 rfl rfl (by decide +kernel) rfl rfl ⟨(Nat.le_of_ble_eq_true rfl), (Nat.le_of_ble_eq_true rfl)⟩ (Nat.le_of_ble_eq_true rfl) ⟨(Nat.le_of_ble_eq_true rfl), (Nat.le_of_ble_eq_true rfl)⟩ dX9_drift_33 rfl rfl ?_
    refine aw_if_eq (pc := 36) (tgt := 41) hM dX9_drift_36 (by decide) (fun c7 => ?_) (fun c7 => ?_)
    · rw [if_pos c7] at h
      refine aw_aload_n (pc := 41) (i := 0) (x := 164) hM dX9_drift_41 rfl rfl ?_
      refine aw_iload_n (pc := 42) (i := 1) (x := p0) hM dX9_drift_42 rfl rfl ?_
      obtain ⟨r9, h8, h⟩ := bind_some h
      refine aw_cs1 (pc := 43) (n := 1) (As := [.int p0]) (st := [.ref 164]) (vo := (some (.int r9))) (c2 := 0) (s2 := 0) hM (k_X9_at h8) rfl cw_X9_126 (by decide +kernel) rfl rfl ⟨(Nat.le_of_ble_eq_true rfl), (Nat.le_of_ble_eq_true rfl)⟩ (Nat.le_of_ble_eq_true rfl) ⟨(Nat.le_of_ble_eq_true rfl), (Nat.le_of_ble_eq_true rfl)⟩ dX9_drift_43 rfl rfl ?_
      refine aw_iload_n (pc := 46) (i := 2) (x := p1) hM dX9_drift_46 rfl rfl ?_
      refine aw_iadd (pc := 47) hM dX9_drift_47 ?_
      refine aw_iload_n (pc := 48) (i := 3) (x := p2) hM dX9_drift_48 rfl rfl ?_
      obtain ⟨z12, h10, h⟩ := bind_some h
      refine aw_cv1 (pc := 49) (n := 2) (As := [.int (r9 + p1), .int p2]) (st := []) (b := 164) (vo := (some (.int z12.1))) (c2 := 0) (s2 := 0) hM (k_X9_change h10) rfl cw_X9_219 sk_164 rfl rfl (by decide +kernel) rfl rfl ⟨(Nat.le_of_ble_eq_true rfl), (Nat.le_of_ble_eq_true rfl)⟩ (Nat.le_of_ble_eq_true rfl) ⟨(Nat.le_of_ble_eq_true rfl), (Nat.le_of_ble_eq_true rfl)⟩ dX9_drift_49 rfl rfl ?_
      obtain rfl := Option.some.inj h
      exact aw_iret (pc := 52) hM dX9_drift_52 (Nat.le_of_ble_eq_true rfl) (Nat.le_of_ble_eq_true rfl) hq
    · rw [if_neg c7] at h
      refine aw_iconst (pc := 39) (v := 0) hM dX9_drift_39 (by decide) ?_
      obtain rfl := Option.some.inj h
      exact aw_iret (pc := 40) hM dX9_drift_40 (Nat.le_of_ble_eq_true rfl) (Nat.le_of_ble_eq_true rfl) hq
  · rw [if_neg c3] at h
    refine aw_aload_n (pc := 9) (i := 0) (x := 164) hM dX9_drift_9 rfl rfl ?_
    refine aw_iload_n (pc := 10) (i := 2) (x := p1) hM dX9_drift_10 rfl rfl ?_
    obtain ⟨r14, h13, h⟩ := bind_some h
    refine aw_cv1 (pc := 11) (n := 1) (As := [.int p1]) (st := [.ref 164]) (b := 164) (vo := (some (.int r14))) (c2 := 0) (s2 := 0) hM (k_X9_isPart h13) rfl cw_X9_211 sk_164 rfl rfl (by decide +kernel) rfl rfl ⟨(Nat.le_of_ble_eq_true rfl), (Nat.le_of_ble_eq_true rfl)⟩ (Nat.le_of_ble_eq_true rfl) ⟨(Nat.le_of_ble_eq_true rfl), (Nat.le_of_ble_eq_true rfl)⟩ dX9_drift_11 rfl rfl ?_
    refine aw_if_ne (pc := 14) (tgt := 21) hM dX9_drift_14 (by decide) (fun c15 => ?_) (fun c15 => ?_)
    · rw [if_neg c15] at h
      refine aw_iload_n (pc := 21) (i := 3) (x := p2) hM dX9_drift_21 rfl rfl ?_
      obtain ⟨r17, h16, h⟩ := bind_some h
      refine aw_cs1 (pc := 22) (n := 1) (As := [.int p2]) (st := [.ref 164]) (vo := (some (.int r17))) (c2 := 0) (s2 := 0) hM (k_X9_isVersion h16) rfl cw_X9_216 (by decide +kernel) rfl rfl ⟨(Nat.le_of_ble_eq_true rfl), (Nat.le_of_ble_eq_true rfl)⟩ (Nat.le_of_ble_eq_true rfl) ⟨(Nat.le_of_ble_eq_true rfl), (Nat.le_of_ble_eq_true rfl)⟩ dX9_drift_22 rfl rfl ?_
      refine aw_if_ne (pc := 25) (tgt := 32) hM dX9_drift_25 (by decide) (fun c18 => ?_) (fun c18 => ?_)
      · rw [if_neg c18] at h
        refine aw_iconst (pc := 32) (v := 0) hM dX9_drift_32 (by decide) ?_
        obtain ⟨z21, h19, h⟩ := bind_some h
        refine aw_cv1 (pc := 33) (n := 1) (As := [.int 0]) (st := []) (b := 164) (vo := (some (.int z21.1))) (c2 := 0) (s2 := 0) hM (k_X9_refused h19) rfl cw_X9_93 sk_164 rfl rfl (by decide +kernel) rfl rfl ⟨(Nat.le_of_ble_eq_true rfl), (Nat.le_of_ble_eq_true rfl)⟩ (Nat.le_of_ble_eq_true rfl) ⟨(Nat.le_of_ble_eq_true rfl), (Nat.le_of_ble_eq_true rfl)⟩ dX9_drift_33 rfl rfl ?_
        refine aw_if_eq (pc := 36) (tgt := 41) hM dX9_drift_36 (by decide) (fun c22 => ?_) (fun c22 => ?_)
        · rw [if_pos c22] at h
          refine aw_aload_n (pc := 41) (i := 0) (x := 164) hM dX9_drift_41 rfl rfl ?_
          refine aw_iload_n (pc := 42) (i := 1) (x := p0) hM dX9_drift_42 rfl rfl ?_
          obtain ⟨r24, h23, h⟩ := bind_some h
          refine aw_cs1 (pc := 43) (n := 1) (As := [.int p0]) (st := [.ref 164]) (vo := (some (.int r24))) (c2 := 0) (s2 := 0) hM (k_X9_at h23) rfl cw_X9_126 (by decide +kernel) rfl rfl ⟨(Nat.le_of_ble_eq_true rfl), (Nat.le_of_ble_eq_true rfl)⟩ (Nat.le_of_ble_eq_true rfl) ⟨(Nat.le_of_ble_eq_true rfl), (Nat.le_of_ble_eq_true rfl)⟩ dX9_drift_43 rfl rfl ?_
          refine aw_iload_n (pc := 46) (i := 2) (x := p1) hM dX9_drift_46 rfl rfl ?_
          refine aw_iadd (pc := 47) hM dX9_drift_47 ?_
          refine aw_iload_n (pc := 48) (i := 3) (x := p2) hM dX9_drift_48 rfl rfl ?_
          obtain ⟨z27, h25, h⟩ := bind_some h
          refine aw_cv1 (pc := 49) (n := 2) (As := [.int (r24 + p1), .int p2]) (st := []) (b := 164) (vo := (some (.int z27.1))) (c2 := 0) (s2 := 0) hM (k_X9_change h25) rfl cw_X9_219 sk_164 rfl rfl (by decide +kernel) rfl rfl ⟨(Nat.le_of_ble_eq_true rfl), (Nat.le_of_ble_eq_true rfl)⟩ (Nat.le_of_ble_eq_true rfl) ⟨(Nat.le_of_ble_eq_true rfl), (Nat.le_of_ble_eq_true rfl)⟩ dX9_drift_49 rfl rfl ?_
          obtain rfl := Option.some.inj h
          exact aw_iret (pc := 52) hM dX9_drift_52 (Nat.le_of_ble_eq_true rfl) (Nat.le_of_ble_eq_true rfl) hq
        · rw [if_neg c22] at h
          refine aw_iconst (pc := 39) (v := 0) hM dX9_drift_39 (by decide) ?_
          obtain rfl := Option.some.inj h
          exact aw_iret (pc := 40) hM dX9_drift_40 (Nat.le_of_ble_eq_true rfl) (Nat.le_of_ble_eq_true rfl) hq
      · rw [if_pos c18] at h
        refine aw_iconst (pc := 28) (v := 2) hM dX9_drift_28 (by decide) ?_
        refine aw_goto (pc := 29) (tgt := 33) hM dX9_drift_29 (by decide) ?_
        obtain ⟨z30, h28, h⟩ := bind_some h
        refine aw_cv1 (pc := 33) (n := 1) (As := [.int 2]) (st := []) (b := 164) (vo := (some (.int z30.1))) (c2 := 0) (s2 := 0) hM (k_X9_refused h28) rfl cw_X9_93 sk_164 rfl rfl (by decide +kernel) rfl rfl ⟨(Nat.le_of_ble_eq_true rfl), (Nat.le_of_ble_eq_true rfl)⟩ (Nat.le_of_ble_eq_true rfl) ⟨(Nat.le_of_ble_eq_true rfl), (Nat.le_of_ble_eq_true rfl)⟩ dX9_drift_33 rfl rfl ?_
        refine aw_if_eq (pc := 36) (tgt := 41) hM dX9_drift_36 (by decide) (fun c31 => ?_) (fun c31 => ?_)
        · rw [if_pos c31] at h
          refine aw_aload_n (pc := 41) (i := 0) (x := 164) hM dX9_drift_41 rfl rfl ?_
          refine aw_iload_n (pc := 42) (i := 1) (x := p0) hM dX9_drift_42 rfl rfl ?_
          obtain ⟨r33, h32, h⟩ := bind_some h
          refine aw_cs1 (pc := 43) (n := 1) (As := [.int p0]) (st := [.ref 164]) (vo := (some (.int r33))) (c2 := 0) (s2 := 0) hM (k_X9_at h32) rfl cw_X9_126 (by decide +kernel) rfl rfl ⟨(Nat.le_of_ble_eq_true rfl), (Nat.le_of_ble_eq_true rfl)⟩ (Nat.le_of_ble_eq_true rfl) ⟨(Nat.le_of_ble_eq_true rfl), (Nat.le_of_ble_eq_true rfl)⟩ dX9_drift_43 rfl rfl ?_
          refine aw_iload_n (pc := 46) (i := 2) (x := p1) hM dX9_drift_46 rfl rfl ?_
          refine aw_iadd (pc := 47) hM dX9_drift_47 ?_
          refine aw_iload_n (pc := 48) (i := 3) (x := p2) hM dX9_drift_48 rfl rfl ?_
          obtain ⟨z36, h34, h⟩ := bind_some h
          refine aw_cv1 (pc := 49) (n := 2) (As := [.int (r33 + p1), .int p2]) (st := []) (b := 164) (vo := (some (.int z36.1))) (c2 := 0) (s2 := 0) hM (k_X9_change h34) rfl cw_X9_219 sk_164 rfl rfl (by decide +kernel) rfl rfl ⟨(Nat.le_of_ble_eq_true rfl), (Nat.le_of_ble_eq_true rfl)⟩ (Nat.le_of_ble_eq_true rfl) ⟨(Nat.le_of_ble_eq_true rfl), (Nat.le_of_ble_eq_true rfl)⟩ dX9_drift_49 rfl rfl ?_
          obtain rfl := Option.some.inj h
          exact aw_iret (pc := 52) hM dX9_drift_52 (Nat.le_of_ble_eq_true rfl) (Nat.le_of_ble_eq_true rfl) hq
        · rw [if_neg c31] at h
          refine aw_iconst (pc := 39) (v := 0) hM dX9_drift_39 (by decide) ?_
          obtain rfl := Option.some.inj h
          exact aw_iret (pc := 40) hM dX9_drift_40 (Nat.le_of_ble_eq_true rfl) (Nat.le_of_ble_eq_true rfl) hq
    · rw [if_pos c15] at h
      refine aw_iconst (pc := 17) (v := 1) hM dX9_drift_17 (by decide) ?_
      refine aw_goto (pc := 18) (tgt := 33) hM dX9_drift_18 (by decide) ?_
      obtain ⟨z39, h37, h⟩ := bind_some h
      refine aw_cv1 (pc := 33) (n := 1) (As := [.int 1]) (st := []) (b := 164) (vo := (some (.int z39.1))) (c2 := 0) (s2 := 0) hM (k_X9_refused h37) rfl cw_X9_93 sk_164 rfl rfl (by decide +kernel) rfl rfl ⟨(Nat.le_of_ble_eq_true rfl), (Nat.le_of_ble_eq_true rfl)⟩ (Nat.le_of_ble_eq_true rfl) ⟨(Nat.le_of_ble_eq_true rfl), (Nat.le_of_ble_eq_true rfl)⟩ dX9_drift_33 rfl rfl ?_
      refine aw_if_eq (pc := 36) (tgt := 41) hM dX9_drift_36 (by decide) (fun c40 => ?_) (fun c40 => ?_)
      · rw [if_pos c40] at h
        refine aw_aload_n (pc := 41) (i := 0) (x := 164) hM dX9_drift_41 rfl rfl ?_
        refine aw_iload_n (pc := 42) (i := 1) (x := p0) hM dX9_drift_42 rfl rfl ?_
        obtain ⟨r42, h41, h⟩ := bind_some h
        refine aw_cs1 (pc := 43) (n := 1) (As := [.int p0]) (st := [.ref 164]) (vo := (some (.int r42))) (c2 := 0) (s2 := 0) hM (k_X9_at h41) rfl cw_X9_126 (by decide +kernel) rfl rfl ⟨(Nat.le_of_ble_eq_true rfl), (Nat.le_of_ble_eq_true rfl)⟩ (Nat.le_of_ble_eq_true rfl) ⟨(Nat.le_of_ble_eq_true rfl), (Nat.le_of_ble_eq_true rfl)⟩ dX9_drift_43 rfl rfl ?_
        refine aw_iload_n (pc := 46) (i := 2) (x := p1) hM dX9_drift_46 rfl rfl ?_
        refine aw_iadd (pc := 47) hM dX9_drift_47 ?_
        refine aw_iload_n (pc := 48) (i := 3) (x := p2) hM dX9_drift_48 rfl rfl ?_
        obtain ⟨z45, h43, h⟩ := bind_some h
        refine aw_cv1 (pc := 49) (n := 2) (As := [.int (r42 + p1), .int p2]) (st := []) (b := 164) (vo := (some (.int z45.1))) (c2 := 0) (s2 := 0) hM (k_X9_change h43) rfl cw_X9_219 sk_164 rfl rfl (by decide +kernel) rfl rfl ⟨(Nat.le_of_ble_eq_true rfl), (Nat.le_of_ble_eq_true rfl)⟩ (Nat.le_of_ble_eq_true rfl) ⟨(Nat.le_of_ble_eq_true rfl), (Nat.le_of_ble_eq_true rfl)⟩ dX9_drift_49 rfl rfl ?_
        obtain rfl := Option.some.inj h
        exact aw_iret (pc := 52) hM dX9_drift_52 (Nat.le_of_ble_eq_true rfl) (Nat.le_of_ble_eq_true rfl) hq
      · rw [if_neg c40] at h
        refine aw_iconst (pc := 39) (v := 0) hM dX9_drift_39 (by decide) ?_
        obtain rfl := Option.some.inj h
        exact aw_iret (pc := 40) hM dX9_drift_40 (Nat.le_of_ble_eq_true rfl) (Nat.le_of_ble_eq_true rfl) hq
def rmX9_passes : Room := { frames := 0, cells := 0, slots := 0, locals := 0 }
def s_X9_passes_b29 (F : MM) (t0 : Int32) : Option (Int32 × MM) := if t0 = 0 then (some (mup F 164 3 ((F 164 3) + 0))).bind (fun F5 => if t0 &&& 1 = t0 then (some (t0, F5)) else none) else (some (mup F 164 3 ((F 164 3) + 1))).bind (fun F8 => if t0 &&& 1 = t0 then (some (t0, F8)) else none)
def s_X9_passes (F : MM) (p0 : Int32) : Option (Int32 × MM) := if (F 164 2) ≤ (F 164 3) then s_X9_passes_b29 F 0 else if inb (F 164 3) 160 then (if (F 165 (ix (F 164 3))) = p0 then s_X9_passes_b29 F 1 else s_X9_passes_b29 F 0) else none
set_option maxRecDepth 20000 in
theorem k_X9_passes_b29 {C : CX} {M : MX} {G : GG} {Q : OUT → MM → GG → Prop} {r : (Int32 × MM)} (hM : MOk C RX9 cX9_passes 3 (some .boolean) rmX9_passes M) (hT : MNoT M) (hq : Q (.inl (some (.int r.1))) r.2 G) (F : MM) (t0 : Int32) (h : s_X9_passes_b29 F t0 = some r) : AW C 3 (ZM C rmX9_passes Q M) M 0 0 29 [some (.ref 164), none, none] [.int t0] F G := by
  rw [s_X9_passes_b29] at h
  refine aw_istore_n (pc := 29) (i := 2) (L' := [some (.ref 164), none, some (.int t0)]) hM dX9_passes_29 rfl (by decide) rfl ?_
  refine aw_aload_n (pc := 30) (i := 0) (x := 164) hM dX9_passes_30 rfl rfl ?_
  refine aw_dup (pc := 31) hM dX9_passes_31 rfl ?_
  refine aw_getI (pc := 32) hM fd_X9_97 sk_164 rfl dX9_passes_32 ?_
  refine aw_iload_n (pc := 35) (i := 2) (x := t0) hM dX9_passes_35 rfl rfl ?_
  refine aw_if_eq (pc := 36) (tgt := 43) hM dX9_passes_36 (by decide) (fun c4 => ?_) (fun c4 => ?_)
  · rw [if_pos c4] at h
    refine aw_iconst (pc := 43) (v := 0) hM dX9_passes_43 (by decide) ?_
    refine aw_iadd (pc := 44) hM dX9_passes_44 ?_
    obtain ⟨F5, e6, h⟩ := bind_some h
    have e6 := Option.some.inj e6
    refine aw_put (pc := 45) (ty := .int) hM fd_X9_97 tyX9_ok nmX9 rfl (by decide +kernel) rfl rfl sk_164 rfl dX9_passes_45 ?_
    refine aw_mem e6 ?_
    refine aw_iload_n (pc := 48) (i := 2) (x := t0) hM dX9_passes_48 rfl rfl ?_
    obtain ⟨c7, h⟩ := ite_some h
    obtain rfl := Option.some.inj h
    exact aw_zret (pc := 49) hM dX9_passes_49 c7 (Nat.le_of_ble_eq_true rfl) (Nat.le_of_ble_eq_true rfl) hq
  · rw [if_neg c4] at h
    refine aw_iconst (pc := 39) (v := 1) hM dX9_passes_39 (by decide) ?_
    refine aw_goto (pc := 40) (tgt := 44) hM dX9_passes_40 (by decide) ?_
    refine aw_iadd (pc := 44) hM dX9_passes_44 ?_
    obtain ⟨F8, e9, h⟩ := bind_some h
    have e9 := Option.some.inj e9
    refine aw_put (pc := 45) (ty := .int) hM fd_X9_97 tyX9_ok nmX9 rfl (by decide +kernel) rfl rfl sk_164 rfl dX9_passes_45 ?_
    refine aw_mem e9 ?_
    refine aw_iload_n (pc := 48) (i := 2) (x := t0) hM dX9_passes_48 rfl rfl ?_
    obtain ⟨c10, h⟩ := ite_some h
    obtain rfl := Option.some.inj h
    exact aw_zret (pc := 49) hM dX9_passes_49 c10 (Nat.le_of_ble_eq_true rfl) (Nat.le_of_ble_eq_true rfl) hq
set_option maxRecDepth 20000 in
theorem k_X9_passes {C : CX} {F : MM} {G : GG} {p0 : Int32} {r : (Int32 × MM)} (h : s_X9_passes F p0 = some r) : AM C yX9_passes cX9_passes 3 (some .boolean) rmX9_passes [.ref 164, .int p0] F G (fun o F9 G9 => o = (.inl (some (.int r.1))) ∧ F9 = r.2 ∧ G9 = G) := by
  refine am_of (L := [some (.ref 164), some (.int p0), none]) (by decide) (Nat.le_of_ble_eq_true rfl) rfl (fun M hM hT => ?_)
  have hM : MOk C RX9 cX9_passes 3 (some .boolean) rmX9_passes M := hM
  obtain ⟨Q, hQ⟩ : ∃ Q : OUT → MM → GG → Prop, Q = (fun o F9 G9 => o = (.inl (some (.int r.1))) ∧ F9 = r.2 ∧ G9 = G) := ⟨_, rfl⟩
  have hq : Q (.inl (some (.int r.1))) r.2 G := by rw [hQ]; exact ⟨rfl, rfl, rfl⟩
  rw [← hQ]
  clear hQ
  rw [s_X9_passes] at h
  refine aw_aload_n (pc := 0) (i := 0) (x := 164) hM dX9_passes_0 rfl rfl ?_
  refine aw_getI (pc := 1) hM fd_X9_97 sk_164 rfl dX9_passes_1 ?_
  refine aw_aload_n (pc := 4) (i := 0) (x := 164) hM dX9_passes_4 rfl rfl ?_
  refine aw_getI (pc := 5) hM fd_X9_90 sk_164 rfl dX9_passes_5 ?_
  refine aw_icmp_ge (pc := 8) (tgt := 28) hM dX9_passes_8 (by decide) (fun c1 => ?_) (fun c1 => ?_)
  · rw [if_pos c1] at h
    refine aw_iconst (pc := 28) (v := 0) hM dX9_passes_28 (by decide) ?_
    refine aw_weak (L' := [some (.ref 164), none, none]) ?_ (lw_of [true, false, true] rfl)
    exact k_X9_passes_b29 hM hT hq F 0 h
  · rw [if_neg c1] at h
    refine aw_aload_n (pc := 11) (i := 0) (x := 164) hM dX9_passes_11 rfl rfl ?_
    refine aw_getR (pc := 12) (r := 165) hM fd_X9_7 sk_164 rfl dX9_passes_12 ?_
    refine aw_aload_n (pc := 15) (i := 0) (x := 164) hM dX9_passes_15 rfl rfl ?_
    refine aw_getI (pc := 16) hM fd_X9_97 sk_164 rfl dX9_passes_16 ?_
    obtain ⟨c2, h⟩ := ite_some h
    refine aw_iald (pc := 19) hM sk_165 c2 dX9_passes_19 ?_
    refine aw_iload_n (pc := 20) (i := 1) (x := p0) hM dX9_passes_20 rfl rfl ?_
    refine aw_icmp_ne (pc := 21) (tgt := 28) hM dX9_passes_21 (by decide) (fun c3 => ?_) (fun c3 => ?_)
    · rw [if_neg c3] at h
      refine aw_iconst (pc := 28) (v := 0) hM dX9_passes_28 (by decide) ?_
      refine aw_weak (L' := [some (.ref 164), none, none]) ?_ (lw_of [true, false, true] rfl)
      exact k_X9_passes_b29 hM hT hq F 0 h
    · rw [if_pos c3] at h
      refine aw_iconst (pc := 24) (v := 1) hM dX9_passes_24 (by decide) ?_
      refine aw_goto (pc := 25) (tgt := 29) hM dX9_passes_25 (by decide) ?_
      refine aw_weak (L' := [some (.ref 164), none, none]) ?_ (lw_of [true, false, true] rfl)
      exact k_X9_passes_b29 hM hT hq F 1 h
def rmX9_readHead : Room := { frames := 2, cells := 0, slots := 0, locals := 49 }
def s_X9_readHead_b253 (k218 : MM → Int32 → Int32 → Option (Int32 × MM)) (F : MM) (x4 : Int32) (x5 : Int32) (t0 : Int32) : Option (Int32 × MM) := (s_X9_partAt F x4).bind (fun r74 => if t0 = 0 then if inb r74 107 then ((some (mup F 170 (ix r74) 0)).bind (fun F77 => (some (x4 + 1 : Int32)).bind (fun y79 => k218 F77 t0 y79))) else none else if inb r74 107 then ((some (mup F 170 (ix r74) x5)).bind (fun F82 => (some (x4 + 1 : Int32)).bind (fun y84 => k218 F82 t0 y84))) else none)
def s_X9_readHead_b218 : Nat → MM → Int32 → Int32 → Option (Int32 × MM)
  | 0, _, _, _ => none
  | n + 1, F, x3, x4 => if (F 164 12) ≤ x4 then if x3 &&& 1 = x3 then (some (x3, F)) else none else if x3 = 0 then if x3 &&& 1 = x3 then (some (x3, F)) else none else (s_X9_digit F 0 5 (-9)).bind (fun z71 => if z71.1 = (-9) then s_X9_readHead_b253 (s_X9_readHead_b218 n) z71.2 x4 z71.1 0 else s_X9_readHead_b253 (s_X9_readHead_b218 n) z71.2 x4 z71.1 1)
def s_X9_readHead_b163 : Nat → MM → Int32 → Int32 → Option (Int32 × MM)
  | 0, _, _, _ => none
  | n + 1, F, x3, x4 => if (F 164 11) ≤ x4 then s_X9_readHead_b218 fu_ F x3 0 else if x3 = 0 then s_X9_readHead_b218 fu_ F x3 0 else (s_X9_digit F 0 2 (-9)).bind (fun z55 => if inb x4 5 then ((some (mup z55.2 168 (ix x4) z55.1)).bind (fun F57 => if inb x4 5 then (if (F57 168 (ix x4)) = (-9) then (some (x4 + 1 : Int32)).bind (fun y61 => s_X9_readHead_b163 n F57 0 y61) else (some (x4 + 1 : Int32)).bind (fun y63 => s_X9_readHead_b163 n F57 1 y63)) else none)) else none)
def s_X9_readHead_b137 (F : MM) (x1 : Int32) (t0 : Int32) : Option (Int32 × MM) := (some (mup F 164 15 ((10 * x1) + t0))).bind (fun F48 => if t0 = (-9) then s_X9_readHead_b163 fu_ F48 0 0 else s_X9_readHead_b163 fu_ F48 1 0)
def s_X9_readHead_b99 (F : MM) (t0 : Int32) : Option (Int32 × MM) := if t0 = (-9) then s_X9_readHead_b137 F t0 (-9) else if t0 = 0 then if t0 = 5 then (s_X9_digit F 1 0 (-9)).bind (fun z47 => s_X9_readHead_b137 z47.2 t0 z47.1) else (s_X9_digit F 1 9 (-9)).bind (fun z44 => s_X9_readHead_b137 z44.2 t0 z44.1) else if t0 = 5 then (s_X9_digit F 0 0 (-9)).bind (fun z40 => s_X9_readHead_b137 z40.2 t0 z40.1) else (s_X9_digit F 0 9 (-9)).bind (fun z37 => s_X9_readHead_b137 z37.2 t0 z37.1)
def s_X9_readHead_b47 (F : MM) (t0 : Int32) : Option (Int32 × MM) := (some (mup F 164 12 t0)).bind (fun F14 => if (F14 164 12) = (-9) then (some (mup F14 164 14 (-9))).bind (fun F26 => if (F26 164 14) = (-9) then s_X9_readHead_b99 F26 (-9) else (s_X9_digit F26 0 5 (-9)).bind (fun z31 => s_X9_readHead_b99 z31.2 z31.1)) else (s_X9_digit F14 1 9 (-9)).bind (fun z19 => (some (mup z19.2 164 14 z19.1)).bind (fun F20 => if (F20 164 14) = (-9) then s_X9_readHead_b99 F20 (-9) else (s_X9_digit F20 0 5 (-9)).bind (fun z25 => s_X9_readHead_b99 z25.2 z25.1))))
def s_X9_readHead (F : MM) : Option (Int32 × MM) := (s_X9_passes F 68).bind (fun z3 => if z3.1 = 0 then some (0, z3.2) else (s_X9_digit z3.2 1 5 (-9)).bind (fun z7 => (some (mup z7.2 164 11 z7.1)).bind (fun F8 => if (F8 164 11) = (-9) then s_X9_readHead_b47 F8 (-9) else (s_X9_digit F8 1 6 (-9)).bind (fun z13 => s_X9_readHead_b47 z13.2 z13.1))))
set_option maxRecDepth 20000 in
theorem k_X9_readHead_b253 {C : CX} {M : MX} {G : GG} {Q : OUT → MM → GG → Prop} {k218 : MM → Int32 → Int32 → Option (Int32 × MM)} {r : (Int32 × MM)} (hM : MOk C RX9 cX9_readHead 6 (some .boolean) rmX9_readHead M) (hT : MNoT M) (hk218 : ∀ (wF : MM) (w0 : Int32) (w1 : Int32), k218 wF w0 w1 = some r → AW C 6 (ZM C rmX9_readHead Q M) M 0 0 218 [some (.ref 164), none, none, some (.int w0), some (.int w1), none] [] wF G) (hq : Q (.inl (some (.int r.1))) r.2 G) (F : MM) (x4 : Int32) (x5 : Int32) (t0 : Int32) (h : s_X9_readHead_b253 k218 F x4 x5 t0 = some r) : AW C 6 (ZM C rmX9_readHead Q M) M 0 0 253 [some (.ref 164), none, none, none, some (.int x4), some (.int x5)] [.int t0] F G := by
  rw [s_X9_readHead_b253] at h
  refine aw_istore_n (pc := 253) (i := 3) (L' := [some (.ref 164), none, none, some (.int t0), some (.int x4), some (.int x5)]) hM dX9_readHead_253 rfl (by decide) rfl ?_
  refine aw_aload_n (pc := 254) (i := 0) (x := 164) hM dX9_readHead_254 rfl rfl ?_
  refine aw_getR (pc := 255) (r := 170) hM fd_X9_38 sk_164 rfl dX9_readHead_255 ?_
  refine aw_iload (pc := 258) (i := 4) (x := x4) hM dX9_readHead_258  rfl ?_
  obtain ⟨r74, h73, h⟩ := bind_some h
  refine aw_cs1 (pc := 260) (n := 1) (As := [.int x4]) (st := [.ref 170]) (vo := (some (.int r74))) (c2 := 0) (s2 := 0) hM (k_X9_partAt h73) rfl cw_X9_119 (by decide +kernel) rfl rfl ⟨(Nat.le_of_ble_eq_true rfl), (Nat.le_of_ble_eq_true rfl)⟩ (Nat.le_of_ble_eq_true rfl) ⟨(Nat.le_of_ble_eq_true rfl), (Nat.le_of_ble_eq_true rfl)⟩ dX9_readHead_260 rfl rfl ?_
  refine aw_iload_n (pc := 263) (i := 3) (x := t0) hM dX9_readHead_263 rfl rfl ?_
  refine aw_if_eq (pc := 264) (tgt := 272) hM dX9_readHead_264 (by decide) (fun c75 => ?_) (fun c75 => ?_)
  · rw [if_pos c75] at h
    refine aw_iconst (pc := 272) (v := 0) hM dX9_readHead_272 (by decide) ?_
    obtain ⟨c76, h⟩ := ite_some h
    obtain ⟨F77, e78, h⟩ := bind_some h
    have e78 := Option.some.inj e78
    refine aw_iast (pc := 273) hM sk_170 c76 dX9_readHead_273 ?_
    refine aw_mem e78 ?_
    obtain ⟨y79, e80, h⟩ := bind_some h
    have e80 := Option.some.inj e80
    refine aw_iinc (pc := 274) (v := y79) (L' := [some (.ref 164), none, none, some (.int t0), some (.int y79), some (.int x5)]) hM dX9_readHead_274 rfl e80 (by decide) rfl ?_
    refine aw_goto (pc := 277) (tgt := 218) hM dX9_readHead_277 (by decide) ?_
    refine aw_weak (L' := [some (.ref 164), none, none, some (.int t0), some (.int y79), none]) ?_ (lw_of [true, true, true, true, true, false] rfl)
    exact hk218 F77 t0 y79 h
  · rw [if_neg c75] at h
    refine aw_iload (pc := 267) (i := 5) (x := x5) hM dX9_readHead_267  rfl ?_
    refine aw_goto (pc := 269) (tgt := 273) hM dX9_readHead_269 (by decide) ?_
    obtain ⟨c81, h⟩ := ite_some h
    obtain ⟨F82, e83, h⟩ := bind_some h
    have e83 := Option.some.inj e83
    refine aw_iast (pc := 273) hM sk_170 c81 dX9_readHead_273 ?_
    refine aw_mem e83 ?_
    obtain ⟨y84, e85, h⟩ := bind_some h
    have e85 := Option.some.inj e85
    refine aw_iinc (pc := 274) (v := y84) (L' := [some (.ref 164), none, none, some (.int t0), some (.int y84), some (.int x5)]) hM dX9_readHead_274 rfl e85 (by decide) rfl ?_
    refine aw_goto (pc := 277) (tgt := 218) hM dX9_readHead_277 (by decide) ?_
    refine aw_weak (L' := [some (.ref 164), none, none, some (.int t0), some (.int y84), none]) ?_ (lw_of [true, true, true, true, true, false] rfl)
    exact hk218 F82 t0 y84 h
set_option maxRecDepth 20000 in
theorem k_X9_readHead_b218 {C : CX} {M : MX} {G : GG} {Q : OUT → MM → GG → Prop} {r : (Int32 × MM)} (hM : MOk C RX9 cX9_readHead 6 (some .boolean) rmX9_readHead M) (hT : MNoT M) (hq : Q (.inl (some (.int r.1))) r.2 G) : ∀ (n : Nat) (F : MM) (x3 : Int32) (x4 : Int32), s_X9_readHead_b218 n F x3 x4 = some r → AW C 6 (ZM C rmX9_readHead Q M) M 0 0 218 [some (.ref 164), none, none, some (.int x3), some (.int x4), none] [] F G := by
  intro n
  induction n with
  | zero => intro F x3 x4 h; exact nomatch h
  | succ n ih =>
    intro F x3 x4 h
    rw [s_X9_readHead_b218] at h
    refine aw_iload (pc := 218) (i := 4) (x := x4) hM dX9_readHead_218  rfl ?_
    refine aw_aload_n (pc := 220) (i := 0) (x := 164) hM dX9_readHead_220 rfl rfl ?_
    refine aw_getI (pc := 221) hM fd_X9_110 sk_164 rfl dX9_readHead_221 ?_
    refine aw_icmp_ge (pc := 224) (tgt := 280) hM dX9_readHead_224 (by decide) (fun c65 => ?_) (fun c65 => ?_)
    · rw [if_pos c65] at h
      refine aw_iload_n (pc := 280) (i := 3) (x := x3) hM dX9_readHead_280 rfl rfl ?_
      obtain ⟨c66, h⟩ := ite_some h
      obtain rfl := Option.some.inj h
      exact aw_zret (pc := 281) hM dX9_readHead_281 c66 (Nat.le_of_ble_eq_true rfl) (Nat.le_of_ble_eq_true rfl) hq
    · rw [if_neg c65] at h
      refine aw_iload_n (pc := 227) (i := 3) (x := x3) hM dX9_readHead_227 rfl rfl ?_
      refine aw_if_eq (pc := 228) (tgt := 280) hM dX9_readHead_228 (by decide) (fun c67 => ?_) (fun c67 => ?_)
      · rw [if_pos c67] at h
        refine aw_iload_n (pc := 280) (i := 3) (x := x3) hM dX9_readHead_280 rfl rfl ?_
        obtain ⟨c68, h⟩ := ite_some h
        obtain rfl := Option.some.inj h
        exact aw_zret (pc := 281) hM dX9_readHead_281 c68 (Nat.le_of_ble_eq_true rfl) (Nat.le_of_ble_eq_true rfl) hq
      · rw [if_neg c67] at h
        refine aw_aload_n (pc := 231) (i := 0) (x := 164) hM dX9_readHead_231 rfl rfl ?_
        refine aw_iconst (pc := 232) (v := 0) hM dX9_readHead_232 (by decide) ?_
        refine aw_iconst (pc := 233) (v := 5) hM dX9_readHead_233 (by decide) ?_
        refine aw_bipush (pc := 234) (v := (-9)) hM dX9_readHead_234 (by decide) ?_
        obtain ⟨z71, h69, h⟩ := bind_some h
        refine aw_cv1 (pc := 236) (n := 3) (As := [.int 0, .int 5, .int (-9)]) (st := []) (b := 164) (vo := (some (.int z71.1))) (c2 := 0) (s2 := 0) hM (k_X9_digit h69) rfl cw_X9_103 sk_164 rfl rfl (by decide +kernel) rfl rfl ⟨(Nat.le_of_ble_eq_true rfl), (Nat.le_of_ble_eq_true rfl)⟩ (Nat.le_of_ble_eq_true rfl) ⟨(Nat.le_of_ble_eq_true rfl), (Nat.le_of_ble_eq_true rfl)⟩ dX9_readHead_236 rfl rfl ?_
        refine aw_istore (pc := 239) (i := 5) (L' := [some (.ref 164), none, none, some (.int x3), some (.int x4), some (.int z71.1)]) hM dX9_readHead_239  (by decide) rfl ?_
        refine aw_iload (pc := 241) (i := 5) (x := z71.1) hM dX9_readHead_241  rfl ?_
        refine aw_bipush (pc := 243) (v := (-9)) hM dX9_readHead_243 (by decide) ?_
        refine aw_icmp_eq (pc := 245) (tgt := 252) hM dX9_readHead_245 (by decide) (fun c72 => ?_) (fun c72 => ?_)
        · rw [if_pos c72] at h
          refine aw_iconst (pc := 252) (v := 0) hM dX9_readHead_252 (by decide) ?_
          refine aw_weak (L' := [some (.ref 164), none, none, none, some (.int x4), some (.int z71.1)]) ?_ (lw_of [true, true, true, false, true, true] rfl)
          exact k_X9_readHead_b253 hM hT (fun wF w0 w1 h9 => ih wF w0 w1 h9) hq z71.2 x4 z71.1 0 h
        · rw [if_neg c72] at h
          refine aw_iconst (pc := 248) (v := 1) hM dX9_readHead_248 (by decide) ?_
          refine aw_goto (pc := 249) (tgt := 253) hM dX9_readHead_249 (by decide) ?_
          refine aw_weak (L' := [some (.ref 164), none, none, none, some (.int x4), some (.int z71.1)]) ?_ (lw_of [true, true, true, false, true, true] rfl)
          exact k_X9_readHead_b253 hM hT (fun wF w0 w1 h9 => ih wF w0 w1 h9) hq z71.2 x4 z71.1 1 h
set_option maxRecDepth 20000 in
theorem k_X9_readHead_b163 {C : CX} {M : MX} {G : GG} {Q : OUT → MM → GG → Prop} {r : (Int32 × MM)} (hM : MOk C RX9 cX9_readHead 6 (some .boolean) rmX9_readHead M) (hT : MNoT M) (hq : Q (.inl (some (.int r.1))) r.2 G) : ∀ (n : Nat) (F : MM) (x3 : Int32) (x4 : Int32), s_X9_readHead_b163 n F x3 x4 = some r → AW C 6 (ZM C rmX9_readHead Q M) M 0 0 163 [some (.ref 164), none, none, some (.int x3), some (.int x4), none] [] F G := by
  intro n
  induction n with
  | zero => intro F x3 x4 h; exact nomatch h
  | succ n ih =>
    intro F x3 x4 h
    rw [s_X9_readHead_b163] at h
    refine aw_iload (pc := 163) (i := 4) (x := x4) hM dX9_readHead_163  rfl ?_
    refine aw_aload_n (pc := 165) (i := 0) (x := 164) hM dX9_readHead_165 rfl rfl ?_
    refine aw_getI (pc := 166) hM fd_X9_107 sk_164 rfl dX9_readHead_166 ?_
    refine aw_icmp_ge (pc := 169) (tgt := 215) hM dX9_readHead_169 (by decide) (fun c51 => ?_) (fun c51 => ?_)
    · rw [if_pos c51] at h
      refine aw_iconst (pc := 215) (v := 0) hM dX9_readHead_215 (by decide) ?_
      refine aw_istore (pc := 216) (i := 4) (L' := [some (.ref 164), none, none, some (.int x3), some (.int 0), none]) hM dX9_readHead_216  (by decide) rfl ?_
      exact k_X9_readHead_b218 hM hT hq fu_ F x3 0 h
    · rw [if_neg c51] at h
      refine aw_iload_n (pc := 172) (i := 3) (x := x3) hM dX9_readHead_172 rfl rfl ?_
      refine aw_if_eq (pc := 173) (tgt := 215) hM dX9_readHead_173 (by decide) (fun c52 => ?_) (fun c52 => ?_)
      · rw [if_pos c52] at h
        refine aw_iconst (pc := 215) (v := 0) hM dX9_readHead_215 (by decide) ?_
        refine aw_istore (pc := 216) (i := 4) (L' := [some (.ref 164), none, none, some (.int x3), some (.int 0), none]) hM dX9_readHead_216  (by decide) rfl ?_
        exact k_X9_readHead_b218 hM hT hq fu_ F x3 0 h
      · rw [if_neg c52] at h
        refine aw_aload_n (pc := 176) (i := 0) (x := 164) hM dX9_readHead_176 rfl rfl ?_
        refine aw_getR (pc := 177) (r := 168) hM fd_X9_32 sk_164 rfl dX9_readHead_177 ?_
        refine aw_iload (pc := 180) (i := 4) (x := x4) hM dX9_readHead_180  rfl ?_
        refine aw_aload_n (pc := 182) (i := 0) (x := 164) hM dX9_readHead_182 rfl rfl ?_
        refine aw_iconst (pc := 183) (v := 0) hM dX9_readHead_183 (by decide) ?_
        refine aw_iconst (pc := 184) (v := 2) hM dX9_readHead_184 (by decide) ?_
        refine aw_bipush (pc := 185) (v := (-9)) hM dX9_readHead_185 (by decide) ?_
        obtain ⟨z55, h53, h⟩ := bind_some h
        refine aw_cv1 (pc := 187) (n := 3) (As := [.int 0, .int 2, .int (-9)]) (st := [.int x4, .ref 168]) (b := 164) (vo := (some (.int z55.1))) (c2 := 0) (s2 := 0) hM (k_X9_digit h53) rfl cw_X9_103 sk_164 rfl rfl (by decide +kernel) rfl rfl ⟨(Nat.le_of_ble_eq_true rfl), (Nat.le_of_ble_eq_true rfl)⟩ (Nat.le_of_ble_eq_true rfl) ⟨(Nat.le_of_ble_eq_true rfl), (Nat.le_of_ble_eq_true rfl)⟩ dX9_readHead_187 rfl rfl ?_
        obtain ⟨c56, h⟩ := ite_some h
        obtain ⟨F57, e58, h⟩ := bind_some h
        have e58 := Option.some.inj e58
        refine aw_iast (pc := 190) hM sk_168 c56 dX9_readHead_190 ?_
        refine aw_mem e58 ?_
        refine aw_aload_n (pc := 191) (i := 0) (x := 164) hM dX9_readHead_191 rfl rfl ?_
        refine aw_getR (pc := 192) (r := 168) hM fd_X9_32 sk_164 rfl dX9_readHead_192 ?_
        refine aw_iload (pc := 195) (i := 4) (x := x4) hM dX9_readHead_195  rfl ?_
        obtain ⟨c59, h⟩ := ite_some h
        refine aw_iald (pc := 197) hM sk_168 c59 dX9_readHead_197 ?_
        refine aw_bipush (pc := 198) (v := (-9)) hM dX9_readHead_198 (by decide) ?_
        refine aw_icmp_eq (pc := 200) (tgt := 207) hM dX9_readHead_200 (by decide) (fun c60 => ?_) (fun c60 => ?_)
        · rw [if_pos c60] at h
          refine aw_iconst (pc := 207) (v := 0) hM dX9_readHead_207 (by decide) ?_
          refine aw_istore_n (pc := 208) (i := 3) (L' := [some (.ref 164), none, none, some (.int 0), some (.int x4), none]) hM dX9_readHead_208 rfl (by decide) rfl ?_
          obtain ⟨y61, e62, h⟩ := bind_some h
          have e62 := Option.some.inj e62
          refine aw_iinc (pc := 209) (v := y61) (L' := [some (.ref 164), none, none, some (.int 0), some (.int y61), none]) hM dX9_readHead_209 rfl e62 (by decide) rfl ?_
          refine aw_goto (pc := 212) (tgt := 163) hM dX9_readHead_212 (by decide) ?_
          exact ih F57 0 y61 h
        · rw [if_neg c60] at h
          refine aw_iconst (pc := 203) (v := 1) hM dX9_readHead_203 (by decide) ?_
          refine aw_goto (pc := 204) (tgt := 208) hM dX9_readHead_204 (by decide) ?_
          refine aw_istore_n (pc := 208) (i := 3) (L' := [some (.ref 164), none, none, some (.int 1), some (.int x4), none]) hM dX9_readHead_208 rfl (by decide) rfl ?_
          obtain ⟨y63, e64, h⟩ := bind_some h
          have e64 := Option.some.inj e64
          refine aw_iinc (pc := 209) (v := y63) (L' := [some (.ref 164), none, none, some (.int 1), some (.int y63), none]) hM dX9_readHead_209 rfl e64 (by decide) rfl ?_
          refine aw_goto (pc := 212) (tgt := 163) hM dX9_readHead_212 (by decide) ?_
          exact ih F57 1 y63 h
set_option maxRecDepth 20000 in
theorem k_X9_readHead_b137 {C : CX} {M : MX} {G : GG} {Q : OUT → MM → GG → Prop} {r : (Int32 × MM)} (hM : MOk C RX9 cX9_readHead 6 (some .boolean) rmX9_readHead M) (hT : MNoT M) (hq : Q (.inl (some (.int r.1))) r.2 G) (F : MM) (x1 : Int32) (t0 : Int32) (h : s_X9_readHead_b137 F x1 t0 = some r) : AW C 6 (ZM C rmX9_readHead Q M) M 0 0 137 [some (.ref 164), some (.int x1), none, none, none, none] [.int t0] F G := by
  rw [s_X9_readHead_b137] at h
  refine aw_istore_n (pc := 137) (i := 2) (L' := [some (.ref 164), some (.int x1), some (.int t0), none, none, none]) hM dX9_readHead_137 rfl (by decide) rfl ?_
  refine aw_aload_n (pc := 138) (i := 0) (x := 164) hM dX9_readHead_138 rfl rfl ?_
  refine aw_bipush (pc := 139) (v := 10) hM dX9_readHead_139 (by decide) ?_
  refine aw_iload_n (pc := 141) (i := 1) (x := x1) hM dX9_readHead_141 rfl rfl ?_
  refine aw_imul (pc := 142) hM dX9_readHead_142 ?_
  refine aw_iload_n (pc := 143) (i := 2) (x := t0) hM dX9_readHead_143 rfl rfl ?_
  refine aw_iadd (pc := 144) hM dX9_readHead_144 ?_
  obtain ⟨F48, e49, h⟩ := bind_some h
  have e49 := Option.some.inj e49
  refine aw_put (pc := 145) (ty := .int) hM fd_X9_116 tyX9_ok nmX9 rfl (by decide +kernel) rfl rfl sk_164 rfl dX9_readHead_145 ?_
  refine aw_mem e49 ?_
  refine aw_iload_n (pc := 148) (i := 2) (x := t0) hM dX9_readHead_148 rfl rfl ?_
  refine aw_bipush (pc := 149) (v := (-9)) hM dX9_readHead_149 (by decide) ?_
  refine aw_icmp_eq (pc := 151) (tgt := 158) hM dX9_readHead_151 (by decide) (fun c50 => ?_) (fun c50 => ?_)
  · rw [if_pos c50] at h
    refine aw_iconst (pc := 158) (v := 0) hM dX9_readHead_158 (by decide) ?_
    refine aw_istore_n (pc := 159) (i := 3) (L' := [some (.ref 164), some (.int x1), some (.int t0), some (.int 0), none, none]) hM dX9_readHead_159 rfl (by decide) rfl ?_
    refine aw_iconst (pc := 160) (v := 0) hM dX9_readHead_160 (by decide) ?_
    refine aw_istore (pc := 161) (i := 4) (L' := [some (.ref 164), some (.int x1), some (.int t0), some (.int 0), some (.int 0), none]) hM dX9_readHead_161  (by decide) rfl ?_
    refine aw_weak (L' := [some (.ref 164), none, none, some (.int 0), some (.int 0), none]) ?_ (lw_of [true, false, false, true, true, true] rfl)
    exact k_X9_readHead_b163 hM hT hq fu_ F48 0 0 h
  · rw [if_neg c50] at h
    refine aw_iconst (pc := 154) (v := 1) hM dX9_readHead_154 (by decide) ?_
    refine aw_goto (pc := 155) (tgt := 159) hM dX9_readHead_155 (by decide) ?_
    refine aw_istore_n (pc := 159) (i := 3) (L' := [some (.ref 164), some (.int x1), some (.int t0), some (.int 1), none, none]) hM dX9_readHead_159 rfl (by decide) rfl ?_
    refine aw_iconst (pc := 160) (v := 0) hM dX9_readHead_160 (by decide) ?_
    refine aw_istore (pc := 161) (i := 4) (L' := [some (.ref 164), some (.int x1), some (.int t0), some (.int 1), some (.int 0), none]) hM dX9_readHead_161  (by decide) rfl ?_
    refine aw_weak (L' := [some (.ref 164), none, none, some (.int 1), some (.int 0), none]) ?_ (lw_of [true, false, false, true, true, true] rfl)
    exact k_X9_readHead_b163 hM hT hq fu_ F48 1 0 h
set_option maxRecDepth 20000 in
theorem k_X9_readHead_b99 {C : CX} {M : MX} {G : GG} {Q : OUT → MM → GG → Prop} {r : (Int32 × MM)} (hM : MOk C RX9 cX9_readHead 6 (some .boolean) rmX9_readHead M) (hT : MNoT M) (hq : Q (.inl (some (.int r.1))) r.2 G) (F : MM) (t0 : Int32) (h : s_X9_readHead_b99 F t0 = some r) : AW C 6 (ZM C rmX9_readHead Q M) M 0 0 99 [some (.ref 164), none, none, none, none, none] [.int t0] F G := by
  rw [s_X9_readHead_b99] at h
  refine aw_istore_n (pc := 99) (i := 1) (L' := [some (.ref 164), some (.int t0), none, none, none, none]) hM dX9_readHead_99 rfl (by decide) rfl ?_
  refine aw_iload_n (pc := 100) (i := 1) (x := t0) hM dX9_readHead_100 rfl rfl ?_
  refine aw_bipush (pc := 101) (v := (-9)) hM dX9_readHead_101 (by decide) ?_
  refine aw_icmp_ne (pc := 103) (tgt := 111) hM dX9_readHead_103 (by decide) (fun c32 => ?_) (fun c32 => ?_)
  · rw [if_neg c32] at h
    refine aw_aload_n (pc := 111) (i := 0) (x := 164) hM dX9_readHead_111 rfl rfl ?_
    refine aw_iload_n (pc := 112) (i := 1) (x := t0) hM dX9_readHead_112 rfl rfl ?_
    refine aw_if_ne (pc := 113) (tgt := 120) hM dX9_readHead_113 (by decide) (fun c33 => ?_) (fun c33 => ?_)
    · rw [if_neg c33] at h
      refine aw_iconst (pc := 120) (v := 0) hM dX9_readHead_120 (by decide) ?_
      refine aw_iload_n (pc := 121) (i := 1) (x := t0) hM dX9_readHead_121 rfl rfl ?_
      refine aw_iconst (pc := 122) (v := 5) hM dX9_readHead_122 (by decide) ?_
      refine aw_icmp_ne (pc := 123) (tgt := 130) hM dX9_readHead_123 (by decide) (fun c34 => ?_) (fun c34 => ?_)
      · rw [if_neg c34] at h
        refine aw_bipush (pc := 130) (v := 9) hM dX9_readHead_130 (by decide) ?_
        refine aw_bipush (pc := 132) (v := (-9)) hM dX9_readHead_132 (by decide) ?_
        obtain ⟨z37, h35, h⟩ := bind_some h
        refine aw_cv1 (pc := 134) (n := 3) (As := [.int 0, .int 9, .int (-9)]) (st := []) (b := 164) (vo := (some (.int z37.1))) (c2 := 0) (s2 := 0) hM (k_X9_digit h35) rfl cw_X9_103 sk_164 rfl rfl (by decide +kernel) rfl rfl ⟨(Nat.le_of_ble_eq_true rfl), (Nat.le_of_ble_eq_true rfl)⟩ (Nat.le_of_ble_eq_true rfl) ⟨(Nat.le_of_ble_eq_true rfl), (Nat.le_of_ble_eq_true rfl)⟩ dX9_readHead_134 rfl rfl ?_
        exact k_X9_readHead_b137 hM hT hq z37.2 t0 z37.1 h
      · rw [if_pos c34] at h
        refine aw_iconst (pc := 126) (v := 0) hM dX9_readHead_126 (by decide) ?_
        refine aw_goto (pc := 127) (tgt := 132) hM dX9_readHead_127 (by decide) ?_
        refine aw_bipush (pc := 132) (v := (-9)) hM dX9_readHead_132 (by decide) ?_
        obtain ⟨z40, h38, h⟩ := bind_some h
        refine aw_cv1 (pc := 134) (n := 3) (As := [.int 0, .int 0, .int (-9)]) (st := []) (b := 164) (vo := (some (.int z40.1))) (c2 := 0) (s2 := 0) hM (k_X9_digit h38) rfl cw_X9_103 sk_164 rfl rfl (by decide +kernel) rfl rfl ⟨(Nat.le_of_ble_eq_true rfl), (Nat.le_of_ble_eq_true rfl)⟩ (Nat.le_of_ble_eq_true rfl) ⟨(Nat.le_of_ble_eq_true rfl), (Nat.le_of_ble_eq_true rfl)⟩ dX9_readHead_134 rfl rfl ?_
        exact k_X9_readHead_b137 hM hT hq z40.2 t0 z40.1 h
    · rw [if_pos c33] at h
      refine aw_iconst (pc := 116) (v := 1) hM dX9_readHead_116 (by decide) ?_
      refine aw_goto (pc := 117) (tgt := 121) hM dX9_readHead_117 (by decide) ?_
      refine aw_iload_n (pc := 121) (i := 1) (x := t0) hM dX9_readHead_121 rfl rfl ?_
      refine aw_iconst (pc := 122) (v := 5) hM dX9_readHead_122 (by decide) ?_
      refine aw_icmp_ne (pc := 123) (tgt := 130) hM dX9_readHead_123 (by decide) (fun c41 => ?_) (fun c41 => ?_)
      · rw [if_neg c41] at h
        refine aw_bipush (pc := 130) (v := 9) hM dX9_readHead_130 (by decide) ?_
        refine aw_bipush (pc := 132) (v := (-9)) hM dX9_readHead_132 (by decide) ?_
        obtain ⟨z44, h42, h⟩ := bind_some h
        refine aw_cv1 (pc := 134) (n := 3) (As := [.int 1, .int 9, .int (-9)]) (st := []) (b := 164) (vo := (some (.int z44.1))) (c2 := 0) (s2 := 0) hM (k_X9_digit h42) rfl cw_X9_103 sk_164 rfl rfl (by decide +kernel) rfl rfl ⟨(Nat.le_of_ble_eq_true rfl), (Nat.le_of_ble_eq_true rfl)⟩ (Nat.le_of_ble_eq_true rfl) ⟨(Nat.le_of_ble_eq_true rfl), (Nat.le_of_ble_eq_true rfl)⟩ dX9_readHead_134 rfl rfl ?_
        exact k_X9_readHead_b137 hM hT hq z44.2 t0 z44.1 h
      · rw [if_pos c41] at h
        refine aw_iconst (pc := 126) (v := 0) hM dX9_readHead_126 (by decide) ?_
        refine aw_goto (pc := 127) (tgt := 132) hM dX9_readHead_127 (by decide) ?_
        refine aw_bipush (pc := 132) (v := (-9)) hM dX9_readHead_132 (by decide) ?_
        obtain ⟨z47, h45, h⟩ := bind_some h
        refine aw_cv1 (pc := 134) (n := 3) (As := [.int 1, .int 0, .int (-9)]) (st := []) (b := 164) (vo := (some (.int z47.1))) (c2 := 0) (s2 := 0) hM (k_X9_digit h45) rfl cw_X9_103 sk_164 rfl rfl (by decide +kernel) rfl rfl ⟨(Nat.le_of_ble_eq_true rfl), (Nat.le_of_ble_eq_true rfl)⟩ (Nat.le_of_ble_eq_true rfl) ⟨(Nat.le_of_ble_eq_true rfl), (Nat.le_of_ble_eq_true rfl)⟩ dX9_readHead_134 rfl rfl ?_
        exact k_X9_readHead_b137 hM hT hq z47.2 t0 z47.1 h
  · rw [if_pos c32] at h
    refine aw_bipush (pc := 106) (v := (-9)) hM dX9_readHead_106 (by decide) ?_
    refine aw_goto (pc := 108) (tgt := 137) hM dX9_readHead_108 (by decide) ?_
    exact k_X9_readHead_b137 hM hT hq F t0 (-9) h
set_option maxRecDepth 20000 in
theorem k_X9_readHead_b47 {C : CX} {M : MX} {G : GG} {Q : OUT → MM → GG → Prop} {r : (Int32 × MM)} (hM : MOk C RX9 cX9_readHead 6 (some .boolean) rmX9_readHead M) (hT : MNoT M) (hq : Q (.inl (some (.int r.1))) r.2 G) (F : MM) (t0 : Int32) (h : s_X9_readHead_b47 F t0 = some r) : AW C 6 (ZM C rmX9_readHead Q M) M 0 0 47 [some (.ref 164), none, none, none, none, none] [.int t0, .ref 164] F G := by
  rw [s_X9_readHead_b47] at h
  obtain ⟨F14, e15, h⟩ := bind_some h
  have e15 := Option.some.inj e15
  refine aw_put (pc := 47) (ty := .int) hM fd_X9_110 tyX9_ok nmX9 rfl (by decide +kernel) rfl rfl sk_164 rfl dX9_readHead_47 ?_
  refine aw_mem e15 ?_
  refine aw_aload_n (pc := 50) (i := 0) (x := 164) hM dX9_readHead_50 rfl rfl ?_
  refine aw_aload_n (pc := 51) (i := 0) (x := 164) hM dX9_readHead_51 rfl rfl ?_
  refine aw_getI (pc := 52) hM fd_X9_110 sk_164 rfl dX9_readHead_52 ?_
  refine aw_bipush (pc := 55) (v := (-9)) hM dX9_readHead_55 (by decide) ?_
  refine aw_icmp_ne (pc := 57) (tgt := 65) hM dX9_readHead_57 (by decide) (fun c16 => ?_) (fun c16 => ?_)
  · rw [if_neg c16] at h
    refine aw_aload_n (pc := 65) (i := 0) (x := 164) hM dX9_readHead_65 rfl rfl ?_
    refine aw_iconst (pc := 66) (v := 1) hM dX9_readHead_66 (by decide) ?_
    refine aw_bipush (pc := 67) (v := 9) hM dX9_readHead_67 (by decide) ?_
    refine aw_bipush (pc := 69) (v := (-9)) hM dX9_readHead_69 (by decide) ?_
    obtain ⟨z19, h17, h⟩ := bind_some h
    refine aw_cv1 (pc := 71) (n := 3) (As := [.int 1, .int 9, .int (-9)]) (st := [.ref 164]) (b := 164) (vo := (some (.int z19.1))) (c2 := 0) (s2 := 0) hM (k_X9_digit h17) rfl cw_X9_103 sk_164 rfl rfl (by decide +kernel) rfl rfl ⟨(Nat.le_of_ble_eq_true rfl), (Nat.le_of_ble_eq_true rfl)⟩ (Nat.le_of_ble_eq_true rfl) ⟨(Nat.le_of_ble_eq_true rfl), (Nat.le_of_ble_eq_true rfl)⟩ dX9_readHead_71 rfl rfl ?_
    obtain ⟨F20, e21, h⟩ := bind_some h
    have e21 := Option.some.inj e21
    refine aw_put (pc := 74) (ty := .int) hM fd_X9_113 tyX9_ok nmX9 rfl (by decide +kernel) rfl rfl sk_164 rfl dX9_readHead_74 ?_
    refine aw_mem e21 ?_
    refine aw_aload_n (pc := 77) (i := 0) (x := 164) hM dX9_readHead_77 rfl rfl ?_
    refine aw_getI (pc := 78) hM fd_X9_113 sk_164 rfl dX9_readHead_78 ?_
    refine aw_bipush (pc := 81) (v := (-9)) hM dX9_readHead_81 (by decide) ?_
    refine aw_icmp_ne (pc := 83) (tgt := 91) hM dX9_readHead_83 (by decide) (fun c22 => ?_) (fun c22 => ?_)
    · rw [if_neg c22] at h
      refine aw_aload_n (pc := 91) (i := 0) (x := 164) hM dX9_readHead_91 rfl rfl ?_
      refine aw_iconst (pc := 92) (v := 0) hM dX9_readHead_92 (by decide) ?_
      refine aw_iconst (pc := 93) (v := 5) hM dX9_readHead_93 (by decide) ?_
      refine aw_bipush (pc := 94) (v := (-9)) hM dX9_readHead_94 (by decide) ?_
      obtain ⟨z25, h23, h⟩ := bind_some h
      refine aw_cv1 (pc := 96) (n := 3) (As := [.int 0, .int 5, .int (-9)]) (st := []) (b := 164) (vo := (some (.int z25.1))) (c2 := 0) (s2 := 0) hM (k_X9_digit h23) rfl cw_X9_103 sk_164 rfl rfl (by decide +kernel) rfl rfl ⟨(Nat.le_of_ble_eq_true rfl), (Nat.le_of_ble_eq_true rfl)⟩ (Nat.le_of_ble_eq_true rfl) ⟨(Nat.le_of_ble_eq_true rfl), (Nat.le_of_ble_eq_true rfl)⟩ dX9_readHead_96 rfl rfl ?_
      exact k_X9_readHead_b99 hM hT hq z25.2 z25.1 h
    · rw [if_pos c22] at h
      refine aw_bipush (pc := 86) (v := (-9)) hM dX9_readHead_86 (by decide) ?_
      refine aw_goto (pc := 88) (tgt := 99) hM dX9_readHead_88 (by decide) ?_
      exact k_X9_readHead_b99 hM hT hq F20 (-9) h
  · rw [if_pos c16] at h
    refine aw_bipush (pc := 60) (v := (-9)) hM dX9_readHead_60 (by decide) ?_
    refine aw_goto (pc := 62) (tgt := 74) hM dX9_readHead_62 (by decide) ?_
    obtain ⟨F26, e27, h⟩ := bind_some h
    have e27 := Option.some.inj e27
    refine aw_put (pc := 74) (ty := .int) hM fd_X9_113 tyX9_ok nmX9 rfl (by decide +kernel) rfl rfl sk_164 rfl dX9_readHead_74 ?_
    refine aw_mem e27 ?_
    refine aw_aload_n (pc := 77) (i := 0) (x := 164) hM dX9_readHead_77 rfl rfl ?_
    refine aw_getI (pc := 78) hM fd_X9_113 sk_164 rfl dX9_readHead_78 ?_
    refine aw_bipush (pc := 81) (v := (-9)) hM dX9_readHead_81 (by decide) ?_
    refine aw_icmp_ne (pc := 83) (tgt := 91) hM dX9_readHead_83 (by decide) (fun c28 => ?_) (fun c28 => ?_)
    · rw [if_neg c28] at h
      refine aw_aload_n (pc := 91) (i := 0) (x := 164) hM dX9_readHead_91 rfl rfl ?_
      refine aw_iconst (pc := 92) (v := 0) hM dX9_readHead_92 (by decide) ?_
      refine aw_iconst (pc := 93) (v := 5) hM dX9_readHead_93 (by decide) ?_
      refine aw_bipush (pc := 94) (v := (-9)) hM dX9_readHead_94 (by decide) ?_
      obtain ⟨z31, h29, h⟩ := bind_some h
      refine aw_cv1 (pc := 96) (n := 3) (As := [.int 0, .int 5, .int (-9)]) (st := []) (b := 164) (vo := (some (.int z31.1))) (c2 := 0) (s2 := 0) hM (k_X9_digit h29) rfl cw_X9_103 sk_164 rfl rfl (by decide +kernel) rfl rfl ⟨(Nat.le_of_ble_eq_true rfl), (Nat.le_of_ble_eq_true rfl)⟩ (Nat.le_of_ble_eq_true rfl) ⟨(Nat.le_of_ble_eq_true rfl), (Nat.le_of_ble_eq_true rfl)⟩ dX9_readHead_96 rfl rfl ?_
      exact k_X9_readHead_b99 hM hT hq z31.2 z31.1 h
    · rw [if_pos c28] at h
      refine aw_bipush (pc := 86) (v := (-9)) hM dX9_readHead_86 (by decide) ?_
      refine aw_goto (pc := 88) (tgt := 99) hM dX9_readHead_88 (by decide) ?_
      exact k_X9_readHead_b99 hM hT hq F26 (-9) h
set_option maxRecDepth 20000 in
theorem k_X9_readHead {C : CX} {F : MM} {G : GG} {r : (Int32 × MM)} (h : s_X9_readHead F = some r) : AM C yX9_readHead cX9_readHead 6 (some .boolean) rmX9_readHead [.ref 164] F G (fun o F9 G9 => o = (.inl (some (.int r.1))) ∧ F9 = r.2 ∧ G9 = G) := by
  refine am_of (L := [some (.ref 164), none, none, none, none, none]) (by decide) (Nat.le_of_ble_eq_true rfl) rfl (fun M hM hT => ?_)
  have hM : MOk C RX9 cX9_readHead 6 (some .boolean) rmX9_readHead M := hM
  obtain ⟨Q, hQ⟩ : ∃ Q : OUT → MM → GG → Prop, Q = (fun o F9 G9 => o = (.inl (some (.int r.1))) ∧ F9 = r.2 ∧ G9 = G) := ⟨_, rfl⟩
  have hq : Q (.inl (some (.int r.1))) r.2 G := by rw [hQ]; exact ⟨rfl, rfl, rfl⟩
  rw [← hQ]
  clear hQ
  rw [s_X9_readHead] at h
  refine aw_aload_n (pc := 0) (i := 0) (x := 164) hM dX9_readHead_0 rfl rfl ?_
  refine aw_bipush (pc := 1) (v := 68) hM dX9_readHead_1 (by decide) ?_
  obtain ⟨z3, h1, h⟩ := bind_some h
  refine aw_cv1 (pc := 3) (n := 1) (As := [.int 68]) (st := []) (b := 164) (vo := (some (.int z3.1))) (c2 := 0) (s2 := 0) hM (k_X9_passes h1) rfl cw_X9_100 sk_164 rfl rfl (by decide +kernel) rfl rfl ⟨(Nat.le_of_ble_eq_true rfl), (Nat.le_of_ble_eq_true rfl)⟩ (Nat.le_of_ble_eq_true rfl) ⟨(Nat.le_of_ble_eq_true rfl), (Nat.le_of_ble_eq_true rfl)⟩ dX9_readHead_3 rfl rfl ?_
  refine aw_if_ne (pc := 6) (tgt := 11) hM dX9_readHead_6 (by decide) (fun c4 => ?_) (fun c4 => ?_)
  · rw [if_neg c4] at h
    refine aw_aload_n (pc := 11) (i := 0) (x := 164) hM dX9_readHead_11 rfl rfl ?_
    refine aw_aload_n (pc := 12) (i := 0) (x := 164) hM dX9_readHead_12 rfl rfl ?_
    refine aw_iconst (pc := 13) (v := 1) hM dX9_readHead_13 (by decide) ?_
    refine aw_iconst (pc := 14) (v := 5) hM dX9_readHead_14 (by decide) ?_
    refine aw_bipush (pc := 15) (v := (-9)) hM dX9_readHead_15 (by decide) ?_
    obtain ⟨z7, h5, h⟩ := bind_some h
    refine aw_cv1 (pc := 17) (n := 3) (As := [.int 1, .int 5, .int (-9)]) (st := [.ref 164]) (b := 164) (vo := (some (.int z7.1))) (c2 := 0) (s2 := 0) hM (k_X9_digit h5) rfl cw_X9_103 sk_164 rfl rfl (by decide +kernel) rfl rfl ⟨(Nat.le_of_ble_eq_true rfl), (Nat.le_of_ble_eq_true rfl)⟩ (Nat.le_of_ble_eq_true rfl) ⟨(Nat.le_of_ble_eq_true rfl), (Nat.le_of_ble_eq_true rfl)⟩ dX9_readHead_17 rfl rfl ?_
    obtain ⟨F8, e9, h⟩ := bind_some h
    have e9 := Option.some.inj e9
    refine aw_put (pc := 20) (ty := .int) hM fd_X9_107 tyX9_ok nmX9 rfl (by decide +kernel) rfl rfl sk_164 rfl dX9_readHead_20 ?_
    refine aw_mem e9 ?_
    refine aw_aload_n (pc := 23) (i := 0) (x := 164) hM dX9_readHead_23 rfl rfl ?_
    refine aw_aload_n (pc := 24) (i := 0) (x := 164) hM dX9_readHead_24 rfl rfl ?_
    refine aw_getI (pc := 25) hM fd_X9_107 sk_164 rfl dX9_readHead_25 ?_
    refine aw_bipush (pc := 28) (v := (-9)) hM dX9_readHead_28 (by decide) ?_
    refine aw_icmp_ne (pc := 30) (tgt := 38) hM dX9_readHead_30 (by decide) (fun c10 => ?_) (fun c10 => ?_)
    · rw [if_neg c10] at h
      refine aw_aload_n (pc := 38) (i := 0) (x := 164) hM dX9_readHead_38 rfl rfl ?_
      refine aw_iconst (pc := 39) (v := 1) hM dX9_readHead_39 (by decide) ?_
      refine aw_bipush (pc := 40) (v := 6) hM dX9_readHead_40 (by decide) ?_
      refine aw_bipush (pc := 42) (v := (-9)) hM dX9_readHead_42 (by decide) ?_
      obtain ⟨z13, h11, h⟩ := bind_some h
      refine aw_cv1 (pc := 44) (n := 3) (As := [.int 1, .int 6, .int (-9)]) (st := [.ref 164]) (b := 164) (vo := (some (.int z13.1))) (c2 := 0) (s2 := 0) hM (k_X9_digit h11) rfl cw_X9_103 sk_164 rfl rfl (by decide +kernel) rfl rfl ⟨(Nat.le_of_ble_eq_true rfl), (Nat.le_of_ble_eq_true rfl)⟩ (Nat.le_of_ble_eq_true rfl) ⟨(Nat.le_of_ble_eq_true rfl), (Nat.le_of_ble_eq_true rfl)⟩ dX9_readHead_44 rfl rfl ?_
      exact k_X9_readHead_b47 hM hT hq z13.2 z13.1 h
    · rw [if_pos c10] at h
      refine aw_bipush (pc := 33) (v := (-9)) hM dX9_readHead_33 (by decide) ?_
      refine aw_goto (pc := 35) (tgt := 47) hM dX9_readHead_35 (by decide) ?_
      exact k_X9_readHead_b47 hM hT hq F8 (-9) h
  · rw [if_pos c4] at h
    refine aw_iconst (pc := 9) (v := 0) hM dX9_readHead_9 (by decide) ?_
    obtain rfl := Option.some.inj h
    exact aw_zret (pc := 10) hM dX9_readHead_10 (by decide) (Nat.le_of_ble_eq_true rfl) (Nat.le_of_ble_eq_true rfl) hq
def rmX9_readRule : Room := { frames := 2, cells := 0, slots := 0, locals := 49 }
def s_X9_readRule_b79 (F : MM) (x1 : Int32) (x2 : Int32) (x3 : Int32) (x4 : Int32) (t0 : Int32) : Option (Int32 × MM) := if t0 = (-9) then some (0, F) else (some (5 * (F 164 13) : Int32)).bind (fun y21 => if inb y21 50 then ((some (mup F 169 (ix y21) x1)).bind (fun F24 => if inb (y21 + 1) 50 then ((some (mup F24 169 (ix (y21 + 1)) x2)).bind (fun F27 => if inb (y21 + 2) 50 then ((some (mup F27 169 (ix (y21 + 2)) x3)).bind (fun F30 => if inb (y21 + 3) 50 then ((some (mup F30 169 (ix (y21 + 3)) x4)).bind (fun F33 => if inb (y21 + 4) 50 then ((some (mup F33 169 (ix (y21 + 4)) t0)).bind (fun F36 => (some (mup F36 164 13 ((F36 164 13) + 1))).bind (fun F38 => some (1, F38)))) else none)) else none)) else none)) else none)) else none)
def s_X9_readRule_b33 (F : MM) (x1 : Int32) (x2 : Int32) (t0 : Int32) : Option (Int32 × MM) := if t0 = (-9) then if ((-9) : Int32) = (-9) then s_X9_readRule_b79 F x1 x2 t0 (-9) (-9) else (s_X9_digit F 1 3 (-9)).bind (fun z19 => s_X9_readRule_b79 z19.2 x1 x2 t0 (-9) z19.1) else (s_X9_digit F 0 ((F 164 12) - 1) x2).bind (fun z11 => if z11.1 = (-9) then s_X9_readRule_b79 z11.2 x1 x2 t0 z11.1 (-9) else (s_X9_digit z11.2 1 3 (-9)).bind (fun z15 => s_X9_readRule_b79 z15.2 x1 x2 t0 z11.1 z15.1))
def s_X9_readRule (F : MM) (p0 : Int32) : Option (Int32 × MM) := (s_X9_digit F 0 ((F 164 12) - 1) (-9)).bind (fun z3 => if z3.1 = (-9) then s_X9_readRule_b33 z3.2 p0 z3.1 (-9) else (s_X9_digit z3.2 1 3 (-9)).bind (fun z7 => s_X9_readRule_b33 z7.2 p0 z3.1 z7.1))
set_option maxRecDepth 20000 in
theorem k_X9_readRule_b79 {C : CX} {M : MX} {G : GG} {Q : OUT → MM → GG → Prop} {r : (Int32 × MM)} (hM : MOk C RX9 cX9_readRule 7 (some .boolean) rmX9_readRule M) (hT : MNoT M) (hq : Q (.inl (some (.int r.1))) r.2 G) (F : MM) (x1 : Int32) (x2 : Int32) (x3 : Int32) (x4 : Int32) (t0 : Int32) (h : s_X9_readRule_b79 F x1 x2 x3 x4 t0 = some r) : AW C 7 (ZM C rmX9_readRule Q M) M 0 0 79 [some (.ref 164), some (.int x1), some (.int x2), some (.int x3), some (.int x4), none, none] [.int t0] F G := by
  rw [s_X9_readRule_b79] at h
  refine aw_istore (pc := 79) (i := 5) (L' := [some (.ref 164), some (.int x1), some (.int x2), some (.int x3), some (.int x4), some (.int t0), none]) hM dX9_readRule_79  (by decide) rfl ?_
  refine aw_iload (pc := 81) (i := 5) (x := t0) hM dX9_readRule_81  rfl ?_
  refine aw_bipush (pc := 83) (v := (-9)) hM dX9_readRule_83 (by decide) ?_
  refine aw_icmp_ne (pc := 85) (tgt := 90) hM dX9_readRule_85 (by decide) (fun c20 => ?_) (fun c20 => ?_)
  · rw [if_neg c20] at h
    refine aw_iconst (pc := 90) (v := 5) hM dX9_readRule_90 (by decide) ?_
    refine aw_aload_n (pc := 91) (i := 0) (x := 164) hM dX9_readRule_91 rfl rfl ?_
    refine aw_getI (pc := 92) hM fd_X9_123 sk_164 rfl dX9_readRule_92 ?_
    refine aw_imul (pc := 95) hM dX9_readRule_95 ?_
    obtain ⟨y21, e22, h⟩ := bind_some h
    have e22 := Option.some.inj e22
    refine aw_topi e22 ?_
    refine aw_istore (pc := 96) (i := 6) (L' := [some (.ref 164), some (.int x1), some (.int x2), some (.int x3), some (.int x4), some (.int t0), some (.int y21)]) hM dX9_readRule_96  (by decide) rfl ?_
    refine aw_aload_n (pc := 98) (i := 0) (x := 164) hM dX9_readRule_98 rfl rfl ?_
    refine aw_getR (pc := 99) (r := 169) hM fd_X9_35 sk_164 rfl dX9_readRule_99 ?_
    refine aw_iload (pc := 102) (i := 6) (x := y21) hM dX9_readRule_102  rfl ?_
    refine aw_iload_n (pc := 104) (i := 1) (x := x1) hM dX9_readRule_104 rfl rfl ?_
    obtain ⟨c23, h⟩ := ite_some h
    obtain ⟨F24, e25, h⟩ := bind_some h
    have e25 := Option.some.inj e25
    refine aw_iast (pc := 105) hM sk_169 c23 dX9_readRule_105 ?_
    refine aw_mem e25 ?_
    refine aw_aload_n (pc := 106) (i := 0) (x := 164) hM dX9_readRule_106 rfl rfl ?_
    refine aw_getR (pc := 107) (r := 169) hM fd_X9_35 sk_164 rfl dX9_readRule_107 ?_
    refine aw_iload (pc := 110) (i := 6) (x := y21) hM dX9_readRule_110  rfl ?_
    refine aw_iconst (pc := 112) (v := 1) hM dX9_readRule_112 (by decide) ?_
    refine aw_iadd (pc := 113) hM dX9_readRule_113 ?_
    refine aw_iload_n (pc := 114) (i := 2) (x := x2) hM dX9_readRule_114 rfl rfl ?_
    obtain ⟨c26, h⟩ := ite_some h
    obtain ⟨F27, e28, h⟩ := bind_some h
    have e28 := Option.some.inj e28
    refine aw_iast (pc := 115) hM sk_169 c26 dX9_readRule_115 ?_
    refine aw_mem e28 ?_
    refine aw_aload_n (pc := 116) (i := 0) (x := 164) hM dX9_readRule_116 rfl rfl ?_
    refine aw_getR (pc := 117) (r := 169) hM fd_X9_35 sk_164 rfl dX9_readRule_117 ?_
    refine aw_iload (pc := 120) (i := 6) (x := y21) hM dX9_readRule_120  rfl ?_
    refine aw_iconst (pc := 122) (v := 2) hM dX9_readRule_122 (by decide) ?_
    refine aw_iadd (pc := 123) hM dX9_readRule_123 ?_
    refine aw_iload_n (pc := 124) (i := 3) (x := x3) hM dX9_readRule_124 rfl rfl ?_
    obtain ⟨c29, h⟩ := ite_some h
    obtain ⟨F30, e31, h⟩ := bind_some h
    have e31 := Option.some.inj e31
    refine aw_iast (pc := 125) hM sk_169 c29 dX9_readRule_125 ?_
    refine aw_mem e31 ?_
    refine aw_aload_n (pc := 126) (i := 0) (x := 164) hM dX9_readRule_126 rfl rfl ?_
    refine aw_getR (pc := 127) (r := 169) hM fd_X9_35 sk_164 rfl dX9_readRule_127 ?_
    refine aw_iload (pc := 130) (i := 6) (x := y21) hM dX9_readRule_130  rfl ?_
    refine aw_iconst (pc := 132) (v := 3) hM dX9_readRule_132 (by decide) ?_
    refine aw_iadd (pc := 133) hM dX9_readRule_133 ?_
    refine aw_iload (pc := 134) (i := 4) (x := x4) hM dX9_readRule_134  rfl ?_
    obtain ⟨c32, h⟩ := ite_some h
    obtain ⟨F33, e34, h⟩ := bind_some h
    have e34 := Option.some.inj e34
    refine aw_iast (pc := 136) hM sk_169 c32 dX9_readRule_136 ?_
    refine aw_mem e34 ?_
    refine aw_aload_n (pc := 137) (i := 0) (x := 164) hM dX9_readRule_137 rfl rfl ?_
    refine aw_getR (pc := 138) (r := 169) hM fd_X9_35 sk_164 rfl dX9_readRule_138 ?_
    refine aw_iload (pc := 141) (i := 6) (x := y21) hM dX9_readRule_141  rfl ?_
    refine aw_iconst (pc := 143) (v := 4) hM dX9_readRule_143 (by decide) ?_
    refine aw_iadd (pc := 144) hM dX9_readRule_144 ?_
    refine aw_iload (pc := 145) (i := 5) (x := t0) hM dX9_readRule_145  rfl ?_
    obtain ⟨c35, h⟩ := ite_some h
    obtain ⟨F36, e37, h⟩ := bind_some h
    have e37 := Option.some.inj e37
    refine aw_iast (pc := 147) hM sk_169 c35 dX9_readRule_147 ?_
    refine aw_mem e37 ?_
    refine aw_aload_n (pc := 148) (i := 0) (x := 164) hM dX9_readRule_148 rfl rfl ?_
    refine aw_dup (pc := 149) hM dX9_readRule_149 rfl ?_
    refine aw_getI (pc := 150) hM fd_X9_123 sk_164 rfl dX9_readRule_150 ?_
    refine aw_iconst (pc := 153) (v := 1) hM dX9_readRule_153 (by decide) ?_
    refine aw_iadd (pc := 154) hM dX9_readRule_154 ?_
    obtain ⟨F38, e39, h⟩ := bind_some h
    have e39 := Option.some.inj e39
    refine aw_put (pc := 155) (ty := .int) hM fd_X9_123 tyX9_ok nmX9 rfl (by decide +kernel) rfl rfl sk_164 rfl dX9_readRule_155 ?_
    refine aw_mem e39 ?_
    refine aw_iconst (pc := 158) (v := 1) hM dX9_readRule_158 (by decide) ?_
    obtain rfl := Option.some.inj h
    exact aw_zret (pc := 159) hM dX9_readRule_159 (by decide) (Nat.le_of_ble_eq_true rfl) (Nat.le_of_ble_eq_true rfl) hq
  · rw [if_pos c20] at h
    refine aw_iconst (pc := 88) (v := 0) hM dX9_readRule_88 (by decide) ?_
    obtain rfl := Option.some.inj h
    exact aw_zret (pc := 89) hM dX9_readRule_89 (by decide) (Nat.le_of_ble_eq_true rfl) (Nat.le_of_ble_eq_true rfl) hq
set_option maxRecDepth 20000 in
theorem k_X9_readRule_b33 {C : CX} {M : MX} {G : GG} {Q : OUT → MM → GG → Prop} {r : (Int32 × MM)} (hM : MOk C RX9 cX9_readRule 7 (some .boolean) rmX9_readRule M) (hT : MNoT M) (hq : Q (.inl (some (.int r.1))) r.2 G) (F : MM) (x1 : Int32) (x2 : Int32) (t0 : Int32) (h : s_X9_readRule_b33 F x1 x2 t0 = some r) : AW C 7 (ZM C rmX9_readRule Q M) M 0 0 33 [some (.ref 164), some (.int x1), some (.int x2), none, none, none, none] [.int t0] F G := by
  rw [s_X9_readRule_b33] at h
  refine aw_istore_n (pc := 33) (i := 3) (L' := [some (.ref 164), some (.int x1), some (.int x2), some (.int t0), none, none, none]) hM dX9_readRule_33 rfl (by decide) rfl ?_
  refine aw_iload_n (pc := 34) (i := 3) (x := t0) hM dX9_readRule_34 rfl rfl ?_
  refine aw_bipush (pc := 35) (v := (-9)) hM dX9_readRule_35 (by decide) ?_
  refine aw_icmp_ne (pc := 37) (tgt := 45) hM dX9_readRule_37 (by decide) (fun c8 => ?_) (fun c8 => ?_)
  · rw [if_neg c8] at h
    refine aw_aload_n (pc := 45) (i := 0) (x := 164) hM dX9_readRule_45 rfl rfl ?_
    refine aw_iconst (pc := 46) (v := 0) hM dX9_readRule_46 (by decide) ?_
    refine aw_aload_n (pc := 47) (i := 0) (x := 164) hM dX9_readRule_47 rfl rfl ?_
    refine aw_getI (pc := 48) hM fd_X9_110 sk_164 rfl dX9_readRule_48 ?_
    refine aw_iconst (pc := 51) (v := 1) hM dX9_readRule_51 (by decide) ?_
    refine aw_isub (pc := 52) hM dX9_readRule_52 ?_
    refine aw_iload_n (pc := 53) (i := 2) (x := x2) hM dX9_readRule_53 rfl rfl ?_
    obtain ⟨z11, h9, h⟩ := bind_some h
    refine aw_cv1 (pc := 54) (n := 3) (As := [.int 0, .int ((F 164 12) - 1), .int x2]) (st := []) (b := 164) (vo := (some (.int z11.1))) (c2 := 0) (s2 := 0) hM (k_X9_digit h9) rfl cw_X9_103 sk_164 rfl rfl (by decide +kernel) rfl rfl ⟨(Nat.le_of_ble_eq_true rfl), (Nat.le_of_ble_eq_true rfl)⟩ (Nat.le_of_ble_eq_true rfl) ⟨(Nat.le_of_ble_eq_true rfl), (Nat.le_of_ble_eq_true rfl)⟩ dX9_readRule_54 rfl rfl ?_
    refine aw_istore (pc := 57) (i := 4) (L' := [some (.ref 164), some (.int x1), some (.int x2), some (.int t0), some (.int z11.1), none, none]) hM dX9_readRule_57  (by decide) rfl ?_
    refine aw_iload (pc := 59) (i := 4) (x := z11.1) hM dX9_readRule_59  rfl ?_
    refine aw_bipush (pc := 61) (v := (-9)) hM dX9_readRule_61 (by decide) ?_
    refine aw_icmp_ne (pc := 63) (tgt := 71) hM dX9_readRule_63 (by decide) (fun c12 => ?_) (fun c12 => ?_)
    · rw [if_neg c12] at h
      refine aw_aload_n (pc := 71) (i := 0) (x := 164) hM dX9_readRule_71 rfl rfl ?_
      refine aw_iconst (pc := 72) (v := 1) hM dX9_readRule_72 (by decide) ?_
      refine aw_iconst (pc := 73) (v := 3) hM dX9_readRule_73 (by decide) ?_
      refine aw_bipush (pc := 74) (v := (-9)) hM dX9_readRule_74 (by decide) ?_
      obtain ⟨z15, h13, h⟩ := bind_some h
      refine aw_cv1 (pc := 76) (n := 3) (As := [.int 1, .int 3, .int (-9)]) (st := []) (b := 164) (vo := (some (.int z15.1))) (c2 := 0) (s2 := 0) hM (k_X9_digit h13) rfl cw_X9_103 sk_164 rfl rfl (by decide +kernel) rfl rfl ⟨(Nat.le_of_ble_eq_true rfl), (Nat.le_of_ble_eq_true rfl)⟩ (Nat.le_of_ble_eq_true rfl) ⟨(Nat.le_of_ble_eq_true rfl), (Nat.le_of_ble_eq_true rfl)⟩ dX9_readRule_76 rfl rfl ?_
      exact k_X9_readRule_b79 hM hT hq z15.2 x1 x2 t0 z11.1 z15.1 h
    · rw [if_pos c12] at h
      refine aw_bipush (pc := 66) (v := (-9)) hM dX9_readRule_66 (by decide) ?_
      refine aw_goto (pc := 68) (tgt := 79) hM dX9_readRule_68 (by decide) ?_
      exact k_X9_readRule_b79 hM hT hq z11.2 x1 x2 t0 z11.1 (-9) h
  · rw [if_pos c8] at h
    refine aw_bipush (pc := 40) (v := (-9)) hM dX9_readRule_40 (by decide) ?_
    refine aw_goto (pc := 42) (tgt := 57) hM dX9_readRule_42 (by decide) ?_
    refine aw_istore (pc := 57) (i := 4) (L' := [some (.ref 164), some (.int x1), some (.int x2), some (.int t0), some (.int (-9)), none, none]) hM dX9_readRule_57  (by decide) rfl ?_
    refine aw_iload (pc := 59) (i := 4) (x := (-9)) hM dX9_readRule_59  rfl ?_
    refine aw_bipush (pc := 61) (v := (-9)) hM dX9_readRule_61 (by decide) ?_
    refine aw_icmp_ne (pc := 63) (tgt := 71) hM dX9_readRule_63 (by decide) (fun c16 => ?_) (fun c16 => ?_)
    · rw [if_neg c16] at h
      refine aw_aload_n (pc := 71) (i := 0) (x := 164) hM dX9_readRule_71 rfl rfl ?_
      refine aw_iconst (pc := 72) (v := 1) hM dX9_readRule_72 (by decide) ?_
      refine aw_iconst (pc := 73) (v := 3) hM dX9_readRule_73 (by decide) ?_
      refine aw_bipush (pc := 74) (v := (-9)) hM dX9_readRule_74 (by decide) ?_
      obtain ⟨z19, h17, h⟩ := bind_some h
      refine aw_cv1 (pc := 76) (n := 3) (As := [.int 1, .int 3, .int (-9)]) (st := []) (b := 164) (vo := (some (.int z19.1))) (c2 := 0) (s2 := 0) hM (k_X9_digit h17) rfl cw_X9_103 sk_164 rfl rfl (by decide +kernel) rfl rfl ⟨(Nat.le_of_ble_eq_true rfl), (Nat.le_of_ble_eq_true rfl)⟩ (Nat.le_of_ble_eq_true rfl) ⟨(Nat.le_of_ble_eq_true rfl), (Nat.le_of_ble_eq_true rfl)⟩ dX9_readRule_76 rfl rfl ?_
      exact k_X9_readRule_b79 hM hT hq z19.2 x1 x2 t0 (-9) z19.1 h
    · rw [if_pos c16] at h
      refine aw_bipush (pc := 66) (v := (-9)) hM dX9_readRule_66 (by decide) ?_
      refine aw_goto (pc := 68) (tgt := 79) hM dX9_readRule_68 (by decide) ?_
      exact k_X9_readRule_b79 hM hT hq F x1 x2 t0 (-9) (-9) h
set_option maxRecDepth 20000 in
theorem k_X9_readRule {C : CX} {F : MM} {G : GG} {p0 : Int32} {r : (Int32 × MM)} (h : s_X9_readRule F p0 = some r) : AM C yX9_readRule cX9_readRule 7 (some .boolean) rmX9_readRule [.ref 164, .int p0] F G (fun o F9 G9 => o = (.inl (some (.int r.1))) ∧ F9 = r.2 ∧ G9 = G) := by
  refine am_of (L := [some (.ref 164), some (.int p0), none, none, none, none, none]) (by decide) (Nat.le_of_ble_eq_true rfl) rfl (fun M hM hT => ?_)
  have hM : MOk C RX9 cX9_readRule 7 (some .boolean) rmX9_readRule M := hM
  obtain ⟨Q, hQ⟩ : ∃ Q : OUT → MM → GG → Prop, Q = (fun o F9 G9 => o = (.inl (some (.int r.1))) ∧ F9 = r.2 ∧ G9 = G) := ⟨_, rfl⟩
  have hq : Q (.inl (some (.int r.1))) r.2 G := by rw [hQ]; exact ⟨rfl, rfl, rfl⟩
  rw [← hQ]
  clear hQ
  rw [s_X9_readRule] at h
  refine aw_aload_n (pc := 0) (i := 0) (x := 164) hM dX9_readRule_0 rfl rfl ?_
  refine aw_iconst (pc := 1) (v := 0) hM dX9_readRule_1 (by decide) ?_
  refine aw_aload_n (pc := 2) (i := 0) (x := 164) hM dX9_readRule_2 rfl rfl ?_
  refine aw_getI (pc := 3) hM fd_X9_110 sk_164 rfl dX9_readRule_3 ?_
  refine aw_iconst (pc := 6) (v := 1) hM dX9_readRule_6 (by decide) ?_
  refine aw_isub (pc := 7) hM dX9_readRule_7 ?_
  refine aw_bipush (pc := 8) (v := (-9)) hM dX9_readRule_8 (by decide) ?_
  obtain ⟨z3, h1, h⟩ := bind_some h
  refine aw_cv1 (pc := 10) (n := 3) (As := [.int 0, .int ((F 164 12) - 1), .int (-9)]) (st := []) (b := 164) (vo := (some (.int z3.1))) (c2 := 0) (s2 := 0) hM (k_X9_digit h1) rfl cw_X9_103 sk_164 rfl rfl (by decide +kernel) rfl rfl ⟨(Nat.le_of_ble_eq_true rfl), (Nat.le_of_ble_eq_true rfl)⟩ (Nat.le_of_ble_eq_true rfl) ⟨(Nat.le_of_ble_eq_true rfl), (Nat.le_of_ble_eq_true rfl)⟩ dX9_readRule_10 rfl rfl ?_
  refine aw_istore_n (pc := 13) (i := 2) (L' := [some (.ref 164), some (.int p0), some (.int z3.1), none, none, none, none]) hM dX9_readRule_13 rfl (by decide) rfl ?_
  refine aw_iload_n (pc := 14) (i := 2) (x := z3.1) hM dX9_readRule_14 rfl rfl ?_
  refine aw_bipush (pc := 15) (v := (-9)) hM dX9_readRule_15 (by decide) ?_
  refine aw_icmp_ne (pc := 17) (tgt := 25) hM dX9_readRule_17 (by decide) (fun c4 => ?_) (fun c4 => ?_)
  · rw [if_neg c4] at h
    refine aw_aload_n (pc := 25) (i := 0) (x := 164) hM dX9_readRule_25 rfl rfl ?_
    refine aw_iconst (pc := 26) (v := 1) hM dX9_readRule_26 (by decide) ?_
    refine aw_iconst (pc := 27) (v := 3) hM dX9_readRule_27 (by decide) ?_
    refine aw_bipush (pc := 28) (v := (-9)) hM dX9_readRule_28 (by decide) ?_
    obtain ⟨z7, h5, h⟩ := bind_some h
    refine aw_cv1 (pc := 30) (n := 3) (As := [.int 1, .int 3, .int (-9)]) (st := []) (b := 164) (vo := (some (.int z7.1))) (c2 := 0) (s2 := 0) hM (k_X9_digit h5) rfl cw_X9_103 sk_164 rfl rfl (by decide +kernel) rfl rfl ⟨(Nat.le_of_ble_eq_true rfl), (Nat.le_of_ble_eq_true rfl)⟩ (Nat.le_of_ble_eq_true rfl) ⟨(Nat.le_of_ble_eq_true rfl), (Nat.le_of_ble_eq_true rfl)⟩ dX9_readRule_30 rfl rfl ?_
    exact k_X9_readRule_b33 hM hT hq z7.2 p0 z3.1 z7.1 h
  · rw [if_pos c4] at h
    refine aw_bipush (pc := 20) (v := (-9)) hM dX9_readRule_20 (by decide) ?_
    refine aw_goto (pc := 22) (tgt := 33) hM dX9_readRule_22 (by decide) ?_
    exact k_X9_readRule_b33 hM hT hq z3.2 p0 z3.1 (-9) h
def rmX9_readVersion : Room := { frames := 2, cells := 0, slots := 0, locals := 49 }
def s_X9_readVersion_b58 (F : MM) (x1 : Int32) (x2 : Int32) (x3 : Int32) (t0 : Int32) : Option (Int32 × MM) := if t0 = (-9) then some (0, F) else (s_X9_at F x2).bind (fun r18 => if inb ((r18 + x1) + x3) 107 then ((some (mup F 170 (ix ((r18 + x1) + x3)) t0)).bind (fun F20 => some (1, F20))) else none)
def s_X9_readVersion (F : MM) (p0 : Int32) : Option (Int32 × MM) := (s_X9_digit F 0 ((F 164 11) - 1) (-9)).bind (fun z3 => if z3.1 = (-9) then if ((-9) : Int32) = (-9) then s_X9_readVersion_b58 z3.2 p0 z3.1 (-9) (-9) else (s_X9_digit z3.2 0 3 (-9)).bind (fun z15 => s_X9_readVersion_b58 z15.2 p0 z3.1 (-9) z15.1) else (s_X9_digit z3.2 0 ((z3.2 164 12) - 1) (-9)).bind (fun z7 => if z7.1 = (-9) then s_X9_readVersion_b58 z7.2 p0 z3.1 z7.1 (-9) else (s_X9_digit z7.2 0 3 (-9)).bind (fun z11 => s_X9_readVersion_b58 z11.2 p0 z3.1 z7.1 z11.1)))
set_option maxRecDepth 20000 in
theorem k_X9_readVersion_b58 {C : CX} {M : MX} {G : GG} {Q : OUT → MM → GG → Prop} {r : (Int32 × MM)} (hM : MOk C RX9 cX9_readVersion 5 (some .boolean) rmX9_readVersion M) (hT : MNoT M) (hq : Q (.inl (some (.int r.1))) r.2 G) (F : MM) (x1 : Int32) (x2 : Int32) (x3 : Int32) (t0 : Int32) (h : s_X9_readVersion_b58 F x1 x2 x3 t0 = some r) : AW C 5 (ZM C rmX9_readVersion Q M) M 0 0 58 [some (.ref 164), some (.int x1), some (.int x2), some (.int x3), none] [.int t0] F G := by
  rw [s_X9_readVersion_b58] at h
  refine aw_istore (pc := 58) (i := 4) (L' := [some (.ref 164), some (.int x1), some (.int x2), some (.int x3), some (.int t0)]) hM dX9_readVersion_58  (by decide) rfl ?_
  refine aw_iload (pc := 60) (i := 4) (x := t0) hM dX9_readVersion_60  rfl ?_
  refine aw_bipush (pc := 62) (v := (-9)) hM dX9_readVersion_62 (by decide) ?_
  refine aw_icmp_ne (pc := 64) (tgt := 69) hM dX9_readVersion_64 (by decide) (fun c16 => ?_) (fun c16 => ?_)
  · rw [if_neg c16] at h
    refine aw_aload_n (pc := 69) (i := 0) (x := 164) hM dX9_readVersion_69 rfl rfl ?_
    refine aw_getR (pc := 70) (r := 170) hM fd_X9_38 sk_164 rfl dX9_readVersion_70 ?_
    refine aw_iload_n (pc := 73) (i := 2) (x := x2) hM dX9_readVersion_73 rfl rfl ?_
    obtain ⟨r18, h17, h⟩ := bind_some h
    refine aw_cs1 (pc := 74) (n := 1) (As := [.int x2]) (st := [.ref 170]) (vo := (some (.int r18))) (c2 := 0) (s2 := 0) hM (k_X9_at h17) rfl cw_X9_126 (by decide +kernel) rfl rfl ⟨(Nat.le_of_ble_eq_true rfl), (Nat.le_of_ble_eq_true rfl)⟩ (Nat.le_of_ble_eq_true rfl) ⟨(Nat.le_of_ble_eq_true rfl), (Nat.le_of_ble_eq_true rfl)⟩ dX9_readVersion_74 rfl rfl ?_
    refine aw_iload_n (pc := 77) (i := 1) (x := x1) hM dX9_readVersion_77 rfl rfl ?_
    refine aw_iadd (pc := 78) hM dX9_readVersion_78 ?_
    refine aw_iload_n (pc := 79) (i := 3) (x := x3) hM dX9_readVersion_79 rfl rfl ?_
    refine aw_iadd (pc := 80) hM dX9_readVersion_80 ?_
    refine aw_iload (pc := 81) (i := 4) (x := t0) hM dX9_readVersion_81  rfl ?_
    obtain ⟨c19, h⟩ := ite_some h
    obtain ⟨F20, e21, h⟩ := bind_some h
    have e21 := Option.some.inj e21
    refine aw_iast (pc := 83) hM sk_170 c19 dX9_readVersion_83 ?_
    refine aw_mem e21 ?_
    refine aw_iconst (pc := 84) (v := 1) hM dX9_readVersion_84 (by decide) ?_
    obtain rfl := Option.some.inj h
    exact aw_zret (pc := 85) hM dX9_readVersion_85 (by decide) (Nat.le_of_ble_eq_true rfl) (Nat.le_of_ble_eq_true rfl) hq
  · rw [if_pos c16] at h
    refine aw_iconst (pc := 67) (v := 0) hM dX9_readVersion_67 (by decide) ?_
    obtain rfl := Option.some.inj h
    exact aw_zret (pc := 68) hM dX9_readVersion_68 (by decide) (Nat.le_of_ble_eq_true rfl) (Nat.le_of_ble_eq_true rfl) hq
set_option maxRecDepth 20000 in
theorem k_X9_readVersion {C : CX} {F : MM} {G : GG} {p0 : Int32} {r : (Int32 × MM)} (h : s_X9_readVersion F p0 = some r) : AM C yX9_readVersion cX9_readVersion 5 (some .boolean) rmX9_readVersion [.ref 164, .int p0] F G (fun o F9 G9 => o = (.inl (some (.int r.1))) ∧ F9 = r.2 ∧ G9 = G) := by
  refine am_of (L := [some (.ref 164), some (.int p0), none, none, none]) (by decide) (Nat.le_of_ble_eq_true rfl) rfl (fun M hM hT => ?_)
  have hM : MOk C RX9 cX9_readVersion 5 (some .boolean) rmX9_readVersion M := hM
  obtain ⟨Q, hQ⟩ : ∃ Q : OUT → MM → GG → Prop, Q = (fun o F9 G9 => o = (.inl (some (.int r.1))) ∧ F9 = r.2 ∧ G9 = G) := ⟨_, rfl⟩
  have hq : Q (.inl (some (.int r.1))) r.2 G := by rw [hQ]; exact ⟨rfl, rfl, rfl⟩
  rw [← hQ]
  clear hQ
  rw [s_X9_readVersion] at h
  refine aw_aload_n (pc := 0) (i := 0) (x := 164) hM dX9_readVersion_0 rfl rfl ?_
  refine aw_iconst (pc := 1) (v := 0) hM dX9_readVersion_1 (by decide) ?_
  refine aw_aload_n (pc := 2) (i := 0) (x := 164) hM dX9_readVersion_2 rfl rfl ?_
  refine aw_getI (pc := 3) hM fd_X9_107 sk_164 rfl dX9_readVersion_3 ?_
  refine aw_iconst (pc := 6) (v := 1) hM dX9_readVersion_6 (by decide) ?_
  refine aw_isub (pc := 7) hM dX9_readVersion_7 ?_
  refine aw_bipush (pc := 8) (v := (-9)) hM dX9_readVersion_8 (by decide) ?_
  obtain ⟨z3, h1, h⟩ := bind_some h
  refine aw_cv1 (pc := 10) (n := 3) (As := [.int 0, .int ((F 164 11) - 1), .int (-9)]) (st := []) (b := 164) (vo := (some (.int z3.1))) (c2 := 0) (s2 := 0) hM (k_X9_digit h1) rfl cw_X9_103 sk_164 rfl rfl (by decide +kernel) rfl rfl ⟨(Nat.le_of_ble_eq_true rfl), (Nat.le_of_ble_eq_true rfl)⟩ (Nat.le_of_ble_eq_true rfl) ⟨(Nat.le_of_ble_eq_true rfl), (Nat.le_of_ble_eq_true rfl)⟩ dX9_readVersion_10 rfl rfl ?_
  refine aw_istore_n (pc := 13) (i := 2) (L' := [some (.ref 164), some (.int p0), some (.int z3.1), none, none]) hM dX9_readVersion_13 rfl (by decide) rfl ?_
  refine aw_iload_n (pc := 14) (i := 2) (x := z3.1) hM dX9_readVersion_14 rfl rfl ?_
  refine aw_bipush (pc := 15) (v := (-9)) hM dX9_readVersion_15 (by decide) ?_
  refine aw_icmp_ne (pc := 17) (tgt := 25) hM dX9_readVersion_17 (by decide) (fun c4 => ?_) (fun c4 => ?_)
  · rw [if_neg c4] at h
    refine aw_aload_n (pc := 25) (i := 0) (x := 164) hM dX9_readVersion_25 rfl rfl ?_
    refine aw_iconst (pc := 26) (v := 0) hM dX9_readVersion_26 (by decide) ?_
    refine aw_aload_n (pc := 27) (i := 0) (x := 164) hM dX9_readVersion_27 rfl rfl ?_
    refine aw_getI (pc := 28) hM fd_X9_110 sk_164 rfl dX9_readVersion_28 ?_
    refine aw_iconst (pc := 31) (v := 1) hM dX9_readVersion_31 (by decide) ?_
    refine aw_isub (pc := 32) hM dX9_readVersion_32 ?_
    refine aw_bipush (pc := 33) (v := (-9)) hM dX9_readVersion_33 (by decide) ?_
    obtain ⟨z7, h5, h⟩ := bind_some h
    refine aw_cv1 (pc := 35) (n := 3) (As := [.int 0, .int ((z3.2 164 12) - 1), .int (-9)]) (st := []) (b := 164) (vo := (some (.int z7.1))) (c2 := 0) (s2 := 0) hM (k_X9_digit h5) rfl cw_X9_103 sk_164 rfl rfl (by decide +kernel) rfl rfl ⟨(Nat.le_of_ble_eq_true rfl), (Nat.le_of_ble_eq_true rfl)⟩ (Nat.le_of_ble_eq_true rfl) ⟨(Nat.le_of_ble_eq_true rfl), (Nat.le_of_ble_eq_true rfl)⟩ dX9_readVersion_35 rfl rfl ?_
    refine aw_istore_n (pc := 38) (i := 3) (L' := [some (.ref 164), some (.int p0), some (.int z3.1), some (.int z7.1), none]) hM dX9_readVersion_38 rfl (by decide) rfl ?_
    refine aw_iload_n (pc := 39) (i := 3) (x := z7.1) hM dX9_readVersion_39 rfl rfl ?_
    refine aw_bipush (pc := 40) (v := (-9)) hM dX9_readVersion_40 (by decide) ?_
    refine aw_icmp_ne (pc := 42) (tgt := 50) hM dX9_readVersion_42 (by decide) (fun c8 => ?_) (fun c8 => ?_)
    · rw [if_neg c8] at h
      refine aw_aload_n (pc := 50) (i := 0) (x := 164) hM dX9_readVersion_50 rfl rfl ?_
      refine aw_iconst (pc := 51) (v := 0) hM dX9_readVersion_51 (by decide) ?_
      refine aw_iconst (pc := 52) (v := 3) hM dX9_readVersion_52 (by decide) ?_
      refine aw_bipush (pc := 53) (v := (-9)) hM dX9_readVersion_53 (by decide) ?_
      obtain ⟨z11, h9, h⟩ := bind_some h
      refine aw_cv1 (pc := 55) (n := 3) (As := [.int 0, .int 3, .int (-9)]) (st := []) (b := 164) (vo := (some (.int z11.1))) (c2 := 0) (s2 := 0) hM (k_X9_digit h9) rfl cw_X9_103 sk_164 rfl rfl (by decide +kernel) rfl rfl ⟨(Nat.le_of_ble_eq_true rfl), (Nat.le_of_ble_eq_true rfl)⟩ (Nat.le_of_ble_eq_true rfl) ⟨(Nat.le_of_ble_eq_true rfl), (Nat.le_of_ble_eq_true rfl)⟩ dX9_readVersion_55 rfl rfl ?_
      exact k_X9_readVersion_b58 hM hT hq z11.2 p0 z3.1 z7.1 z11.1 h
    · rw [if_pos c8] at h
      refine aw_bipush (pc := 45) (v := (-9)) hM dX9_readVersion_45 (by decide) ?_
      refine aw_goto (pc := 47) (tgt := 58) hM dX9_readVersion_47 (by decide) ?_
      exact k_X9_readVersion_b58 hM hT hq z7.2 p0 z3.1 z7.1 (-9) h
  · rw [if_pos c4] at h
    refine aw_bipush (pc := 20) (v := (-9)) hM dX9_readVersion_20 (by decide) ?_
    refine aw_goto (pc := 22) (tgt := 38) hM dX9_readVersion_22 (by decide) ?_
    refine aw_istore_n (pc := 38) (i := 3) (L' := [some (.ref 164), some (.int p0), some (.int z3.1), some (.int (-9)), none]) hM dX9_readVersion_38 rfl (by decide) rfl ?_
    refine aw_iload_n (pc := 39) (i := 3) (x := (-9)) hM dX9_readVersion_39 rfl rfl ?_
    refine aw_bipush (pc := 40) (v := (-9)) hM dX9_readVersion_40 (by decide) ?_
    refine aw_icmp_ne (pc := 42) (tgt := 50) hM dX9_readVersion_42 (by decide) (fun c12 => ?_) (fun c12 => ?_)
    · rw [if_neg c12] at h
      refine aw_aload_n (pc := 50) (i := 0) (x := 164) hM dX9_readVersion_50 rfl rfl ?_
      refine aw_iconst (pc := 51) (v := 0) hM dX9_readVersion_51 (by decide) ?_
      refine aw_iconst (pc := 52) (v := 3) hM dX9_readVersion_52 (by decide) ?_
      refine aw_bipush (pc := 53) (v := (-9)) hM dX9_readVersion_53 (by decide) ?_
      obtain ⟨z15, h13, h⟩ := bind_some h
      refine aw_cv1 (pc := 55) (n := 3) (As := [.int 0, .int 3, .int (-9)]) (st := []) (b := 164) (vo := (some (.int z15.1))) (c2 := 0) (s2 := 0) hM (k_X9_digit h13) rfl cw_X9_103 sk_164 rfl rfl (by decide +kernel) rfl rfl ⟨(Nat.le_of_ble_eq_true rfl), (Nat.le_of_ble_eq_true rfl)⟩ (Nat.le_of_ble_eq_true rfl) ⟨(Nat.le_of_ble_eq_true rfl), (Nat.le_of_ble_eq_true rfl)⟩ dX9_readVersion_55 rfl rfl ?_
      exact k_X9_readVersion_b58 hM hT hq z15.2 p0 z3.1 (-9) z15.1 h
    · rw [if_pos c12] at h
      refine aw_bipush (pc := 45) (v := (-9)) hM dX9_readVersion_45 (by decide) ?_
      refine aw_goto (pc := 47) (tgt := 58) hM dX9_readVersion_47 (by decide) ?_
      exact k_X9_readVersion_b58 hM hT hq z3.2 p0 z3.1 (-9) (-9) h
def rmX9_readItem : Room := { frames := 3, cells := 0, slots := 0, locals := 75 }
def s_X9_readItem_b61 (F : MM) : Option (Int32 × MM) := (s_X9_passes F 119).bind (fun z32 => if z32.1 = 0 then (s_X9_passes z32.2 118).bind (fun z36 => if z36.1 = 0 then some (0, z36.2) else (s_X9_readVersion z36.2 0).bind (fun z40 => if z40.1 = 0 then some (0, z40.2) else some (1, z40.2))) else (s_X9_readVersion z32.2 6).bind (fun z44 => if z44.1 &&& 1 = z44.1 then (some (z44.1, z44.2)) else none))
def s_X9_readItem_b22 (F : MM) (t0 : Int32) : Option (Int32 × MM) := if t0 = 0 then if t0 = 0 then s_X9_readItem_b61 F else (s_X9_passes F 120).bind (fun z7 => if z7.1 = 0 then s_X9_readItem_b61 z7.2 else (s_X9_readRule z7.2 1).bind (fun z11 => if z11.1 &&& 1 = z11.1 then (some (z11.1, z11.2)) else none)) else (s_X9_passes F 110).bind (fun z15 => if z15.1 = 0 then if t0 = 0 then s_X9_readItem_b61 z15.2 else (s_X9_passes z15.2 120).bind (fun z20 => if z20.1 = 0 then s_X9_readItem_b61 z20.2 else (s_X9_readRule z20.2 1).bind (fun z24 => if z24.1 &&& 1 = z24.1 then (some (z24.1, z24.2)) else none)) else (s_X9_readRule z15.2 0).bind (fun z28 => if z28.1 &&& 1 = z28.1 then (some (z28.1, z28.2)) else none))
def s_X9_readItem (F : MM) : Option (Int32 × MM) := if (F 164 12) ≤ 1 then s_X9_readItem_b22 F 0 else if 10 ≤ (F 164 13) then s_X9_readItem_b22 F 0 else s_X9_readItem_b22 F 1
set_option maxRecDepth 20000 in
theorem k_X9_readItem_b61 {C : CX} {M : MX} {G : GG} {Q : OUT → MM → GG → Prop} {r : (Int32 × MM)} (hM : MOk C RX9 cX9_readItem 2 (some .boolean) rmX9_readItem M) (hT : MNoT M) (hq : Q (.inl (some (.int r.1))) r.2 G) (F : MM) (h : s_X9_readItem_b61 F = some r) : AW C 2 (ZM C rmX9_readItem Q M) M 0 0 61 [some (.ref 164), none] [] F G := by
  rw [s_X9_readItem_b61] at h
  refine aw_aload_n (pc := 61) (i := 0) (x := 164) hM dX9_readItem_61 rfl rfl ?_
  refine aw_bipush (pc := 62) (v := 119) hM dX9_readItem_62 (by decide) ?_
  obtain ⟨z32, h30, h⟩ := bind_some h
  refine aw_cv1 (pc := 64) (n := 1) (As := [.int 119]) (st := []) (b := 164) (vo := (some (.int z32.1))) (c2 := 0) (s2 := 0) hM (k_X9_passes h30) rfl cw_X9_100 sk_164 rfl rfl (by decide +kernel) rfl rfl ⟨(Nat.le_of_ble_eq_true rfl), (Nat.le_of_ble_eq_true rfl)⟩ (Nat.le_of_ble_eq_true rfl) ⟨(Nat.le_of_ble_eq_true rfl), (Nat.le_of_ble_eq_true rfl)⟩ dX9_readItem_64 rfl rfl ?_
  refine aw_if_eq (pc := 67) (tgt := 77) hM dX9_readItem_67 (by decide) (fun c33 => ?_) (fun c33 => ?_)
  · rw [if_pos c33] at h
    refine aw_aload_n (pc := 77) (i := 0) (x := 164) hM dX9_readItem_77 rfl rfl ?_
    refine aw_bipush (pc := 78) (v := 118) hM dX9_readItem_78 (by decide) ?_
    obtain ⟨z36, h34, h⟩ := bind_some h
    refine aw_cv1 (pc := 80) (n := 1) (As := [.int 118]) (st := []) (b := 164) (vo := (some (.int z36.1))) (c2 := 0) (s2 := 0) hM (k_X9_passes h34) rfl cw_X9_100 sk_164 rfl rfl (by decide +kernel) rfl rfl ⟨(Nat.le_of_ble_eq_true rfl), (Nat.le_of_ble_eq_true rfl)⟩ (Nat.le_of_ble_eq_true rfl) ⟨(Nat.le_of_ble_eq_true rfl), (Nat.le_of_ble_eq_true rfl)⟩ dX9_readItem_80 rfl rfl ?_
    refine aw_if_eq (pc := 83) (tgt := 98) hM dX9_readItem_83 (by decide) (fun c37 => ?_) (fun c37 => ?_)
    · rw [if_pos c37] at h
      refine aw_iconst (pc := 98) (v := 0) hM dX9_readItem_98 (by decide) ?_
      obtain rfl := Option.some.inj h
      exact aw_zret (pc := 99) hM dX9_readItem_99 (by decide) (Nat.le_of_ble_eq_true rfl) (Nat.le_of_ble_eq_true rfl) hq
    · rw [if_neg c37] at h
      refine aw_aload_n (pc := 86) (i := 0) (x := 164) hM dX9_readItem_86 rfl rfl ?_
      refine aw_iconst (pc := 87) (v := 0) hM dX9_readItem_87 (by decide) ?_
      obtain ⟨z40, h38, h⟩ := bind_some h
      refine aw_cv1 (pc := 88) (n := 1) (As := [.int 0]) (st := []) (b := 164) (vo := (some (.int z40.1))) (c2 := 0) (s2 := 0) hM (k_X9_readVersion h38) rfl cw_X9_132 sk_164 rfl rfl (by decide +kernel) rfl rfl ⟨(Nat.le_of_ble_eq_true rfl), (Nat.le_of_ble_eq_true rfl)⟩ (Nat.le_of_ble_eq_true rfl) ⟨(Nat.le_of_ble_eq_true rfl), (Nat.le_of_ble_eq_true rfl)⟩ dX9_readItem_88 rfl rfl ?_
      refine aw_if_eq (pc := 91) (tgt := 98) hM dX9_readItem_91 (by decide) (fun c41 => ?_) (fun c41 => ?_)
      · rw [if_pos c41] at h
        refine aw_iconst (pc := 98) (v := 0) hM dX9_readItem_98 (by decide) ?_
        obtain rfl := Option.some.inj h
        exact aw_zret (pc := 99) hM dX9_readItem_99 (by decide) (Nat.le_of_ble_eq_true rfl) (Nat.le_of_ble_eq_true rfl) hq
      · rw [if_neg c41] at h
        refine aw_iconst (pc := 94) (v := 1) hM dX9_readItem_94 (by decide) ?_
        refine aw_goto (pc := 95) (tgt := 99) hM dX9_readItem_95 (by decide) ?_
        obtain rfl := Option.some.inj h
        exact aw_zret (pc := 99) hM dX9_readItem_99 (by decide) (Nat.le_of_ble_eq_true rfl) (Nat.le_of_ble_eq_true rfl) hq
  · rw [if_neg c33] at h
    refine aw_aload_n (pc := 70) (i := 0) (x := 164) hM dX9_readItem_70 rfl rfl ?_
    refine aw_bipush (pc := 71) (v := 6) hM dX9_readItem_71 (by decide) ?_
    obtain ⟨z44, h42, h⟩ := bind_some h
    refine aw_cv1 (pc := 73) (n := 1) (As := [.int 6]) (st := []) (b := 164) (vo := (some (.int z44.1))) (c2 := 0) (s2 := 0) hM (k_X9_readVersion h42) rfl cw_X9_132 sk_164 rfl rfl (by decide +kernel) rfl rfl ⟨(Nat.le_of_ble_eq_true rfl), (Nat.le_of_ble_eq_true rfl)⟩ (Nat.le_of_ble_eq_true rfl) ⟨(Nat.le_of_ble_eq_true rfl), (Nat.le_of_ble_eq_true rfl)⟩ dX9_readItem_73 rfl rfl ?_
    obtain ⟨c45, h⟩ := ite_some h
    obtain rfl := Option.some.inj h
    exact aw_zret (pc := 76) hM dX9_readItem_76 c45 (Nat.le_of_ble_eq_true rfl) (Nat.le_of_ble_eq_true rfl) hq
set_option maxRecDepth 20000 in
theorem k_X9_readItem_b22 {C : CX} {M : MX} {G : GG} {Q : OUT → MM → GG → Prop} {r : (Int32 × MM)} (hM : MOk C RX9 cX9_readItem 2 (some .boolean) rmX9_readItem M) (hT : MNoT M) (hq : Q (.inl (some (.int r.1))) r.2 G) (F : MM) (t0 : Int32) (h : s_X9_readItem_b22 F t0 = some r) : AW C 2 (ZM C rmX9_readItem Q M) M 0 0 22 [some (.ref 164), none] [.int t0] F G := by
  rw [s_X9_readItem_b22] at h
  refine aw_istore_n (pc := 22) (i := 1) (L' := [some (.ref 164), some (.int t0)]) hM dX9_readItem_22 rfl (by decide) rfl ?_
  refine aw_iload_n (pc := 23) (i := 1) (x := t0) hM dX9_readItem_23 rfl rfl ?_
  refine aw_if_eq (pc := 24) (tgt := 42) hM dX9_readItem_24 (by decide) (fun c3 => ?_) (fun c3 => ?_)
  · rw [if_pos c3] at h
    refine aw_iload_n (pc := 42) (i := 1) (x := t0) hM dX9_readItem_42 rfl rfl ?_
    refine aw_if_eq (pc := 43) (tgt := 61) hM dX9_readItem_43 (by decide) (fun c4 => ?_) (fun c4 => ?_)
    · rw [if_pos c4] at h
      refine aw_weak (L' := [some (.ref 164), none]) ?_ (lw_of [true, false] rfl)
      exact k_X9_readItem_b61 hM hT hq F h
    · rw [if_neg c4] at h
      refine aw_aload_n (pc := 46) (i := 0) (x := 164) hM dX9_readItem_46 rfl rfl ?_
      refine aw_bipush (pc := 47) (v := 120) hM dX9_readItem_47 (by decide) ?_
      obtain ⟨z7, h5, h⟩ := bind_some h
      refine aw_cv1 (pc := 49) (n := 1) (As := [.int 120]) (st := []) (b := 164) (vo := (some (.int z7.1))) (c2 := 0) (s2 := 0) hM (k_X9_passes h5) rfl cw_X9_100 sk_164 rfl rfl (by decide +kernel) rfl rfl ⟨(Nat.le_of_ble_eq_true rfl), (Nat.le_of_ble_eq_true rfl)⟩ (Nat.le_of_ble_eq_true rfl) ⟨(Nat.le_of_ble_eq_true rfl), (Nat.le_of_ble_eq_true rfl)⟩ dX9_readItem_49 rfl rfl ?_
      refine aw_if_eq (pc := 52) (tgt := 61) hM dX9_readItem_52 (by decide) (fun c8 => ?_) (fun c8 => ?_)
      · rw [if_pos c8] at h
        refine aw_weak (L' := [some (.ref 164), none]) ?_ (lw_of [true, false] rfl)
        exact k_X9_readItem_b61 hM hT hq z7.2 h
      · rw [if_neg c8] at h
        refine aw_aload_n (pc := 55) (i := 0) (x := 164) hM dX9_readItem_55 rfl rfl ?_
        refine aw_iconst (pc := 56) (v := 1) hM dX9_readItem_56 (by decide) ?_
        obtain ⟨z11, h9, h⟩ := bind_some h
        refine aw_cv1 (pc := 57) (n := 1) (As := [.int 1]) (st := []) (b := 164) (vo := (some (.int z11.1))) (c2 := 0) (s2 := 0) hM (k_X9_readRule h9) rfl cw_X9_129 sk_164 rfl rfl (by decide +kernel) rfl rfl ⟨(Nat.le_of_ble_eq_true rfl), (Nat.le_of_ble_eq_true rfl)⟩ (Nat.le_of_ble_eq_true rfl) ⟨(Nat.le_of_ble_eq_true rfl), (Nat.le_of_ble_eq_true rfl)⟩ dX9_readItem_57 rfl rfl ?_
        obtain ⟨c12, h⟩ := ite_some h
        obtain rfl := Option.some.inj h
        exact aw_zret (pc := 60) hM dX9_readItem_60 c12 (Nat.le_of_ble_eq_true rfl) (Nat.le_of_ble_eq_true rfl) hq
  · rw [if_neg c3] at h
    refine aw_aload_n (pc := 27) (i := 0) (x := 164) hM dX9_readItem_27 rfl rfl ?_
    refine aw_bipush (pc := 28) (v := 110) hM dX9_readItem_28 (by decide) ?_
    obtain ⟨z15, h13, h⟩ := bind_some h
    refine aw_cv1 (pc := 30) (n := 1) (As := [.int 110]) (st := []) (b := 164) (vo := (some (.int z15.1))) (c2 := 0) (s2 := 0) hM (k_X9_passes h13) rfl cw_X9_100 sk_164 rfl rfl (by decide +kernel) rfl rfl ⟨(Nat.le_of_ble_eq_true rfl), (Nat.le_of_ble_eq_true rfl)⟩ (Nat.le_of_ble_eq_true rfl) ⟨(Nat.le_of_ble_eq_true rfl), (Nat.le_of_ble_eq_true rfl)⟩ dX9_readItem_30 rfl rfl ?_
    refine aw_if_eq (pc := 33) (tgt := 42) hM dX9_readItem_33 (by decide) (fun c16 => ?_) (fun c16 => ?_)
    · rw [if_pos c16] at h
      refine aw_iload_n (pc := 42) (i := 1) (x := t0) hM dX9_readItem_42 rfl rfl ?_
      refine aw_if_eq (pc := 43) (tgt := 61) hM dX9_readItem_43 (by decide) (fun c17 => ?_) (fun c17 => ?_)
      · rw [if_pos c17] at h
        refine aw_weak (L' := [some (.ref 164), none]) ?_ (lw_of [true, false] rfl)
        exact k_X9_readItem_b61 hM hT hq z15.2 h
      · rw [if_neg c17] at h
        refine aw_aload_n (pc := 46) (i := 0) (x := 164) hM dX9_readItem_46 rfl rfl ?_
        refine aw_bipush (pc := 47) (v := 120) hM dX9_readItem_47 (by decide) ?_
        obtain ⟨z20, h18, h⟩ := bind_some h
        refine aw_cv1 (pc := 49) (n := 1) (As := [.int 120]) (st := []) (b := 164) (vo := (some (.int z20.1))) (c2 := 0) (s2 := 0) hM (k_X9_passes h18) rfl cw_X9_100 sk_164 rfl rfl (by decide +kernel) rfl rfl ⟨(Nat.le_of_ble_eq_true rfl), (Nat.le_of_ble_eq_true rfl)⟩ (Nat.le_of_ble_eq_true rfl) ⟨(Nat.le_of_ble_eq_true rfl), (Nat.le_of_ble_eq_true rfl)⟩ dX9_readItem_49 rfl rfl ?_
        refine aw_if_eq (pc := 52) (tgt := 61) hM dX9_readItem_52 (by decide) (fun c21 => ?_) (fun c21 => ?_)
        · rw [if_pos c21] at h
          refine aw_weak (L' := [some (.ref 164), none]) ?_ (lw_of [true, false] rfl)
          exact k_X9_readItem_b61 hM hT hq z20.2 h
        · rw [if_neg c21] at h
          refine aw_aload_n (pc := 55) (i := 0) (x := 164) hM dX9_readItem_55 rfl rfl ?_
          refine aw_iconst (pc := 56) (v := 1) hM dX9_readItem_56 (by decide) ?_
          obtain ⟨z24, h22, h⟩ := bind_some h
          refine aw_cv1 (pc := 57) (n := 1) (As := [.int 1]) (st := []) (b := 164) (vo := (some (.int z24.1))) (c2 := 0) (s2 := 0) hM (k_X9_readRule h22) rfl cw_X9_129 sk_164 rfl rfl (by decide +kernel) rfl rfl ⟨(Nat.le_of_ble_eq_true rfl), (Nat.le_of_ble_eq_true rfl)⟩ (Nat.le_of_ble_eq_true rfl) ⟨(Nat.le_of_ble_eq_true rfl), (Nat.le_of_ble_eq_true rfl)⟩ dX9_readItem_57 rfl rfl ?_
          obtain ⟨c25, h⟩ := ite_some h
          obtain rfl := Option.some.inj h
          exact aw_zret (pc := 60) hM dX9_readItem_60 c25 (Nat.le_of_ble_eq_true rfl) (Nat.le_of_ble_eq_true rfl) hq
    · rw [if_neg c16] at h
      refine aw_aload_n (pc := 36) (i := 0) (x := 164) hM dX9_readItem_36 rfl rfl ?_
      refine aw_iconst (pc := 37) (v := 0) hM dX9_readItem_37 (by decide) ?_
      obtain ⟨z28, h26, h⟩ := bind_some h
      refine aw_cv1 (pc := 38) (n := 1) (As := [.int 0]) (st := []) (b := 164) (vo := (some (.int z28.1))) (c2 := 0) (s2 := 0) hM (k_X9_readRule h26) rfl cw_X9_129 sk_164 rfl rfl (by decide +kernel) rfl rfl ⟨(Nat.le_of_ble_eq_true rfl), (Nat.le_of_ble_eq_true rfl)⟩ (Nat.le_of_ble_eq_true rfl) ⟨(Nat.le_of_ble_eq_true rfl), (Nat.le_of_ble_eq_true rfl)⟩ dX9_readItem_38 rfl rfl ?_
      obtain ⟨c29, h⟩ := ite_some h
      obtain rfl := Option.some.inj h
      exact aw_zret (pc := 41) hM dX9_readItem_41 c29 (Nat.le_of_ble_eq_true rfl) (Nat.le_of_ble_eq_true rfl) hq
set_option maxRecDepth 20000 in
theorem k_X9_readItem {C : CX} {F : MM} {G : GG} {r : (Int32 × MM)} (h : s_X9_readItem F = some r) : AM C yX9_readItem cX9_readItem 2 (some .boolean) rmX9_readItem [.ref 164] F G (fun o F9 G9 => o = (.inl (some (.int r.1))) ∧ F9 = r.2 ∧ G9 = G) := by
  refine am_of (L := [some (.ref 164), none]) (by decide) (Nat.le_of_ble_eq_true rfl) rfl (fun M hM hT => ?_)
  have hM : MOk C RX9 cX9_readItem 2 (some .boolean) rmX9_readItem M := hM
  obtain ⟨Q, hQ⟩ : ∃ Q : OUT → MM → GG → Prop, Q = (fun o F9 G9 => o = (.inl (some (.int r.1))) ∧ F9 = r.2 ∧ G9 = G) := ⟨_, rfl⟩
  have hq : Q (.inl (some (.int r.1))) r.2 G := by rw [hQ]; exact ⟨rfl, rfl, rfl⟩
  rw [← hQ]
  clear hQ
  rw [s_X9_readItem] at h
  refine aw_aload_n (pc := 0) (i := 0) (x := 164) hM dX9_readItem_0 rfl rfl ?_
  refine aw_getI (pc := 1) hM fd_X9_110 sk_164 rfl dX9_readItem_1 ?_
  refine aw_iconst (pc := 4) (v := 1) hM dX9_readItem_4 (by decide) ?_
  refine aw_icmp_le (pc := 5) (tgt := 21) hM dX9_readItem_5 (by decide) (fun c1 => ?_) (fun c1 => ?_)
  · rw [if_pos c1] at h
    refine aw_iconst (pc := 21) (v := 0) hM dX9_readItem_21 (by decide) ?_
    exact k_X9_readItem_b22 hM hT hq F 0 h
  · rw [if_neg c1] at h
    refine aw_aload_n (pc := 8) (i := 0) (x := 164) hM dX9_readItem_8 rfl rfl ?_
    refine aw_getI (pc := 9) hM fd_X9_123 sk_164 rfl dX9_readItem_9 ?_
    refine aw_bipush (pc := 12) (v := 10) hM dX9_readItem_12 (by decide) ?_
    refine aw_icmp_ge (pc := 14) (tgt := 21) hM dX9_readItem_14 (by decide) (fun c2 => ?_) (fun c2 => ?_)
    · rw [if_pos c2] at h
      refine aw_iconst (pc := 21) (v := 0) hM dX9_readItem_21 (by decide) ?_
      exact k_X9_readItem_b22 hM hT hq F 0 h
    · rw [if_neg c2] at h
      refine aw_iconst (pc := 17) (v := 1) hM dX9_readItem_17 (by decide) ?_
      refine aw_goto (pc := 18) (tgt := 22) hM dX9_readItem_18 (by decide) ?_
      exact k_X9_readItem_b22 hM hT hq F 1 h
def rmX9_readText : Room := { frames := 4, cells := 0, slots := 0, locals := 96 }
def s_X9_readText_b43 : Nat → MM → Option (Int32 × MM)
  | 0, _ => none
  | n + 1, F => if (F 164 2) ≤ (F 164 3) then some ((-9), F) else (s_X9_readItem F).bind (fun z18 => if z18.1 = 0 then some (z18.2 164 3, z18.2) else s_X9_readText_b43 n z18.2)
def s_X9_readText_b12 : Nat → MM → Int32 → Option (Int32 × MM)
  | 0, _, _ => none
  | n + 1, F, x1 => if 107 ≤ x1 then (s_X9_readHead F).bind (fun z8 => if z8.1 = 0 then some (z8.2 164 3, z8.2) else s_X9_readText_b43 fu_ z8.2) else if inb x1 107 then ((some (mup F 170 (ix x1) 0)).bind (fun F11 => (some (x1 + 1 : Int32)).bind (fun y13 => s_X9_readText_b12 n F11 y13))) else none
def s_X9_readText (F : MM) : Option (Int32 × MM) := (some (mup F 164 3 0)).bind (fun F1 => (some (mup F1 164 13 0)).bind (fun F3 => s_X9_readText_b12 fu_ F3 0))
set_option maxRecDepth 20000 in
theorem k_X9_readText_b43 {C : CX} {M : MX} {G : GG} {Q : OUT → MM → GG → Prop} {r : (Int32 × MM)} (hM : MOk C RX9 cX9_readText 2 (some .int) rmX9_readText M) (hT : MNoT M) (hq : Q (.inl (some (.int r.1))) r.2 G) : ∀ (n : Nat) (F : MM), s_X9_readText_b43 n F = some r → AW C 2 (ZM C rmX9_readText Q M) M 0 0 43 [some (.ref 164), none] [] F G := by
  intro n
  induction n with
  | zero => intro F h; exact nomatch h
  | succ n ih =>
    intro F h
    rw [s_X9_readText_b43] at h
    refine aw_aload_n (pc := 43) (i := 0) (x := 164) hM dX9_readText_43 rfl rfl ?_
    refine aw_getI (pc := 44) hM fd_X9_97 sk_164 rfl dX9_readText_44 ?_
    refine aw_aload_n (pc := 47) (i := 0) (x := 164) hM dX9_readText_47 rfl rfl ?_
    refine aw_getI (pc := 48) hM fd_X9_90 sk_164 rfl dX9_readText_48 ?_
    refine aw_icmp_ge (pc := 51) (tgt := 66) hM dX9_readText_51 (by decide) (fun c15 => ?_) (fun c15 => ?_)
    · rw [if_pos c15] at h
      refine aw_bipush (pc := 66) (v := (-9)) hM dX9_readText_66 (by decide) ?_
      obtain rfl := Option.some.inj h
      exact aw_iret (pc := 68) hM dX9_readText_68 (Nat.le_of_ble_eq_true rfl) (Nat.le_of_ble_eq_true rfl) hq
    · rw [if_neg c15] at h
      refine aw_aload_n (pc := 54) (i := 0) (x := 164) hM dX9_readText_54 rfl rfl ?_
      obtain ⟨z18, h16, h⟩ := bind_some h
      refine aw_cv1 (pc := 55) (n := 0) (As := []) (st := []) (b := 164) (vo := (some (.int z18.1))) (c2 := 0) (s2 := 0) hM (k_X9_readItem h16) rfl cw_X9_139 sk_164 rfl rfl (by decide +kernel) rfl rfl ⟨(Nat.le_of_ble_eq_true rfl), (Nat.le_of_ble_eq_true rfl)⟩ (Nat.le_of_ble_eq_true rfl) ⟨(Nat.le_of_ble_eq_true rfl), (Nat.le_of_ble_eq_true rfl)⟩ dX9_readText_55 rfl rfl ?_
      refine aw_if_ne (pc := 58) (tgt := 43) hM dX9_readText_58 (by decide) (fun c19 => ?_) (fun c19 => ?_)
      · rw [if_neg c19] at h
        exact ih z18.2 h
      · rw [if_pos c19] at h
        refine aw_aload_n (pc := 61) (i := 0) (x := 164) hM dX9_readText_61 rfl rfl ?_
        refine aw_getI (pc := 62) hM fd_X9_97 sk_164 rfl dX9_readText_62 ?_
        obtain rfl := Option.some.inj h
        exact aw_iret (pc := 65) hM dX9_readText_65 (Nat.le_of_ble_eq_true rfl) (Nat.le_of_ble_eq_true rfl) hq
set_option maxRecDepth 20000 in
theorem k_X9_readText_b12 {C : CX} {M : MX} {G : GG} {Q : OUT → MM → GG → Prop} {r : (Int32 × MM)} (hM : MOk C RX9 cX9_readText 2 (some .int) rmX9_readText M) (hT : MNoT M) (hq : Q (.inl (some (.int r.1))) r.2 G) : ∀ (n : Nat) (F : MM) (x1 : Int32), s_X9_readText_b12 n F x1 = some r → AW C 2 (ZM C rmX9_readText Q M) M 0 0 12 [some (.ref 164), some (.int x1)] [] F G := by
  intro n
  induction n with
  | zero => intro F x1 h; exact nomatch h
  | succ n ih =>
    intro F x1 h
    rw [s_X9_readText_b12] at h
    refine aw_iload_n (pc := 12) (i := 1) (x := x1) hM dX9_readText_12 rfl rfl ?_
    refine aw_bipush (pc := 13) (v := 107) hM dX9_readText_13 (by decide) ?_
    refine aw_icmp_ge (pc := 15) (tgt := 31) hM dX9_readText_15 (by decide) (fun c5 => ?_) (fun c5 => ?_)
    · rw [if_pos c5] at h
      refine aw_aload_n (pc := 31) (i := 0) (x := 164) hM dX9_readText_31 rfl rfl ?_
      obtain ⟨z8, h6, h⟩ := bind_some h
      refine aw_cv1 (pc := 32) (n := 0) (As := []) (st := []) (b := 164) (vo := (some (.int z8.1))) (c2 := 0) (s2 := 0) hM (k_X9_readHead h6) rfl cw_X9_135 sk_164 rfl rfl (by decide +kernel) rfl rfl ⟨(Nat.le_of_ble_eq_true rfl), (Nat.le_of_ble_eq_true rfl)⟩ (Nat.le_of_ble_eq_true rfl) ⟨(Nat.le_of_ble_eq_true rfl), (Nat.le_of_ble_eq_true rfl)⟩ dX9_readText_32 rfl rfl ?_
      refine aw_if_ne (pc := 35) (tgt := 43) hM dX9_readText_35 (by decide) (fun c9 => ?_) (fun c9 => ?_)
      · rw [if_neg c9] at h
        refine aw_weak (L' := [some (.ref 164), none]) ?_ (lw_of [true, false] rfl)
        exact k_X9_readText_b43 hM hT hq fu_ z8.2 h
      · rw [if_pos c9] at h
        refine aw_aload_n (pc := 38) (i := 0) (x := 164) hM dX9_readText_38 rfl rfl ?_
        refine aw_getI (pc := 39) hM fd_X9_97 sk_164 rfl dX9_readText_39 ?_
        obtain rfl := Option.some.inj h
        exact aw_iret (pc := 42) hM dX9_readText_42 (Nat.le_of_ble_eq_true rfl) (Nat.le_of_ble_eq_true rfl) hq
    · rw [if_neg c5] at h
      refine aw_aload_n (pc := 18) (i := 0) (x := 164) hM dX9_readText_18 rfl rfl ?_
      refine aw_getR (pc := 19) (r := 170) hM fd_X9_38 sk_164 rfl dX9_readText_19 ?_
      refine aw_iload_n (pc := 22) (i := 1) (x := x1) hM dX9_readText_22 rfl rfl ?_
      refine aw_iconst (pc := 23) (v := 0) hM dX9_readText_23 (by decide) ?_
      obtain ⟨c10, h⟩ := ite_some h
      obtain ⟨F11, e12, h⟩ := bind_some h
      have e12 := Option.some.inj e12
      refine aw_iast (pc := 24) hM sk_170 c10 dX9_readText_24 ?_
      refine aw_mem e12 ?_
      obtain ⟨y13, e14, h⟩ := bind_some h
      have e14 := Option.some.inj e14
      refine aw_iinc (pc := 25) (v := y13) (L' := [some (.ref 164), some (.int y13)]) hM dX9_readText_25 rfl e14 (by decide) rfl ?_
      refine aw_goto (pc := 28) (tgt := 12) hM dX9_readText_28 (by decide) ?_
      exact ih F11 y13 h
set_option maxRecDepth 20000 in
theorem k_X9_readText {C : CX} {F : MM} {G : GG} {r : (Int32 × MM)} (h : s_X9_readText F = some r) : AM C yX9_readText cX9_readText 2 (some .int) rmX9_readText [.ref 164] F G (fun o F9 G9 => o = (.inl (some (.int r.1))) ∧ F9 = r.2 ∧ G9 = G) := by
  refine am_of (L := [some (.ref 164), none]) (by decide) (Nat.le_of_ble_eq_true rfl) rfl (fun M hM hT => ?_)
  have hM : MOk C RX9 cX9_readText 2 (some .int) rmX9_readText M := hM
  obtain ⟨Q, hQ⟩ : ∃ Q : OUT → MM → GG → Prop, Q = (fun o F9 G9 => o = (.inl (some (.int r.1))) ∧ F9 = r.2 ∧ G9 = G) := ⟨_, rfl⟩
  have hq : Q (.inl (some (.int r.1))) r.2 G := by rw [hQ]; exact ⟨rfl, rfl, rfl⟩
  rw [← hQ]
  clear hQ
  rw [s_X9_readText] at h
  refine aw_aload_n (pc := 0) (i := 0) (x := 164) hM dX9_readText_0 rfl rfl ?_
  refine aw_iconst (pc := 1) (v := 0) hM dX9_readText_1 (by decide) ?_
  obtain ⟨F1, e2, h⟩ := bind_some h
  have e2 := Option.some.inj e2
  refine aw_put (pc := 2) (ty := .int) hM fd_X9_97 tyX9_ok nmX9 rfl (by decide +kernel) rfl rfl sk_164 rfl dX9_readText_2 ?_
  refine aw_mem e2 ?_
  refine aw_aload_n (pc := 5) (i := 0) (x := 164) hM dX9_readText_5 rfl rfl ?_
  refine aw_iconst (pc := 6) (v := 0) hM dX9_readText_6 (by decide) ?_
  obtain ⟨F3, e4, h⟩ := bind_some h
  have e4 := Option.some.inj e4
  refine aw_put (pc := 7) (ty := .int) hM fd_X9_123 tyX9_ok nmX9 rfl (by decide +kernel) rfl rfl sk_164 rfl dX9_readText_7 ?_
  refine aw_mem e4 ?_
  refine aw_iconst (pc := 10) (v := 0) hM dX9_readText_10 (by decide) ?_
  refine aw_istore_n (pc := 11) (i := 1) (L' := [some (.ref 164), some (.int 0)]) hM dX9_readText_11 rfl (by decide) rfl ?_
  exact k_X9_readText_b12 hM hT hq fu_ F3 0 h
def rmX9_errorPosition : Room := { frames := 5, cells := 0, slots := 0, locals := 117 }
def s_X9_errorPosition (F : MM) : Option (Int32 × MM) := (some (mup F 164 0 0)).bind (fun F1 => (s_X9_readText F1).bind (fun z5 => some (z5.1, z5.2)))
set_option maxRecDepth 20000 in
theorem k_X9_errorPosition {C : CX} {F : MM} {G : GG} {r : (Int32 × MM)} (h : s_X9_errorPosition F = some r) : AM C yX9_errorPosition cX9_errorPosition 1 (some .int) rmX9_errorPosition [.ref 164] F G (fun o F9 G9 => o = (.inl (some (.int r.1))) ∧ F9 = r.2 ∧ G9 = G) := by
  refine am_of (L := [some (.ref 164)]) (by decide) (Nat.le_of_ble_eq_true rfl) rfl (fun M hM hT => ?_)
  have hM : MOk C RX9 cX9_errorPosition 1 (some .int) rmX9_errorPosition M := hM
  obtain ⟨Q, hQ⟩ : ∃ Q : OUT → MM → GG → Prop, Q = (fun o F9 G9 => o = (.inl (some (.int r.1))) ∧ F9 = r.2 ∧ G9 = G) := ⟨_, rfl⟩
  have hq : Q (.inl (some (.int r.1))) r.2 G := by rw [hQ]; exact ⟨rfl, rfl, rfl⟩
  rw [← hQ]
  clear hQ
  rw [s_X9_errorPosition] at h
  refine aw_aload_n (pc := 0) (i := 0) (x := 164) hM dX9_errorPosition_0 rfl rfl ?_
  refine aw_iconst (pc := 1) (v := 0) hM dX9_errorPosition_1 (by decide) ?_
  obtain ⟨F1, e2, h⟩ := bind_some h
  have e2 := Option.some.inj e2
  refine aw_put (pc := 2) (ty := .int) hM fd_X9_69 tyX9_ok nmX9 rfl (by decide +kernel) rfl rfl sk_164 rfl dX9_errorPosition_2 ?_
  refine aw_mem e2 ?_
  refine aw_aload_n (pc := 5) (i := 0) (x := 164) hM dX9_errorPosition_5 rfl rfl ?_
  obtain ⟨z5, h3, h⟩ := bind_some h
  refine aw_cv1 (pc := 6) (n := 0) (As := []) (st := []) (b := 164) (vo := (some (.int z5.1))) (c2 := 0) (s2 := 0) hM (k_X9_readText h3) rfl cw_X9_142 sk_164 rfl rfl (by decide +kernel) rfl rfl ⟨(Nat.le_of_ble_eq_true rfl), (Nat.le_of_ble_eq_true rfl)⟩ (Nat.le_of_ble_eq_true rfl) ⟨(Nat.le_of_ble_eq_true rfl), (Nat.le_of_ble_eq_true rfl)⟩ dX9_errorPosition_6 rfl rfl ?_
  obtain rfl := Option.some.inj h
  exact aw_iret (pc := 9) hM dX9_errorPosition_9 (Nat.le_of_ble_eq_true rfl) (Nat.le_of_ble_eq_true rfl) hq
def rmX9_explains : Room := { frames := 2, cells := 0, slots := 0, locals := 46 }
def s_X9_explains_b118 (k54 : MM → Int32 → Int32 → Int32 → Int32 → Int32 → Option (Int32 × MM)) (F : MM) (x1 : Int32) (x2 : Int32) (x3 : Int32) (x4 : Int32) (x5 : Int32) (t0 : Int32) : Option (Int32 × MM) := if t0 = 0 then (some (x3 ||| 0 : Int32)).bind (fun y24 => (some (x5 + 1 : Int32)).bind (fun y26 => k54 F x1 x2 y24 x4 y26)) else (some (x3 ||| ((1 : Int32) <<< (x5 &&& 31)) : Int32)).bind (fun y28 => (some (x5 + 1 : Int32)).bind (fun y30 => k54 F x1 x2 y28 x4 y30))
def s_X9_explains_b54 : Nat → MM → Int32 → Int32 → Int32 → Int32 → Int32 → Option (Int32 × MM)
  | 0, _, _, _, _, _, _ => none
  | n + 1, F, x1, x2, x3, x4, x5 => if (4 * (F 164 5)) ≤ x5 then some (x3, F) else (some (x5 / 4 : Int32)).bind (fun y14 => (s_X9_at F x1).bind (fun r17 => if inb (r17 + y14) 107 then ((some (F 171 (ix (r17 + y14)) : Int32)).bind (fun y19 => if (x5 - x5 / 4 * 4) = y19 then s_X9_explains_b118 (s_X9_explains_b54 n) F x1 x2 x3 x4 x5 0 else if (x4 + ((y14 + 1) * ((x5 - x5 / 4 * 4) - y19))) = x2 then s_X9_explains_b118 (s_X9_explains_b54 n) F x1 x2 x3 x4 x5 1 else s_X9_explains_b118 (s_X9_explains_b54 n) F x1 x2 x3 x4 x5 0)) else none))
def s_X9_explains_b30 (F : MM) (x1 : Int32) (x2 : Int32) (t0 : Int32) : Option (Int32 × MM) := (s_X9_refused F t0).bind (fun z9 => if z9.1 = 0 then (s_X9_digestOf z9.2 171 x1).bind (fun r12 => s_X9_explains_b54 fu_ z9.2 x1 x2 0 r12 0) else some (0, z9.2))
def s_X9_explains (F : MM) (p0 : Int32) (p1 : Int32) : Option (Int32 × MM) := (s_X9_isNode F p0).bind (fun r2 => if r2 = 0 then s_X9_explains_b30 F p0 p1 1 else (s_X9_in F (Int32.toInt64 p1) 0 63).bind (fun r5 => if r5 = 0 then s_X9_explains_b30 F p0 p1 2 else s_X9_explains_b30 F p0 p1 0))
set_option maxRecDepth 20000 in
theorem k_X9_explains_b118 {C : CX} {M : MX} {G : GG} {Q : OUT → MM → GG → Prop} {k54 : MM → Int32 → Int32 → Int32 → Int32 → Int32 → Option (Int32 × MM)} {r : (Int32 × MM)} (hM : MOk C RX9 cX9_explains 9 (some .int) rmX9_explains M) (hT : MNoT M) (hk54 : ∀ (wF : MM) (w0 : Int32) (w1 : Int32) (w2 : Int32) (w3 : Int32) (w4 : Int32), k54 wF w0 w1 w2 w3 w4 = some r → AW C 9 (ZM C rmX9_explains Q M) M 0 0 54 [some (.ref 164), some (.int w0), some (.int w1), some (.int w2), some (.int w3), some (.int w4), none, none, none] [] wF G) (hq : Q (.inl (some (.int r.1))) r.2 G) (F : MM) (x1 : Int32) (x2 : Int32) (x3 : Int32) (x4 : Int32) (x5 : Int32) (t0 : Int32) (h : s_X9_explains_b118 k54 F x1 x2 x3 x4 x5 t0 = some r) : AW C 9 (ZM C rmX9_explains Q M) M 0 0 118 [some (.ref 164), some (.int x1), some (.int x2), some (.int x3), some (.int x4), some (.int x5), none, none, none] [.int t0] F G := by
  rw [s_X9_explains_b118] at h
  refine aw_istore (pc := 118) (i := 8) (L' := [some (.ref 164), some (.int x1), some (.int x2), some (.int x3), some (.int x4), some (.int x5), none, none, some (.int t0)]) hM dX9_explains_118  (by decide) rfl ?_
  refine aw_iload_n (pc := 120) (i := 3) (x := x3) hM dX9_explains_120 rfl rfl ?_
  refine aw_iload (pc := 121) (i := 8) (x := t0) hM dX9_explains_121  rfl ?_
  refine aw_if_eq (pc := 123) (tgt := 133) hM dX9_explains_123 (by decide) (fun c23 => ?_) (fun c23 => ?_)
  · rw [if_pos c23] at h
    refine aw_iconst (pc := 133) (v := 0) hM dX9_explains_133 (by decide) ?_
    refine aw_ior (pc := 134) hM dX9_explains_134 ?_
    obtain ⟨y24, e25, h⟩ := bind_some h
    have e25 := Option.some.inj e25
    refine aw_topi e25 ?_
    refine aw_istore_n (pc := 135) (i := 3) (L' := [some (.ref 164), some (.int x1), some (.int x2), some (.int y24), some (.int x4), some (.int x5), none, none, some (.int t0)]) hM dX9_explains_135 rfl (by decide) rfl ?_
    obtain ⟨y26, e27, h⟩ := bind_some h
    have e27 := Option.some.inj e27
    refine aw_iinc (pc := 136) (v := y26) (L' := [some (.ref 164), some (.int x1), some (.int x2), some (.int y24), some (.int x4), some (.int y26), none, none, some (.int t0)]) hM dX9_explains_136 rfl e27 (by decide) rfl ?_
    refine aw_goto (pc := 139) (tgt := 54) hM dX9_explains_139 (by decide) ?_
    refine aw_weak (L' := [some (.ref 164), some (.int x1), some (.int x2), some (.int y24), some (.int x4), some (.int y26), none, none, none]) ?_ (lw_of [true, true, true, true, true, true, true, true, false] rfl)
    exact hk54 F x1 x2 y24 x4 y26 h
  · rw [if_neg c23] at h
    refine aw_iconst (pc := 126) (v := 1) hM dX9_explains_126 (by decide) ?_
    refine aw_iload (pc := 127) (i := 5) (x := x5) hM dX9_explains_127  rfl ?_
    refine aw_ishl (pc := 129) hM dX9_explains_129 ?_
    refine aw_goto (pc := 130) (tgt := 134) hM dX9_explains_130 (by decide) ?_
    refine aw_ior (pc := 134) hM dX9_explains_134 ?_
    obtain ⟨y28, e29, h⟩ := bind_some h
    have e29 := Option.some.inj e29
    refine aw_topi e29 ?_
    refine aw_istore_n (pc := 135) (i := 3) (L' := [some (.ref 164), some (.int x1), some (.int x2), some (.int y28), some (.int x4), some (.int x5), none, none, some (.int t0)]) hM dX9_explains_135 rfl (by decide) rfl ?_
    obtain ⟨y30, e31, h⟩ := bind_some h
    have e31 := Option.some.inj e31
    refine aw_iinc (pc := 136) (v := y30) (L' := [some (.ref 164), some (.int x1), some (.int x2), some (.int y28), some (.int x4), some (.int y30), none, none, some (.int t0)]) hM dX9_explains_136 rfl e31 (by decide) rfl ?_
    refine aw_goto (pc := 139) (tgt := 54) hM dX9_explains_139 (by decide) ?_
    refine aw_weak (L' := [some (.ref 164), some (.int x1), some (.int x2), some (.int y28), some (.int x4), some (.int y30), none, none, none]) ?_ (lw_of [true, true, true, true, true, true, true, true, false] rfl)
    exact hk54 F x1 x2 y28 x4 y30 h
set_option maxRecDepth 20000 in
theorem k_X9_explains_b54 {C : CX} {M : MX} {G : GG} {Q : OUT → MM → GG → Prop} {r : (Int32 × MM)} (hM : MOk C RX9 cX9_explains 9 (some .int) rmX9_explains M) (hT : MNoT M) (hq : Q (.inl (some (.int r.1))) r.2 G) : ∀ (n : Nat) (F : MM) (x1 : Int32) (x2 : Int32) (x3 : Int32) (x4 : Int32) (x5 : Int32), s_X9_explains_b54 n F x1 x2 x3 x4 x5 = some r → AW C 9 (ZM C rmX9_explains Q M) M 0 0 54 [some (.ref 164), some (.int x1), some (.int x2), some (.int x3), some (.int x4), some (.int x5), none, none, none] [] F G := by
  intro n
  induction n with
  | zero => intro F x1 x2 x3 x4 x5 h; exact nomatch h
  | succ n ih =>
    intro F x1 x2 x3 x4 x5 h
    rw [s_X9_explains_b54] at h
    refine aw_iload (pc := 54) (i := 5) (x := x5) hM dX9_explains_54  rfl ?_
    refine aw_iconst (pc := 56) (v := 4) hM dX9_explains_56 (by decide) ?_
    refine aw_aload_n (pc := 57) (i := 0) (x := 164) hM dX9_explains_57 rfl rfl ?_
    refine aw_getI (pc := 58) hM fd_X9_17 sk_164 rfl dX9_explains_58 ?_
    refine aw_imul (pc := 61) hM dX9_explains_61 ?_
    refine aw_icmp_ge (pc := 62) (tgt := 142) hM dX9_explains_62 (by decide) (fun c13 => ?_) (fun c13 => ?_)
    · rw [if_pos c13] at h
      refine aw_iload_n (pc := 142) (i := 3) (x := x3) hM dX9_explains_142 rfl rfl ?_
      obtain rfl := Option.some.inj h
      exact aw_iret (pc := 143) hM dX9_explains_143 (Nat.le_of_ble_eq_true rfl) (Nat.le_of_ble_eq_true rfl) hq
    · rw [if_neg c13] at h
      refine aw_iload (pc := 65) (i := 5) (x := x5) hM dX9_explains_65  rfl ?_
      refine aw_iconst (pc := 67) (v := 4) hM dX9_explains_67 (by decide) ?_
      refine aw_idiv (pc := 68) hM dX9_explains_68 (by decide) ?_
      obtain ⟨y14, e15, h⟩ := bind_some h
      have e15 := Option.some.inj e15
      refine aw_topi e15 ?_
      refine aw_istore (pc := 69) (i := 6) (L' := [some (.ref 164), some (.int x1), some (.int x2), some (.int x3), some (.int x4), some (.int x5), some (.int y14), none, none]) hM dX9_explains_69  (by decide) rfl ?_
      refine aw_aload_n (pc := 71) (i := 0) (x := 164) hM dX9_explains_71 rfl rfl ?_
      refine aw_getR (pc := 72) (r := 171) hM fd_X9_41 sk_164 rfl dX9_explains_72 ?_
      refine aw_iload_n (pc := 75) (i := 1) (x := x1) hM dX9_explains_75 rfl rfl ?_
      obtain ⟨r17, h16, h⟩ := bind_some h
      refine aw_cs1 (pc := 76) (n := 1) (As := [.int x1]) (st := [.ref 171]) (vo := (some (.int r17))) (c2 := 0) (s2 := 0) hM (k_X9_at h16) rfl cw_X9_126 (by decide +kernel) rfl rfl ⟨(Nat.le_of_ble_eq_true rfl), (Nat.le_of_ble_eq_true rfl)⟩ (Nat.le_of_ble_eq_true rfl) ⟨(Nat.le_of_ble_eq_true rfl), (Nat.le_of_ble_eq_true rfl)⟩ dX9_explains_76 rfl rfl ?_
      refine aw_iload (pc := 79) (i := 6) (x := y14) hM dX9_explains_79  rfl ?_
      refine aw_iadd (pc := 81) hM dX9_explains_81 ?_
      obtain ⟨c18, h⟩ := ite_some h
      refine aw_iald (pc := 82) hM sk_171 c18 dX9_explains_82 ?_
      obtain ⟨y19, e20, h⟩ := bind_some h
      have e20 := Option.some.inj e20
      refine aw_topi e20 ?_
      refine aw_istore (pc := 83) (i := 7) (L' := [some (.ref 164), some (.int x1), some (.int x2), some (.int x3), some (.int x4), some (.int x5), some (.int y14), some (.int y19), none]) hM dX9_explains_83  (by decide) rfl ?_
      refine aw_iload (pc := 85) (i := 5) (x := x5) hM dX9_explains_85  rfl ?_
      refine aw_iconst (pc := 87) (v := 4) hM dX9_explains_87 (by decide) ?_
      refine aw_irem (pc := 88) hM dX9_explains_88 (by decide) ?_
      refine aw_iload (pc := 89) (i := 7) (x := y19) hM dX9_explains_89  rfl ?_
      refine aw_icmp_eq (pc := 91) (tgt := 117) hM dX9_explains_91 (by decide) (fun c21 => ?_) (fun c21 => ?_)
      · rw [if_pos c21] at h
        refine aw_iconst (pc := 117) (v := 0) hM dX9_explains_117 (by decide) ?_
        refine aw_weak (L' := [some (.ref 164), some (.int x1), some (.int x2), some (.int x3), some (.int x4), some (.int x5), none, none, none]) ?_ (lw_of [true, true, true, true, true, true, false, false, true] rfl)
        exact k_X9_explains_b118 hM hT (fun wF w0 w1 w2 w3 w4 h9 => ih wF w0 w1 w2 w3 w4 h9) hq F x1 x2 x3 x4 x5 0 h
      · rw [if_neg c21] at h
        refine aw_iload (pc := 94) (i := 4) (x := x4) hM dX9_explains_94  rfl ?_
        refine aw_iload (pc := 96) (i := 6) (x := y14) hM dX9_explains_96  rfl ?_
        refine aw_iconst (pc := 98) (v := 1) hM dX9_explains_98 (by decide) ?_
        refine aw_iadd (pc := 99) hM dX9_explains_99 ?_
        refine aw_iload (pc := 100) (i := 5) (x := x5) hM dX9_explains_100  rfl ?_
        refine aw_iconst (pc := 102) (v := 4) hM dX9_explains_102 (by decide) ?_
        refine aw_irem (pc := 103) hM dX9_explains_103 (by decide) ?_
        refine aw_iload (pc := 104) (i := 7) (x := y19) hM dX9_explains_104  rfl ?_
        refine aw_isub (pc := 106) hM dX9_explains_106 ?_
        refine aw_imul (pc := 107) hM dX9_explains_107 ?_
        refine aw_iadd (pc := 108) hM dX9_explains_108 ?_
        refine aw_iload_n (pc := 109) (i := 2) (x := x2) hM dX9_explains_109 rfl rfl ?_
        refine aw_icmp_ne (pc := 110) (tgt := 117) hM dX9_explains_110 (by decide) (fun c22 => ?_) (fun c22 => ?_)
        · rw [if_neg c22] at h
          refine aw_iconst (pc := 117) (v := 0) hM dX9_explains_117 (by decide) ?_
          refine aw_weak (L' := [some (.ref 164), some (.int x1), some (.int x2), some (.int x3), some (.int x4), some (.int x5), none, none, none]) ?_ (lw_of [true, true, true, true, true, true, false, false, true] rfl)
          exact k_X9_explains_b118 hM hT (fun wF w0 w1 w2 w3 w4 h9 => ih wF w0 w1 w2 w3 w4 h9) hq F x1 x2 x3 x4 x5 0 h
        · rw [if_pos c22] at h
          refine aw_iconst (pc := 113) (v := 1) hM dX9_explains_113 (by decide) ?_
          refine aw_goto (pc := 114) (tgt := 118) hM dX9_explains_114 (by decide) ?_
          refine aw_weak (L' := [some (.ref 164), some (.int x1), some (.int x2), some (.int x3), some (.int x4), some (.int x5), none, none, none]) ?_ (lw_of [true, true, true, true, true, true, false, false, true] rfl)
          exact k_X9_explains_b118 hM hT (fun wF w0 w1 w2 w3 w4 h9 => ih wF w0 w1 w2 w3 w4 h9) hq F x1 x2 x3 x4 x5 1 h
set_option maxRecDepth 20000 in
theorem k_X9_explains_b30 {C : CX} {M : MX} {G : GG} {Q : OUT → MM → GG → Prop} {r : (Int32 × MM)} (hM : MOk C RX9 cX9_explains 9 (some .int) rmX9_explains M) (hT : MNoT M) (hq : Q (.inl (some (.int r.1))) r.2 G) (F : MM) (x1 : Int32) (x2 : Int32) (t0 : Int32) (h : s_X9_explains_b30 F x1 x2 t0 = some r) : AW C 9 (ZM C rmX9_explains Q M) M 0 0 30 [some (.ref 164), some (.int x1), some (.int x2), none, none, none, none, none, none] [.int t0, .ref 164] F G := by
  rw [s_X9_explains_b30] at h
  obtain ⟨z9, h7, h⟩ := bind_some h
  refine aw_cv1 (pc := 30) (n := 1) (As := [.int t0]) (st := []) (b := 164) (vo := (some (.int z9.1))) (c2 := 0) (s2 := 0) hM (k_X9_refused h7) rfl cw_X9_93 sk_164 rfl rfl (by decide +kernel) rfl rfl ⟨(Nat.le_of_ble_eq_true rfl), (Nat.le_of_ble_eq_true rfl)⟩ (Nat.le_of_ble_eq_true rfl) ⟨(Nat.le_of_ble_eq_true rfl), (Nat.le_of_ble_eq_true rfl)⟩ dX9_explains_30 rfl rfl ?_
  refine aw_if_eq (pc := 33) (tgt := 38) hM dX9_explains_33 (by decide) (fun c10 => ?_) (fun c10 => ?_)
  · rw [if_pos c10] at h
    refine aw_iconst (pc := 38) (v := 0) hM dX9_explains_38 (by decide) ?_
    refine aw_istore_n (pc := 39) (i := 3) (L' := [some (.ref 164), some (.int x1), some (.int x2), some (.int 0), none, none, none, none, none]) hM dX9_explains_39 rfl (by decide) rfl ?_
    refine aw_aload_n (pc := 40) (i := 0) (x := 164) hM dX9_explains_40 rfl rfl ?_
    refine aw_aload_n (pc := 41) (i := 0) (x := 164) hM dX9_explains_41 rfl rfl ?_
    refine aw_getR (pc := 42) (r := 171) hM fd_X9_41 sk_164 rfl dX9_explains_42 ?_
    refine aw_iload_n (pc := 45) (i := 1) (x := x1) hM dX9_explains_45 rfl rfl ?_
    obtain ⟨r12, h11, h⟩ := bind_some h
    refine aw_cv1 (pc := 46) (n := 2) (As := [.ref 171, .int x1]) (st := []) (b := 164) (vo := (some (.int r12))) (c2 := 0) (s2 := 0) hM (k_X9_digestOf (ia_of sk_171) h11) rfl cw_X9_200 sk_164 rfl rfl (by decide +kernel) rfl rfl ⟨(Nat.le_of_ble_eq_true rfl), (Nat.le_of_ble_eq_true rfl)⟩ (Nat.le_of_ble_eq_true rfl) ⟨(Nat.le_of_ble_eq_true rfl), (Nat.le_of_ble_eq_true rfl)⟩ dX9_explains_46 rfl rfl ?_
    refine aw_istore (pc := 49) (i := 4) (L' := [some (.ref 164), some (.int x1), some (.int x2), some (.int 0), some (.int r12), none, none, none, none]) hM dX9_explains_49  (by decide) rfl ?_
    refine aw_iconst (pc := 51) (v := 0) hM dX9_explains_51 (by decide) ?_
    refine aw_istore (pc := 52) (i := 5) (L' := [some (.ref 164), some (.int x1), some (.int x2), some (.int 0), some (.int r12), some (.int 0), none, none, none]) hM dX9_explains_52  (by decide) rfl ?_
    exact k_X9_explains_b54 hM hT hq fu_ z9.2 x1 x2 0 r12 0 h
  · rw [if_neg c10] at h
    refine aw_iconst (pc := 36) (v := 0) hM dX9_explains_36 (by decide) ?_
    obtain rfl := Option.some.inj h
    exact aw_iret (pc := 37) hM dX9_explains_37 (Nat.le_of_ble_eq_true rfl) (Nat.le_of_ble_eq_true rfl) hq
set_option maxRecDepth 20000 in
theorem k_X9_explains {C : CX} {F : MM} {G : GG} {p0 : Int32} {p1 : Int32} {r : (Int32 × MM)} (h : s_X9_explains F p0 p1 = some r) : AM C yX9_explains cX9_explains 9 (some .int) rmX9_explains [.ref 164, .int p0, .int p1] F G (fun o F9 G9 => o = (.inl (some (.int r.1))) ∧ F9 = r.2 ∧ G9 = G) := by
  refine am_of (L := [some (.ref 164), some (.int p0), some (.int p1), none, none, none, none, none, none]) (by decide) (Nat.le_of_ble_eq_true rfl) rfl (fun M hM hT => ?_)
  have hM : MOk C RX9 cX9_explains 9 (some .int) rmX9_explains M := hM
  obtain ⟨Q, hQ⟩ : ∃ Q : OUT → MM → GG → Prop, Q = (fun o F9 G9 => o = (.inl (some (.int r.1))) ∧ F9 = r.2 ∧ G9 = G) := ⟨_, rfl⟩
  have hq : Q (.inl (some (.int r.1))) r.2 G := by rw [hQ]; exact ⟨rfl, rfl, rfl⟩
  rw [← hQ]
  clear hQ
  rw [s_X9_explains] at h
  refine aw_aload_n (pc := 0) (i := 0) (x := 164) hM dX9_explains_0 rfl rfl ?_
  refine aw_aload_n (pc := 1) (i := 0) (x := 164) hM dX9_explains_1 rfl rfl ?_
  refine aw_iload_n (pc := 2) (i := 1) (x := p0) hM dX9_explains_2 rfl rfl ?_
  obtain ⟨r2, h1, h⟩ := bind_some h
  refine aw_cv1 (pc := 3) (n := 1) (As := [.int p0]) (st := [.ref 164]) (b := 164) (vo := (some (.int r2))) (c2 := 0) (s2 := 0) hM (k_X9_isNode h1) rfl cw_X9_203 sk_164 rfl rfl (by decide +kernel) rfl rfl ⟨(Nat.le_of_ble_eq_true rfl), (Nat.le_of_ble_eq_true rfl)⟩ (Nat.le_of_ble_eq_true rfl) ⟨(Nat.le_of_ble_eq_true rfl), (Nat.le_of_ble_eq_true rfl)⟩ dX9_explains_3 rfl rfl ?_
  refine aw_if_ne (pc := 6) (tgt := 13) hM dX9_explains_6 (by decide) (fun c3 => ?_) (fun c3 => ?_)
  · rw [if_neg c3] at h
    refine aw_iload_n (pc := 13) (i := 2) (x := p1) hM dX9_explains_13 rfl rfl ?_
    refine aw_i2l (pc := 14) hM dX9_explains_14 ?_
    refine aw_lconst (pc := 15) (v := 0) hM dX9_explains_15 (by decide) ?_
    refine aw_ldc2 (pc := 16) hM gw_1387 dX9_explains_16 ?_
    obtain ⟨r5, h4, h⟩ := bind_some h
    refine aw_cs1 (pc := 19) (n := 3) (As := [.long (Int32.toInt64 p1), .long 0, .long 63]) (st := [.ref 164]) (vo := (some (.int r5))) (c2 := 0) (s2 := 0) hM (k_X9_in h4) rfl cw_X9_82 (by decide +kernel) rfl rfl ⟨(Nat.le_of_ble_eq_true rfl), (Nat.le_of_ble_eq_true rfl)⟩ (Nat.le_of_ble_eq_true rfl) ⟨(Nat.le_of_ble_eq_true rfl), (Nat.le_of_ble_eq_true rfl)⟩ dX9_explains_19 rfl rfl ?_
    refine aw_if_ne (pc := 22) (tgt := 29) hM dX9_explains_22 (by decide) (fun c6 => ?_) (fun c6 => ?_)
    · rw [if_neg c6] at h
      refine aw_iconst (pc := 29) (v := 0) hM dX9_explains_29 (by decide) ?_
      exact k_X9_explains_b30 hM hT hq F p0 p1 0 h
    · rw [if_pos c6] at h
      refine aw_iconst (pc := 25) (v := 2) hM dX9_explains_25 (by decide) ?_
      refine aw_goto (pc := 26) (tgt := 30) hM dX9_explains_26 (by decide) ?_
      exact k_X9_explains_b30 hM hT hq F p0 p1 2 h
  · rw [if_pos c3] at h
    refine aw_iconst (pc := 9) (v := 1) hM dX9_explains_9 (by decide) ?_
    refine aw_goto (pc := 10) (tgt := 30) hM dX9_explains_10 (by decide) ?_
    exact k_X9_explains_b30 hM hT hq F p0 p1 1 h
def rmX9_layWays : Room := { frames := 2, cells := 0, slots := 0, locals := 47 }
def s_X9_layWays_b92 (k60 : MM → Int32 → Int32 → Option MM) (k80 : MM → Int32 → Int32 → Int32 → Int32 → Option MM) : Nat → MM → Int32 → Int32 → Int32 → Int32 → Int32 → Option MM
  | 0, _, _, _, _, _, _ => none
  | n + 1, F, x3, x4, x5, x6, x7 => if 4 ≤ x7 then (some (x6 + 1 : Int32)).bind (fun y28 => k80 F x3 x4 x5 y28) else (s_X9_with F x5 x6 x7).bind (fun r31 => if inb r31 4096 then (if (F 177 (ix r31)) = (-9) then if inb x5 4096 then (if inb r31 4096 then (if ((F 176 (ix x5)) &&& ((F 176 (ix r31)) ^^^ (-1))) = 0 then if inb x5 4096 then (if inb r31 4096 then ((some (mup F 177 (ix r31) ((F 177 (ix x5)) + 1))).bind (fun F43 => if inb x4 4096 then ((some (mup F43 178 (ix x4) r31)).bind (fun F46 => (some (x4 + 1 : Int32)).bind (fun y48 => (some (x7 + 1 : Int32)).bind (fun y50 => s_X9_layWays_b92 k60 k80 n F46 x3 y48 x5 x6 y50)))) else none)) else none) else none else (some (x7 + 1 : Int32)).bind (fun y39 => s_X9_layWays_b92 k60 k80 n F x3 x4 x5 x6 y39)) else none) else none else (some (x7 + 1 : Int32)).bind (fun y34 => s_X9_layWays_b92 k60 k80 n F x3 x4 x5 x6 y34)) else none)
def s_X9_layWays_b80 (k60 : MM → Int32 → Int32 → Option MM) : Nat → MM → Int32 → Int32 → Int32 → Int32 → Option MM
  | 0, _, _, _, _, _ => none
  | n + 1, F, x3, x4, x5, x6 => if (F 164 5) ≤ x6 then k60 F x3 x4 else s_X9_layWays_b92 k60 (s_X9_layWays_b80 k60 n) fu_ F x3 x4 x5 x6 0
def s_X9_layWays_b60 : Nat → MM → Int32 → Int32 → Option MM
  | 0, _, _, _ => none
  | n + 1, F, x3, x4 => if x4 ≤ x3 then some F else if inb x3 4096 then ((some (F 178 (ix x3) : Int32)).bind (fun y22 => (some (x3 + 1 : Int32)).bind (fun y24 => s_X9_layWays_b80 (s_X9_layWays_b60 n) fu_ F y24 x4 y22 0))) else none
def s_X9_layWays_b11 : Nat → MM → Int32 → Int32 → Int32 → Option MM
  | 0, _, _, _, _ => none
  | n + 1, F, x1, x2, x3 => if x2 ≤ x3 then if inb x1 4096 then ((some (mup F 177 (ix x1) 0)).bind (fun F5 => if inb 0 4096 then ((some (mup F5 178 (ix 0) x1)).bind (fun F8 => s_X9_layWays_b60 fu_ F8 0 1)) else none)) else none else (s_X9_broken F x3).bind (fun r11 => if inb x3 4096 then ((some (mup F 176 (ix x3) r11)).bind (fun F13 => if inb x3 4096 then ((some (mup F13 177 (ix x3) (-9))).bind (fun F16 => (some (x3 + 1 : Int32)).bind (fun y18 => s_X9_layWays_b11 n F16 x1 x2 y18))) else none)) else none)
def s_X9_layWays (F : MM) (p0 : Int32) : Option MM := (some ((1 : Int32) <<< ((2 * (F 164 5)) &&& 31) : Int32)).bind (fun y1 => s_X9_layWays_b11 fu_ F p0 y1 0)
set_option maxRecDepth 20000 in
theorem k_X9_layWays_b92 {C : CX} {M : MX} {G : GG} {Q : OUT → MM → GG → Prop} {k60 : MM → Int32 → Int32 → Option MM} {k80 : MM → Int32 → Int32 → Int32 → Int32 → Option MM} {r : MM} (hM : MOk C RX9 cX9_layWays 9 none rmX9_layWays M) (hT : MNoT M) (hk60 : ∀ (wF : MM) (w0 : Int32) (w1 : Int32), k60 wF w0 w1 = some r → AW C 9 (ZM C rmX9_layWays Q M) M 0 0 60 [some (.ref 164), none, none, some (.int w0), some (.int w1), none, none, none, none] [] wF G) (hk80 : ∀ (wF : MM) (w0 : Int32) (w1 : Int32) (w2 : Int32) (w3 : Int32), k80 wF w0 w1 w2 w3 = some r → AW C 9 (ZM C rmX9_layWays Q M) M 0 0 80 [some (.ref 164), none, none, some (.int w0), some (.int w1), some (.int w2), some (.int w3), none, none] [] wF G) (hq : Q (.inl none) r G) : ∀ (n : Nat) (F : MM) (x3 : Int32) (x4 : Int32) (x5 : Int32) (x6 : Int32) (x7 : Int32), s_X9_layWays_b92 k60 k80 n F x3 x4 x5 x6 x7 = some r → AW C 9 (ZM C rmX9_layWays Q M) M 0 0 92 [some (.ref 164), none, none, some (.int x3), some (.int x4), some (.int x5), some (.int x6), some (.int x7), none] [] F G := by
  intro n
  induction n with
  | zero => intro F x3 x4 x5 x6 x7 h; exact nomatch h
  | succ n ih =>
    intro F x3 x4 x5 x6 x7 h
    rw [s_X9_layWays_b92] at h
    refine aw_iload (pc := 92) (i := 7) (x := x7) hM dX9_layWays_92  rfl ?_
    refine aw_iconst (pc := 94) (v := 4) hM dX9_layWays_94 (by decide) ?_
    refine aw_icmp_ge (pc := 95) (tgt := 175) hM dX9_layWays_95 (by decide) (fun c27 => ?_) (fun c27 => ?_)
    · rw [if_pos c27] at h
      obtain ⟨y28, e29, h⟩ := bind_some h
      have e29 := Option.some.inj e29
      refine aw_iinc (pc := 175) (v := y28) (L' := [some (.ref 164), none, none, some (.int x3), some (.int x4), some (.int x5), some (.int y28), some (.int x7), none]) hM dX9_layWays_175 rfl e29 (by decide) rfl ?_
      refine aw_goto (pc := 178) (tgt := 80) hM dX9_layWays_178 (by decide) ?_
      refine aw_weak (L' := [some (.ref 164), none, none, some (.int x3), some (.int x4), some (.int x5), some (.int y28), none, none]) ?_ (lw_of [true, true, true, true, true, true, true, false, true] rfl)
      exact hk80 F x3 x4 x5 y28 h
    · rw [if_neg c27] at h
      refine aw_iload (pc := 98) (i := 5) (x := x5) hM dX9_layWays_98  rfl ?_
      refine aw_iload (pc := 100) (i := 6) (x := x6) hM dX9_layWays_100  rfl ?_
      refine aw_iload (pc := 102) (i := 7) (x := x7) hM dX9_layWays_102  rfl ?_
      obtain ⟨r31, h30, h⟩ := bind_some h
      refine aw_cs1 (pc := 104) (n := 3) (As := [.int x5, .int x6, .int x7]) (st := []) (vo := (some (.int r31))) (c2 := 0) (s2 := 0) hM (k_X9_with h30) rfl cw_X9_157 (by decide +kernel) rfl rfl ⟨(Nat.le_of_ble_eq_true rfl), (Nat.le_of_ble_eq_true rfl)⟩ (Nat.le_of_ble_eq_true rfl) ⟨(Nat.le_of_ble_eq_true rfl), (Nat.le_of_ble_eq_true rfl)⟩ dX9_layWays_104 rfl rfl ?_
      refine aw_istore (pc := 107) (i := 8) (L' := [some (.ref 164), none, none, some (.int x3), some (.int x4), some (.int x5), some (.int x6), some (.int x7), some (.int r31)]) hM dX9_layWays_107  (by decide) rfl ?_
      refine aw_aload_n (pc := 109) (i := 0) (x := 164) hM dX9_layWays_109 rfl rfl ?_
      refine aw_getR (pc := 110) (r := 177) hM fd_X9_60 sk_164 rfl dX9_layWays_110 ?_
      refine aw_iload (pc := 113) (i := 8) (x := r31) hM dX9_layWays_113  rfl ?_
      obtain ⟨c32, h⟩ := ite_some h
      refine aw_iald (pc := 115) hM sk_177 c32 dX9_layWays_115 ?_
      refine aw_bipush (pc := 116) (v := (-9)) hM dX9_layWays_116 (by decide) ?_
      refine aw_icmp_ne (pc := 118) (tgt := 169) hM dX9_layWays_118 (by decide) (fun c33 => ?_) (fun c33 => ?_)
      · rw [if_neg c33] at h
        obtain ⟨y34, e35, h⟩ := bind_some h
        have e35 := Option.some.inj e35
        refine aw_iinc (pc := 169) (v := y34) (L' := [some (.ref 164), none, none, some (.int x3), some (.int x4), some (.int x5), some (.int x6), some (.int y34), some (.int r31)]) hM dX9_layWays_169 rfl e35 (by decide) rfl ?_
        refine aw_goto (pc := 172) (tgt := 92) hM dX9_layWays_172 (by decide) ?_
        refine aw_weak (L' := [some (.ref 164), none, none, some (.int x3), some (.int x4), some (.int x5), some (.int x6), some (.int y34), none]) ?_ (lw_of [true, true, true, true, true, true, true, true, false] rfl)
        exact ih F x3 x4 x5 x6 y34 h
      · rw [if_pos c33] at h
        refine aw_aload_n (pc := 121) (i := 0) (x := 164) hM dX9_layWays_121 rfl rfl ?_
        refine aw_getR (pc := 122) (r := 176) hM fd_X9_57 sk_164 rfl dX9_layWays_122 ?_
        refine aw_iload (pc := 125) (i := 5) (x := x5) hM dX9_layWays_125  rfl ?_
        obtain ⟨c36, h⟩ := ite_some h
        refine aw_iald (pc := 127) hM sk_176 c36 dX9_layWays_127 ?_
        refine aw_aload_n (pc := 128) (i := 0) (x := 164) hM dX9_layWays_128 rfl rfl ?_
        refine aw_getR (pc := 129) (r := 176) hM fd_X9_57 sk_164 rfl dX9_layWays_129 ?_
        refine aw_iload (pc := 132) (i := 8) (x := r31) hM dX9_layWays_132  rfl ?_
        obtain ⟨c37, h⟩ := ite_some h
        refine aw_iald (pc := 134) hM sk_176 c37 dX9_layWays_134 ?_
        refine aw_iconst (pc := 135) (v := (-1)) hM dX9_layWays_135 (by decide) ?_
        refine aw_ixor (pc := 136) hM dX9_layWays_136 ?_
        refine aw_iand (pc := 137) hM dX9_layWays_137 ?_
        refine aw_if_ne (pc := 138) (tgt := 169) hM dX9_layWays_138 (by decide) (fun c38 => ?_) (fun c38 => ?_)
        · rw [if_neg c38] at h
          obtain ⟨y39, e40, h⟩ := bind_some h
          have e40 := Option.some.inj e40
          refine aw_iinc (pc := 169) (v := y39) (L' := [some (.ref 164), none, none, some (.int x3), some (.int x4), some (.int x5), some (.int x6), some (.int y39), some (.int r31)]) hM dX9_layWays_169 rfl e40 (by decide) rfl ?_
          refine aw_goto (pc := 172) (tgt := 92) hM dX9_layWays_172 (by decide) ?_
          refine aw_weak (L' := [some (.ref 164), none, none, some (.int x3), some (.int x4), some (.int x5), some (.int x6), some (.int y39), none]) ?_ (lw_of [true, true, true, true, true, true, true, true, false] rfl)
          exact ih F x3 x4 x5 x6 y39 h
        · rw [if_pos c38] at h
          refine aw_aload_n (pc := 141) (i := 0) (x := 164) hM dX9_layWays_141 rfl rfl ?_
          refine aw_getR (pc := 142) (r := 177) hM fd_X9_60 sk_164 rfl dX9_layWays_142 ?_
          refine aw_iload (pc := 145) (i := 8) (x := r31) hM dX9_layWays_145  rfl ?_
          refine aw_aload_n (pc := 147) (i := 0) (x := 164) hM dX9_layWays_147 rfl rfl ?_
          refine aw_getR (pc := 148) (r := 177) hM fd_X9_60 sk_164 rfl dX9_layWays_148 ?_
          refine aw_iload (pc := 151) (i := 5) (x := x5) hM dX9_layWays_151  rfl ?_
          obtain ⟨c41, h⟩ := ite_some h
          refine aw_iald (pc := 153) hM sk_177 c41 dX9_layWays_153 ?_
          refine aw_iconst (pc := 154) (v := 1) hM dX9_layWays_154 (by decide) ?_
          refine aw_iadd (pc := 155) hM dX9_layWays_155 ?_
          obtain ⟨c42, h⟩ := ite_some h
          obtain ⟨F43, e44, h⟩ := bind_some h
          have e44 := Option.some.inj e44
          refine aw_iast (pc := 156) hM sk_177 c42 dX9_layWays_156 ?_
          refine aw_mem e44 ?_
          refine aw_aload_n (pc := 157) (i := 0) (x := 164) hM dX9_layWays_157 rfl rfl ?_
          refine aw_getR (pc := 158) (r := 178) hM fd_X9_63 sk_164 rfl dX9_layWays_158 ?_
          refine aw_iload (pc := 161) (i := 4) (x := x4) hM dX9_layWays_161  rfl ?_
          refine aw_iload (pc := 163) (i := 8) (x := r31) hM dX9_layWays_163  rfl ?_
          obtain ⟨c45, h⟩ := ite_some h
          obtain ⟨F46, e47, h⟩ := bind_some h
          have e47 := Option.some.inj e47
          refine aw_iast (pc := 165) hM sk_178 c45 dX9_layWays_165 ?_
          refine aw_mem e47 ?_
          obtain ⟨y48, e49, h⟩ := bind_some h
          have e49 := Option.some.inj e49
          refine aw_iinc (pc := 166) (v := y48) (L' := [some (.ref 164), none, none, some (.int x3), some (.int y48), some (.int x5), some (.int x6), some (.int x7), some (.int r31)]) hM dX9_layWays_166 rfl e49 (by decide) rfl ?_
          obtain ⟨y50, e51, h⟩ := bind_some h
          have e51 := Option.some.inj e51
          refine aw_iinc (pc := 169) (v := y50) (L' := [some (.ref 164), none, none, some (.int x3), some (.int y48), some (.int x5), some (.int x6), some (.int y50), some (.int r31)]) hM dX9_layWays_169 rfl e51 (by decide) rfl ?_
          refine aw_goto (pc := 172) (tgt := 92) hM dX9_layWays_172 (by decide) ?_
          refine aw_weak (L' := [some (.ref 164), none, none, some (.int x3), some (.int y48), some (.int x5), some (.int x6), some (.int y50), none]) ?_ (lw_of [true, true, true, true, true, true, true, true, false] rfl)
          exact ih F46 x3 y48 x5 x6 y50 h
set_option maxRecDepth 20000 in
theorem k_X9_layWays_b80 {C : CX} {M : MX} {G : GG} {Q : OUT → MM → GG → Prop} {k60 : MM → Int32 → Int32 → Option MM} {r : MM} (hM : MOk C RX9 cX9_layWays 9 none rmX9_layWays M) (hT : MNoT M) (hk60 : ∀ (wF : MM) (w0 : Int32) (w1 : Int32), k60 wF w0 w1 = some r → AW C 9 (ZM C rmX9_layWays Q M) M 0 0 60 [some (.ref 164), none, none, some (.int w0), some (.int w1), none, none, none, none] [] wF G) (hq : Q (.inl none) r G) : ∀ (n : Nat) (F : MM) (x3 : Int32) (x4 : Int32) (x5 : Int32) (x6 : Int32), s_X9_layWays_b80 k60 n F x3 x4 x5 x6 = some r → AW C 9 (ZM C rmX9_layWays Q M) M 0 0 80 [some (.ref 164), none, none, some (.int x3), some (.int x4), some (.int x5), some (.int x6), none, none] [] F G := by
  intro n
  induction n with
  | zero => intro F x3 x4 x5 x6 h; exact nomatch h
  | succ n ih =>
    intro F x3 x4 x5 x6 h
    rw [s_X9_layWays_b80] at h
    refine aw_iload (pc := 80) (i := 6) (x := x6) hM dX9_layWays_80  rfl ?_
    refine aw_aload_n (pc := 82) (i := 0) (x := 164) hM dX9_layWays_82 rfl rfl ?_
    refine aw_getI (pc := 83) hM fd_X9_17 sk_164 rfl dX9_layWays_83 ?_
    refine aw_icmp_ge (pc := 86) (tgt := 181) hM dX9_layWays_86 (by decide) (fun c26 => ?_) (fun c26 => ?_)
    · rw [if_pos c26] at h
      refine aw_goto (pc := 181) (tgt := 60) hM dX9_layWays_181 (by decide) ?_
      refine aw_weak (L' := [some (.ref 164), none, none, some (.int x3), some (.int x4), none, none, none, none]) ?_ (lw_of [true, true, true, true, true, false, false, true, true] rfl)
      exact hk60 F x3 x4 h
    · rw [if_neg c26] at h
      refine aw_iconst (pc := 89) (v := 0) hM dX9_layWays_89 (by decide) ?_
      refine aw_istore (pc := 90) (i := 7) (L' := [some (.ref 164), none, none, some (.int x3), some (.int x4), some (.int x5), some (.int x6), some (.int 0), none]) hM dX9_layWays_90  (by decide) rfl ?_
      exact k_X9_layWays_b92 hM hT hk60 (fun wF w0 w1 w2 w3 h9 => ih wF w0 w1 w2 w3 h9) hq fu_ F x3 x4 x5 x6 0 h
set_option maxRecDepth 20000 in
theorem k_X9_layWays_b60 {C : CX} {M : MX} {G : GG} {Q : OUT → MM → GG → Prop} {r : MM} (hM : MOk C RX9 cX9_layWays 9 none rmX9_layWays M) (hT : MNoT M) (hq : Q (.inl none) r G) : ∀ (n : Nat) (F : MM) (x3 : Int32) (x4 : Int32), s_X9_layWays_b60 n F x3 x4 = some r → AW C 9 (ZM C rmX9_layWays Q M) M 0 0 60 [some (.ref 164), none, none, some (.int x3), some (.int x4), none, none, none, none] [] F G := by
  intro n
  induction n with
  | zero => intro F x3 x4 h; exact nomatch h
  | succ n ih =>
    intro F x3 x4 h
    rw [s_X9_layWays_b60] at h
    refine aw_iload_n (pc := 60) (i := 3) (x := x3) hM dX9_layWays_60 rfl rfl ?_
    refine aw_iload (pc := 61) (i := 4) (x := x4) hM dX9_layWays_61  rfl ?_
    refine aw_icmp_ge (pc := 63) (tgt := 184) hM dX9_layWays_63 (by decide) (fun c20 => ?_) (fun c20 => ?_)
    · rw [if_pos c20] at h
      obtain rfl := Option.some.inj h
      exact aw_vret (pc := 184) hM dX9_layWays_184 (Nat.le_of_ble_eq_true rfl) (Nat.le_of_ble_eq_true rfl) hq
    · rw [if_neg c20] at h
      refine aw_aload_n (pc := 66) (i := 0) (x := 164) hM dX9_layWays_66 rfl rfl ?_
      refine aw_getR (pc := 67) (r := 178) hM fd_X9_63 sk_164 rfl dX9_layWays_67 ?_
      refine aw_iload_n (pc := 70) (i := 3) (x := x3) hM dX9_layWays_70 rfl rfl ?_
      obtain ⟨c21, h⟩ := ite_some h
      refine aw_iald (pc := 71) hM sk_178 c21 dX9_layWays_71 ?_
      obtain ⟨y22, e23, h⟩ := bind_some h
      have e23 := Option.some.inj e23
      refine aw_topi e23 ?_
      refine aw_istore (pc := 72) (i := 5) (L' := [some (.ref 164), none, none, some (.int x3), some (.int x4), some (.int y22), none, none, none]) hM dX9_layWays_72  (by decide) rfl ?_
      obtain ⟨y24, e25, h⟩ := bind_some h
      have e25 := Option.some.inj e25
      refine aw_iinc (pc := 74) (v := y24) (L' := [some (.ref 164), none, none, some (.int y24), some (.int x4), some (.int y22), none, none, none]) hM dX9_layWays_74 rfl e25 (by decide) rfl ?_
      refine aw_iconst (pc := 77) (v := 0) hM dX9_layWays_77 (by decide) ?_
      refine aw_istore (pc := 78) (i := 6) (L' := [some (.ref 164), none, none, some (.int y24), some (.int x4), some (.int y22), some (.int 0), none, none]) hM dX9_layWays_78  (by decide) rfl ?_
      exact k_X9_layWays_b80 hM hT (fun wF w0 w1 h9 => ih wF w0 w1 h9) hq fu_ F y24 x4 y22 0 h
set_option maxRecDepth 20000 in
theorem k_X9_layWays_b11 {C : CX} {M : MX} {G : GG} {Q : OUT → MM → GG → Prop} {r : MM} (hM : MOk C RX9 cX9_layWays 9 none rmX9_layWays M) (hT : MNoT M) (hq : Q (.inl none) r G) : ∀ (n : Nat) (F : MM) (x1 : Int32) (x2 : Int32) (x3 : Int32), s_X9_layWays_b11 n F x1 x2 x3 = some r → AW C 9 (ZM C rmX9_layWays Q M) M 0 0 11 [some (.ref 164), some (.int x1), some (.int x2), some (.int x3), none, none, none, none, none] [] F G := by
  intro n
  induction n with
  | zero => intro F x1 x2 x3 h; exact nomatch h
  | succ n ih =>
    intro F x1 x2 x3 h
    rw [s_X9_layWays_b11] at h
    refine aw_iload_n (pc := 11) (i := 3) (x := x3) hM dX9_layWays_11 rfl rfl ?_
    refine aw_iload_n (pc := 12) (i := 2) (x := x2) hM dX9_layWays_12 rfl rfl ?_
    refine aw_icmp_ge (pc := 13) (tgt := 41) hM dX9_layWays_13 (by decide) (fun c3 => ?_) (fun c3 => ?_)
    · rw [if_pos c3] at h
      refine aw_aload_n (pc := 41) (i := 0) (x := 164) hM dX9_layWays_41 rfl rfl ?_
      refine aw_getR (pc := 42) (r := 177) hM fd_X9_60 sk_164 rfl dX9_layWays_42 ?_
      refine aw_iload_n (pc := 45) (i := 1) (x := x1) hM dX9_layWays_45 rfl rfl ?_
      refine aw_iconst (pc := 46) (v := 0) hM dX9_layWays_46 (by decide) ?_
      obtain ⟨c4, h⟩ := ite_some h
      obtain ⟨F5, e6, h⟩ := bind_some h
      have e6 := Option.some.inj e6
      refine aw_iast (pc := 47) hM sk_177 c4 dX9_layWays_47 ?_
      refine aw_mem e6 ?_
      refine aw_aload_n (pc := 48) (i := 0) (x := 164) hM dX9_layWays_48 rfl rfl ?_
      refine aw_getR (pc := 49) (r := 178) hM fd_X9_63 sk_164 rfl dX9_layWays_49 ?_
      refine aw_iconst (pc := 52) (v := 0) hM dX9_layWays_52 (by decide) ?_
      refine aw_iload_n (pc := 53) (i := 1) (x := x1) hM dX9_layWays_53 rfl rfl ?_
      obtain ⟨c7, h⟩ := ite_some h
      obtain ⟨F8, e9, h⟩ := bind_some h
      have e9 := Option.some.inj e9
      refine aw_iast (pc := 54) hM sk_178 c7 dX9_layWays_54 ?_
      refine aw_mem e9 ?_
      refine aw_iconst (pc := 55) (v := 0) hM dX9_layWays_55 (by decide) ?_
      refine aw_istore_n (pc := 56) (i := 3) (L' := [some (.ref 164), some (.int x1), some (.int x2), some (.int 0), none, none, none, none, none]) hM dX9_layWays_56 rfl (by decide) rfl ?_
      refine aw_iconst (pc := 57) (v := 1) hM dX9_layWays_57 (by decide) ?_
      refine aw_istore (pc := 58) (i := 4) (L' := [some (.ref 164), some (.int x1), some (.int x2), some (.int 0), some (.int 1), none, none, none, none]) hM dX9_layWays_58  (by decide) rfl ?_
      refine aw_weak (L' := [some (.ref 164), none, none, some (.int 0), some (.int 1), none, none, none, none]) ?_ (lw_of [true, false, false, true, true, true, true, true, true] rfl)
      exact k_X9_layWays_b60 hM hT hq fu_ F8 0 1 h
    · rw [if_neg c3] at h
      refine aw_aload_n (pc := 16) (i := 0) (x := 164) hM dX9_layWays_16 rfl rfl ?_
      refine aw_getR (pc := 17) (r := 176) hM fd_X9_57 sk_164 rfl dX9_layWays_17 ?_
      refine aw_iload_n (pc := 20) (i := 3) (x := x3) hM dX9_layWays_20 rfl rfl ?_
      refine aw_aload_n (pc := 21) (i := 0) (x := 164) hM dX9_layWays_21 rfl rfl ?_
      refine aw_iload_n (pc := 22) (i := 3) (x := x3) hM dX9_layWays_22 rfl rfl ?_
      obtain ⟨r11, h10, h⟩ := bind_some h
      refine aw_cv1 (pc := 23) (n := 1) (As := [.int x3]) (st := [.int x3, .ref 176]) (b := 164) (vo := (some (.int r11))) (c2 := 0) (s2 := 0) hM (k_X9_broken h10) rfl cw_X9_160 sk_164 rfl rfl (by decide +kernel) rfl rfl ⟨(Nat.le_of_ble_eq_true rfl), (Nat.le_of_ble_eq_true rfl)⟩ (Nat.le_of_ble_eq_true rfl) ⟨(Nat.le_of_ble_eq_true rfl), (Nat.le_of_ble_eq_true rfl)⟩ dX9_layWays_23 rfl rfl ?_
      obtain ⟨c12, h⟩ := ite_some h
      obtain ⟨F13, e14, h⟩ := bind_some h
      have e14 := Option.some.inj e14
      refine aw_iast (pc := 26) hM sk_176 c12 dX9_layWays_26 ?_
      refine aw_mem e14 ?_
      refine aw_aload_n (pc := 27) (i := 0) (x := 164) hM dX9_layWays_27 rfl rfl ?_
      refine aw_getR (pc := 28) (r := 177) hM fd_X9_60 sk_164 rfl dX9_layWays_28 ?_
      refine aw_iload_n (pc := 31) (i := 3) (x := x3) hM dX9_layWays_31 rfl rfl ?_
      refine aw_bipush (pc := 32) (v := (-9)) hM dX9_layWays_32 (by decide) ?_
      obtain ⟨c15, h⟩ := ite_some h
      obtain ⟨F16, e17, h⟩ := bind_some h
      have e17 := Option.some.inj e17
      refine aw_iast (pc := 34) hM sk_177 c15 dX9_layWays_34 ?_
      refine aw_mem e17 ?_
      obtain ⟨y18, e19, h⟩ := bind_some h
      have e19 := Option.some.inj e19
      refine aw_iinc (pc := 35) (v := y18) (L' := [some (.ref 164), some (.int x1), some (.int x2), some (.int y18), none, none, none, none, none]) hM dX9_layWays_35 rfl e19 (by decide) rfl ?_
      refine aw_goto (pc := 38) (tgt := 11) hM dX9_layWays_38 (by decide) ?_
      exact ih F16 x1 x2 y18 h
set_option maxRecDepth 20000 in
theorem k_X9_layWays {C : CX} {F : MM} {G : GG} {p0 : Int32} {r : MM} (h : s_X9_layWays F p0 = some r) : AM C yX9_layWays cX9_layWays 9 none rmX9_layWays [.ref 164, .int p0] F G (fun o F9 G9 => o = (.inl none) ∧ F9 = r ∧ G9 = G) := by
  refine am_of (L := [some (.ref 164), some (.int p0), none, none, none, none, none, none, none]) (by decide) (Nat.le_of_ble_eq_true rfl) rfl (fun M hM hT => ?_)
  have hM : MOk C RX9 cX9_layWays 9 none rmX9_layWays M := hM
  obtain ⟨Q, hQ⟩ : ∃ Q : OUT → MM → GG → Prop, Q = (fun o F9 G9 => o = (.inl none) ∧ F9 = r ∧ G9 = G) := ⟨_, rfl⟩
  have hq : Q (.inl none) r G := by rw [hQ]; exact ⟨rfl, rfl, rfl⟩
  rw [← hQ]
  clear hQ
  rw [s_X9_layWays] at h
  refine aw_iconst (pc := 0) (v := 1) hM dX9_layWays_0 (by decide) ?_
  refine aw_iconst (pc := 1) (v := 2) hM dX9_layWays_1 (by decide) ?_
  refine aw_aload_n (pc := 2) (i := 0) (x := 164) hM dX9_layWays_2 rfl rfl ?_
  refine aw_getI (pc := 3) hM fd_X9_17 sk_164 rfl dX9_layWays_3 ?_
  refine aw_imul (pc := 6) hM dX9_layWays_6 ?_
  refine aw_ishl (pc := 7) hM dX9_layWays_7 ?_
  obtain ⟨y1, e2, h⟩ := bind_some h
  have e2 := Option.some.inj e2
  refine aw_topi e2 ?_
  refine aw_istore_n (pc := 8) (i := 2) (L' := [some (.ref 164), some (.int p0), some (.int y1), none, none, none, none, none, none]) hM dX9_layWays_8 rfl (by decide) rfl ?_
  refine aw_iconst (pc := 9) (v := 0) hM dX9_layWays_9 (by decide) ?_
  refine aw_istore_n (pc := 10) (i := 3) (L' := [some (.ref 164), some (.int p0), some (.int y1), some (.int 0), none, none, none, none, none]) hM dX9_layWays_10 rfl (by decide) rfl ?_
  exact k_X9_layWays_b11 hM hT hq fu_ F p0 y1 0 h
def rmX9_fewest : Room := { frames := 3, cells := 0, slots := 0, locals := 75 }
def s_X9_fewest_b14 (F : MM) (x1 : Int32) (t0 : Int32) : Option (Int32 × MM) := (s_X9_refused F t0).bind (fun z6 => if z6.1 = 0 then (s_X9_codeOf z6.2 171 x1 6).bind (fun r9 => (s_X9_layWays z6.2 r9).bind (fun F11 => (s_X9_codeOf F11 171 x1 0).bind (fun r13 => if inb r13 4096 then (some (F11 177 (ix r13), F11)) else none))) else some (0, z6.2))
def s_X9_fewest (F : MM) (p0 : Int32) : Option (Int32 × MM) := (s_X9_isNode F p0).bind (fun r2 => if r2 = 0 then s_X9_fewest_b14 F p0 1 else s_X9_fewest_b14 F p0 0)
set_option maxRecDepth 20000 in
theorem k_X9_fewest_b14 {C : CX} {M : MX} {G : GG} {Q : OUT → MM → GG → Prop} {r : (Int32 × MM)} (hM : MOk C RX9 cX9_fewest 2 (some .int) rmX9_fewest M) (hT : MNoT M) (hq : Q (.inl (some (.int r.1))) r.2 G) (F : MM) (x1 : Int32) (t0 : Int32) (h : s_X9_fewest_b14 F x1 t0 = some r) : AW C 2 (ZM C rmX9_fewest Q M) M 0 0 14 [some (.ref 164), some (.int x1)] [.int t0, .ref 164] F G := by
  rw [s_X9_fewest_b14] at h
  obtain ⟨z6, h4, h⟩ := bind_some h
  refine aw_cv1 (pc := 14) (n := 1) (As := [.int t0]) (st := []) (b := 164) (vo := (some (.int z6.1))) (c2 := 0) (s2 := 0) hM (k_X9_refused h4) rfl cw_X9_93 sk_164 rfl rfl (by decide +kernel) rfl rfl ⟨(Nat.le_of_ble_eq_true rfl), (Nat.le_of_ble_eq_true rfl)⟩ (Nat.le_of_ble_eq_true rfl) ⟨(Nat.le_of_ble_eq_true rfl), (Nat.le_of_ble_eq_true rfl)⟩ dX9_fewest_14 rfl rfl ?_
  refine aw_if_eq (pc := 17) (tgt := 22) hM dX9_fewest_17 (by decide) (fun c7 => ?_) (fun c7 => ?_)
  · rw [if_pos c7] at h
    refine aw_aload_n (pc := 22) (i := 0) (x := 164) hM dX9_fewest_22 rfl rfl ?_
    refine aw_aload_n (pc := 23) (i := 0) (x := 164) hM dX9_fewest_23 rfl rfl ?_
    refine aw_aload_n (pc := 24) (i := 0) (x := 164) hM dX9_fewest_24 rfl rfl ?_
    refine aw_getR (pc := 25) (r := 171) hM fd_X9_41 sk_164 rfl dX9_fewest_25 ?_
    refine aw_iload_n (pc := 28) (i := 1) (x := x1) hM dX9_fewest_28 rfl rfl ?_
    refine aw_bipush (pc := 29) (v := 6) hM dX9_fewest_29 (by decide) ?_
    obtain ⟨r9, h8, h⟩ := bind_some h
    refine aw_cv1 (pc := 31) (n := 3) (As := [.ref 171, .int x1, .int 6]) (st := [.ref 164]) (b := 164) (vo := (some (.int r9))) (c2 := 0) (s2 := 0) hM (k_X9_codeOf (ia_of sk_171) h8) rfl cw_X9_153 sk_164 rfl rfl (by decide +kernel) rfl rfl ⟨(Nat.le_of_ble_eq_true rfl), (Nat.le_of_ble_eq_true rfl)⟩ (Nat.le_of_ble_eq_true rfl) ⟨(Nat.le_of_ble_eq_true rfl), (Nat.le_of_ble_eq_true rfl)⟩ dX9_fewest_31 rfl rfl ?_
    obtain ⟨F11, h10, h⟩ := bind_some h
    refine aw_cv1 (pc := 34) (n := 1) (As := [.int r9]) (st := []) (b := 164) (vo := none) (c2 := 0) (s2 := 0) hM (k_X9_layWays h10) rfl cw_X9_236 sk_164 rfl rfl (by decide +kernel) rfl rfl ⟨(Nat.le_of_ble_eq_true rfl), (Nat.le_of_ble_eq_true rfl)⟩ (Nat.le_of_ble_eq_true rfl) ⟨(Nat.le_of_ble_eq_true rfl), (Nat.le_of_ble_eq_true rfl)⟩ dX9_fewest_34 rfl rfl ?_
    refine aw_aload_n (pc := 37) (i := 0) (x := 164) hM dX9_fewest_37 rfl rfl ?_
    refine aw_getR (pc := 38) (r := 177) hM fd_X9_60 sk_164 rfl dX9_fewest_38 ?_
    refine aw_aload_n (pc := 41) (i := 0) (x := 164) hM dX9_fewest_41 rfl rfl ?_
    refine aw_aload_n (pc := 42) (i := 0) (x := 164) hM dX9_fewest_42 rfl rfl ?_
    refine aw_getR (pc := 43) (r := 171) hM fd_X9_41 sk_164 rfl dX9_fewest_43 ?_
    refine aw_iload_n (pc := 46) (i := 1) (x := x1) hM dX9_fewest_46 rfl rfl ?_
    refine aw_iconst (pc := 47) (v := 0) hM dX9_fewest_47 (by decide) ?_
    obtain ⟨r13, h12, h⟩ := bind_some h
    refine aw_cv1 (pc := 48) (n := 3) (As := [.ref 171, .int x1, .int 0]) (st := [.ref 177]) (b := 164) (vo := (some (.int r13))) (c2 := 0) (s2 := 0) hM (k_X9_codeOf (ia_of sk_171) h12) rfl cw_X9_153 sk_164 rfl rfl (by decide +kernel) rfl rfl ⟨(Nat.le_of_ble_eq_true rfl), (Nat.le_of_ble_eq_true rfl)⟩ (Nat.le_of_ble_eq_true rfl) ⟨(Nat.le_of_ble_eq_true rfl), (Nat.le_of_ble_eq_true rfl)⟩ dX9_fewest_48 rfl rfl ?_
    obtain ⟨c14, h⟩ := ite_some h
    refine aw_iald (pc := 51) hM sk_177 c14 dX9_fewest_51 ?_
    obtain rfl := Option.some.inj h
    exact aw_iret (pc := 52) hM dX9_fewest_52 (Nat.le_of_ble_eq_true rfl) (Nat.le_of_ble_eq_true rfl) hq
  · rw [if_neg c7] at h
    refine aw_iconst (pc := 20) (v := 0) hM dX9_fewest_20 (by decide) ?_
    obtain rfl := Option.some.inj h
    exact aw_iret (pc := 21) hM dX9_fewest_21 (Nat.le_of_ble_eq_true rfl) (Nat.le_of_ble_eq_true rfl) hq
set_option maxRecDepth 20000 in
theorem k_X9_fewest {C : CX} {F : MM} {G : GG} {p0 : Int32} {r : (Int32 × MM)} (h : s_X9_fewest F p0 = some r) : AM C yX9_fewest cX9_fewest 2 (some .int) rmX9_fewest [.ref 164, .int p0] F G (fun o F9 G9 => o = (.inl (some (.int r.1))) ∧ F9 = r.2 ∧ G9 = G) := by
  refine am_of (L := [some (.ref 164), some (.int p0)]) (by decide) (Nat.le_of_ble_eq_true rfl) rfl (fun M hM hT => ?_)
  have hM : MOk C RX9 cX9_fewest 2 (some .int) rmX9_fewest M := hM
  obtain ⟨Q, hQ⟩ : ∃ Q : OUT → MM → GG → Prop, Q = (fun o F9 G9 => o = (.inl (some (.int r.1))) ∧ F9 = r.2 ∧ G9 = G) := ⟨_, rfl⟩
  have hq : Q (.inl (some (.int r.1))) r.2 G := by rw [hQ]; exact ⟨rfl, rfl, rfl⟩
  rw [← hQ]
  clear hQ
  rw [s_X9_fewest] at h
  refine aw_aload_n (pc := 0) (i := 0) (x := 164) hM dX9_fewest_0 rfl rfl ?_
  refine aw_aload_n (pc := 1) (i := 0) (x := 164) hM dX9_fewest_1 rfl rfl ?_
  refine aw_iload_n (pc := 2) (i := 1) (x := p0) hM dX9_fewest_2 rfl rfl ?_
  obtain ⟨r2, h1, h⟩ := bind_some h
  refine aw_cv1 (pc := 3) (n := 1) (As := [.int p0]) (st := [.ref 164]) (b := 164) (vo := (some (.int r2))) (c2 := 0) (s2 := 0) hM (k_X9_isNode h1) rfl cw_X9_203 sk_164 rfl rfl (by decide +kernel) rfl rfl ⟨(Nat.le_of_ble_eq_true rfl), (Nat.le_of_ble_eq_true rfl)⟩ (Nat.le_of_ble_eq_true rfl) ⟨(Nat.le_of_ble_eq_true rfl), (Nat.le_of_ble_eq_true rfl)⟩ dX9_fewest_3 rfl rfl ?_
  refine aw_if_eq (pc := 6) (tgt := 13) hM dX9_fewest_6 (by decide) (fun c3 => ?_) (fun c3 => ?_)
  · rw [if_pos c3] at h
    refine aw_iconst (pc := 13) (v := 1) hM dX9_fewest_13 (by decide) ?_
    exact k_X9_fewest_b14 hM hT hq F p0 1 h
  · rw [if_neg c3] at h
    refine aw_iconst (pc := 9) (v := 0) hM dX9_fewest_9 (by decide) ?_
    refine aw_goto (pc := 10) (tgt := 14) hM dX9_fewest_10 (by decide) ?_
    exact k_X9_fewest_b14 hM hT hq F p0 0 h
def rmX9_firstStep : Room := { frames := 1, cells := 0, slots := 0, locals := 22 }
def s_X9_firstStep_b2 (F : MM) : Nat → Int32 → Int32 → Option Int32
  | 0, _, _ => none
  | n + 1, x1, x2 => if (4 * (F 164 5)) ≤ x2 then some (-9) else (s_X9_with F x1 (x2 / 4) (x2 - x2 / 4 * 4)).bind (fun r3 => if r3 = x1 then (some (x2 + 1 : Int32)).bind (fun y5 => s_X9_firstStep_b2 F n x1 y5) else if inb r3 4096 then (if inb x1 4096 then (if (F 177 (ix r3)) = ((F 177 (ix x1)) - 1) then if inb r3 4096 then (if inb x1 4096 then (if ((F 176 (ix r3)) &&& ((F 176 (ix x1)) ^^^ (-1))) = 0 then some x2 else (some (x2 + 1 : Int32)).bind (fun y15 => s_X9_firstStep_b2 F n x1 y15)) else none) else none else (some (x2 + 1 : Int32)).bind (fun y10 => s_X9_firstStep_b2 F n x1 y10)) else none) else none)
def s_X9_firstStep (F : MM) (p0 : Int32) : Option Int32 := s_X9_firstStep_b2 F fu_ p0 0
set_option maxRecDepth 20000 in
theorem k_X9_firstStep_b2 {C : CX} {M : MX} {G : GG} {Q : OUT → MM → GG → Prop} {F : MM} {r : Int32} (hM : MOk C RX9 cX9_firstStep 4 (some .int) rmX9_firstStep M) (hT : MNoT M) (hq : Q (.inl (some (.int r))) F G) : ∀ (n : Nat) (x1 : Int32) (x2 : Int32), s_X9_firstStep_b2 F n x1 x2 = some r → AW C 4 (ZM C rmX9_firstStep Q M) M 0 0 2 [some (.ref 164), some (.int x1), some (.int x2), none] [] F G := by
  intro n
  induction n with
  | zero => intro x1 x2 h; exact nomatch h
  | succ n ih =>
    intro x1 x2 h
    rw [s_X9_firstStep_b2] at h
    refine aw_iload_n (pc := 2) (i := 2) (x := x2) hM dX9_firstStep_2 rfl rfl ?_
    refine aw_iconst (pc := 3) (v := 4) hM dX9_firstStep_3 (by decide) ?_
    refine aw_aload_n (pc := 4) (i := 0) (x := 164) hM dX9_firstStep_4 rfl rfl ?_
    refine aw_getI (pc := 5) hM fd_X9_17 sk_164 rfl dX9_firstStep_5 ?_
    refine aw_imul (pc := 8) hM dX9_firstStep_8 ?_
    refine aw_icmp_ge (pc := 9) (tgt := 71) hM dX9_firstStep_9 (by decide) (fun c1 => ?_) (fun c1 => ?_)
    · rw [if_pos c1] at h
      refine aw_bipush (pc := 71) (v := (-9)) hM dX9_firstStep_71 (by decide) ?_
      obtain rfl := Option.some.inj h
      exact aw_iret (pc := 73) hM dX9_firstStep_73 (Nat.le_of_ble_eq_true rfl) (Nat.le_of_ble_eq_true rfl) hq
    · rw [if_neg c1] at h
      refine aw_iload_n (pc := 12) (i := 1) (x := x1) hM dX9_firstStep_12 rfl rfl ?_
      refine aw_iload_n (pc := 13) (i := 2) (x := x2) hM dX9_firstStep_13 rfl rfl ?_
      refine aw_iconst (pc := 14) (v := 4) hM dX9_firstStep_14 (by decide) ?_
      refine aw_idiv (pc := 15) hM dX9_firstStep_15 (by decide) ?_
      refine aw_iload_n (pc := 16) (i := 2) (x := x2) hM dX9_firstStep_16 rfl rfl ?_
      refine aw_iconst (pc := 17) (v := 4) hM dX9_firstStep_17 (by decide) ?_
      refine aw_irem (pc := 18) hM dX9_firstStep_18 (by decide) ?_
      obtain ⟨r3, h2, h⟩ := bind_some h
      refine aw_cs1 (pc := 19) (n := 3) (As := [.int x1, .int (x2 / 4), .int (x2 - x2 / 4 * 4)]) (st := []) (vo := (some (.int r3))) (c2 := 0) (s2 := 0) hM (k_X9_with h2) rfl cw_X9_157 (by decide +kernel) rfl rfl ⟨(Nat.le_of_ble_eq_true rfl), (Nat.le_of_ble_eq_true rfl)⟩ (Nat.le_of_ble_eq_true rfl) ⟨(Nat.le_of_ble_eq_true rfl), (Nat.le_of_ble_eq_true rfl)⟩ dX9_firstStep_19 rfl rfl ?_
      refine aw_istore_n (pc := 22) (i := 3) (L' := [some (.ref 164), some (.int x1), some (.int x2), some (.int r3)]) hM dX9_firstStep_22 rfl (by decide) rfl ?_
      refine aw_iload_n (pc := 23) (i := 3) (x := r3) hM dX9_firstStep_23 rfl rfl ?_
      refine aw_iload_n (pc := 24) (i := 1) (x := x1) hM dX9_firstStep_24 rfl rfl ?_
      refine aw_icmp_eq (pc := 25) (tgt := 65) hM dX9_firstStep_25 (by decide) (fun c4 => ?_) (fun c4 => ?_)
      · rw [if_pos c4] at h
        obtain ⟨y5, e6, h⟩ := bind_some h
        have e6 := Option.some.inj e6
        refine aw_iinc (pc := 65) (v := y5) (L' := [some (.ref 164), some (.int x1), some (.int y5), some (.int r3)]) hM dX9_firstStep_65 rfl e6 (by decide) rfl ?_
        refine aw_goto (pc := 68) (tgt := 2) hM dX9_firstStep_68 (by decide) ?_
        refine aw_weak (L' := [some (.ref 164), some (.int x1), some (.int y5), none]) ?_ (lw_of [true, true, true, false] rfl)
        exact ih x1 y5 h
      · rw [if_neg c4] at h
        refine aw_aload_n (pc := 28) (i := 0) (x := 164) hM dX9_firstStep_28 rfl rfl ?_
        refine aw_getR (pc := 29) (r := 177) hM fd_X9_60 sk_164 rfl dX9_firstStep_29 ?_
        refine aw_iload_n (pc := 32) (i := 3) (x := r3) hM dX9_firstStep_32 rfl rfl ?_
        obtain ⟨c7, h⟩ := ite_some h
        refine aw_iald (pc := 33) hM sk_177 c7 dX9_firstStep_33 ?_
        refine aw_aload_n (pc := 34) (i := 0) (x := 164) hM dX9_firstStep_34 rfl rfl ?_
        refine aw_getR (pc := 35) (r := 177) hM fd_X9_60 sk_164 rfl dX9_firstStep_35 ?_
        refine aw_iload_n (pc := 38) (i := 1) (x := x1) hM dX9_firstStep_38 rfl rfl ?_
        obtain ⟨c8, h⟩ := ite_some h
        refine aw_iald (pc := 39) hM sk_177 c8 dX9_firstStep_39 ?_
        refine aw_iconst (pc := 40) (v := 1) hM dX9_firstStep_40 (by decide) ?_
        refine aw_isub (pc := 41) hM dX9_firstStep_41 ?_
        refine aw_icmp_ne (pc := 42) (tgt := 65) hM dX9_firstStep_42 (by decide) (fun c9 => ?_) (fun c9 => ?_)
        · rw [if_neg c9] at h
          obtain ⟨y10, e11, h⟩ := bind_some h
          have e11 := Option.some.inj e11
          refine aw_iinc (pc := 65) (v := y10) (L' := [some (.ref 164), some (.int x1), some (.int y10), some (.int r3)]) hM dX9_firstStep_65 rfl e11 (by decide) rfl ?_
          refine aw_goto (pc := 68) (tgt := 2) hM dX9_firstStep_68 (by decide) ?_
          refine aw_weak (L' := [some (.ref 164), some (.int x1), some (.int y10), none]) ?_ (lw_of [true, true, true, false] rfl)
          exact ih x1 y10 h
        · rw [if_pos c9] at h
          refine aw_aload_n (pc := 45) (i := 0) (x := 164) hM dX9_firstStep_45 rfl rfl ?_
          refine aw_getR (pc := 46) (r := 176) hM fd_X9_57 sk_164 rfl dX9_firstStep_46 ?_
          refine aw_iload_n (pc := 49) (i := 3) (x := r3) hM dX9_firstStep_49 rfl rfl ?_
          obtain ⟨c12, h⟩ := ite_some h
          refine aw_iald (pc := 50) hM sk_176 c12 dX9_firstStep_50 ?_
          refine aw_aload_n (pc := 51) (i := 0) (x := 164) hM dX9_firstStep_51 rfl rfl ?_
          refine aw_getR (pc := 52) (r := 176) hM fd_X9_57 sk_164 rfl dX9_firstStep_52 ?_
          refine aw_iload_n (pc := 55) (i := 1) (x := x1) hM dX9_firstStep_55 rfl rfl ?_
          obtain ⟨c13, h⟩ := ite_some h
          refine aw_iald (pc := 56) hM sk_176 c13 dX9_firstStep_56 ?_
          refine aw_iconst (pc := 57) (v := (-1)) hM dX9_firstStep_57 (by decide) ?_
          refine aw_ixor (pc := 58) hM dX9_firstStep_58 ?_
          refine aw_iand (pc := 59) hM dX9_firstStep_59 ?_
          refine aw_if_ne (pc := 60) (tgt := 65) hM dX9_firstStep_60 (by decide) (fun c14 => ?_) (fun c14 => ?_)
          · rw [if_neg c14] at h
            obtain ⟨y15, e16, h⟩ := bind_some h
            have e16 := Option.some.inj e16
            refine aw_iinc (pc := 65) (v := y15) (L' := [some (.ref 164), some (.int x1), some (.int y15), some (.int r3)]) hM dX9_firstStep_65 rfl e16 (by decide) rfl ?_
            refine aw_goto (pc := 68) (tgt := 2) hM dX9_firstStep_68 (by decide) ?_
            refine aw_weak (L' := [some (.ref 164), some (.int x1), some (.int y15), none]) ?_ (lw_of [true, true, true, false] rfl)
            exact ih x1 y15 h
          · rw [if_pos c14] at h
            refine aw_iload_n (pc := 63) (i := 2) (x := x2) hM dX9_firstStep_63 rfl rfl ?_
            obtain rfl := Option.some.inj h
            exact aw_iret (pc := 64) hM dX9_firstStep_64 (Nat.le_of_ble_eq_true rfl) (Nat.le_of_ble_eq_true rfl) hq
set_option maxRecDepth 20000 in
theorem k_X9_firstStep {C : CX} {F : MM} {G : GG} {p0 : Int32} {r : Int32} (h : s_X9_firstStep F p0 = some r) : AM C yX9_firstStep cX9_firstStep 4 (some .int) rmX9_firstStep [.ref 164, .int p0] F G (fun o F9 G9 => o = (.inl (some (.int r))) ∧ F9 = F ∧ G9 = G) := by
  refine am_of (L := [some (.ref 164), some (.int p0), none, none]) (by decide) (Nat.le_of_ble_eq_true rfl) rfl (fun M hM hT => ?_)
  have hM : MOk C RX9 cX9_firstStep 4 (some .int) rmX9_firstStep M := hM
  obtain ⟨Q, hQ⟩ : ∃ Q : OUT → MM → GG → Prop, Q = (fun o F9 G9 => o = (.inl (some (.int r))) ∧ F9 = F ∧ G9 = G) := ⟨_, rfl⟩
  have hq : Q (.inl (some (.int r))) F G := by rw [hQ]; exact ⟨rfl, rfl, rfl⟩
  rw [← hQ]
  clear hQ
  rw [s_X9_firstStep] at h
  refine aw_iconst (pc := 0) (v := 0) hM dX9_firstStep_0 (by decide) ?_
  refine aw_istore_n (pc := 1) (i := 2) (L' := [some (.ref 164), some (.int p0), some (.int 0), none]) hM dX9_firstStep_1 rfl (by decide) rfl ?_
  exact k_X9_firstStep_b2 hM hT hq fu_ p0 0 h
def rmX9_groups : Room := { frames := 0, cells := 0, slots := 0, locals := 0 }
def s_X9_groups_b4 (F : MM) : Nat → Int32 → Int64 → Int32 → Option Int64
  | 0, _, _, _ => none
  | n + 1, x0, x1, x3 => if x0 ≤ x3 then some x1 else (some (x1 * 10000 : Int64)).bind (fun y2 => (some (x3 + 1 : Int32)).bind (fun y4 => s_X9_groups_b4 F n x0 y2 y4))
def s_X9_groups (F : MM) (p0 : Int32) : Option Int64 := s_X9_groups_b4 F fu_ p0 1 0
set_option maxRecDepth 20000 in
theorem k_X9_groups_b4 {C : CX} {M : MX} {G : GG} {Q : OUT → MM → GG → Prop} {F : MM} {r : Int64} (hM : MOk C RX9 cX9_groups 4 (some .long) rmX9_groups M) (hT : MNoT M) (hq : Q (.inl (some (.long r))) F G) : ∀ (n : Nat) (x0 : Int32) (x1 : Int64) (x3 : Int32), s_X9_groups_b4 F n x0 x1 x3 = some r → AW C 4 (ZM C rmX9_groups Q M) M 0 0 4 [some (.int x0), some (.long x1), none, some (.int x3)] [] F G := by
  intro n
  induction n with
  | zero => intro x0 x1 x3 h; exact nomatch h
  | succ n ih =>
    intro x0 x1 x3 h
    rw [s_X9_groups_b4] at h
    refine aw_iload_n (pc := 4) (i := 3) (x := x3) hM dX9_groups_4 rfl rfl ?_
    refine aw_iload_n (pc := 5) (i := 0) (x := x0) hM dX9_groups_5 rfl rfl ?_
    refine aw_icmp_ge (pc := 6) (tgt := 21) hM dX9_groups_6 (by decide) (fun c1 => ?_) (fun c1 => ?_)
    · rw [if_pos c1] at h
      refine aw_lload_n (pc := 21) (i := 1) (x := x1) hM dX9_groups_21 rfl rfl ?_
      obtain rfl := Option.some.inj h
      exact aw_lret (pc := 22) hM dX9_groups_22 (Nat.le_of_ble_eq_true rfl) (Nat.le_of_ble_eq_true rfl) hq
    · rw [if_neg c1] at h
      refine aw_lload_n (pc := 9) (i := 1) (x := x1) hM dX9_groups_9 rfl rfl ?_
      refine aw_ldc2 (pc := 10) hM gw_1403 dX9_groups_10 ?_
      refine aw_lmul (pc := 13) hM dX9_groups_13 ?_
      obtain ⟨y2, e3, h⟩ := bind_some h
      have e3 := Option.some.inj e3
      refine aw_topl e3 ?_
      refine aw_lstore_n (pc := 14) (i := 1) (L' := [some (.int x0), some (.long y2), none, some (.int x3)]) hM dX9_groups_14 rfl (by decide) rfl ?_
      obtain ⟨y4, e5, h⟩ := bind_some h
      have e5 := Option.some.inj e5
      refine aw_iinc (pc := 15) (v := y4) (L' := [some (.int x0), some (.long y2), none, some (.int y4)]) hM dX9_groups_15 rfl e5 (by decide) rfl ?_
      refine aw_goto (pc := 18) (tgt := 4) hM dX9_groups_18 (by decide) ?_
      exact ih x0 y2 y4 h
set_option maxRecDepth 20000 in
theorem k_X9_groups {C : CX} {F : MM} {G : GG} {p0 : Int32} {r : Int64} (h : s_X9_groups F p0 = some r) : AM C yX9_groups cX9_groups 4 (some .long) rmX9_groups [.int p0] F G (fun o F9 G9 => o = (.inl (some (.long r))) ∧ F9 = F ∧ G9 = G) := by
  refine am_of (L := [some (.int p0), none, none, none]) (by decide) (Nat.le_of_ble_eq_true rfl) rfl (fun M hM hT => ?_)
  have hM : MOk C RX9 cX9_groups 4 (some .long) rmX9_groups M := hM
  obtain ⟨Q, hQ⟩ : ∃ Q : OUT → MM → GG → Prop, Q = (fun o F9 G9 => o = (.inl (some (.long r))) ∧ F9 = F ∧ G9 = G) := ⟨_, rfl⟩
  have hq : Q (.inl (some (.long r))) F G := by rw [hQ]; exact ⟨rfl, rfl, rfl⟩
  rw [← hQ]
  clear hQ
  rw [s_X9_groups] at h
  refine aw_lconst (pc := 0) (v := 1) hM dX9_groups_0 (by decide) ?_
  refine aw_lstore_n (pc := 1) (i := 1) (L' := [some (.int p0), some (.long 1), none, none]) hM dX9_groups_1 rfl (by decide) rfl ?_
  refine aw_iconst (pc := 2) (v := 0) hM dX9_groups_2 (by decide) ?_
  refine aw_istore_n (pc := 3) (i := 3) (L' := [some (.int p0), some (.long 1), none, some (.int 0)]) hM dX9_groups_3 rfl (by decide) rfl ?_
  exact k_X9_groups_b4 hM hT hq fu_ p0 1 0 h
def rmX9_holdsUp : Room := { frames := 4, cells := 0, slots := 0, locals := 96 }
def s_X9_holdsUp_b91 (k34 : MM → Int32 → Int32 → Int32 → Option (Int32 × MM)) (k45 : MM → Int32 → Int32 → Int32 → Int32 → Option (Int32 × MM)) (F : MM) (x1 : Int32) (x2 : Int32) (x3 : Int32) (x4 : Int32) (t0 : Int32) : Option (Int32 × MM) := if t0 = 0 then (some (x2 + 0 : Int32)).bind (fun y23 => (some (x4 + 1 : Int32)).bind (fun y25 => k45 F x1 y23 x3 y25)) else (s_X9_stateOf F 171 x3 x4).bind (fun r28 => if r28 = 5 then (some (x2 + 1 : Int32)).bind (fun y34 => (some (x4 + 1 : Int32)).bind (fun y36 => k45 F x1 y34 x3 y36)) else (some (x2 + 0 : Int32)).bind (fun y30 => (some (x4 + 1 : Int32)).bind (fun y32 => k45 F x1 y30 x3 y32)))
def s_X9_holdsUp_b45 (k34 : MM → Int32 → Int32 → Int32 → Option (Int32 × MM)) : Nat → MM → Int32 → Int32 → Int32 → Int32 → Option (Int32 × MM)
  | 0, _, _, _, _, _ => none
  | n + 1, F, x1, x2, x3, x4 => if (F 164 5) ≤ x4 then (some (x3 + 1 : Int32)).bind (fun y14 => k34 F x1 x2 y14) else (s_X9_at F x3).bind (fun r17 => if inb ((r17 + 6) + x4) 107 then ((s_X9_newlyBroken F 171 x3 x4 (F 171 (ix ((r17 + 6) + x4)))).bind (fun r20 => if r20 = ((1 : Int32) <<< (x1 &&& 31)) then s_X9_holdsUp_b91 k34 (s_X9_holdsUp_b45 k34 n) F x1 x2 x3 x4 1 else s_X9_holdsUp_b91 k34 (s_X9_holdsUp_b45 k34 n) F x1 x2 x3 x4 0)) else none)
def s_X9_holdsUp_b34 : Nat → MM → Int32 → Int32 → Int32 → Option (Int32 × MM)
  | 0, _, _, _, _ => none
  | n + 1, F, x1, x2, x3 => if (F 164 4) ≤ x3 then some (x2, F) else s_X9_holdsUp_b45 (s_X9_holdsUp_b34 n) fu_ F x1 x2 x3 0
def s_X9_holdsUp (F : MM) (p0 : Int32) : Option (Int32 × MM) := (s_X9_in F (Int32.toInt64 p0) 0 (Int32.toInt64 ((F 164 6) - 1))).bind (fun r2 => if r2 = 0 then (s_X9_refused F 1).bind (fun z6 => if z6.1 = 0 then s_X9_holdsUp_b34 fu_ z6.2 p0 0 0 else some (0, z6.2)) else (s_X9_refused F 0).bind (fun z10 => if z10.1 = 0 then s_X9_holdsUp_b34 fu_ z10.2 p0 0 0 else some (0, z10.2)))
set_option maxRecDepth 20000 in
theorem k_X9_holdsUp_b91 {C : CX} {M : MX} {G : GG} {Q : OUT → MM → GG → Prop} {k34 : MM → Int32 → Int32 → Int32 → Option (Int32 × MM)} {k45 : MM → Int32 → Int32 → Int32 → Int32 → Option (Int32 × MM)} {r : (Int32 × MM)} (hM : MOk C RX9 cX9_holdsUp 6 (some .int) rmX9_holdsUp M) (hT : MNoT M) (hk34 : ∀ (wF : MM) (w0 : Int32) (w1 : Int32) (w2 : Int32), k34 wF w0 w1 w2 = some r → AW C 6 (ZM C rmX9_holdsUp Q M) M 0 0 34 [some (.ref 164), some (.int w0), some (.int w1), some (.int w2), none, none] [] wF G) (hk45 : ∀ (wF : MM) (w0 : Int32) (w1 : Int32) (w2 : Int32) (w3 : Int32), k45 wF w0 w1 w2 w3 = some r → AW C 6 (ZM C rmX9_holdsUp Q M) M 0 0 45 [some (.ref 164), some (.int w0), some (.int w1), some (.int w2), some (.int w3), none] [] wF G) (hq : Q (.inl (some (.int r.1))) r.2 G) (F : MM) (x1 : Int32) (x2 : Int32) (x3 : Int32) (x4 : Int32) (t0 : Int32) (h : s_X9_holdsUp_b91 k34 k45 F x1 x2 x3 x4 t0 = some r) : AW C 6 (ZM C rmX9_holdsUp Q M) M 0 0 91 [some (.ref 164), some (.int x1), some (.int x2), some (.int x3), some (.int x4), none] [.int t0] F G := by
  rw [s_X9_holdsUp_b91] at h
  refine aw_istore (pc := 91) (i := 5) (L' := [some (.ref 164), some (.int x1), some (.int x2), some (.int x3), some (.int x4), some (.int t0)]) hM dX9_holdsUp_91  (by decide) rfl ?_
  refine aw_iload_n (pc := 93) (i := 2) (x := x2) hM dX9_holdsUp_93 rfl rfl ?_
  refine aw_iload (pc := 94) (i := 5) (x := t0) hM dX9_holdsUp_94  rfl ?_
  refine aw_if_eq (pc := 96) (tgt := 118) hM dX9_holdsUp_96 (by decide) (fun c22 => ?_) (fun c22 => ?_)
  · rw [if_pos c22] at h
    refine aw_iconst (pc := 118) (v := 0) hM dX9_holdsUp_118 (by decide) ?_
    refine aw_iadd (pc := 119) hM dX9_holdsUp_119 ?_
    obtain ⟨y23, e24, h⟩ := bind_some h
    have e24 := Option.some.inj e24
    refine aw_topi e24 ?_
    refine aw_istore_n (pc := 120) (i := 2) (L' := [some (.ref 164), some (.int x1), some (.int y23), some (.int x3), some (.int x4), some (.int t0)]) hM dX9_holdsUp_120 rfl (by decide) rfl ?_
    obtain ⟨y25, e26, h⟩ := bind_some h
    have e26 := Option.some.inj e26
    refine aw_iinc (pc := 121) (v := y25) (L' := [some (.ref 164), some (.int x1), some (.int y23), some (.int x3), some (.int y25), some (.int t0)]) hM dX9_holdsUp_121 rfl e26 (by decide) rfl ?_
    refine aw_goto (pc := 124) (tgt := 45) hM dX9_holdsUp_124 (by decide) ?_
    refine aw_weak (L' := [some (.ref 164), some (.int x1), some (.int y23), some (.int x3), some (.int y25), none]) ?_ (lw_of [true, true, true, true, true, false] rfl)
    exact hk45 F x1 y23 x3 y25 h
  · rw [if_neg c22] at h
    refine aw_aload_n (pc := 99) (i := 0) (x := 164) hM dX9_holdsUp_99 rfl rfl ?_
    refine aw_aload_n (pc := 100) (i := 0) (x := 164) hM dX9_holdsUp_100 rfl rfl ?_
    refine aw_getR (pc := 101) (r := 171) hM fd_X9_41 sk_164 rfl dX9_holdsUp_101 ?_
    refine aw_iload_n (pc := 104) (i := 3) (x := x3) hM dX9_holdsUp_104 rfl rfl ?_
    refine aw_iload (pc := 105) (i := 4) (x := x4) hM dX9_holdsUp_105  rfl ?_
    obtain ⟨r28, h27, h⟩ := bind_some h
    refine aw_cv1 (pc := 107) (n := 3) (As := [.ref 171, .int x3, .int x4]) (st := [.int x2]) (b := 164) (vo := (some (.int r28))) (c2 := 0) (s2 := 0) hM (k_X9_stateOf (ia_of sk_171) h27) rfl cw_X9_184 sk_164 rfl rfl (by decide +kernel) rfl rfl ⟨(Nat.le_of_ble_eq_true rfl), (Nat.le_of_ble_eq_true rfl)⟩ (Nat.le_of_ble_eq_true rfl) ⟨(Nat.le_of_ble_eq_true rfl), (Nat.le_of_ble_eq_true rfl)⟩ dX9_holdsUp_107 rfl rfl ?_
    refine aw_iconst (pc := 110) (v := 5) hM dX9_holdsUp_110 (by decide) ?_
    refine aw_icmp_ne (pc := 111) (tgt := 118) hM dX9_holdsUp_111 (by decide) (fun c29 => ?_) (fun c29 => ?_)
    · rw [if_neg c29] at h
      refine aw_iconst (pc := 118) (v := 0) hM dX9_holdsUp_118 (by decide) ?_
      refine aw_iadd (pc := 119) hM dX9_holdsUp_119 ?_
      obtain ⟨y30, e31, h⟩ := bind_some h
      have e31 := Option.some.inj e31
      refine aw_topi e31 ?_
      refine aw_istore_n (pc := 120) (i := 2) (L' := [some (.ref 164), some (.int x1), some (.int y30), some (.int x3), some (.int x4), some (.int t0)]) hM dX9_holdsUp_120 rfl (by decide) rfl ?_
      obtain ⟨y32, e33, h⟩ := bind_some h
      have e33 := Option.some.inj e33
      refine aw_iinc (pc := 121) (v := y32) (L' := [some (.ref 164), some (.int x1), some (.int y30), some (.int x3), some (.int y32), some (.int t0)]) hM dX9_holdsUp_121 rfl e33 (by decide) rfl ?_
      refine aw_goto (pc := 124) (tgt := 45) hM dX9_holdsUp_124 (by decide) ?_
      refine aw_weak (L' := [some (.ref 164), some (.int x1), some (.int y30), some (.int x3), some (.int y32), none]) ?_ (lw_of [true, true, true, true, true, false] rfl)
      exact hk45 F x1 y30 x3 y32 h
    · rw [if_pos c29] at h
      refine aw_iconst (pc := 114) (v := 1) hM dX9_holdsUp_114 (by decide) ?_
      refine aw_goto (pc := 115) (tgt := 119) hM dX9_holdsUp_115 (by decide) ?_
      refine aw_iadd (pc := 119) hM dX9_holdsUp_119 ?_
      obtain ⟨y34, e35, h⟩ := bind_some h
      have e35 := Option.some.inj e35
      refine aw_topi e35 ?_
      refine aw_istore_n (pc := 120) (i := 2) (L' := [some (.ref 164), some (.int x1), some (.int y34), some (.int x3), some (.int x4), some (.int t0)]) hM dX9_holdsUp_120 rfl (by decide) rfl ?_
      obtain ⟨y36, e37, h⟩ := bind_some h
      have e37 := Option.some.inj e37
      refine aw_iinc (pc := 121) (v := y36) (L' := [some (.ref 164), some (.int x1), some (.int y34), some (.int x3), some (.int y36), some (.int t0)]) hM dX9_holdsUp_121 rfl e37 (by decide) rfl ?_
      refine aw_goto (pc := 124) (tgt := 45) hM dX9_holdsUp_124 (by decide) ?_
      refine aw_weak (L' := [some (.ref 164), some (.int x1), some (.int y34), some (.int x3), some (.int y36), none]) ?_ (lw_of [true, true, true, true, true, false] rfl)
      exact hk45 F x1 y34 x3 y36 h
set_option maxRecDepth 20000 in
theorem k_X9_holdsUp_b45 {C : CX} {M : MX} {G : GG} {Q : OUT → MM → GG → Prop} {k34 : MM → Int32 → Int32 → Int32 → Option (Int32 × MM)} {r : (Int32 × MM)} (hM : MOk C RX9 cX9_holdsUp 6 (some .int) rmX9_holdsUp M) (hT : MNoT M) (hk34 : ∀ (wF : MM) (w0 : Int32) (w1 : Int32) (w2 : Int32), k34 wF w0 w1 w2 = some r → AW C 6 (ZM C rmX9_holdsUp Q M) M 0 0 34 [some (.ref 164), some (.int w0), some (.int w1), some (.int w2), none, none] [] wF G) (hq : Q (.inl (some (.int r.1))) r.2 G) : ∀ (n : Nat) (F : MM) (x1 : Int32) (x2 : Int32) (x3 : Int32) (x4 : Int32), s_X9_holdsUp_b45 k34 n F x1 x2 x3 x4 = some r → AW C 6 (ZM C rmX9_holdsUp Q M) M 0 0 45 [some (.ref 164), some (.int x1), some (.int x2), some (.int x3), some (.int x4), none] [] F G := by
  intro n
  induction n with
  | zero => intro F x1 x2 x3 x4 h; exact nomatch h
  | succ n ih =>
    intro F x1 x2 x3 x4 h
    rw [s_X9_holdsUp_b45] at h
    refine aw_iload (pc := 45) (i := 4) (x := x4) hM dX9_holdsUp_45  rfl ?_
    refine aw_aload_n (pc := 47) (i := 0) (x := 164) hM dX9_holdsUp_47 rfl rfl ?_
    refine aw_getI (pc := 48) hM fd_X9_17 sk_164 rfl dX9_holdsUp_48 ?_
    refine aw_icmp_ge (pc := 51) (tgt := 127) hM dX9_holdsUp_51 (by decide) (fun c13 => ?_) (fun c13 => ?_)
    · rw [if_pos c13] at h
      obtain ⟨y14, e15, h⟩ := bind_some h
      have e15 := Option.some.inj e15
      refine aw_iinc (pc := 127) (v := y14) (L' := [some (.ref 164), some (.int x1), some (.int x2), some (.int y14), some (.int x4), none]) hM dX9_holdsUp_127 rfl e15 (by decide) rfl ?_
      refine aw_goto (pc := 130) (tgt := 34) hM dX9_holdsUp_130 (by decide) ?_
      refine aw_weak (L' := [some (.ref 164), some (.int x1), some (.int x2), some (.int y14), none, none]) ?_ (lw_of [true, true, true, true, false, true] rfl)
      exact hk34 F x1 x2 y14 h
    · rw [if_neg c13] at h
      refine aw_aload_n (pc := 54) (i := 0) (x := 164) hM dX9_holdsUp_54 rfl rfl ?_
      refine aw_aload_n (pc := 55) (i := 0) (x := 164) hM dX9_holdsUp_55 rfl rfl ?_
      refine aw_getR (pc := 56) (r := 171) hM fd_X9_41 sk_164 rfl dX9_holdsUp_56 ?_
      refine aw_iload_n (pc := 59) (i := 3) (x := x3) hM dX9_holdsUp_59 rfl rfl ?_
      refine aw_iload (pc := 60) (i := 4) (x := x4) hM dX9_holdsUp_60  rfl ?_
      refine aw_aload_n (pc := 62) (i := 0) (x := 164) hM dX9_holdsUp_62 rfl rfl ?_
      refine aw_getR (pc := 63) (r := 171) hM fd_X9_41 sk_164 rfl dX9_holdsUp_63 ?_
      refine aw_iload_n (pc := 66) (i := 3) (x := x3) hM dX9_holdsUp_66 rfl rfl ?_
      obtain ⟨r17, h16, h⟩ := bind_some h
      refine aw_cs1 (pc := 67) (n := 1) (As := [.int x3]) (st := [.ref 171, .int x4, .int x3, .ref 171, .ref 164]) (vo := (some (.int r17))) (c2 := 0) (s2 := 0) hM (k_X9_at h16) rfl cw_X9_126 (by decide +kernel) rfl rfl ⟨(Nat.le_of_ble_eq_true rfl), (Nat.le_of_ble_eq_true rfl)⟩ (Nat.le_of_ble_eq_true rfl) ⟨(Nat.le_of_ble_eq_true rfl), (Nat.le_of_ble_eq_true rfl)⟩ dX9_holdsUp_67 rfl rfl ?_
      refine aw_bipush (pc := 70) (v := 6) hM dX9_holdsUp_70 (by decide) ?_
      refine aw_iadd (pc := 72) hM dX9_holdsUp_72 ?_
      refine aw_iload (pc := 73) (i := 4) (x := x4) hM dX9_holdsUp_73  rfl ?_
      refine aw_iadd (pc := 75) hM dX9_holdsUp_75 ?_
      obtain ⟨c18, h⟩ := ite_some h
      refine aw_iald (pc := 76) hM sk_171 c18 dX9_holdsUp_76 ?_
      obtain ⟨r20, h19, h⟩ := bind_some h
      refine aw_cv1 (pc := 77) (n := 4) (As := [.ref 171, .int x3, .int x4, .int (F 171 (ix ((r17 + 6) + x4)))]) (st := []) (b := 164) (vo := (some (.int r20))) (c2 := 0) (s2 := 0) hM (k_X9_newlyBroken (ia_of sk_171) h19) rfl cw_X9_180 sk_164 rfl rfl (by decide +kernel) rfl rfl ⟨(Nat.le_of_ble_eq_true rfl), (Nat.le_of_ble_eq_true rfl)⟩ (Nat.le_of_ble_eq_true rfl) ⟨(Nat.le_of_ble_eq_true rfl), (Nat.le_of_ble_eq_true rfl)⟩ dX9_holdsUp_77 rfl rfl ?_
      refine aw_iconst (pc := 80) (v := 1) hM dX9_holdsUp_80 (by decide) ?_
      refine aw_iload_n (pc := 81) (i := 1) (x := x1) hM dX9_holdsUp_81 rfl rfl ?_
      refine aw_ishl (pc := 82) hM dX9_holdsUp_82 ?_
      refine aw_icmp_ne (pc := 83) (tgt := 90) hM dX9_holdsUp_83 (by decide) (fun c21 => ?_) (fun c21 => ?_)
      · rw [if_neg c21] at h
        refine aw_iconst (pc := 90) (v := 0) hM dX9_holdsUp_90 (by decide) ?_
        exact k_X9_holdsUp_b91 hM hT hk34 (fun wF w0 w1 w2 w3 h9 => ih wF w0 w1 w2 w3 h9) hq F x1 x2 x3 x4 0 h
      · rw [if_pos c21] at h
        refine aw_iconst (pc := 86) (v := 1) hM dX9_holdsUp_86 (by decide) ?_
        refine aw_goto (pc := 87) (tgt := 91) hM dX9_holdsUp_87 (by decide) ?_
        exact k_X9_holdsUp_b91 hM hT hk34 (fun wF w0 w1 w2 w3 h9 => ih wF w0 w1 w2 w3 h9) hq F x1 x2 x3 x4 1 h
set_option maxRecDepth 20000 in
theorem k_X9_holdsUp_b34 {C : CX} {M : MX} {G : GG} {Q : OUT → MM → GG → Prop} {r : (Int32 × MM)} (hM : MOk C RX9 cX9_holdsUp 6 (some .int) rmX9_holdsUp M) (hT : MNoT M) (hq : Q (.inl (some (.int r.1))) r.2 G) : ∀ (n : Nat) (F : MM) (x1 : Int32) (x2 : Int32) (x3 : Int32), s_X9_holdsUp_b34 n F x1 x2 x3 = some r → AW C 6 (ZM C rmX9_holdsUp Q M) M 0 0 34 [some (.ref 164), some (.int x1), some (.int x2), some (.int x3), none, none] [] F G := by
  intro n
  induction n with
  | zero => intro F x1 x2 x3 h; exact nomatch h
  | succ n ih =>
    intro F x1 x2 x3 h
    rw [s_X9_holdsUp_b34] at h
    refine aw_iload_n (pc := 34) (i := 3) (x := x3) hM dX9_holdsUp_34 rfl rfl ?_
    refine aw_aload_n (pc := 35) (i := 0) (x := 164) hM dX9_holdsUp_35 rfl rfl ?_
    refine aw_getI (pc := 36) hM fd_X9_13 sk_164 rfl dX9_holdsUp_36 ?_
    refine aw_icmp_ge (pc := 39) (tgt := 133) hM dX9_holdsUp_39 (by decide) (fun c12 => ?_) (fun c12 => ?_)
    · rw [if_pos c12] at h
      refine aw_iload_n (pc := 133) (i := 2) (x := x2) hM dX9_holdsUp_133 rfl rfl ?_
      obtain rfl := Option.some.inj h
      exact aw_iret (pc := 134) hM dX9_holdsUp_134 (Nat.le_of_ble_eq_true rfl) (Nat.le_of_ble_eq_true rfl) hq
    · rw [if_neg c12] at h
      refine aw_iconst (pc := 42) (v := 0) hM dX9_holdsUp_42 (by decide) ?_
      refine aw_istore (pc := 43) (i := 4) (L' := [some (.ref 164), some (.int x1), some (.int x2), some (.int x3), some (.int 0), none]) hM dX9_holdsUp_43  (by decide) rfl ?_
      exact k_X9_holdsUp_b45 hM hT (fun wF w0 w1 w2 h9 => ih wF w0 w1 w2 h9) hq fu_ F x1 x2 x3 0 h
set_option maxRecDepth 20000 in
theorem k_X9_holdsUp {C : CX} {F : MM} {G : GG} {p0 : Int32} {r : (Int32 × MM)} (h : s_X9_holdsUp F p0 = some r) : AM C yX9_holdsUp cX9_holdsUp 6 (some .int) rmX9_holdsUp [.ref 164, .int p0] F G (fun o F9 G9 => o = (.inl (some (.int r.1))) ∧ F9 = r.2 ∧ G9 = G) := by
  refine am_of (L := [some (.ref 164), some (.int p0), none, none, none, none]) (by decide) (Nat.le_of_ble_eq_true rfl) rfl (fun M hM hT => ?_)
  have hM : MOk C RX9 cX9_holdsUp 6 (some .int) rmX9_holdsUp M := hM
  obtain ⟨Q, hQ⟩ : ∃ Q : OUT → MM → GG → Prop, Q = (fun o F9 G9 => o = (.inl (some (.int r.1))) ∧ F9 = r.2 ∧ G9 = G) := ⟨_, rfl⟩
  have hq : Q (.inl (some (.int r.1))) r.2 G := by rw [hQ]; exact ⟨rfl, rfl, rfl⟩
  rw [← hQ]
  clear hQ
  rw [s_X9_holdsUp] at h
  refine aw_aload_n (pc := 0) (i := 0) (x := 164) hM dX9_holdsUp_0 rfl rfl ?_
  refine aw_iload_n (pc := 1) (i := 1) (x := p0) hM dX9_holdsUp_1 rfl rfl ?_
  refine aw_i2l (pc := 2) hM dX9_holdsUp_2 ?_
  refine aw_lconst (pc := 3) (v := 0) hM dX9_holdsUp_3 (by decide) ?_
  refine aw_aload_n (pc := 4) (i := 0) (x := 164) hM dX9_holdsUp_4 rfl rfl ?_
  refine aw_getI (pc := 5) hM fd_X9_146 sk_164 rfl dX9_holdsUp_5 ?_
  refine aw_iconst (pc := 8) (v := 1) hM dX9_holdsUp_8 (by decide) ?_
  refine aw_isub (pc := 9) hM dX9_holdsUp_9 ?_
  refine aw_i2l (pc := 10) hM dX9_holdsUp_10 ?_
  obtain ⟨r2, h1, h⟩ := bind_some h
  refine aw_cs1 (pc := 11) (n := 3) (As := [.long (Int32.toInt64 p0), .long 0, .long (Int32.toInt64 ((F 164 6) - 1))]) (st := [.ref 164]) (vo := (some (.int r2))) (c2 := 0) (s2 := 0) hM (k_X9_in h1) rfl cw_X9_82 (by decide +kernel) rfl rfl ⟨(Nat.le_of_ble_eq_true rfl), (Nat.le_of_ble_eq_true rfl)⟩ (Nat.le_of_ble_eq_true rfl) ⟨(Nat.le_of_ble_eq_true rfl), (Nat.le_of_ble_eq_true rfl)⟩ dX9_holdsUp_11 rfl rfl ?_
  refine aw_if_eq (pc := 14) (tgt := 21) hM dX9_holdsUp_14 (by decide) (fun c3 => ?_) (fun c3 => ?_)
  · rw [if_pos c3] at h
    refine aw_iconst (pc := 21) (v := 1) hM dX9_holdsUp_21 (by decide) ?_
    obtain ⟨z6, h4, h⟩ := bind_some h
    refine aw_cv1 (pc := 22) (n := 1) (As := [.int 1]) (st := []) (b := 164) (vo := (some (.int z6.1))) (c2 := 0) (s2 := 0) hM (k_X9_refused h4) rfl cw_X9_93 sk_164 rfl rfl (by decide +kernel) rfl rfl ⟨(Nat.le_of_ble_eq_true rfl), (Nat.le_of_ble_eq_true rfl)⟩ (Nat.le_of_ble_eq_true rfl) ⟨(Nat.le_of_ble_eq_true rfl), (Nat.le_of_ble_eq_true rfl)⟩ dX9_holdsUp_22 rfl rfl ?_
    refine aw_if_eq (pc := 25) (tgt := 30) hM dX9_holdsUp_25 (by decide) (fun c7 => ?_) (fun c7 => ?_)
    · rw [if_pos c7] at h
      refine aw_iconst (pc := 30) (v := 0) hM dX9_holdsUp_30 (by decide) ?_
      refine aw_istore_n (pc := 31) (i := 2) (L' := [some (.ref 164), some (.int p0), some (.int 0), none, none, none]) hM dX9_holdsUp_31 rfl (by decide) rfl ?_
      refine aw_iconst (pc := 32) (v := 0) hM dX9_holdsUp_32 (by decide) ?_
      refine aw_istore_n (pc := 33) (i := 3) (L' := [some (.ref 164), some (.int p0), some (.int 0), some (.int 0), none, none]) hM dX9_holdsUp_33 rfl (by decide) rfl ?_
      exact k_X9_holdsUp_b34 hM hT hq fu_ z6.2 p0 0 0 h
    · rw [if_neg c7] at h
      refine aw_iconst (pc := 28) (v := 0) hM dX9_holdsUp_28 (by decide) ?_
      obtain rfl := Option.some.inj h
      exact aw_iret (pc := 29) hM dX9_holdsUp_29 (Nat.le_of_ble_eq_true rfl) (Nat.le_of_ble_eq_true rfl) hq
  · rw [if_neg c3] at h
    refine aw_iconst (pc := 17) (v := 0) hM dX9_holdsUp_17 (by decide) ?_
    refine aw_goto (pc := 18) (tgt := 22) hM dX9_holdsUp_18 (by decide) ?_
    obtain ⟨z10, h8, h⟩ := bind_some h
    refine aw_cv1 (pc := 22) (n := 1) (As := [.int 0]) (st := []) (b := 164) (vo := (some (.int z10.1))) (c2 := 0) (s2 := 0) hM (k_X9_refused h8) rfl cw_X9_93 sk_164 rfl rfl (by decide +kernel) rfl rfl ⟨(Nat.le_of_ble_eq_true rfl), (Nat.le_of_ble_eq_true rfl)⟩ (Nat.le_of_ble_eq_true rfl) ⟨(Nat.le_of_ble_eq_true rfl), (Nat.le_of_ble_eq_true rfl)⟩ dX9_holdsUp_22 rfl rfl ?_
    refine aw_if_eq (pc := 25) (tgt := 30) hM dX9_holdsUp_25 (by decide) (fun c11 => ?_) (fun c11 => ?_)
    · rw [if_pos c11] at h
      refine aw_iconst (pc := 30) (v := 0) hM dX9_holdsUp_30 (by decide) ?_
      refine aw_istore_n (pc := 31) (i := 2) (L' := [some (.ref 164), some (.int p0), some (.int 0), none, none, none]) hM dX9_holdsUp_31 rfl (by decide) rfl ?_
      refine aw_iconst (pc := 32) (v := 0) hM dX9_holdsUp_32 (by decide) ?_
      refine aw_istore_n (pc := 33) (i := 3) (L' := [some (.ref 164), some (.int p0), some (.int 0), some (.int 0), none, none]) hM dX9_holdsUp_33 rfl (by decide) rfl ?_
      exact k_X9_holdsUp_b34 hM hT hq fu_ z10.2 p0 0 0 h
    · rw [if_neg c11] at h
      refine aw_iconst (pc := 28) (v := 0) hM dX9_holdsUp_28 (by decide) ?_
      obtain rfl := Option.some.inj h
      exact aw_iret (pc := 29) hM dX9_holdsUp_29 (Nat.le_of_ble_eq_true rfl) (Nat.le_of_ble_eq_true rfl) hq
def rmX9_layNeeds : Room := { frames := 0, cells := 0, slots := 0, locals := 0 }
def s_X9_layNeeds_b41 (k32 : MM → Int32 → Option MM) : Nat → MM → Int32 → Int32 → Option MM
  | 0, _, _, _ => none
  | n + 1, F, x3, x4 => if (F 164 6) ≤ x4 then k32 F x3 else (some (5 * x4 : Int32)).bind (fun y15 => if inb y15 50 then (if (F 167 (ix y15)) = 0 then if inb (y15 + 1) 50 then (if inb (F 167 (ix (y15 + 1))) 6 then (if inb (y15 + 2) 50 then (if (F 179 (ix (F 167 (ix (y15 + 1))))) < (F 167 (ix (y15 + 2))) then (some (x4 + 1 : Int32)).bind (fun y25 => s_X9_layNeeds_b41 k32 n F x3 y25) else if inb (y15 + 3) 50 then (if inb (F 167 (ix (y15 + 3))) 6 then (if inb (y15 + 4) 50 then (if (F 167 (ix (y15 + 4))) ≤ (F 179 (ix (F 167 (ix (y15 + 3))))) then (some (x4 + 1 : Int32)).bind (fun y31 => s_X9_layNeeds_b41 k32 n F x3 y31) else if inb (y15 + 3) 50 then (if inb (y15 + 4) 50 then (if inb (F 167 (ix (y15 + 3))) 6 then ((some (mup F 179 (ix (F 167 (ix (y15 + 3)))) (F 167 (ix (y15 + 4))))).bind (fun F36 => (some (x4 + 1 : Int32)).bind (fun y38 => s_X9_layNeeds_b41 k32 n F36 1 y38))) else none) else none) else none) else none) else none) else none) else none) else none) else none else (some (x4 + 1 : Int32)).bind (fun y19 => s_X9_layNeeds_b41 k32 n F x3 y19)) else none)
def s_X9_layNeeds_b32 : Nat → MM → Int32 → Option MM
  | 0, _, _ => none
  | n + 1, F, x3 => if x3 = 0 then some F else s_X9_layNeeds_b41 (s_X9_layNeeds_b32 n) fu_ F 0 0
def s_X9_layNeeds_b2 : Nat → MM → Int32 → Int32 → Int32 → Option MM
  | 0, _, _, _, _ => none
  | n + 1, F, x1, x2, x3 => if 6 ≤ x3 then s_X9_layNeeds_b32 fu_ F 1 else if x3 = x1 then if inb x3 6 then ((some (mup F 179 (ix x3) x2)).bind (fun F9 => (some (x3 + 1 : Int32)).bind (fun y11 => s_X9_layNeeds_b2 n F9 x1 x2 y11))) else none else if inb x3 6 then ((some (mup F 179 (ix x3) 0)).bind (fun F4 => (some (x3 + 1 : Int32)).bind (fun y6 => s_X9_layNeeds_b2 n F4 x1 x2 y6))) else none
def s_X9_layNeeds (F : MM) (p0 : Int32) (p1 : Int32) : Option MM := s_X9_layNeeds_b2 fu_ F p0 p1 0
set_option maxRecDepth 20000 in
theorem k_X9_layNeeds_b41 {C : CX} {M : MX} {G : GG} {Q : OUT → MM → GG → Prop} {k32 : MM → Int32 → Option MM} {r : MM} (hM : MOk C RX9 cX9_layNeeds 6 none rmX9_layNeeds M) (hT : MNoT M) (hk32 : ∀ (wF : MM) (w0 : Int32), k32 wF w0 = some r → AW C 6 (ZM C rmX9_layNeeds Q M) M 0 0 32 [some (.ref 164), none, none, some (.int w0), none, none] [] wF G) (hq : Q (.inl none) r G) : ∀ (n : Nat) (F : MM) (x3 : Int32) (x4 : Int32), s_X9_layNeeds_b41 k32 n F x3 x4 = some r → AW C 6 (ZM C rmX9_layNeeds Q M) M 0 0 41 [some (.ref 164), none, none, some (.int x3), some (.int x4), none] [] F G := by
  intro n
  induction n with
  | zero => intro F x3 x4 h; exact nomatch h
  | succ n ih =>
    intro F x3 x4 h
    rw [s_X9_layNeeds_b41] at h
    refine aw_iload (pc := 41) (i := 4) (x := x4) hM dX9_layNeeds_41  rfl ?_
    refine aw_aload_n (pc := 43) (i := 0) (x := 164) hM dX9_layNeeds_43 rfl rfl ?_
    refine aw_getI (pc := 44) hM fd_X9_146 sk_164 rfl dX9_layNeeds_44 ?_
    refine aw_icmp_ge (pc := 47) (tgt := 149) hM dX9_layNeeds_47 (by decide) (fun c14 => ?_) (fun c14 => ?_)
    · rw [if_pos c14] at h
      refine aw_goto (pc := 149) (tgt := 32) hM dX9_layNeeds_149 (by decide) ?_
      refine aw_weak (L' := [some (.ref 164), none, none, some (.int x3), none, none]) ?_ (lw_of [true, true, true, true, false, true] rfl)
      exact hk32 F x3 h
    · rw [if_neg c14] at h
      refine aw_iconst (pc := 50) (v := 5) hM dX9_layNeeds_50 (by decide) ?_
      refine aw_iload (pc := 51) (i := 4) (x := x4) hM dX9_layNeeds_51  rfl ?_
      refine aw_imul (pc := 53) hM dX9_layNeeds_53 ?_
      obtain ⟨y15, e16, h⟩ := bind_some h
      have e16 := Option.some.inj e16
      refine aw_topi e16 ?_
      refine aw_istore (pc := 54) (i := 5) (L' := [some (.ref 164), none, none, some (.int x3), some (.int x4), some (.int y15)]) hM dX9_layNeeds_54  (by decide) rfl ?_
      refine aw_aload_n (pc := 56) (i := 0) (x := 164) hM dX9_layNeeds_56 rfl rfl ?_
      refine aw_getR (pc := 57) (r := 167) hM fd_X9_29 sk_164 rfl dX9_layNeeds_57 ?_
      refine aw_iload (pc := 60) (i := 5) (x := y15) hM dX9_layNeeds_60  rfl ?_
      obtain ⟨c17, h⟩ := ite_some h
      refine aw_iald (pc := 62) hM sk_167 c17 dX9_layNeeds_62 ?_
      refine aw_if_ne (pc := 63) (tgt := 143) hM dX9_layNeeds_63 (by decide) (fun c18 => ?_) (fun c18 => ?_)
      · rw [if_neg c18] at h
        obtain ⟨y19, e20, h⟩ := bind_some h
        have e20 := Option.some.inj e20
        refine aw_iinc (pc := 143) (v := y19) (L' := [some (.ref 164), none, none, some (.int x3), some (.int y19), some (.int y15)]) hM dX9_layNeeds_143 rfl e20 (by decide) rfl ?_
        refine aw_goto (pc := 146) (tgt := 41) hM dX9_layNeeds_146 (by decide) ?_
        refine aw_weak (L' := [some (.ref 164), none, none, some (.int x3), some (.int y19), none]) ?_ (lw_of [true, true, true, true, true, false] rfl)
        exact ih F x3 y19 h
      · rw [if_pos c18] at h
        refine aw_aload_n (pc := 66) (i := 0) (x := 164) hM dX9_layNeeds_66 rfl rfl ?_
        refine aw_getR (pc := 67) (r := 179) hM fd_X9_66 sk_164 rfl dX9_layNeeds_67 ?_
        refine aw_aload_n (pc := 70) (i := 0) (x := 164) hM dX9_layNeeds_70 rfl rfl ?_
        refine aw_getR (pc := 71) (r := 167) hM fd_X9_29 sk_164 rfl dX9_layNeeds_71 ?_
        refine aw_iload (pc := 74) (i := 5) (x := y15) hM dX9_layNeeds_74  rfl ?_
        refine aw_iconst (pc := 76) (v := 1) hM dX9_layNeeds_76 (by decide) ?_
        refine aw_iadd (pc := 77) hM dX9_layNeeds_77 ?_
        obtain ⟨c21, h⟩ := ite_some h
        refine aw_iald (pc := 78) hM sk_167 c21 dX9_layNeeds_78 ?_
        obtain ⟨c22, h⟩ := ite_some h
        refine aw_iald (pc := 79) hM sk_179 c22 dX9_layNeeds_79 ?_
        refine aw_aload_n (pc := 80) (i := 0) (x := 164) hM dX9_layNeeds_80 rfl rfl ?_
        refine aw_getR (pc := 81) (r := 167) hM fd_X9_29 sk_164 rfl dX9_layNeeds_81 ?_
        refine aw_iload (pc := 84) (i := 5) (x := y15) hM dX9_layNeeds_84  rfl ?_
        refine aw_iconst (pc := 86) (v := 2) hM dX9_layNeeds_86 (by decide) ?_
        refine aw_iadd (pc := 87) hM dX9_layNeeds_87 ?_
        obtain ⟨c23, h⟩ := ite_some h
        refine aw_iald (pc := 88) hM sk_167 c23 dX9_layNeeds_88 ?_
        refine aw_icmp_lt (pc := 89) (tgt := 143) hM dX9_layNeeds_89 (by decide) (fun c24 => ?_) (fun c24 => ?_)
        · rw [if_pos c24] at h
          obtain ⟨y25, e26, h⟩ := bind_some h
          have e26 := Option.some.inj e26
          refine aw_iinc (pc := 143) (v := y25) (L' := [some (.ref 164), none, none, some (.int x3), some (.int y25), some (.int y15)]) hM dX9_layNeeds_143 rfl e26 (by decide) rfl ?_
          refine aw_goto (pc := 146) (tgt := 41) hM dX9_layNeeds_146 (by decide) ?_
          refine aw_weak (L' := [some (.ref 164), none, none, some (.int x3), some (.int y25), none]) ?_ (lw_of [true, true, true, true, true, false] rfl)
          exact ih F x3 y25 h
        · rw [if_neg c24] at h
          refine aw_aload_n (pc := 92) (i := 0) (x := 164) hM dX9_layNeeds_92 rfl rfl ?_
          refine aw_getR (pc := 93) (r := 179) hM fd_X9_66 sk_164 rfl dX9_layNeeds_93 ?_
          refine aw_aload_n (pc := 96) (i := 0) (x := 164) hM dX9_layNeeds_96 rfl rfl ?_
          refine aw_getR (pc := 97) (r := 167) hM fd_X9_29 sk_164 rfl dX9_layNeeds_97 ?_
          refine aw_iload (pc := 100) (i := 5) (x := y15) hM dX9_layNeeds_100  rfl ?_
          refine aw_iconst (pc := 102) (v := 3) hM dX9_layNeeds_102 (by decide) ?_
          refine aw_iadd (pc := 103) hM dX9_layNeeds_103 ?_
          obtain ⟨c27, h⟩ := ite_some h
          refine aw_iald (pc := 104) hM sk_167 c27 dX9_layNeeds_104 ?_
          obtain ⟨c28, h⟩ := ite_some h
          refine aw_iald (pc := 105) hM sk_179 c28 dX9_layNeeds_105 ?_
          refine aw_aload_n (pc := 106) (i := 0) (x := 164) hM dX9_layNeeds_106 rfl rfl ?_
          refine aw_getR (pc := 107) (r := 167) hM fd_X9_29 sk_164 rfl dX9_layNeeds_107 ?_
          refine aw_iload (pc := 110) (i := 5) (x := y15) hM dX9_layNeeds_110  rfl ?_
          refine aw_iconst (pc := 112) (v := 4) hM dX9_layNeeds_112 (by decide) ?_
          refine aw_iadd (pc := 113) hM dX9_layNeeds_113 ?_
          obtain ⟨c29, h⟩ := ite_some h
          refine aw_iald (pc := 114) hM sk_167 c29 dX9_layNeeds_114 ?_
          refine aw_icmp_ge (pc := 115) (tgt := 143) hM dX9_layNeeds_115 (by decide) (fun c30 => ?_) (fun c30 => ?_)
          · rw [if_pos c30] at h
            obtain ⟨y31, e32, h⟩ := bind_some h
            have e32 := Option.some.inj e32
            refine aw_iinc (pc := 143) (v := y31) (L' := [some (.ref 164), none, none, some (.int x3), some (.int y31), some (.int y15)]) hM dX9_layNeeds_143 rfl e32 (by decide) rfl ?_
            refine aw_goto (pc := 146) (tgt := 41) hM dX9_layNeeds_146 (by decide) ?_
            refine aw_weak (L' := [some (.ref 164), none, none, some (.int x3), some (.int y31), none]) ?_ (lw_of [true, true, true, true, true, false] rfl)
            exact ih F x3 y31 h
          · rw [if_neg c30] at h
            refine aw_aload_n (pc := 118) (i := 0) (x := 164) hM dX9_layNeeds_118 rfl rfl ?_
            refine aw_getR (pc := 119) (r := 179) hM fd_X9_66 sk_164 rfl dX9_layNeeds_119 ?_
            refine aw_aload_n (pc := 122) (i := 0) (x := 164) hM dX9_layNeeds_122 rfl rfl ?_
            refine aw_getR (pc := 123) (r := 167) hM fd_X9_29 sk_164 rfl dX9_layNeeds_123 ?_
            refine aw_iload (pc := 126) (i := 5) (x := y15) hM dX9_layNeeds_126  rfl ?_
            refine aw_iconst (pc := 128) (v := 3) hM dX9_layNeeds_128 (by decide) ?_
            refine aw_iadd (pc := 129) hM dX9_layNeeds_129 ?_
            obtain ⟨c33, h⟩ := ite_some h
            refine aw_iald (pc := 130) hM sk_167 c33 dX9_layNeeds_130 ?_
            refine aw_aload_n (pc := 131) (i := 0) (x := 164) hM dX9_layNeeds_131 rfl rfl ?_
            refine aw_getR (pc := 132) (r := 167) hM fd_X9_29 sk_164 rfl dX9_layNeeds_132 ?_
            refine aw_iload (pc := 135) (i := 5) (x := y15) hM dX9_layNeeds_135  rfl ?_
            refine aw_iconst (pc := 137) (v := 4) hM dX9_layNeeds_137 (by decide) ?_
            refine aw_iadd (pc := 138) hM dX9_layNeeds_138 ?_
            obtain ⟨c34, h⟩ := ite_some h
            refine aw_iald (pc := 139) hM sk_167 c34 dX9_layNeeds_139 ?_
            obtain ⟨c35, h⟩ := ite_some h
            obtain ⟨F36, e37, h⟩ := bind_some h
            have e37 := Option.some.inj e37
            refine aw_iast (pc := 140) hM sk_179 c35 dX9_layNeeds_140 ?_
            refine aw_mem e37 ?_
            refine aw_iconst (pc := 141) (v := 1) hM dX9_layNeeds_141 (by decide) ?_
            refine aw_istore_n (pc := 142) (i := 3) (L' := [some (.ref 164), none, none, some (.int 1), some (.int x4), some (.int y15)]) hM dX9_layNeeds_142 rfl (by decide) rfl ?_
            obtain ⟨y38, e39, h⟩ := bind_some h
            have e39 := Option.some.inj e39
            refine aw_iinc (pc := 143) (v := y38) (L' := [some (.ref 164), none, none, some (.int 1), some (.int y38), some (.int y15)]) hM dX9_layNeeds_143 rfl e39 (by decide) rfl ?_
            refine aw_goto (pc := 146) (tgt := 41) hM dX9_layNeeds_146 (by decide) ?_
            refine aw_weak (L' := [some (.ref 164), none, none, some (.int 1), some (.int y38), none]) ?_ (lw_of [true, true, true, true, true, false] rfl)
            exact ih F36 1 y38 h
set_option maxRecDepth 20000 in
theorem k_X9_layNeeds_b32 {C : CX} {M : MX} {G : GG} {Q : OUT → MM → GG → Prop} {r : MM} (hM : MOk C RX9 cX9_layNeeds 6 none rmX9_layNeeds M) (hT : MNoT M) (hq : Q (.inl none) r G) : ∀ (n : Nat) (F : MM) (x3 : Int32), s_X9_layNeeds_b32 n F x3 = some r → AW C 6 (ZM C rmX9_layNeeds Q M) M 0 0 32 [some (.ref 164), none, none, some (.int x3), none, none] [] F G := by
  intro n
  induction n with
  | zero => intro F x3 h; exact nomatch h
  | succ n ih =>
    intro F x3 h
    rw [s_X9_layNeeds_b32] at h
    refine aw_iload_n (pc := 32) (i := 3) (x := x3) hM dX9_layNeeds_32 rfl rfl ?_
    refine aw_if_eq (pc := 33) (tgt := 152) hM dX9_layNeeds_33 (by decide) (fun c13 => ?_) (fun c13 => ?_)
    · rw [if_pos c13] at h
      obtain rfl := Option.some.inj h
      exact aw_vret (pc := 152) hM dX9_layNeeds_152 (Nat.le_of_ble_eq_true rfl) (Nat.le_of_ble_eq_true rfl) hq
    · rw [if_neg c13] at h
      refine aw_iconst (pc := 36) (v := 0) hM dX9_layNeeds_36 (by decide) ?_
      refine aw_istore_n (pc := 37) (i := 3) (L' := [some (.ref 164), none, none, some (.int 0), none, none]) hM dX9_layNeeds_37 rfl (by decide) rfl ?_
      refine aw_iconst (pc := 38) (v := 0) hM dX9_layNeeds_38 (by decide) ?_
      refine aw_istore (pc := 39) (i := 4) (L' := [some (.ref 164), none, none, some (.int 0), some (.int 0), none]) hM dX9_layNeeds_39  (by decide) rfl ?_
      exact k_X9_layNeeds_b41 hM hT (fun wF w0 h9 => ih wF w0 h9) hq fu_ F 0 0 h
set_option maxRecDepth 20000 in
theorem k_X9_layNeeds_b2 {C : CX} {M : MX} {G : GG} {Q : OUT → MM → GG → Prop} {r : MM} (hM : MOk C RX9 cX9_layNeeds 6 none rmX9_layNeeds M) (hT : MNoT M) (hq : Q (.inl none) r G) : ∀ (n : Nat) (F : MM) (x1 : Int32) (x2 : Int32) (x3 : Int32), s_X9_layNeeds_b2 n F x1 x2 x3 = some r → AW C 6 (ZM C rmX9_layNeeds Q M) M 0 0 2 [some (.ref 164), some (.int x1), some (.int x2), some (.int x3), none, none] [] F G := by
  intro n
  induction n with
  | zero => intro F x1 x2 x3 h; exact nomatch h
  | succ n ih =>
    intro F x1 x2 x3 h
    rw [s_X9_layNeeds_b2] at h
    refine aw_iload_n (pc := 2) (i := 3) (x := x3) hM dX9_layNeeds_2 rfl rfl ?_
    refine aw_bipush (pc := 3) (v := 6) hM dX9_layNeeds_3 (by decide) ?_
    refine aw_icmp_ge (pc := 5) (tgt := 30) hM dX9_layNeeds_5 (by decide) (fun c1 => ?_) (fun c1 => ?_)
    · rw [if_pos c1] at h
      refine aw_iconst (pc := 30) (v := 1) hM dX9_layNeeds_30 (by decide) ?_
      refine aw_istore_n (pc := 31) (i := 3) (L' := [some (.ref 164), some (.int x1), some (.int x2), some (.int 1), none, none]) hM dX9_layNeeds_31 rfl (by decide) rfl ?_
      refine aw_weak (L' := [some (.ref 164), none, none, some (.int 1), none, none]) ?_ (lw_of [true, false, false, true, true, true] rfl)
      exact k_X9_layNeeds_b32 hM hT hq fu_ F 1 h
    · rw [if_neg c1] at h
      refine aw_aload_n (pc := 8) (i := 0) (x := 164) hM dX9_layNeeds_8 rfl rfl ?_
      refine aw_getR (pc := 9) (r := 179) hM fd_X9_66 sk_164 rfl dX9_layNeeds_9 ?_
      refine aw_iload_n (pc := 12) (i := 3) (x := x3) hM dX9_layNeeds_12 rfl rfl ?_
      refine aw_iload_n (pc := 13) (i := 3) (x := x3) hM dX9_layNeeds_13 rfl rfl ?_
      refine aw_iload_n (pc := 14) (i := 1) (x := x1) hM dX9_layNeeds_14 rfl rfl ?_
      refine aw_icmp_ne (pc := 15) (tgt := 22) hM dX9_layNeeds_15 (by decide) (fun c2 => ?_) (fun c2 => ?_)
      · rw [if_neg c2] at h
        refine aw_iconst (pc := 22) (v := 0) hM dX9_layNeeds_22 (by decide) ?_
        obtain ⟨c3, h⟩ := ite_some h
        obtain ⟨F4, e5, h⟩ := bind_some h
        have e5 := Option.some.inj e5
        refine aw_iast (pc := 23) hM sk_179 c3 dX9_layNeeds_23 ?_
        refine aw_mem e5 ?_
        obtain ⟨y6, e7, h⟩ := bind_some h
        have e7 := Option.some.inj e7
        refine aw_iinc (pc := 24) (v := y6) (L' := [some (.ref 164), some (.int x1), some (.int x2), some (.int y6), none, none]) hM dX9_layNeeds_24 rfl e7 (by decide) rfl ?_
        refine aw_goto (pc := 27) (tgt := 2) hM dX9_layNeeds_27 (by decide) ?_
        exact ih F4 x1 x2 y6 h
      · rw [if_pos c2] at h
        refine aw_iload_n (pc := 18) (i := 2) (x := x2) hM dX9_layNeeds_18 rfl rfl ?_
        refine aw_goto (pc := 19) (tgt := 23) hM dX9_layNeeds_19 (by decide) ?_
        obtain ⟨c8, h⟩ := ite_some h
        obtain ⟨F9, e10, h⟩ := bind_some h
        have e10 := Option.some.inj e10
        refine aw_iast (pc := 23) hM sk_179 c8 dX9_layNeeds_23 ?_
        refine aw_mem e10 ?_
        obtain ⟨y11, e12, h⟩ := bind_some h
        have e12 := Option.some.inj e12
        refine aw_iinc (pc := 24) (v := y11) (L' := [some (.ref 164), some (.int x1), some (.int x2), some (.int y11), none, none]) hM dX9_layNeeds_24 rfl e12 (by decide) rfl ?_
        refine aw_goto (pc := 27) (tgt := 2) hM dX9_layNeeds_27 (by decide) ?_
        exact ih F9 x1 x2 y11 h
set_option maxRecDepth 20000 in
theorem k_X9_layNeeds {C : CX} {F : MM} {G : GG} {p0 : Int32} {p1 : Int32} {r : MM} (h : s_X9_layNeeds F p0 p1 = some r) : AM C yX9_layNeeds cX9_layNeeds 6 none rmX9_layNeeds [.ref 164, .int p0, .int p1] F G (fun o F9 G9 => o = (.inl none) ∧ F9 = r ∧ G9 = G) := by
  refine am_of (L := [some (.ref 164), some (.int p0), some (.int p1), none, none, none]) (by decide) (Nat.le_of_ble_eq_true rfl) rfl (fun M hM hT => ?_)
  have hM : MOk C RX9 cX9_layNeeds 6 none rmX9_layNeeds M := hM
  obtain ⟨Q, hQ⟩ : ∃ Q : OUT → MM → GG → Prop, Q = (fun o F9 G9 => o = (.inl none) ∧ F9 = r ∧ G9 = G) := ⟨_, rfl⟩
  have hq : Q (.inl none) r G := by rw [hQ]; exact ⟨rfl, rfl, rfl⟩
  rw [← hQ]
  clear hQ
  rw [s_X9_layNeeds] at h
  refine aw_iconst (pc := 0) (v := 0) hM dX9_layNeeds_0 (by decide) ?_
  refine aw_istore_n (pc := 1) (i := 3) (L' := [some (.ref 164), some (.int p0), some (.int p1), some (.int 0), none, none]) hM dX9_layNeeds_1 rfl (by decide) rfl ?_
  exact k_X9_layNeeds_b2 hM hT hq fu_ F p0 p1 0 h
def rmX9_isPossible : Room := { frames := 2, cells := 0, slots := 0, locals := 46 }
def s_X9_isPossible_b44 : Nat → MM → Int32 → Int32 → Option (Int32 × MM)
  | 0, _, _, _ => none
  | n + 1, F, x3, x4 => if (F 164 6) ≤ x4 then if x3 &&& 1 = x3 then (some (x3, F)) else none else (some (5 * x4 : Int32)).bind (fun y27 => if x3 = 0 then (some (x4 + 1 : Int32)).bind (fun y30 => s_X9_isPossible_b44 n F 0 y30) else if inb y27 50 then (if (F 167 (ix y27)) = 1 then if inb (y27 + 1) 50 then (if inb (F 167 (ix (y27 + 1))) 6 then (if inb (y27 + 2) 50 then (if (F 179 (ix (F 167 (ix (y27 + 1))))) < (F 167 (ix (y27 + 2))) then (some (x4 + 1 : Int32)).bind (fun y40 => s_X9_isPossible_b44 n F 1 y40) else if inb (y27 + 3) 50 then (if inb (F 167 (ix (y27 + 3))) 6 then (if inb (y27 + 4) 50 then (if (F 167 (ix (y27 + 4))) ≤ (F 179 (ix (F 167 (ix (y27 + 3))))) then (some (x4 + 1 : Int32)).bind (fun y46 => s_X9_isPossible_b44 n F 0 y46) else (some (x4 + 1 : Int32)).bind (fun y48 => s_X9_isPossible_b44 n F 1 y48)) else none) else none) else none) else none) else none) else none else (some (x4 + 1 : Int32)).bind (fun y34 => s_X9_isPossible_b44 n F 1 y34)) else none)
def s_X9_isPossible (F : MM) (p0 : Int32) (p1 : Int32) : Option (Int32 × MM) := (s_X9_isPart F p0).bind (fun r2 => if r2 = 0 then (s_X9_refused F 1).bind (fun z21 => if z21.1 = 0 then (s_X9_layNeeds z21.2 p0 p1).bind (fun F24 => s_X9_isPossible_b44 fu_ F24 1 0) else some (0, z21.2)) else (s_X9_isVersion F p1).bind (fun r5 => if r5 = 0 then (s_X9_refused F 2).bind (fun z15 => if z15.1 = 0 then (s_X9_layNeeds z15.2 p0 p1).bind (fun F18 => s_X9_isPossible_b44 fu_ F18 1 0) else some (0, z15.2)) else (s_X9_refused F 0).bind (fun z9 => if z9.1 = 0 then (s_X9_layNeeds z9.2 p0 p1).bind (fun F12 => s_X9_isPossible_b44 fu_ F12 1 0) else some (0, z9.2))))
set_option maxRecDepth 20000 in
theorem k_X9_isPossible_b44 {C : CX} {M : MX} {G : GG} {Q : OUT → MM → GG → Prop} {r : (Int32 × MM)} (hM : MOk C RX9 cX9_isPossible 6 (some .boolean) rmX9_isPossible M) (hT : MNoT M) (hq : Q (.inl (some (.int r.1))) r.2 G) : ∀ (n : Nat) (F : MM) (x3 : Int32) (x4 : Int32), s_X9_isPossible_b44 n F x3 x4 = some r → AW C 6 (ZM C rmX9_isPossible Q M) M 0 0 44 [some (.ref 164), none, none, some (.int x3), some (.int x4), none] [] F G := by
  intro n
  induction n with
  | zero => intro F x3 x4 h; exact nomatch h
  | succ n ih =>
    intro F x3 x4 h
    rw [s_X9_isPossible_b44] at h
    refine aw_iload (pc := 44) (i := 4) (x := x4) hM dX9_isPossible_44  rfl ?_
    refine aw_aload_n (pc := 46) (i := 0) (x := 164) hM dX9_isPossible_46 rfl rfl ?_
    refine aw_getI (pc := 47) hM fd_X9_146 sk_164 rfl dX9_isPossible_47 ?_
    refine aw_icmp_ge (pc := 50) (tgt := 138) hM dX9_isPossible_50 (by decide) (fun c25 => ?_) (fun c25 => ?_)
    · rw [if_pos c25] at h
      refine aw_iload_n (pc := 138) (i := 3) (x := x3) hM dX9_isPossible_138 rfl rfl ?_
      obtain ⟨c26, h⟩ := ite_some h
      obtain rfl := Option.some.inj h
      exact aw_zret (pc := 139) hM dX9_isPossible_139 c26 (Nat.le_of_ble_eq_true rfl) (Nat.le_of_ble_eq_true rfl) hq
    · rw [if_neg c25] at h
      refine aw_iconst (pc := 53) (v := 5) hM dX9_isPossible_53 (by decide) ?_
      refine aw_iload (pc := 54) (i := 4) (x := x4) hM dX9_isPossible_54  rfl ?_
      refine aw_imul (pc := 56) hM dX9_isPossible_56 ?_
      obtain ⟨y27, e28, h⟩ := bind_some h
      have e28 := Option.some.inj e28
      refine aw_topi e28 ?_
      refine aw_istore (pc := 57) (i := 5) (L' := [some (.ref 164), none, none, some (.int x3), some (.int x4), some (.int y27)]) hM dX9_isPossible_57  (by decide) rfl ?_
      refine aw_iload_n (pc := 59) (i := 3) (x := x3) hM dX9_isPossible_59 rfl rfl ?_
      refine aw_if_eq (pc := 60) (tgt := 130) hM dX9_isPossible_60 (by decide) (fun c29 => ?_) (fun c29 => ?_)
      · rw [if_pos c29] at h
        refine aw_iconst (pc := 130) (v := 0) hM dX9_isPossible_130 (by decide) ?_
        refine aw_istore_n (pc := 131) (i := 3) (L' := [some (.ref 164), none, none, some (.int 0), some (.int x4), some (.int y27)]) hM dX9_isPossible_131 rfl (by decide) rfl ?_
        obtain ⟨y30, e31, h⟩ := bind_some h
        have e31 := Option.some.inj e31
        refine aw_iinc (pc := 132) (v := y30) (L' := [some (.ref 164), none, none, some (.int 0), some (.int y30), some (.int y27)]) hM dX9_isPossible_132 rfl e31 (by decide) rfl ?_
        refine aw_goto (pc := 135) (tgt := 44) hM dX9_isPossible_135 (by decide) ?_
        refine aw_weak (L' := [some (.ref 164), none, none, some (.int 0), some (.int y30), none]) ?_ (lw_of [true, true, true, true, true, false] rfl)
        exact ih F 0 y30 h
      · rw [if_neg c29] at h
        refine aw_aload_n (pc := 63) (i := 0) (x := 164) hM dX9_isPossible_63 rfl rfl ?_
        refine aw_getR (pc := 64) (r := 167) hM fd_X9_29 sk_164 rfl dX9_isPossible_64 ?_
        refine aw_iload (pc := 67) (i := 5) (x := y27) hM dX9_isPossible_67  rfl ?_
        obtain ⟨c32, h⟩ := ite_some h
        refine aw_iald (pc := 69) hM sk_167 c32 dX9_isPossible_69 ?_
        refine aw_iconst (pc := 70) (v := 1) hM dX9_isPossible_70 (by decide) ?_
        refine aw_icmp_ne (pc := 71) (tgt := 126) hM dX9_isPossible_71 (by decide) (fun c33 => ?_) (fun c33 => ?_)
        · rw [if_neg c33] at h
          refine aw_iconst (pc := 126) (v := 1) hM dX9_isPossible_126 (by decide) ?_
          refine aw_goto (pc := 127) (tgt := 131) hM dX9_isPossible_127 (by decide) ?_
          refine aw_istore_n (pc := 131) (i := 3) (L' := [some (.ref 164), none, none, some (.int 1), some (.int x4), some (.int y27)]) hM dX9_isPossible_131 rfl (by decide) rfl ?_
          obtain ⟨y34, e35, h⟩ := bind_some h
          have e35 := Option.some.inj e35
          refine aw_iinc (pc := 132) (v := y34) (L' := [some (.ref 164), none, none, some (.int 1), some (.int y34), some (.int y27)]) hM dX9_isPossible_132 rfl e35 (by decide) rfl ?_
          refine aw_goto (pc := 135) (tgt := 44) hM dX9_isPossible_135 (by decide) ?_
          refine aw_weak (L' := [some (.ref 164), none, none, some (.int 1), some (.int y34), none]) ?_ (lw_of [true, true, true, true, true, false] rfl)
          exact ih F 1 y34 h
        · rw [if_pos c33] at h
          refine aw_aload_n (pc := 74) (i := 0) (x := 164) hM dX9_isPossible_74 rfl rfl ?_
          refine aw_getR (pc := 75) (r := 179) hM fd_X9_66 sk_164 rfl dX9_isPossible_75 ?_
          refine aw_aload_n (pc := 78) (i := 0) (x := 164) hM dX9_isPossible_78 rfl rfl ?_
          refine aw_getR (pc := 79) (r := 167) hM fd_X9_29 sk_164 rfl dX9_isPossible_79 ?_
          refine aw_iload (pc := 82) (i := 5) (x := y27) hM dX9_isPossible_82  rfl ?_
          refine aw_iconst (pc := 84) (v := 1) hM dX9_isPossible_84 (by decide) ?_
          refine aw_iadd (pc := 85) hM dX9_isPossible_85 ?_
          obtain ⟨c36, h⟩ := ite_some h
          refine aw_iald (pc := 86) hM sk_167 c36 dX9_isPossible_86 ?_
          obtain ⟨c37, h⟩ := ite_some h
          refine aw_iald (pc := 87) hM sk_179 c37 dX9_isPossible_87 ?_
          refine aw_aload_n (pc := 88) (i := 0) (x := 164) hM dX9_isPossible_88 rfl rfl ?_
          refine aw_getR (pc := 89) (r := 167) hM fd_X9_29 sk_164 rfl dX9_isPossible_89 ?_
          refine aw_iload (pc := 92) (i := 5) (x := y27) hM dX9_isPossible_92  rfl ?_
          refine aw_iconst (pc := 94) (v := 2) hM dX9_isPossible_94 (by decide) ?_
          refine aw_iadd (pc := 95) hM dX9_isPossible_95 ?_
          obtain ⟨c38, h⟩ := ite_some h
          refine aw_iald (pc := 96) hM sk_167 c38 dX9_isPossible_96 ?_
          refine aw_icmp_lt (pc := 97) (tgt := 126) hM dX9_isPossible_97 (by decide) (fun c39 => ?_) (fun c39 => ?_)
          · rw [if_pos c39] at h
            refine aw_iconst (pc := 126) (v := 1) hM dX9_isPossible_126 (by decide) ?_
            refine aw_goto (pc := 127) (tgt := 131) hM dX9_isPossible_127 (by decide) ?_
            refine aw_istore_n (pc := 131) (i := 3) (L' := [some (.ref 164), none, none, some (.int 1), some (.int x4), some (.int y27)]) hM dX9_isPossible_131 rfl (by decide) rfl ?_
            obtain ⟨y40, e41, h⟩ := bind_some h
            have e41 := Option.some.inj e41
            refine aw_iinc (pc := 132) (v := y40) (L' := [some (.ref 164), none, none, some (.int 1), some (.int y40), some (.int y27)]) hM dX9_isPossible_132 rfl e41 (by decide) rfl ?_
            refine aw_goto (pc := 135) (tgt := 44) hM dX9_isPossible_135 (by decide) ?_
            refine aw_weak (L' := [some (.ref 164), none, none, some (.int 1), some (.int y40), none]) ?_ (lw_of [true, true, true, true, true, false] rfl)
            exact ih F 1 y40 h
          · rw [if_neg c39] at h
            refine aw_aload_n (pc := 100) (i := 0) (x := 164) hM dX9_isPossible_100 rfl rfl ?_
            refine aw_getR (pc := 101) (r := 179) hM fd_X9_66 sk_164 rfl dX9_isPossible_101 ?_
            refine aw_aload_n (pc := 104) (i := 0) (x := 164) hM dX9_isPossible_104 rfl rfl ?_
            refine aw_getR (pc := 105) (r := 167) hM fd_X9_29 sk_164 rfl dX9_isPossible_105 ?_
            refine aw_iload (pc := 108) (i := 5) (x := y27) hM dX9_isPossible_108  rfl ?_
            refine aw_iconst (pc := 110) (v := 3) hM dX9_isPossible_110 (by decide) ?_
            refine aw_iadd (pc := 111) hM dX9_isPossible_111 ?_
            obtain ⟨c42, h⟩ := ite_some h
            refine aw_iald (pc := 112) hM sk_167 c42 dX9_isPossible_112 ?_
            obtain ⟨c43, h⟩ := ite_some h
            refine aw_iald (pc := 113) hM sk_179 c43 dX9_isPossible_113 ?_
            refine aw_aload_n (pc := 114) (i := 0) (x := 164) hM dX9_isPossible_114 rfl rfl ?_
            refine aw_getR (pc := 115) (r := 167) hM fd_X9_29 sk_164 rfl dX9_isPossible_115 ?_
            refine aw_iload (pc := 118) (i := 5) (x := y27) hM dX9_isPossible_118  rfl ?_
            refine aw_iconst (pc := 120) (v := 4) hM dX9_isPossible_120 (by decide) ?_
            refine aw_iadd (pc := 121) hM dX9_isPossible_121 ?_
            obtain ⟨c44, h⟩ := ite_some h
            refine aw_iald (pc := 122) hM sk_167 c44 dX9_isPossible_122 ?_
            refine aw_icmp_ge (pc := 123) (tgt := 130) hM dX9_isPossible_123 (by decide) (fun c45 => ?_) (fun c45 => ?_)
            · rw [if_pos c45] at h
              refine aw_iconst (pc := 130) (v := 0) hM dX9_isPossible_130 (by decide) ?_
              refine aw_istore_n (pc := 131) (i := 3) (L' := [some (.ref 164), none, none, some (.int 0), some (.int x4), some (.int y27)]) hM dX9_isPossible_131 rfl (by decide) rfl ?_
              obtain ⟨y46, e47, h⟩ := bind_some h
              have e47 := Option.some.inj e47
              refine aw_iinc (pc := 132) (v := y46) (L' := [some (.ref 164), none, none, some (.int 0), some (.int y46), some (.int y27)]) hM dX9_isPossible_132 rfl e47 (by decide) rfl ?_
              refine aw_goto (pc := 135) (tgt := 44) hM dX9_isPossible_135 (by decide) ?_
              refine aw_weak (L' := [some (.ref 164), none, none, some (.int 0), some (.int y46), none]) ?_ (lw_of [true, true, true, true, true, false] rfl)
              exact ih F 0 y46 h
            · rw [if_neg c45] at h
              refine aw_iconst (pc := 126) (v := 1) hM dX9_isPossible_126 (by decide) ?_
              refine aw_goto (pc := 127) (tgt := 131) hM dX9_isPossible_127 (by decide) ?_
              refine aw_istore_n (pc := 131) (i := 3) (L' := [some (.ref 164), none, none, some (.int 1), some (.int x4), some (.int y27)]) hM dX9_isPossible_131 rfl (by decide) rfl ?_
              obtain ⟨y48, e49, h⟩ := bind_some h
              have e49 := Option.some.inj e49
              refine aw_iinc (pc := 132) (v := y48) (L' := [some (.ref 164), none, none, some (.int 1), some (.int y48), some (.int y27)]) hM dX9_isPossible_132 rfl e49 (by decide) rfl ?_
              refine aw_goto (pc := 135) (tgt := 44) hM dX9_isPossible_135 (by decide) ?_
              refine aw_weak (L' := [some (.ref 164), none, none, some (.int 1), some (.int y48), none]) ?_ (lw_of [true, true, true, true, true, false] rfl)
              exact ih F 1 y48 h
set_option maxRecDepth 20000 in
theorem k_X9_isPossible {C : CX} {F : MM} {G : GG} {p0 : Int32} {p1 : Int32} {r : (Int32 × MM)} (h : s_X9_isPossible F p0 p1 = some r) : AM C yX9_isPossible cX9_isPossible 6 (some .boolean) rmX9_isPossible [.ref 164, .int p0, .int p1] F G (fun o F9 G9 => o = (.inl (some (.int r.1))) ∧ F9 = r.2 ∧ G9 = G) := by
  refine am_of (L := [some (.ref 164), some (.int p0), some (.int p1), none, none, none]) (by decide) (Nat.le_of_ble_eq_true rfl) rfl (fun M hM hT => ?_)
  have hM : MOk C RX9 cX9_isPossible 6 (some .boolean) rmX9_isPossible M := hM
  obtain ⟨Q, hQ⟩ : ∃ Q : OUT → MM → GG → Prop, Q = (fun o F9 G9 => o = (.inl (some (.int r.1))) ∧ F9 = r.2 ∧ G9 = G) := ⟨_, rfl⟩
  have hq : Q (.inl (some (.int r.1))) r.2 G := by rw [hQ]; exact ⟨rfl, rfl, rfl⟩
  rw [← hQ]
  clear hQ
  rw [s_X9_isPossible] at h
  refine aw_aload_n (pc := 0) (i := 0) (x := 164) hM dX9_isPossible_0 rfl rfl ?_
  refine aw_aload_n (pc := 1) (i := 0) (x := 164) hM dX9_isPossible_1 rfl rfl ?_
  refine aw_iload_n (pc := 2) (i := 1) (x := p0) hM dX9_isPossible_2 rfl rfl ?_
  obtain ⟨r2, h1, h⟩ := bind_some h
  refine aw_cv1 (pc := 3) (n := 1) (As := [.int p0]) (st := [.ref 164]) (b := 164) (vo := (some (.int r2))) (c2 := 0) (s2 := 0) hM (k_X9_isPart h1) rfl cw_X9_211 sk_164 rfl rfl (by decide +kernel) rfl rfl ⟨(Nat.le_of_ble_eq_true rfl), (Nat.le_of_ble_eq_true rfl)⟩ (Nat.le_of_ble_eq_true rfl) ⟨(Nat.le_of_ble_eq_true rfl), (Nat.le_of_ble_eq_true rfl)⟩ dX9_isPossible_3 rfl rfl ?_
  refine aw_if_ne (pc := 6) (tgt := 13) hM dX9_isPossible_6 (by decide) (fun c3 => ?_) (fun c3 => ?_)
  · rw [if_neg c3] at h
    refine aw_iload_n (pc := 13) (i := 2) (x := p1) hM dX9_isPossible_13 rfl rfl ?_
    obtain ⟨r5, h4, h⟩ := bind_some h
    refine aw_cs1 (pc := 14) (n := 1) (As := [.int p1]) (st := [.ref 164]) (vo := (some (.int r5))) (c2 := 0) (s2 := 0) hM (k_X9_isVersion h4) rfl cw_X9_216 (by decide +kernel) rfl rfl ⟨(Nat.le_of_ble_eq_true rfl), (Nat.le_of_ble_eq_true rfl)⟩ (Nat.le_of_ble_eq_true rfl) ⟨(Nat.le_of_ble_eq_true rfl), (Nat.le_of_ble_eq_true rfl)⟩ dX9_isPossible_14 rfl rfl ?_
    refine aw_if_ne (pc := 17) (tgt := 24) hM dX9_isPossible_17 (by decide) (fun c6 => ?_) (fun c6 => ?_)
    · rw [if_neg c6] at h
      refine aw_iconst (pc := 24) (v := 0) hM dX9_isPossible_24 (by decide) ?_
      obtain ⟨z9, h7, h⟩ := bind_some h
      refine aw_cv1 (pc := 25) (n := 1) (As := [.int 0]) (st := []) (b := 164) (vo := (some (.int z9.1))) (c2 := 0) (s2 := 0) hM (k_X9_refused h7) rfl cw_X9_93 sk_164 rfl rfl (by decide +kernel) rfl rfl ⟨(Nat.le_of_ble_eq_true rfl), (Nat.le_of_ble_eq_true rfl)⟩ (Nat.le_of_ble_eq_true rfl) ⟨(Nat.le_of_ble_eq_true rfl), (Nat.le_of_ble_eq_true rfl)⟩ dX9_isPossible_25 rfl rfl ?_
      refine aw_if_eq (pc := 28) (tgt := 33) hM dX9_isPossible_28 (by decide) (fun c10 => ?_) (fun c10 => ?_)
      · rw [if_pos c10] at h
        refine aw_aload_n (pc := 33) (i := 0) (x := 164) hM dX9_isPossible_33 rfl rfl ?_
        refine aw_iload_n (pc := 34) (i := 1) (x := p0) hM dX9_isPossible_34 rfl rfl ?_
        refine aw_iload_n (pc := 35) (i := 2) (x := p1) hM dX9_isPossible_35 rfl rfl ?_
        obtain ⟨F12, h11, h⟩ := bind_some h
        refine aw_cv1 (pc := 36) (n := 2) (As := [.int p0, .int p1]) (st := []) (b := 164) (vo := none) (c2 := 0) (s2 := 0) hM (k_X9_layNeeds h11) rfl cw_X9_243 sk_164 rfl rfl (by decide +kernel) rfl rfl ⟨(Nat.le_of_ble_eq_true rfl), (Nat.le_of_ble_eq_true rfl)⟩ (Nat.le_of_ble_eq_true rfl) ⟨(Nat.le_of_ble_eq_true rfl), (Nat.le_of_ble_eq_true rfl)⟩ dX9_isPossible_36 rfl rfl ?_
        refine aw_iconst (pc := 39) (v := 1) hM dX9_isPossible_39 (by decide) ?_
        refine aw_istore_n (pc := 40) (i := 3) (L' := [some (.ref 164), some (.int p0), some (.int p1), some (.int 1), none, none]) hM dX9_isPossible_40 rfl (by decide) rfl ?_
        refine aw_iconst (pc := 41) (v := 0) hM dX9_isPossible_41 (by decide) ?_
        refine aw_istore (pc := 42) (i := 4) (L' := [some (.ref 164), some (.int p0), some (.int p1), some (.int 1), some (.int 0), none]) hM dX9_isPossible_42  (by decide) rfl ?_
        refine aw_weak (L' := [some (.ref 164), none, none, some (.int 1), some (.int 0), none]) ?_ (lw_of [true, false, false, true, true, true] rfl)
        exact k_X9_isPossible_b44 hM hT hq fu_ F12 1 0 h
      · rw [if_neg c10] at h
        refine aw_iconst (pc := 31) (v := 0) hM dX9_isPossible_31 (by decide) ?_
        obtain rfl := Option.some.inj h
        exact aw_zret (pc := 32) hM dX9_isPossible_32 (by decide) (Nat.le_of_ble_eq_true rfl) (Nat.le_of_ble_eq_true rfl) hq
    · rw [if_pos c6] at h
      refine aw_iconst (pc := 20) (v := 2) hM dX9_isPossible_20 (by decide) ?_
      refine aw_goto (pc := 21) (tgt := 25) hM dX9_isPossible_21 (by decide) ?_
      obtain ⟨z15, h13, h⟩ := bind_some h
      refine aw_cv1 (pc := 25) (n := 1) (As := [.int 2]) (st := []) (b := 164) (vo := (some (.int z15.1))) (c2 := 0) (s2 := 0) hM (k_X9_refused h13) rfl cw_X9_93 sk_164 rfl rfl (by decide +kernel) rfl rfl ⟨(Nat.le_of_ble_eq_true rfl), (Nat.le_of_ble_eq_true rfl)⟩ (Nat.le_of_ble_eq_true rfl) ⟨(Nat.le_of_ble_eq_true rfl), (Nat.le_of_ble_eq_true rfl)⟩ dX9_isPossible_25 rfl rfl ?_
      refine aw_if_eq (pc := 28) (tgt := 33) hM dX9_isPossible_28 (by decide) (fun c16 => ?_) (fun c16 => ?_)
      · rw [if_pos c16] at h
        refine aw_aload_n (pc := 33) (i := 0) (x := 164) hM dX9_isPossible_33 rfl rfl ?_
        refine aw_iload_n (pc := 34) (i := 1) (x := p0) hM dX9_isPossible_34 rfl rfl ?_
        refine aw_iload_n (pc := 35) (i := 2) (x := p1) hM dX9_isPossible_35 rfl rfl ?_
        obtain ⟨F18, h17, h⟩ := bind_some h
        refine aw_cv1 (pc := 36) (n := 2) (As := [.int p0, .int p1]) (st := []) (b := 164) (vo := none) (c2 := 0) (s2 := 0) hM (k_X9_layNeeds h17) rfl cw_X9_243 sk_164 rfl rfl (by decide +kernel) rfl rfl ⟨(Nat.le_of_ble_eq_true rfl), (Nat.le_of_ble_eq_true rfl)⟩ (Nat.le_of_ble_eq_true rfl) ⟨(Nat.le_of_ble_eq_true rfl), (Nat.le_of_ble_eq_true rfl)⟩ dX9_isPossible_36 rfl rfl ?_
        refine aw_iconst (pc := 39) (v := 1) hM dX9_isPossible_39 (by decide) ?_
        refine aw_istore_n (pc := 40) (i := 3) (L' := [some (.ref 164), some (.int p0), some (.int p1), some (.int 1), none, none]) hM dX9_isPossible_40 rfl (by decide) rfl ?_
        refine aw_iconst (pc := 41) (v := 0) hM dX9_isPossible_41 (by decide) ?_
        refine aw_istore (pc := 42) (i := 4) (L' := [some (.ref 164), some (.int p0), some (.int p1), some (.int 1), some (.int 0), none]) hM dX9_isPossible_42  (by decide) rfl ?_
        refine aw_weak (L' := [some (.ref 164), none, none, some (.int 1), some (.int 0), none]) ?_ (lw_of [true, false, false, true, true, true] rfl)
        exact k_X9_isPossible_b44 hM hT hq fu_ F18 1 0 h
      · rw [if_neg c16] at h
        refine aw_iconst (pc := 31) (v := 0) hM dX9_isPossible_31 (by decide) ?_
        obtain rfl := Option.some.inj h
        exact aw_zret (pc := 32) hM dX9_isPossible_32 (by decide) (Nat.le_of_ble_eq_true rfl) (Nat.le_of_ble_eq_true rfl) hq
  · rw [if_pos c3] at h
    refine aw_iconst (pc := 9) (v := 1) hM dX9_isPossible_9 (by decide) ?_
    refine aw_goto (pc := 10) (tgt := 25) hM dX9_isPossible_10 (by decide) ?_
    obtain ⟨z21, h19, h⟩ := bind_some h
    refine aw_cv1 (pc := 25) (n := 1) (As := [.int 1]) (st := []) (b := 164) (vo := (some (.int z21.1))) (c2 := 0) (s2 := 0) hM (k_X9_refused h19) rfl cw_X9_93 sk_164 rfl rfl (by decide +kernel) rfl rfl ⟨(Nat.le_of_ble_eq_true rfl), (Nat.le_of_ble_eq_true rfl)⟩ (Nat.le_of_ble_eq_true rfl) ⟨(Nat.le_of_ble_eq_true rfl), (Nat.le_of_ble_eq_true rfl)⟩ dX9_isPossible_25 rfl rfl ?_
    refine aw_if_eq (pc := 28) (tgt := 33) hM dX9_isPossible_28 (by decide) (fun c22 => ?_) (fun c22 => ?_)
    · rw [if_pos c22] at h
      refine aw_aload_n (pc := 33) (i := 0) (x := 164) hM dX9_isPossible_33 rfl rfl ?_
      refine aw_iload_n (pc := 34) (i := 1) (x := p0) hM dX9_isPossible_34 rfl rfl ?_
      refine aw_iload_n (pc := 35) (i := 2) (x := p1) hM dX9_isPossible_35 rfl rfl ?_
      obtain ⟨F24, h23, h⟩ := bind_some h
      refine aw_cv1 (pc := 36) (n := 2) (As := [.int p0, .int p1]) (st := []) (b := 164) (vo := none) (c2 := 0) (s2 := 0) hM (k_X9_layNeeds h23) rfl cw_X9_243 sk_164 rfl rfl (by decide +kernel) rfl rfl ⟨(Nat.le_of_ble_eq_true rfl), (Nat.le_of_ble_eq_true rfl)⟩ (Nat.le_of_ble_eq_true rfl) ⟨(Nat.le_of_ble_eq_true rfl), (Nat.le_of_ble_eq_true rfl)⟩ dX9_isPossible_36 rfl rfl ?_
      refine aw_iconst (pc := 39) (v := 1) hM dX9_isPossible_39 (by decide) ?_
      refine aw_istore_n (pc := 40) (i := 3) (L' := [some (.ref 164), some (.int p0), some (.int p1), some (.int 1), none, none]) hM dX9_isPossible_40 rfl (by decide) rfl ?_
      refine aw_iconst (pc := 41) (v := 0) hM dX9_isPossible_41 (by decide) ?_
      refine aw_istore (pc := 42) (i := 4) (L' := [some (.ref 164), some (.int p0), some (.int p1), some (.int 1), some (.int 0), none]) hM dX9_isPossible_42  (by decide) rfl ?_
      refine aw_weak (L' := [some (.ref 164), none, none, some (.int 1), some (.int 0), none]) ?_ (lw_of [true, false, false, true, true, true] rfl)
      exact k_X9_isPossible_b44 hM hT hq fu_ F24 1 0 h
    · rw [if_neg c22] at h
      refine aw_iconst (pc := 31) (v := 0) hM dX9_isPossible_31 (by decide) ?_
      obtain rfl := Option.some.inj h
      exact aw_zret (pc := 32) hM dX9_isPossible_32 (by decide) (Nat.le_of_ble_eq_true rfl) (Nat.le_of_ble_eq_true rfl) hq
def rmX9_load : Room := { frames := 5, cells := 0, slots := 0, locals := 117 }
def s_X9_load_b15 (F : MM) (t0 : Int32) : Option (Int32 × MM) := (s_X9_refused F t0).bind (fun z7 => if z7.1 = 0 then (some (mup z7.2 164 4 (z7.2 164 11))).bind (fun F9 => (some (mup F9 164 5 (F9 164 12))).bind (fun F11 => (some (mup F11 164 6 (F11 164 13))).bind (fun F13 => (some (mup F13 164 7 (F13 164 14))).bind (fun F15 => (some (mup F15 164 8 (F15 164 15))).bind (fun F17 => (s_X9_copy F17 168 0 166 0 5).bind (fun F20 => (s_X9_copy F20 169 0 167 0 50).bind (fun F22 => (s_X9_copy F22 170 0 171 0 107).bind (fun F24 => (some (mup F24 164 22 0)).bind (fun F25 => if inb 0 2 then ((some (mup F25 175 (ix 0) (vp_nar .boolean 0))).bind (fun F28 => if inb 1 2 then ((some (mup F28 175 (ix 1) (vp_nar .boolean 0))).bind (fun F31 => some (F31 164 6, F31))) else none)) else none))))))))) else some (0, z7.2))
def s_X9_load (F : MM) : Option (Int32 × MM) := (s_X9_readText F).bind (fun z3 => if z3.1 = (-9) then s_X9_load_b15 z3.2 0 else s_X9_load_b15 z3.2 1)
set_option maxRecDepth 20000 in
theorem k_X9_load_b15 {C : CX} {M : MX} {G : GG} {Q : OUT → MM → GG → Prop} {r : (Int32 × MM)} (hM : MOk C RX9 cX9_load 1 (some .int) rmX9_load M) (hT : MNoT M) (hq : Q (.inl (some (.int r.1))) r.2 G) (F : MM) (t0 : Int32) (h : s_X9_load_b15 F t0 = some r) : AW C 1 (ZM C rmX9_load Q M) M 0 0 15 [some (.ref 164)] [.int t0, .ref 164] F G := by
  rw [s_X9_load_b15] at h
  obtain ⟨z7, h5, h⟩ := bind_some h
  refine aw_cv1 (pc := 15) (n := 1) (As := [.int t0]) (st := []) (b := 164) (vo := (some (.int z7.1))) (c2 := 0) (s2 := 0) hM (k_X9_refused h5) rfl cw_X9_93 sk_164 rfl rfl (by decide +kernel) rfl rfl ⟨(Nat.le_of_ble_eq_true rfl), (Nat.le_of_ble_eq_true rfl)⟩ (Nat.le_of_ble_eq_true rfl) ⟨(Nat.le_of_ble_eq_true rfl), (Nat.le_of_ble_eq_true rfl)⟩ dX9_load_15 rfl rfl ?_
  refine aw_if_eq (pc := 18) (tgt := 23) hM dX9_load_18 (by decide) (fun c8 => ?_) (fun c8 => ?_)
  · rw [if_pos c8] at h
    refine aw_aload_n (pc := 23) (i := 0) (x := 164) hM dX9_load_23 rfl rfl ?_
    refine aw_aload_n (pc := 24) (i := 0) (x := 164) hM dX9_load_24 rfl rfl ?_
    refine aw_getI (pc := 25) hM fd_X9_107 sk_164 rfl dX9_load_25 ?_
    obtain ⟨F9, e10, h⟩ := bind_some h
    have e10 := Option.some.inj e10
    refine aw_put (pc := 28) (ty := .int) hM fd_X9_13 tyX9_ok nmX9 rfl (by decide +kernel) rfl rfl sk_164 rfl dX9_load_28 ?_
    refine aw_mem e10 ?_
    refine aw_aload_n (pc := 31) (i := 0) (x := 164) hM dX9_load_31 rfl rfl ?_
    refine aw_aload_n (pc := 32) (i := 0) (x := 164) hM dX9_load_32 rfl rfl ?_
    refine aw_getI (pc := 33) hM fd_X9_110 sk_164 rfl dX9_load_33 ?_
    obtain ⟨F11, e12, h⟩ := bind_some h
    have e12 := Option.some.inj e12
    refine aw_put (pc := 36) (ty := .int) hM fd_X9_17 tyX9_ok nmX9 rfl (by decide +kernel) rfl rfl sk_164 rfl dX9_load_36 ?_
    refine aw_mem e12 ?_
    refine aw_aload_n (pc := 39) (i := 0) (x := 164) hM dX9_load_39 rfl rfl ?_
    refine aw_aload_n (pc := 40) (i := 0) (x := 164) hM dX9_load_40 rfl rfl ?_
    refine aw_getI (pc := 41) hM fd_X9_123 sk_164 rfl dX9_load_41 ?_
    obtain ⟨F13, e14, h⟩ := bind_some h
    have e14 := Option.some.inj e14
    refine aw_put (pc := 44) (ty := .int) hM fd_X9_146 tyX9_ok nmX9 rfl (by decide +kernel) rfl rfl sk_164 rfl dX9_load_44 ?_
    refine aw_mem e14 ?_
    refine aw_aload_n (pc := 47) (i := 0) (x := 164) hM dX9_load_47 rfl rfl ?_
    refine aw_aload_n (pc := 48) (i := 0) (x := 164) hM dX9_load_48 rfl rfl ?_
    refine aw_getI (pc := 49) hM fd_X9_113 sk_164 rfl dX9_load_49 ?_
    obtain ⟨F15, e16, h⟩ := bind_some h
    have e16 := Option.some.inj e16
    refine aw_put (pc := 52) (ty := .int) hM fd_X9_20 tyX9_ok nmX9 rfl (by decide +kernel) rfl rfl sk_164 rfl dX9_load_52 ?_
    refine aw_mem e16 ?_
    refine aw_aload_n (pc := 55) (i := 0) (x := 164) hM dX9_load_55 rfl rfl ?_
    refine aw_aload_n (pc := 56) (i := 0) (x := 164) hM dX9_load_56 rfl rfl ?_
    refine aw_getI (pc := 57) hM fd_X9_116 sk_164 rfl dX9_load_57 ?_
    obtain ⟨F17, e18, h⟩ := bind_some h
    have e18 := Option.some.inj e18
    refine aw_put (pc := 60) (ty := .int) hM fd_X9_23 tyX9_ok nmX9 rfl (by decide +kernel) rfl rfl sk_164 rfl dX9_load_60 ?_
    refine aw_mem e18 ?_
    refine aw_aload_n (pc := 63) (i := 0) (x := 164) hM dX9_load_63 rfl rfl ?_
    refine aw_getR (pc := 64) (r := 168) hM fd_X9_32 sk_164 rfl dX9_load_64 ?_
    refine aw_iconst (pc := 67) (v := 0) hM dX9_load_67 (by decide) ?_
    refine aw_aload_n (pc := 68) (i := 0) (x := 164) hM dX9_load_68 rfl rfl ?_
    refine aw_getR (pc := 69) (r := 166) hM fd_X9_26 sk_164 rfl dX9_load_69 ?_
    refine aw_iconst (pc := 72) (v := 0) hM dX9_load_72 (by decide) ?_
    refine aw_iconst (pc := 73) (v := 5) hM dX9_load_73 (by decide) ?_
    obtain ⟨F20, h19, h⟩ := bind_some h
    refine aw_cs1 (pc := 74) (n := 5) (As := [.ref 168, .int 0, .ref 166, .int 0, .int 5]) (st := []) (vo := none) (c2 := 0) (s2 := 0) hM (k_X9_copy (ia_of sk_168) (ia_of sk_166) h19) rfl cw_X9_75 (by decide +kernel) rfl rfl ⟨(Nat.le_of_ble_eq_true rfl), (Nat.le_of_ble_eq_true rfl)⟩ (Nat.le_of_ble_eq_true rfl) ⟨(Nat.le_of_ble_eq_true rfl), (Nat.le_of_ble_eq_true rfl)⟩ dX9_load_74 rfl rfl ?_
    refine aw_aload_n (pc := 77) (i := 0) (x := 164) hM dX9_load_77 rfl rfl ?_
    refine aw_getR (pc := 78) (r := 169) hM fd_X9_35 sk_164 rfl dX9_load_78 ?_
    refine aw_iconst (pc := 81) (v := 0) hM dX9_load_81 (by decide) ?_
    refine aw_aload_n (pc := 82) (i := 0) (x := 164) hM dX9_load_82 rfl rfl ?_
    refine aw_getR (pc := 83) (r := 167) hM fd_X9_29 sk_164 rfl dX9_load_83 ?_
    refine aw_iconst (pc := 86) (v := 0) hM dX9_load_86 (by decide) ?_
    refine aw_bipush (pc := 87) (v := 50) hM dX9_load_87 (by decide) ?_
    obtain ⟨F22, h21, h⟩ := bind_some h
    refine aw_cs1 (pc := 89) (n := 5) (As := [.ref 169, .int 0, .ref 167, .int 0, .int 50]) (st := []) (vo := none) (c2 := 0) (s2 := 0) hM (k_X9_copy (ia_of sk_169) (ia_of sk_167) h21) rfl cw_X9_75 (by decide +kernel) rfl rfl ⟨(Nat.le_of_ble_eq_true rfl), (Nat.le_of_ble_eq_true rfl)⟩ (Nat.le_of_ble_eq_true rfl) ⟨(Nat.le_of_ble_eq_true rfl), (Nat.le_of_ble_eq_true rfl)⟩ dX9_load_89 rfl rfl ?_
    refine aw_aload_n (pc := 92) (i := 0) (x := 164) hM dX9_load_92 rfl rfl ?_
    refine aw_getR (pc := 93) (r := 170) hM fd_X9_38 sk_164 rfl dX9_load_93 ?_
    refine aw_iconst (pc := 96) (v := 0) hM dX9_load_96 (by decide) ?_
    refine aw_aload_n (pc := 97) (i := 0) (x := 164) hM dX9_load_97 rfl rfl ?_
    refine aw_getR (pc := 98) (r := 171) hM fd_X9_41 sk_164 rfl dX9_load_98 ?_
    refine aw_iconst (pc := 101) (v := 0) hM dX9_load_101 (by decide) ?_
    refine aw_bipush (pc := 102) (v := 107) hM dX9_load_102 (by decide) ?_
    obtain ⟨F24, h23, h⟩ := bind_some h
    refine aw_cs1 (pc := 104) (n := 5) (As := [.ref 170, .int 0, .ref 171, .int 0, .int 107]) (st := []) (vo := none) (c2 := 0) (s2 := 0) hM (k_X9_copy (ia_of sk_170) (ia_of sk_171) h23) rfl cw_X9_75 (by decide +kernel) rfl rfl ⟨(Nat.le_of_ble_eq_true rfl), (Nat.le_of_ble_eq_true rfl)⟩ (Nat.le_of_ble_eq_true rfl) ⟨(Nat.le_of_ble_eq_true rfl), (Nat.le_of_ble_eq_true rfl)⟩ dX9_load_104 rfl rfl ?_
    refine aw_aload_n (pc := 107) (i := 0) (x := 164) hM dX9_load_107 rfl rfl ?_
    refine aw_iconst (pc := 108) (v := 0) hM dX9_load_108 (by decide) ?_
    obtain ⟨F25, e26, h⟩ := bind_some h
    have e26 := Option.some.inj e26
    refine aw_put (pc := 109) (ty := .int) hM fd_X9_72 tyX9_ok nmX9 rfl (by decide +kernel) rfl rfl sk_164 rfl dX9_load_109 ?_
    refine aw_mem e26 ?_
    refine aw_aload_n (pc := 112) (i := 0) (x := 164) hM dX9_load_112 rfl rfl ?_
    refine aw_getR (pc := 113) (r := 175) hM fd_X9_53 sk_164 rfl dX9_load_113 ?_
    refine aw_iconst (pc := 116) (v := 0) hM dX9_load_116 (by decide) ?_
    refine aw_iconst (pc := 117) (v := 0) hM dX9_load_117 (by decide) ?_
    obtain ⟨c27, h⟩ := ite_some h
    obtain ⟨F28, e29, h⟩ := bind_some h
    have e29 := Option.some.inj e29
    refine aw_zast (pc := 118) hM sk_175 c27 dX9_load_118 ?_
    refine aw_mem e29 ?_
    refine aw_aload_n (pc := 119) (i := 0) (x := 164) hM dX9_load_119 rfl rfl ?_
    refine aw_getR (pc := 120) (r := 175) hM fd_X9_53 sk_164 rfl dX9_load_120 ?_
    refine aw_iconst (pc := 123) (v := 1) hM dX9_load_123 (by decide) ?_
    refine aw_iconst (pc := 124) (v := 0) hM dX9_load_124 (by decide) ?_
    obtain ⟨c30, h⟩ := ite_some h
    obtain ⟨F31, e32, h⟩ := bind_some h
    have e32 := Option.some.inj e32
    refine aw_zast (pc := 125) hM sk_175 c30 dX9_load_125 ?_
    refine aw_mem e32 ?_
    refine aw_aload_n (pc := 126) (i := 0) (x := 164) hM dX9_load_126 rfl rfl ?_
    refine aw_getI (pc := 127) hM fd_X9_146 sk_164 rfl dX9_load_127 ?_
    obtain rfl := Option.some.inj h
    exact aw_iret (pc := 130) hM dX9_load_130 (Nat.le_of_ble_eq_true rfl) (Nat.le_of_ble_eq_true rfl) hq
  · rw [if_neg c8] at h
    refine aw_iconst (pc := 21) (v := 0) hM dX9_load_21 (by decide) ?_
    obtain rfl := Option.some.inj h
    exact aw_iret (pc := 22) hM dX9_load_22 (Nat.le_of_ble_eq_true rfl) (Nat.le_of_ble_eq_true rfl) hq
set_option maxRecDepth 20000 in
theorem k_X9_load {C : CX} {F : MM} {G : GG} {r : (Int32 × MM)} (h : s_X9_load F = some r) : AM C yX9_load cX9_load 1 (some .int) rmX9_load [.ref 164] F G (fun o F9 G9 => o = (.inl (some (.int r.1))) ∧ F9 = r.2 ∧ G9 = G) := by
  refine am_of (L := [some (.ref 164)]) (by decide) (Nat.le_of_ble_eq_true rfl) rfl (fun M hM hT => ?_)
  have hM : MOk C RX9 cX9_load 1 (some .int) rmX9_load M := hM
  obtain ⟨Q, hQ⟩ : ∃ Q : OUT → MM → GG → Prop, Q = (fun o F9 G9 => o = (.inl (some (.int r.1))) ∧ F9 = r.2 ∧ G9 = G) := ⟨_, rfl⟩
  have hq : Q (.inl (some (.int r.1))) r.2 G := by rw [hQ]; exact ⟨rfl, rfl, rfl⟩
  rw [← hQ]
  clear hQ
  rw [s_X9_load] at h
  refine aw_aload_n (pc := 0) (i := 0) (x := 164) hM dX9_load_0 rfl rfl ?_
  refine aw_aload_n (pc := 1) (i := 0) (x := 164) hM dX9_load_1 rfl rfl ?_
  obtain ⟨z3, h1, h⟩ := bind_some h
  refine aw_cv1 (pc := 2) (n := 0) (As := []) (st := [.ref 164]) (b := 164) (vo := (some (.int z3.1))) (c2 := 0) (s2 := 0) hM (k_X9_readText h1) rfl cw_X9_142 sk_164 rfl rfl (by decide +kernel) rfl rfl ⟨(Nat.le_of_ble_eq_true rfl), (Nat.le_of_ble_eq_true rfl)⟩ (Nat.le_of_ble_eq_true rfl) ⟨(Nat.le_of_ble_eq_true rfl), (Nat.le_of_ble_eq_true rfl)⟩ dX9_load_2 rfl rfl ?_
  refine aw_bipush (pc := 5) (v := (-9)) hM dX9_load_5 (by decide) ?_
  refine aw_icmp_ne (pc := 7) (tgt := 14) hM dX9_load_7 (by decide) (fun c4 => ?_) (fun c4 => ?_)
  · rw [if_neg c4] at h
    refine aw_iconst (pc := 14) (v := 1) hM dX9_load_14 (by decide) ?_
    exact k_X9_load_b15 hM hT hq z3.2 1 h
  · rw [if_pos c4] at h
    refine aw_iconst (pc := 10) (v := 0) hM dX9_load_10 (by decide) ?_
    refine aw_goto (pc := 11) (tgt := 15) hM dX9_load_11 (by decide) ?_
    exact k_X9_load_b15 hM hT hq z3.2 0 h
def rmX9_missing : Room := { frames := 2, cells := 0, slots := 0, locals := 46 }
def s_X9_missing_b37 (k26 : MM → Int32 → Int32 → Int32 → Option (Int32 × MM)) : Nat → MM → Int32 → Int32 → Int32 → Int32 → Int32 → Option (Int32 × MM)
  | 0, _, _, _, _, _, _ => none
  | n + 1, F, x1, x2, x3, x4, x5 => if (F 164 4) ≤ x5 then if x4 = 0 then (some (x2 + 0 : Int32)).bind (fun y15 => (some (x3 + 1 : Int32)).bind (fun y17 => k26 F x1 y15 y17)) else (s_X9_lacking F 171 x1 x3).bind (fun r20 => (some (x2 + r20 : Int32)).bind (fun y21 => (some (x3 + 1 : Int32)).bind (fun y23 => k26 F x1 y21 y23))) else if x4 = 0 then (s_X9_isDrifted F 171 x5 x1).bind (fun r29 => if r29 = 0 then (some (x5 + 1 : Int32)).bind (fun y31 => s_X9_missing_b37 k26 n F x1 x2 x3 0 y31) else (s_X9_at F x5).bind (fun r34 => if inb ((r34 + 6) + x1) 107 then (if (F 171 (ix ((r34 + 6) + x1))) = x3 then (some (x5 + 1 : Int32)).bind (fun y39 => s_X9_missing_b37 k26 n F x1 x2 x3 1 y39) else (some (x5 + 1 : Int32)).bind (fun y37 => s_X9_missing_b37 k26 n F x1 x2 x3 0 y37)) else none)) else (some (x5 + 1 : Int32)).bind (fun y26 => s_X9_missing_b37 k26 n F x1 x2 x3 1 y26)
def s_X9_missing_b26 : Nat → MM → Int32 → Int32 → Int32 → Option (Int32 × MM)
  | 0, _, _, _, _ => none
  | n + 1, F, x1, x2, x3 => if 4 ≤ x3 then some (x2, F) else s_X9_missing_b37 (s_X9_missing_b26 n) fu_ F x1 x2 x3 0 0
def s_X9_missing (F : MM) (p0 : Int32) : Option (Int32 × MM) := (s_X9_isPart F p0).bind (fun r2 => if r2 = 0 then (s_X9_refused F 1).bind (fun z6 => if z6.1 = 0 then s_X9_missing_b26 fu_ z6.2 p0 0 0 else some (0, z6.2)) else (s_X9_refused F 0).bind (fun z10 => if z10.1 = 0 then s_X9_missing_b26 fu_ z10.2 p0 0 0 else some (0, z10.2)))
set_option maxRecDepth 20000 in
theorem k_X9_missing_b37 {C : CX} {M : MX} {G : GG} {Q : OUT → MM → GG → Prop} {k26 : MM → Int32 → Int32 → Int32 → Option (Int32 × MM)} {r : (Int32 × MM)} (hM : MOk C RX9 cX9_missing 6 (some .int) rmX9_missing M) (hT : MNoT M) (hk26 : ∀ (wF : MM) (w0 : Int32) (w1 : Int32) (w2 : Int32), k26 wF w0 w1 w2 = some r → AW C 6 (ZM C rmX9_missing Q M) M 0 0 26 [some (.ref 164), some (.int w0), some (.int w1), some (.int w2), none, none] [] wF G) (hq : Q (.inl (some (.int r.1))) r.2 G) : ∀ (n : Nat) (F : MM) (x1 : Int32) (x2 : Int32) (x3 : Int32) (x4 : Int32) (x5 : Int32), s_X9_missing_b37 k26 n F x1 x2 x3 x4 x5 = some r → AW C 6 (ZM C rmX9_missing Q M) M 0 0 37 [some (.ref 164), some (.int x1), some (.int x2), some (.int x3), some (.int x4), some (.int x5)] [] F G := by
  intro n
  induction n with
  | zero => intro F x1 x2 x3 x4 x5 h; exact nomatch h
  | succ n ih =>
    intro F x1 x2 x3 x4 x5 h
    rw [s_X9_missing_b37] at h
    refine aw_iload (pc := 37) (i := 5) (x := x5) hM dX9_missing_37  rfl ?_
    refine aw_aload_n (pc := 39) (i := 0) (x := 164) hM dX9_missing_39 rfl rfl ?_
    refine aw_getI (pc := 40) hM fd_X9_13 sk_164 rfl dX9_missing_40 ?_
    refine aw_icmp_ge (pc := 43) (tgt := 97) hM dX9_missing_43 (by decide) (fun c13 => ?_) (fun c13 => ?_)
    · rw [if_pos c13] at h
      refine aw_iload_n (pc := 97) (i := 2) (x := x2) hM dX9_missing_97 rfl rfl ?_
      refine aw_iload (pc := 98) (i := 4) (x := x4) hM dX9_missing_98  rfl ?_
      refine aw_if_eq (pc := 100) (tgt := 115) hM dX9_missing_100 (by decide) (fun c14 => ?_) (fun c14 => ?_)
      · rw [if_pos c14] at h
        refine aw_iconst (pc := 115) (v := 0) hM dX9_missing_115 (by decide) ?_
        refine aw_iadd (pc := 116) hM dX9_missing_116 ?_
        obtain ⟨y15, e16, h⟩ := bind_some h
        have e16 := Option.some.inj e16
        refine aw_topi e16 ?_
        refine aw_istore_n (pc := 117) (i := 2) (L' := [some (.ref 164), some (.int x1), some (.int y15), some (.int x3), some (.int x4), some (.int x5)]) hM dX9_missing_117 rfl (by decide) rfl ?_
        obtain ⟨y17, e18, h⟩ := bind_some h
        have e18 := Option.some.inj e18
        refine aw_iinc (pc := 118) (v := y17) (L' := [some (.ref 164), some (.int x1), some (.int y15), some (.int y17), some (.int x4), some (.int x5)]) hM dX9_missing_118 rfl e18 (by decide) rfl ?_
        refine aw_goto (pc := 121) (tgt := 26) hM dX9_missing_121 (by decide) ?_
        refine aw_weak (L' := [some (.ref 164), some (.int x1), some (.int y15), some (.int y17), none, none]) ?_ (lw_of [true, true, true, true, false, false] rfl)
        exact hk26 F x1 y15 y17 h
      · rw [if_neg c14] at h
        refine aw_aload_n (pc := 103) (i := 0) (x := 164) hM dX9_missing_103 rfl rfl ?_
        refine aw_getR (pc := 104) (r := 171) hM fd_X9_41 sk_164 rfl dX9_missing_104 ?_
        refine aw_iload_n (pc := 107) (i := 1) (x := x1) hM dX9_missing_107 rfl rfl ?_
        refine aw_iload_n (pc := 108) (i := 3) (x := x3) hM dX9_missing_108 rfl rfl ?_
        obtain ⟨r20, h19, h⟩ := bind_some h
        refine aw_cs1 (pc := 109) (n := 3) (As := [.ref 171, .int x1, .int x3]) (st := [.int x2]) (vo := (some (.int r20))) (c2 := 0) (s2 := 0) hM (k_X9_lacking (ia_of sk_171) h19) rfl cw_X9_174 (by decide +kernel) rfl rfl ⟨(Nat.le_of_ble_eq_true rfl), (Nat.le_of_ble_eq_true rfl)⟩ (Nat.le_of_ble_eq_true rfl) ⟨(Nat.le_of_ble_eq_true rfl), (Nat.le_of_ble_eq_true rfl)⟩ dX9_missing_109 rfl rfl ?_
        refine aw_goto (pc := 112) (tgt := 116) hM dX9_missing_112 (by decide) ?_
        refine aw_iadd (pc := 116) hM dX9_missing_116 ?_
        obtain ⟨y21, e22, h⟩ := bind_some h
        have e22 := Option.some.inj e22
        refine aw_topi e22 ?_
        refine aw_istore_n (pc := 117) (i := 2) (L' := [some (.ref 164), some (.int x1), some (.int y21), some (.int x3), some (.int x4), some (.int x5)]) hM dX9_missing_117 rfl (by decide) rfl ?_
        obtain ⟨y23, e24, h⟩ := bind_some h
        have e24 := Option.some.inj e24
        refine aw_iinc (pc := 118) (v := y23) (L' := [some (.ref 164), some (.int x1), some (.int y21), some (.int y23), some (.int x4), some (.int x5)]) hM dX9_missing_118 rfl e24 (by decide) rfl ?_
        refine aw_goto (pc := 121) (tgt := 26) hM dX9_missing_121 (by decide) ?_
        refine aw_weak (L' := [some (.ref 164), some (.int x1), some (.int y21), some (.int y23), none, none]) ?_ (lw_of [true, true, true, true, false, false] rfl)
        exact hk26 F x1 y21 y23 h
    · rw [if_neg c13] at h
      refine aw_iload (pc := 46) (i := 4) (x := x4) hM dX9_missing_46  rfl ?_
      refine aw_if_ne (pc := 48) (tgt := 84) hM dX9_missing_48 (by decide) (fun c25 => ?_) (fun c25 => ?_)
      · rw [if_neg c25] at h
        refine aw_iconst (pc := 84) (v := 1) hM dX9_missing_84 (by decide) ?_
        refine aw_goto (pc := 85) (tgt := 89) hM dX9_missing_85 (by decide) ?_
        refine aw_istore (pc := 89) (i := 4) (L' := [some (.ref 164), some (.int x1), some (.int x2), some (.int x3), some (.int 1), some (.int x5)]) hM dX9_missing_89  (by decide) rfl ?_
        obtain ⟨y26, e27, h⟩ := bind_some h
        have e27 := Option.some.inj e27
        refine aw_iinc (pc := 91) (v := y26) (L' := [some (.ref 164), some (.int x1), some (.int x2), some (.int x3), some (.int 1), some (.int y26)]) hM dX9_missing_91 rfl e27 (by decide) rfl ?_
        refine aw_goto (pc := 94) (tgt := 37) hM dX9_missing_94 (by decide) ?_
        exact ih F x1 x2 x3 1 y26 h
      · rw [if_pos c25] at h
        refine aw_aload_n (pc := 51) (i := 0) (x := 164) hM dX9_missing_51 rfl rfl ?_
        refine aw_aload_n (pc := 52) (i := 0) (x := 164) hM dX9_missing_52 rfl rfl ?_
        refine aw_getR (pc := 53) (r := 171) hM fd_X9_41 sk_164 rfl dX9_missing_53 ?_
        refine aw_iload (pc := 56) (i := 5) (x := x5) hM dX9_missing_56  rfl ?_
        refine aw_iload_n (pc := 58) (i := 1) (x := x1) hM dX9_missing_58 rfl rfl ?_
        obtain ⟨r29, h28, h⟩ := bind_some h
        refine aw_cv1 (pc := 59) (n := 3) (As := [.ref 171, .int x5, .int x1]) (st := []) (b := 164) (vo := (some (.int r29))) (c2 := 0) (s2 := 0) hM (k_X9_isDrifted (ia_of sk_171) h28) rfl cw_X9_163 sk_164 rfl rfl (by decide +kernel) rfl rfl ⟨(Nat.le_of_ble_eq_true rfl), (Nat.le_of_ble_eq_true rfl)⟩ (Nat.le_of_ble_eq_true rfl) ⟨(Nat.le_of_ble_eq_true rfl), (Nat.le_of_ble_eq_true rfl)⟩ dX9_missing_59 rfl rfl ?_
        refine aw_if_eq (pc := 62) (tgt := 88) hM dX9_missing_62 (by decide) (fun c30 => ?_) (fun c30 => ?_)
        · rw [if_pos c30] at h
          refine aw_iconst (pc := 88) (v := 0) hM dX9_missing_88 (by decide) ?_
          refine aw_istore (pc := 89) (i := 4) (L' := [some (.ref 164), some (.int x1), some (.int x2), some (.int x3), some (.int 0), some (.int x5)]) hM dX9_missing_89  (by decide) rfl ?_
          obtain ⟨y31, e32, h⟩ := bind_some h
          have e32 := Option.some.inj e32
          refine aw_iinc (pc := 91) (v := y31) (L' := [some (.ref 164), some (.int x1), some (.int x2), some (.int x3), some (.int 0), some (.int y31)]) hM dX9_missing_91 rfl e32 (by decide) rfl ?_
          refine aw_goto (pc := 94) (tgt := 37) hM dX9_missing_94 (by decide) ?_
          exact ih F x1 x2 x3 0 y31 h
        · rw [if_neg c30] at h
          refine aw_aload_n (pc := 65) (i := 0) (x := 164) hM dX9_missing_65 rfl rfl ?_
          refine aw_getR (pc := 66) (r := 171) hM fd_X9_41 sk_164 rfl dX9_missing_66 ?_
          refine aw_iload (pc := 69) (i := 5) (x := x5) hM dX9_missing_69  rfl ?_
          obtain ⟨r34, h33, h⟩ := bind_some h
          refine aw_cs1 (pc := 71) (n := 1) (As := [.int x5]) (st := [.ref 171]) (vo := (some (.int r34))) (c2 := 0) (s2 := 0) hM (k_X9_at h33) rfl cw_X9_126 (by decide +kernel) rfl rfl ⟨(Nat.le_of_ble_eq_true rfl), (Nat.le_of_ble_eq_true rfl)⟩ (Nat.le_of_ble_eq_true rfl) ⟨(Nat.le_of_ble_eq_true rfl), (Nat.le_of_ble_eq_true rfl)⟩ dX9_missing_71 rfl rfl ?_
          refine aw_bipush (pc := 74) (v := 6) hM dX9_missing_74 (by decide) ?_
          refine aw_iadd (pc := 76) hM dX9_missing_76 ?_
          refine aw_iload_n (pc := 77) (i := 1) (x := x1) hM dX9_missing_77 rfl rfl ?_
          refine aw_iadd (pc := 78) hM dX9_missing_78 ?_
          obtain ⟨c35, h⟩ := ite_some h
          refine aw_iald (pc := 79) hM sk_171 c35 dX9_missing_79 ?_
          refine aw_iload_n (pc := 80) (i := 3) (x := x3) hM dX9_missing_80 rfl rfl ?_
          refine aw_icmp_ne (pc := 81) (tgt := 88) hM dX9_missing_81 (by decide) (fun c36 => ?_) (fun c36 => ?_)
          · rw [if_neg c36] at h
            refine aw_iconst (pc := 88) (v := 0) hM dX9_missing_88 (by decide) ?_
            refine aw_istore (pc := 89) (i := 4) (L' := [some (.ref 164), some (.int x1), some (.int x2), some (.int x3), some (.int 0), some (.int x5)]) hM dX9_missing_89  (by decide) rfl ?_
            obtain ⟨y37, e38, h⟩ := bind_some h
            have e38 := Option.some.inj e38
            refine aw_iinc (pc := 91) (v := y37) (L' := [some (.ref 164), some (.int x1), some (.int x2), some (.int x3), some (.int 0), some (.int y37)]) hM dX9_missing_91 rfl e38 (by decide) rfl ?_
            refine aw_goto (pc := 94) (tgt := 37) hM dX9_missing_94 (by decide) ?_
            exact ih F x1 x2 x3 0 y37 h
          · rw [if_pos c36] at h
            refine aw_iconst (pc := 84) (v := 1) hM dX9_missing_84 (by decide) ?_
            refine aw_goto (pc := 85) (tgt := 89) hM dX9_missing_85 (by decide) ?_
            refine aw_istore (pc := 89) (i := 4) (L' := [some (.ref 164), some (.int x1), some (.int x2), some (.int x3), some (.int 1), some (.int x5)]) hM dX9_missing_89  (by decide) rfl ?_
            obtain ⟨y39, e40, h⟩ := bind_some h
            have e40 := Option.some.inj e40
            refine aw_iinc (pc := 91) (v := y39) (L' := [some (.ref 164), some (.int x1), some (.int x2), some (.int x3), some (.int 1), some (.int y39)]) hM dX9_missing_91 rfl e40 (by decide) rfl ?_
            refine aw_goto (pc := 94) (tgt := 37) hM dX9_missing_94 (by decide) ?_
            exact ih F x1 x2 x3 1 y39 h
set_option maxRecDepth 20000 in
theorem k_X9_missing_b26 {C : CX} {M : MX} {G : GG} {Q : OUT → MM → GG → Prop} {r : (Int32 × MM)} (hM : MOk C RX9 cX9_missing 6 (some .int) rmX9_missing M) (hT : MNoT M) (hq : Q (.inl (some (.int r.1))) r.2 G) : ∀ (n : Nat) (F : MM) (x1 : Int32) (x2 : Int32) (x3 : Int32), s_X9_missing_b26 n F x1 x2 x3 = some r → AW C 6 (ZM C rmX9_missing Q M) M 0 0 26 [some (.ref 164), some (.int x1), some (.int x2), some (.int x3), none, none] [] F G := by
  intro n
  induction n with
  | zero => intro F x1 x2 x3 h; exact nomatch h
  | succ n ih =>
    intro F x1 x2 x3 h
    rw [s_X9_missing_b26] at h
    refine aw_iload_n (pc := 26) (i := 3) (x := x3) hM dX9_missing_26 rfl rfl ?_
    refine aw_iconst (pc := 27) (v := 4) hM dX9_missing_27 (by decide) ?_
    refine aw_icmp_ge (pc := 28) (tgt := 124) hM dX9_missing_28 (by decide) (fun c12 => ?_) (fun c12 => ?_)
    · rw [if_pos c12] at h
      refine aw_iload_n (pc := 124) (i := 2) (x := x2) hM dX9_missing_124 rfl rfl ?_
      obtain rfl := Option.some.inj h
      exact aw_iret (pc := 125) hM dX9_missing_125 (Nat.le_of_ble_eq_true rfl) (Nat.le_of_ble_eq_true rfl) hq
    · rw [if_neg c12] at h
      refine aw_iconst (pc := 31) (v := 0) hM dX9_missing_31 (by decide) ?_
      refine aw_istore (pc := 32) (i := 4) (L' := [some (.ref 164), some (.int x1), some (.int x2), some (.int x3), some (.int 0), none]) hM dX9_missing_32  (by decide) rfl ?_
      refine aw_iconst (pc := 34) (v := 0) hM dX9_missing_34 (by decide) ?_
      refine aw_istore (pc := 35) (i := 5) (L' := [some (.ref 164), some (.int x1), some (.int x2), some (.int x3), some (.int 0), some (.int 0)]) hM dX9_missing_35  (by decide) rfl ?_
      exact k_X9_missing_b37 hM hT (fun wF w0 w1 w2 h9 => ih wF w0 w1 w2 h9) hq fu_ F x1 x2 x3 0 0 h
set_option maxRecDepth 20000 in
theorem k_X9_missing {C : CX} {F : MM} {G : GG} {p0 : Int32} {r : (Int32 × MM)} (h : s_X9_missing F p0 = some r) : AM C yX9_missing cX9_missing 6 (some .int) rmX9_missing [.ref 164, .int p0] F G (fun o F9 G9 => o = (.inl (some (.int r.1))) ∧ F9 = r.2 ∧ G9 = G) := by
  refine am_of (L := [some (.ref 164), some (.int p0), none, none, none, none]) (by decide) (Nat.le_of_ble_eq_true rfl) rfl (fun M hM hT => ?_)
  have hM : MOk C RX9 cX9_missing 6 (some .int) rmX9_missing M := hM
  obtain ⟨Q, hQ⟩ : ∃ Q : OUT → MM → GG → Prop, Q = (fun o F9 G9 => o = (.inl (some (.int r.1))) ∧ F9 = r.2 ∧ G9 = G) := ⟨_, rfl⟩
  have hq : Q (.inl (some (.int r.1))) r.2 G := by rw [hQ]; exact ⟨rfl, rfl, rfl⟩
  rw [← hQ]
  clear hQ
  rw [s_X9_missing] at h
  refine aw_aload_n (pc := 0) (i := 0) (x := 164) hM dX9_missing_0 rfl rfl ?_
  refine aw_aload_n (pc := 1) (i := 0) (x := 164) hM dX9_missing_1 rfl rfl ?_
  refine aw_iload_n (pc := 2) (i := 1) (x := p0) hM dX9_missing_2 rfl rfl ?_
  obtain ⟨r2, h1, h⟩ := bind_some h
  refine aw_cv1 (pc := 3) (n := 1) (As := [.int p0]) (st := [.ref 164]) (b := 164) (vo := (some (.int r2))) (c2 := 0) (s2 := 0) hM (k_X9_isPart h1) rfl cw_X9_211 sk_164 rfl rfl (by decide +kernel) rfl rfl ⟨(Nat.le_of_ble_eq_true rfl), (Nat.le_of_ble_eq_true rfl)⟩ (Nat.le_of_ble_eq_true rfl) ⟨(Nat.le_of_ble_eq_true rfl), (Nat.le_of_ble_eq_true rfl)⟩ dX9_missing_3 rfl rfl ?_
  refine aw_if_eq (pc := 6) (tgt := 13) hM dX9_missing_6 (by decide) (fun c3 => ?_) (fun c3 => ?_)
  · rw [if_pos c3] at h
    refine aw_iconst (pc := 13) (v := 1) hM dX9_missing_13 (by decide) ?_
    obtain ⟨z6, h4, h⟩ := bind_some h
    refine aw_cv1 (pc := 14) (n := 1) (As := [.int 1]) (st := []) (b := 164) (vo := (some (.int z6.1))) (c2 := 0) (s2 := 0) hM (k_X9_refused h4) rfl cw_X9_93 sk_164 rfl rfl (by decide +kernel) rfl rfl ⟨(Nat.le_of_ble_eq_true rfl), (Nat.le_of_ble_eq_true rfl)⟩ (Nat.le_of_ble_eq_true rfl) ⟨(Nat.le_of_ble_eq_true rfl), (Nat.le_of_ble_eq_true rfl)⟩ dX9_missing_14 rfl rfl ?_
    refine aw_if_eq (pc := 17) (tgt := 22) hM dX9_missing_17 (by decide) (fun c7 => ?_) (fun c7 => ?_)
    · rw [if_pos c7] at h
      refine aw_iconst (pc := 22) (v := 0) hM dX9_missing_22 (by decide) ?_
      refine aw_istore_n (pc := 23) (i := 2) (L' := [some (.ref 164), some (.int p0), some (.int 0), none, none, none]) hM dX9_missing_23 rfl (by decide) rfl ?_
      refine aw_iconst (pc := 24) (v := 0) hM dX9_missing_24 (by decide) ?_
      refine aw_istore_n (pc := 25) (i := 3) (L' := [some (.ref 164), some (.int p0), some (.int 0), some (.int 0), none, none]) hM dX9_missing_25 rfl (by decide) rfl ?_
      exact k_X9_missing_b26 hM hT hq fu_ z6.2 p0 0 0 h
    · rw [if_neg c7] at h
      refine aw_iconst (pc := 20) (v := 0) hM dX9_missing_20 (by decide) ?_
      obtain rfl := Option.some.inj h
      exact aw_iret (pc := 21) hM dX9_missing_21 (Nat.le_of_ble_eq_true rfl) (Nat.le_of_ble_eq_true rfl) hq
  · rw [if_neg c3] at h
    refine aw_iconst (pc := 9) (v := 0) hM dX9_missing_9 (by decide) ?_
    refine aw_goto (pc := 10) (tgt := 14) hM dX9_missing_10 (by decide) ?_
    obtain ⟨z10, h8, h⟩ := bind_some h
    refine aw_cv1 (pc := 14) (n := 1) (As := [.int 0]) (st := []) (b := 164) (vo := (some (.int z10.1))) (c2 := 0) (s2 := 0) hM (k_X9_refused h8) rfl cw_X9_93 sk_164 rfl rfl (by decide +kernel) rfl rfl ⟨(Nat.le_of_ble_eq_true rfl), (Nat.le_of_ble_eq_true rfl)⟩ (Nat.le_of_ble_eq_true rfl) ⟨(Nat.le_of_ble_eq_true rfl), (Nat.le_of_ble_eq_true rfl)⟩ dX9_missing_14 rfl rfl ?_
    refine aw_if_eq (pc := 17) (tgt := 22) hM dX9_missing_17 (by decide) (fun c11 => ?_) (fun c11 => ?_)
    · rw [if_pos c11] at h
      refine aw_iconst (pc := 22) (v := 0) hM dX9_missing_22 (by decide) ?_
      refine aw_istore_n (pc := 23) (i := 2) (L' := [some (.ref 164), some (.int p0), some (.int 0), none, none, none]) hM dX9_missing_23 rfl (by decide) rfl ?_
      refine aw_iconst (pc := 24) (v := 0) hM dX9_missing_24 (by decide) ?_
      refine aw_istore_n (pc := 25) (i := 3) (L' := [some (.ref 164), some (.int p0), some (.int 0), some (.int 0), none, none]) hM dX9_missing_25 rfl (by decide) rfl ?_
      exact k_X9_missing_b26 hM hT hq fu_ z10.2 p0 0 0 h
    · rw [if_neg c11] at h
      refine aw_iconst (pc := 20) (v := 0) hM dX9_missing_20 (by decide) ?_
      obtain rfl := Option.some.inj h
      exact aw_iret (pc := 21) hM dX9_missing_21 (Nat.le_of_ble_eq_true rfl) (Nat.le_of_ble_eq_true rfl) hq
def rmX9_needed : Room := { frames := 2, cells := 0, slots := 0, locals := 46 }
def s_X9_needed_b17 (F : MM) (x1 : Int32) (x2 : Int32) (x3 : Int32) : Option (Int32 × MM) := (s_X9_refused F 1).bind (fun z26 => if z26.1 = 0 then (s_X9_layNeeds z26.2 x1 x2).bind (fun F29 => if inb x3 6 then (some (F29 179 (ix x3), F29)) else none) else some (0, z26.2))
def s_X9_needed (F : MM) (p0 : Int32) (p1 : Int32) (p2 : Int32) : Option (Int32 × MM) := (s_X9_isPart F p0).bind (fun r2 => if r2 = 0 then s_X9_needed_b17 F p0 p1 p2 else (s_X9_isPart F p2).bind (fun r5 => if r5 = 0 then s_X9_needed_b17 F p0 p1 p2 else (s_X9_isVersion F p1).bind (fun r8 => if r8 = 0 then (s_X9_refused F 2).bind (fun z19 => if z19.1 = 0 then (s_X9_layNeeds z19.2 p0 p1).bind (fun F22 => if inb p2 6 then (some (F22 179 (ix p2), F22)) else none) else some (0, z19.2)) else (s_X9_refused F 0).bind (fun z12 => if z12.1 = 0 then (s_X9_layNeeds z12.2 p0 p1).bind (fun F15 => if inb p2 6 then (some (F15 179 (ix p2), F15)) else none) else some (0, z12.2)))))
set_option maxRecDepth 20000 in
theorem k_X9_needed_b17 {C : CX} {M : MX} {G : GG} {Q : OUT → MM → GG → Prop} {r : (Int32 × MM)} (hM : MOk C RX9 cX9_needed 4 (some .int) rmX9_needed M) (hT : MNoT M) (hq : Q (.inl (some (.int r.1))) r.2 G) (F : MM) (x1 : Int32) (x2 : Int32) (x3 : Int32) (h : s_X9_needed_b17 F x1 x2 x3 = some r) : AW C 4 (ZM C rmX9_needed Q M) M 0 0 17 [some (.ref 164), some (.int x1), some (.int x2), some (.int x3)] [.ref 164] F G := by
  rw [s_X9_needed_b17] at h
  refine aw_iconst (pc := 17) (v := 1) hM dX9_needed_17 (by decide) ?_
  refine aw_goto (pc := 18) (tgt := 33) hM dX9_needed_18 (by decide) ?_
  obtain ⟨z26, h24, h⟩ := bind_some h
  refine aw_cv1 (pc := 33) (n := 1) (As := [.int 1]) (st := []) (b := 164) (vo := (some (.int z26.1))) (c2 := 0) (s2 := 0) hM (k_X9_refused h24) rfl cw_X9_93 sk_164 rfl rfl (by decide +kernel) rfl rfl ⟨(Nat.le_of_ble_eq_true rfl), (Nat.le_of_ble_eq_true rfl)⟩ (Nat.le_of_ble_eq_true rfl) ⟨(Nat.le_of_ble_eq_true rfl), (Nat.le_of_ble_eq_true rfl)⟩ dX9_needed_33 rfl rfl ?_
  refine aw_if_eq (pc := 36) (tgt := 41) hM dX9_needed_36 (by decide) (fun c27 => ?_) (fun c27 => ?_)
  · rw [if_pos c27] at h
    refine aw_aload_n (pc := 41) (i := 0) (x := 164) hM dX9_needed_41 rfl rfl ?_
    refine aw_iload_n (pc := 42) (i := 1) (x := x1) hM dX9_needed_42 rfl rfl ?_
    refine aw_iload_n (pc := 43) (i := 2) (x := x2) hM dX9_needed_43 rfl rfl ?_
    obtain ⟨F29, h28, h⟩ := bind_some h
    refine aw_cv1 (pc := 44) (n := 2) (As := [.int x1, .int x2]) (st := []) (b := 164) (vo := none) (c2 := 0) (s2 := 0) hM (k_X9_layNeeds h28) rfl cw_X9_243 sk_164 rfl rfl (by decide +kernel) rfl rfl ⟨(Nat.le_of_ble_eq_true rfl), (Nat.le_of_ble_eq_true rfl)⟩ (Nat.le_of_ble_eq_true rfl) ⟨(Nat.le_of_ble_eq_true rfl), (Nat.le_of_ble_eq_true rfl)⟩ dX9_needed_44 rfl rfl ?_
    refine aw_aload_n (pc := 47) (i := 0) (x := 164) hM dX9_needed_47 rfl rfl ?_
    refine aw_getR (pc := 48) (r := 179) hM fd_X9_66 sk_164 rfl dX9_needed_48 ?_
    refine aw_iload_n (pc := 51) (i := 3) (x := x3) hM dX9_needed_51 rfl rfl ?_
    obtain ⟨c30, h⟩ := ite_some h
    refine aw_iald (pc := 52) hM sk_179 c30 dX9_needed_52 ?_
    obtain rfl := Option.some.inj h
    exact aw_iret (pc := 53) hM dX9_needed_53 (Nat.le_of_ble_eq_true rfl) (Nat.le_of_ble_eq_true rfl) hq
  · rw [if_neg c27] at h
    refine aw_iconst (pc := 39) (v := 0) hM dX9_needed_39 (by decide) ?_
    obtain rfl := Option.some.inj h
    exact aw_iret (pc := 40) hM dX9_needed_40 (Nat.le_of_ble_eq_true rfl) (Nat.le_of_ble_eq_true rfl) hq
set_option maxRecDepth 20000 in
theorem k_X9_needed {C : CX} {F : MM} {G : GG} {p0 : Int32} {p1 : Int32} {p2 : Int32} {r : (Int32 × MM)} (h : s_X9_needed F p0 p1 p2 = some r) : AM C yX9_needed cX9_needed 4 (some .int) rmX9_needed [.ref 164, .int p0, .int p1, .int p2] F G (fun o F9 G9 => o = (.inl (some (.int r.1))) ∧ F9 = r.2 ∧ G9 = G) := by
  refine am_of (L := [some (.ref 164), some (.int p0), some (.int p1), some (.int p2)]) (by decide) (Nat.le_of_ble_eq_true rfl) rfl (fun M hM hT => ?_)
  have hM : MOk C RX9 cX9_needed 4 (some .int) rmX9_needed M := hM
  obtain ⟨Q, hQ⟩ : ∃ Q : OUT → MM → GG → Prop, Q = (fun o F9 G9 => o = (.inl (some (.int r.1))) ∧ F9 = r.2 ∧ G9 = G) := ⟨_, rfl⟩
  have hq : Q (.inl (some (.int r.1))) r.2 G := by rw [hQ]; exact ⟨rfl, rfl, rfl⟩
  rw [← hQ]
  clear hQ
  rw [s_X9_needed] at h
  refine aw_aload_n (pc := 0) (i := 0) (x := 164) hM dX9_needed_0 rfl rfl ?_
  refine aw_aload_n (pc := 1) (i := 0) (x := 164) hM dX9_needed_1 rfl rfl ?_
  refine aw_iload_n (pc := 2) (i := 1) (x := p0) hM dX9_needed_2 rfl rfl ?_
  obtain ⟨r2, h1, h⟩ := bind_some h
  refine aw_cv1 (pc := 3) (n := 1) (As := [.int p0]) (st := [.ref 164]) (b := 164) (vo := (some (.int r2))) (c2 := 0) (s2 := 0) hM (k_X9_isPart h1) rfl cw_X9_211 sk_164 rfl rfl (by decide +kernel) rfl rfl ⟨(Nat.le_of_ble_eq_true rfl), (Nat.le_of_ble_eq_true rfl)⟩ (Nat.le_of_ble_eq_true rfl) ⟨(Nat.le_of_ble_eq_true rfl), (Nat.le_of_ble_eq_true rfl)⟩ dX9_needed_3 rfl rfl ?_
  refine aw_if_eq (pc := 6) (tgt := 17) hM dX9_needed_6 (by decide) (fun c3 => ?_) (fun c3 => ?_)
  · rw [if_pos c3] at h
    exact k_X9_needed_b17 hM hT hq F p0 p1 p2 h
  · rw [if_neg c3] at h
    refine aw_aload_n (pc := 9) (i := 0) (x := 164) hM dX9_needed_9 rfl rfl ?_
    refine aw_iload_n (pc := 10) (i := 3) (x := p2) hM dX9_needed_10 rfl rfl ?_
    obtain ⟨r5, h4, h⟩ := bind_some h
    refine aw_cv1 (pc := 11) (n := 1) (As := [.int p2]) (st := [.ref 164]) (b := 164) (vo := (some (.int r5))) (c2 := 0) (s2 := 0) hM (k_X9_isPart h4) rfl cw_X9_211 sk_164 rfl rfl (by decide +kernel) rfl rfl ⟨(Nat.le_of_ble_eq_true rfl), (Nat.le_of_ble_eq_true rfl)⟩ (Nat.le_of_ble_eq_true rfl) ⟨(Nat.le_of_ble_eq_true rfl), (Nat.le_of_ble_eq_true rfl)⟩ dX9_needed_11 rfl rfl ?_
    refine aw_if_ne (pc := 14) (tgt := 21) hM dX9_needed_14 (by decide) (fun c6 => ?_) (fun c6 => ?_)
    · rw [if_neg c6] at h
      refine aw_iload_n (pc := 21) (i := 2) (x := p1) hM dX9_needed_21 rfl rfl ?_
      obtain ⟨r8, h7, h⟩ := bind_some h
      refine aw_cs1 (pc := 22) (n := 1) (As := [.int p1]) (st := [.ref 164]) (vo := (some (.int r8))) (c2 := 0) (s2 := 0) hM (k_X9_isVersion h7) rfl cw_X9_216 (by decide +kernel) rfl rfl ⟨(Nat.le_of_ble_eq_true rfl), (Nat.le_of_ble_eq_true rfl)⟩ (Nat.le_of_ble_eq_true rfl) ⟨(Nat.le_of_ble_eq_true rfl), (Nat.le_of_ble_eq_true rfl)⟩ dX9_needed_22 rfl rfl ?_
      refine aw_if_ne (pc := 25) (tgt := 32) hM dX9_needed_25 (by decide) (fun c9 => ?_) (fun c9 => ?_)
      · rw [if_neg c9] at h
        refine aw_iconst (pc := 32) (v := 0) hM dX9_needed_32 (by decide) ?_
        obtain ⟨z12, h10, h⟩ := bind_some h
        refine aw_cv1 (pc := 33) (n := 1) (As := [.int 0]) (st := []) (b := 164) (vo := (some (.int z12.1))) (c2 := 0) (s2 := 0) hM (k_X9_refused h10) rfl cw_X9_93 sk_164 rfl rfl (by decide +kernel) rfl rfl ⟨(Nat.le_of_ble_eq_true rfl), (Nat.le_of_ble_eq_true rfl)⟩ (Nat.le_of_ble_eq_true rfl) ⟨(Nat.le_of_ble_eq_true rfl), (Nat.le_of_ble_eq_true rfl)⟩ dX9_needed_33 rfl rfl ?_
        refine aw_if_eq (pc := 36) (tgt := 41) hM dX9_needed_36 (by decide) (fun c13 => ?_) (fun c13 => ?_)
        · rw [if_pos c13] at h
          refine aw_aload_n (pc := 41) (i := 0) (x := 164) hM dX9_needed_41 rfl rfl ?_
          refine aw_iload_n (pc := 42) (i := 1) (x := p0) hM dX9_needed_42 rfl rfl ?_
          refine aw_iload_n (pc := 43) (i := 2) (x := p1) hM dX9_needed_43 rfl rfl ?_
          obtain ⟨F15, h14, h⟩ := bind_some h
          refine aw_cv1 (pc := 44) (n := 2) (As := [.int p0, .int p1]) (st := []) (b := 164) (vo := none) (c2 := 0) (s2 := 0) hM (k_X9_layNeeds h14) rfl cw_X9_243 sk_164 rfl rfl (by decide +kernel) rfl rfl ⟨(Nat.le_of_ble_eq_true rfl), (Nat.le_of_ble_eq_true rfl)⟩ (Nat.le_of_ble_eq_true rfl) ⟨(Nat.le_of_ble_eq_true rfl), (Nat.le_of_ble_eq_true rfl)⟩ dX9_needed_44 rfl rfl ?_
          refine aw_aload_n (pc := 47) (i := 0) (x := 164) hM dX9_needed_47 rfl rfl ?_
          refine aw_getR (pc := 48) (r := 179) hM fd_X9_66 sk_164 rfl dX9_needed_48 ?_
          refine aw_iload_n (pc := 51) (i := 3) (x := p2) hM dX9_needed_51 rfl rfl ?_
          obtain ⟨c16, h⟩ := ite_some h
          refine aw_iald (pc := 52) hM sk_179 c16 dX9_needed_52 ?_
          obtain rfl := Option.some.inj h
          exact aw_iret (pc := 53) hM dX9_needed_53 (Nat.le_of_ble_eq_true rfl) (Nat.le_of_ble_eq_true rfl) hq
        · rw [if_neg c13] at h
          refine aw_iconst (pc := 39) (v := 0) hM dX9_needed_39 (by decide) ?_
          obtain rfl := Option.some.inj h
          exact aw_iret (pc := 40) hM dX9_needed_40 (Nat.le_of_ble_eq_true rfl) (Nat.le_of_ble_eq_true rfl) hq
      · rw [if_pos c9] at h
        refine aw_iconst (pc := 28) (v := 2) hM dX9_needed_28 (by decide) ?_
        refine aw_goto (pc := 29) (tgt := 33) hM dX9_needed_29 (by decide) ?_
        obtain ⟨z19, h17, h⟩ := bind_some h
        refine aw_cv1 (pc := 33) (n := 1) (As := [.int 2]) (st := []) (b := 164) (vo := (some (.int z19.1))) (c2 := 0) (s2 := 0) hM (k_X9_refused h17) rfl cw_X9_93 sk_164 rfl rfl (by decide +kernel) rfl rfl ⟨(Nat.le_of_ble_eq_true rfl), (Nat.le_of_ble_eq_true rfl)⟩ (Nat.le_of_ble_eq_true rfl) ⟨(Nat.le_of_ble_eq_true rfl), (Nat.le_of_ble_eq_true rfl)⟩ dX9_needed_33 rfl rfl ?_
        refine aw_if_eq (pc := 36) (tgt := 41) hM dX9_needed_36 (by decide) (fun c20 => ?_) (fun c20 => ?_)
        · rw [if_pos c20] at h
          refine aw_aload_n (pc := 41) (i := 0) (x := 164) hM dX9_needed_41 rfl rfl ?_
          refine aw_iload_n (pc := 42) (i := 1) (x := p0) hM dX9_needed_42 rfl rfl ?_
          refine aw_iload_n (pc := 43) (i := 2) (x := p1) hM dX9_needed_43 rfl rfl ?_
          obtain ⟨F22, h21, h⟩ := bind_some h
          refine aw_cv1 (pc := 44) (n := 2) (As := [.int p0, .int p1]) (st := []) (b := 164) (vo := none) (c2 := 0) (s2 := 0) hM (k_X9_layNeeds h21) rfl cw_X9_243 sk_164 rfl rfl (by decide +kernel) rfl rfl ⟨(Nat.le_of_ble_eq_true rfl), (Nat.le_of_ble_eq_true rfl)⟩ (Nat.le_of_ble_eq_true rfl) ⟨(Nat.le_of_ble_eq_true rfl), (Nat.le_of_ble_eq_true rfl)⟩ dX9_needed_44 rfl rfl ?_
          refine aw_aload_n (pc := 47) (i := 0) (x := 164) hM dX9_needed_47 rfl rfl ?_
          refine aw_getR (pc := 48) (r := 179) hM fd_X9_66 sk_164 rfl dX9_needed_48 ?_
          refine aw_iload_n (pc := 51) (i := 3) (x := p2) hM dX9_needed_51 rfl rfl ?_
          obtain ⟨c23, h⟩ := ite_some h
          refine aw_iald (pc := 52) hM sk_179 c23 dX9_needed_52 ?_
          obtain rfl := Option.some.inj h
          exact aw_iret (pc := 53) hM dX9_needed_53 (Nat.le_of_ble_eq_true rfl) (Nat.le_of_ble_eq_true rfl) hq
        · rw [if_neg c20] at h
          refine aw_iconst (pc := 39) (v := 0) hM dX9_needed_39 (by decide) ?_
          obtain rfl := Option.some.inj h
          exact aw_iret (pc := 40) hM dX9_needed_40 (Nat.le_of_ble_eq_true rfl) (Nat.le_of_ble_eq_true rfl) hq
    · rw [if_pos c6] at h
      exact k_X9_needed_b17 hM hT hq F p0 p1 p2 h
def rmX9_next : Room := { frames := 5, cells := 0, slots := 0, locals := 119 }
def s_X9_next (F : MM) (p0 : Int32) : Option (Int32 × MM) := (s_X9_isNode F p0).bind (fun r2 => if r2 = 0 then (s_X9_refused F 1).bind (fun z6 => if z6.1 = 0 then (s_X9_nextOf z6.2 171 p0).bind (fun r9 => some (r9, z6.2)) else some (0, z6.2)) else (s_X9_refused F 0).bind (fun z12 => if z12.1 = 0 then (s_X9_nextOf z12.2 171 p0).bind (fun r15 => some (r15, z12.2)) else some (0, z12.2)))
set_option maxRecDepth 20000 in
theorem k_X9_next {C : CX} {F : MM} {G : GG} {p0 : Int32} {r : (Int32 × MM)} (h : s_X9_next F p0 = some r) : AM C yX9_next cX9_next 2 (some .int) rmX9_next [.ref 164, .int p0] F G (fun o F9 G9 => o = (.inl (some (.int r.1))) ∧ F9 = r.2 ∧ G9 = G) := by
  refine am_of (L := [some (.ref 164), some (.int p0)]) (by decide) (Nat.le_of_ble_eq_true rfl) rfl (fun M hM hT => ?_)
  have hM : MOk C RX9 cX9_next 2 (some .int) rmX9_next M := hM
  obtain ⟨Q, hQ⟩ : ∃ Q : OUT → MM → GG → Prop, Q = (fun o F9 G9 => o = (.inl (some (.int r.1))) ∧ F9 = r.2 ∧ G9 = G) := ⟨_, rfl⟩
  have hq : Q (.inl (some (.int r.1))) r.2 G := by rw [hQ]; exact ⟨rfl, rfl, rfl⟩
  rw [← hQ]
  clear hQ
  rw [s_X9_next] at h
  refine aw_aload_n (pc := 0) (i := 0) (x := 164) hM dX9_next_0 rfl rfl ?_
  refine aw_aload_n (pc := 1) (i := 0) (x := 164) hM dX9_next_1 rfl rfl ?_
  refine aw_iload_n (pc := 2) (i := 1) (x := p0) hM dX9_next_2 rfl rfl ?_
  obtain ⟨r2, h1, h⟩ := bind_some h
  refine aw_cv1 (pc := 3) (n := 1) (As := [.int p0]) (st := [.ref 164]) (b := 164) (vo := (some (.int r2))) (c2 := 0) (s2 := 0) hM (k_X9_isNode h1) rfl cw_X9_203 sk_164 rfl rfl (by decide +kernel) rfl rfl ⟨(Nat.le_of_ble_eq_true rfl), (Nat.le_of_ble_eq_true rfl)⟩ (Nat.le_of_ble_eq_true rfl) ⟨(Nat.le_of_ble_eq_true rfl), (Nat.le_of_ble_eq_true rfl)⟩ dX9_next_3 rfl rfl ?_
  refine aw_if_eq (pc := 6) (tgt := 13) hM dX9_next_6 (by decide) (fun c3 => ?_) (fun c3 => ?_)
  · rw [if_pos c3] at h
    refine aw_iconst (pc := 13) (v := 1) hM dX9_next_13 (by decide) ?_
    obtain ⟨z6, h4, h⟩ := bind_some h
    refine aw_cv1 (pc := 14) (n := 1) (As := [.int 1]) (st := []) (b := 164) (vo := (some (.int z6.1))) (c2 := 0) (s2 := 0) hM (k_X9_refused h4) rfl cw_X9_93 sk_164 rfl rfl (by decide +kernel) rfl rfl ⟨(Nat.le_of_ble_eq_true rfl), (Nat.le_of_ble_eq_true rfl)⟩ (Nat.le_of_ble_eq_true rfl) ⟨(Nat.le_of_ble_eq_true rfl), (Nat.le_of_ble_eq_true rfl)⟩ dX9_next_14 rfl rfl ?_
    refine aw_if_eq (pc := 17) (tgt := 24) hM dX9_next_17 (by decide) (fun c7 => ?_) (fun c7 => ?_)
    · rw [if_pos c7] at h
      refine aw_aload_n (pc := 24) (i := 0) (x := 164) hM dX9_next_24 rfl rfl ?_
      refine aw_aload_n (pc := 25) (i := 0) (x := 164) hM dX9_next_25 rfl rfl ?_
      refine aw_getR (pc := 26) (r := 171) hM fd_X9_41 sk_164 rfl dX9_next_26 ?_
      refine aw_iload_n (pc := 29) (i := 1) (x := p0) hM dX9_next_29 rfl rfl ?_
      obtain ⟨r9, h8, h⟩ := bind_some h
      refine aw_cv1 (pc := 30) (n := 2) (As := [.ref 171, .int p0]) (st := []) (b := 164) (vo := (some (.int r9))) (c2 := 0) (s2 := 0) hM (k_X9_nextOf (ia_of sk_171) h8) rfl cw_X9_187 sk_164 rfl rfl (by decide +kernel) rfl rfl ⟨(Nat.le_of_ble_eq_true rfl), (Nat.le_of_ble_eq_true rfl)⟩ (Nat.le_of_ble_eq_true rfl) ⟨(Nat.le_of_ble_eq_true rfl), (Nat.le_of_ble_eq_true rfl)⟩ dX9_next_30 rfl rfl ?_
      obtain rfl := Option.some.inj h
      exact aw_iret (pc := 33) hM dX9_next_33 (Nat.le_of_ble_eq_true rfl) (Nat.le_of_ble_eq_true rfl) hq
    · rw [if_neg c7] at h
      refine aw_iconst (pc := 20) (v := 0) hM dX9_next_20 (by decide) ?_
      refine aw_goto (pc := 21) (tgt := 33) hM dX9_next_21 (by decide) ?_
      obtain rfl := Option.some.inj h
      exact aw_iret (pc := 33) hM dX9_next_33 (Nat.le_of_ble_eq_true rfl) (Nat.le_of_ble_eq_true rfl) hq
  · rw [if_neg c3] at h
    refine aw_iconst (pc := 9) (v := 0) hM dX9_next_9 (by decide) ?_
    refine aw_goto (pc := 10) (tgt := 14) hM dX9_next_10 (by decide) ?_
    obtain ⟨z12, h10, h⟩ := bind_some h
    refine aw_cv1 (pc := 14) (n := 1) (As := [.int 0]) (st := []) (b := 164) (vo := (some (.int z12.1))) (c2 := 0) (s2 := 0) hM (k_X9_refused h10) rfl cw_X9_93 sk_164 rfl rfl (by decide +kernel) rfl rfl ⟨(Nat.le_of_ble_eq_true rfl), (Nat.le_of_ble_eq_true rfl)⟩ (Nat.le_of_ble_eq_true rfl) ⟨(Nat.le_of_ble_eq_true rfl), (Nat.le_of_ble_eq_true rfl)⟩ dX9_next_14 rfl rfl ?_
    refine aw_if_eq (pc := 17) (tgt := 24) hM dX9_next_17 (by decide) (fun c13 => ?_) (fun c13 => ?_)
    · rw [if_pos c13] at h
      refine aw_aload_n (pc := 24) (i := 0) (x := 164) hM dX9_next_24 rfl rfl ?_
      refine aw_aload_n (pc := 25) (i := 0) (x := 164) hM dX9_next_25 rfl rfl ?_
      refine aw_getR (pc := 26) (r := 171) hM fd_X9_41 sk_164 rfl dX9_next_26 ?_
      refine aw_iload_n (pc := 29) (i := 1) (x := p0) hM dX9_next_29 rfl rfl ?_
      obtain ⟨r15, h14, h⟩ := bind_some h
      refine aw_cv1 (pc := 30) (n := 2) (As := [.ref 171, .int p0]) (st := []) (b := 164) (vo := (some (.int r15))) (c2 := 0) (s2 := 0) hM (k_X9_nextOf (ia_of sk_171) h14) rfl cw_X9_187 sk_164 rfl rfl (by decide +kernel) rfl rfl ⟨(Nat.le_of_ble_eq_true rfl), (Nat.le_of_ble_eq_true rfl)⟩ (Nat.le_of_ble_eq_true rfl) ⟨(Nat.le_of_ble_eq_true rfl), (Nat.le_of_ble_eq_true rfl)⟩ dX9_next_30 rfl rfl ?_
      obtain rfl := Option.some.inj h
      exact aw_iret (pc := 33) hM dX9_next_33 (Nat.le_of_ble_eq_true rfl) (Nat.le_of_ble_eq_true rfl) hq
    · rw [if_neg c13] at h
      refine aw_iconst (pc := 20) (v := 0) hM dX9_next_20 (by decide) ?_
      refine aw_goto (pc := 21) (tgt := 33) hM dX9_next_21 (by decide) ?_
      obtain rfl := Option.some.inj h
      exact aw_iret (pc := 33) hM dX9_next_33 (Nat.le_of_ble_eq_true rfl) (Nat.le_of_ble_eq_true rfl) hq
def rmX9_node : Room := { frames := 4, cells := 0, slots := 0, locals := 90 }
def s_X9_node (F : MM) (p0 : Int32) (p1 : Int32) : Option (Int32 × MM) := (s_X9_isNode F p0).bind (fun r2 => if r2 = 0 then (s_X9_refused F 1).bind (fun z21 => if z21.1 = 0 then (s_X9_tell z21.2 171 p0 p1).bind (fun r24 => some (r24, z21.2)) else some (0, z21.2)) else (s_X9_in F (Int32.toInt64 p1) 0 6).bind (fun r5 => if r5 = 0 then (s_X9_refused F 2).bind (fun z15 => if z15.1 = 0 then (s_X9_tell z15.2 171 p0 p1).bind (fun r18 => some (r18, z15.2)) else some (0, z15.2)) else (s_X9_refused F 0).bind (fun z9 => if z9.1 = 0 then (s_X9_tell z9.2 171 p0 p1).bind (fun r12 => some (r12, z9.2)) else some (0, z9.2))))
set_option maxRecDepth 20000 in
theorem k_X9_node {C : CX} {F : MM} {G : GG} {p0 : Int32} {p1 : Int32} {r : (Int32 × MM)} (h : s_X9_node F p0 p1 = some r) : AM C yX9_node cX9_node 3 (some .int) rmX9_node [.ref 164, .int p0, .int p1] F G (fun o F9 G9 => o = (.inl (some (.int r.1))) ∧ F9 = r.2 ∧ G9 = G) := by
  refine am_of (L := [some (.ref 164), some (.int p0), some (.int p1)]) (by decide) (Nat.le_of_ble_eq_true rfl) rfl (fun M hM hT => ?_)
  have hM : MOk C RX9 cX9_node 3 (some .int) rmX9_node M := hM
  obtain ⟨Q, hQ⟩ : ∃ Q : OUT → MM → GG → Prop, Q = (fun o F9 G9 => o = (.inl (some (.int r.1))) ∧ F9 = r.2 ∧ G9 = G) := ⟨_, rfl⟩
  have hq : Q (.inl (some (.int r.1))) r.2 G := by rw [hQ]; exact ⟨rfl, rfl, rfl⟩
  rw [← hQ]
  clear hQ
  rw [s_X9_node] at h
  refine aw_aload_n (pc := 0) (i := 0) (x := 164) hM dX9_node_0 rfl rfl ?_
  refine aw_aload_n (pc := 1) (i := 0) (x := 164) hM dX9_node_1 rfl rfl ?_
  refine aw_iload_n (pc := 2) (i := 1) (x := p0) hM dX9_node_2 rfl rfl ?_
  obtain ⟨r2, h1, h⟩ := bind_some h
  refine aw_cv1 (pc := 3) (n := 1) (As := [.int p0]) (st := [.ref 164]) (b := 164) (vo := (some (.int r2))) (c2 := 0) (s2 := 0) hM (k_X9_isNode h1) rfl cw_X9_203 sk_164 rfl rfl (by decide +kernel) rfl rfl ⟨(Nat.le_of_ble_eq_true rfl), (Nat.le_of_ble_eq_true rfl)⟩ (Nat.le_of_ble_eq_true rfl) ⟨(Nat.le_of_ble_eq_true rfl), (Nat.le_of_ble_eq_true rfl)⟩ dX9_node_3 rfl rfl ?_
  refine aw_if_ne (pc := 6) (tgt := 13) hM dX9_node_6 (by decide) (fun c3 => ?_) (fun c3 => ?_)
  · rw [if_neg c3] at h
    refine aw_iload_n (pc := 13) (i := 2) (x := p1) hM dX9_node_13 rfl rfl ?_
    refine aw_i2l (pc := 14) hM dX9_node_14 ?_
    refine aw_lconst (pc := 15) (v := 0) hM dX9_node_15 (by decide) ?_
    refine aw_ldc2 (pc := 16) hM gw_1197 dX9_node_16 ?_
    obtain ⟨r5, h4, h⟩ := bind_some h
    refine aw_cs1 (pc := 19) (n := 3) (As := [.long (Int32.toInt64 p1), .long 0, .long 6]) (st := [.ref 164]) (vo := (some (.int r5))) (c2 := 0) (s2 := 0) hM (k_X9_in h4) rfl cw_X9_82 (by decide +kernel) rfl rfl ⟨(Nat.le_of_ble_eq_true rfl), (Nat.le_of_ble_eq_true rfl)⟩ (Nat.le_of_ble_eq_true rfl) ⟨(Nat.le_of_ble_eq_true rfl), (Nat.le_of_ble_eq_true rfl)⟩ dX9_node_19 rfl rfl ?_
    refine aw_if_ne (pc := 22) (tgt := 29) hM dX9_node_22 (by decide) (fun c6 => ?_) (fun c6 => ?_)
    · rw [if_neg c6] at h
      refine aw_iconst (pc := 29) (v := 0) hM dX9_node_29 (by decide) ?_
      obtain ⟨z9, h7, h⟩ := bind_some h
      refine aw_cv1 (pc := 30) (n := 1) (As := [.int 0]) (st := []) (b := 164) (vo := (some (.int z9.1))) (c2 := 0) (s2 := 0) hM (k_X9_refused h7) rfl cw_X9_93 sk_164 rfl rfl (by decide +kernel) rfl rfl ⟨(Nat.le_of_ble_eq_true rfl), (Nat.le_of_ble_eq_true rfl)⟩ (Nat.le_of_ble_eq_true rfl) ⟨(Nat.le_of_ble_eq_true rfl), (Nat.le_of_ble_eq_true rfl)⟩ dX9_node_30 rfl rfl ?_
      refine aw_if_eq (pc := 33) (tgt := 38) hM dX9_node_33 (by decide) (fun c10 => ?_) (fun c10 => ?_)
      · rw [if_pos c10] at h
        refine aw_aload_n (pc := 38) (i := 0) (x := 164) hM dX9_node_38 rfl rfl ?_
        refine aw_aload_n (pc := 39) (i := 0) (x := 164) hM dX9_node_39 rfl rfl ?_
        refine aw_getR (pc := 40) (r := 171) hM fd_X9_41 sk_164 rfl dX9_node_40 ?_
        refine aw_iload_n (pc := 43) (i := 1) (x := p0) hM dX9_node_43 rfl rfl ?_
        refine aw_iload_n (pc := 44) (i := 2) (x := p1) hM dX9_node_44 rfl rfl ?_
        obtain ⟨r12, h11, h⟩ := bind_some h
        refine aw_cv1 (pc := 45) (n := 3) (As := [.ref 171, .int p0, .int p1]) (st := []) (b := 164) (vo := (some (.int r12))) (c2 := 0) (s2 := 0) hM (k_X9_tell (ia_of sk_171) h11) rfl cw_X9_208 sk_164 rfl rfl (by decide +kernel) rfl rfl ⟨(Nat.le_of_ble_eq_true rfl), (Nat.le_of_ble_eq_true rfl)⟩ (Nat.le_of_ble_eq_true rfl) ⟨(Nat.le_of_ble_eq_true rfl), (Nat.le_of_ble_eq_true rfl)⟩ dX9_node_45 rfl rfl ?_
        obtain rfl := Option.some.inj h
        exact aw_iret (pc := 48) hM dX9_node_48 (Nat.le_of_ble_eq_true rfl) (Nat.le_of_ble_eq_true rfl) hq
      · rw [if_neg c10] at h
        refine aw_iconst (pc := 36) (v := 0) hM dX9_node_36 (by decide) ?_
        obtain rfl := Option.some.inj h
        exact aw_iret (pc := 37) hM dX9_node_37 (Nat.le_of_ble_eq_true rfl) (Nat.le_of_ble_eq_true rfl) hq
    · rw [if_pos c6] at h
      refine aw_iconst (pc := 25) (v := 2) hM dX9_node_25 (by decide) ?_
      refine aw_goto (pc := 26) (tgt := 30) hM dX9_node_26 (by decide) ?_
      obtain ⟨z15, h13, h⟩ := bind_some h
      refine aw_cv1 (pc := 30) (n := 1) (As := [.int 2]) (st := []) (b := 164) (vo := (some (.int z15.1))) (c2 := 0) (s2 := 0) hM (k_X9_refused h13) rfl cw_X9_93 sk_164 rfl rfl (by decide +kernel) rfl rfl ⟨(Nat.le_of_ble_eq_true rfl), (Nat.le_of_ble_eq_true rfl)⟩ (Nat.le_of_ble_eq_true rfl) ⟨(Nat.le_of_ble_eq_true rfl), (Nat.le_of_ble_eq_true rfl)⟩ dX9_node_30 rfl rfl ?_
      refine aw_if_eq (pc := 33) (tgt := 38) hM dX9_node_33 (by decide) (fun c16 => ?_) (fun c16 => ?_)
      · rw [if_pos c16] at h
        refine aw_aload_n (pc := 38) (i := 0) (x := 164) hM dX9_node_38 rfl rfl ?_
        refine aw_aload_n (pc := 39) (i := 0) (x := 164) hM dX9_node_39 rfl rfl ?_
        refine aw_getR (pc := 40) (r := 171) hM fd_X9_41 sk_164 rfl dX9_node_40 ?_
        refine aw_iload_n (pc := 43) (i := 1) (x := p0) hM dX9_node_43 rfl rfl ?_
        refine aw_iload_n (pc := 44) (i := 2) (x := p1) hM dX9_node_44 rfl rfl ?_
        obtain ⟨r18, h17, h⟩ := bind_some h
        refine aw_cv1 (pc := 45) (n := 3) (As := [.ref 171, .int p0, .int p1]) (st := []) (b := 164) (vo := (some (.int r18))) (c2 := 0) (s2 := 0) hM (k_X9_tell (ia_of sk_171) h17) rfl cw_X9_208 sk_164 rfl rfl (by decide +kernel) rfl rfl ⟨(Nat.le_of_ble_eq_true rfl), (Nat.le_of_ble_eq_true rfl)⟩ (Nat.le_of_ble_eq_true rfl) ⟨(Nat.le_of_ble_eq_true rfl), (Nat.le_of_ble_eq_true rfl)⟩ dX9_node_45 rfl rfl ?_
        obtain rfl := Option.some.inj h
        exact aw_iret (pc := 48) hM dX9_node_48 (Nat.le_of_ble_eq_true rfl) (Nat.le_of_ble_eq_true rfl) hq
      · rw [if_neg c16] at h
        refine aw_iconst (pc := 36) (v := 0) hM dX9_node_36 (by decide) ?_
        obtain rfl := Option.some.inj h
        exact aw_iret (pc := 37) hM dX9_node_37 (Nat.le_of_ble_eq_true rfl) (Nat.le_of_ble_eq_true rfl) hq
  · rw [if_pos c3] at h
    refine aw_iconst (pc := 9) (v := 1) hM dX9_node_9 (by decide) ?_
    refine aw_goto (pc := 10) (tgt := 30) hM dX9_node_10 (by decide) ?_
    obtain ⟨z21, h19, h⟩ := bind_some h
    refine aw_cv1 (pc := 30) (n := 1) (As := [.int 1]) (st := []) (b := 164) (vo := (some (.int z21.1))) (c2 := 0) (s2 := 0) hM (k_X9_refused h19) rfl cw_X9_93 sk_164 rfl rfl (by decide +kernel) rfl rfl ⟨(Nat.le_of_ble_eq_true rfl), (Nat.le_of_ble_eq_true rfl)⟩ (Nat.le_of_ble_eq_true rfl) ⟨(Nat.le_of_ble_eq_true rfl), (Nat.le_of_ble_eq_true rfl)⟩ dX9_node_30 rfl rfl ?_
    refine aw_if_eq (pc := 33) (tgt := 38) hM dX9_node_33 (by decide) (fun c22 => ?_) (fun c22 => ?_)
    · rw [if_pos c22] at h
      refine aw_aload_n (pc := 38) (i := 0) (x := 164) hM dX9_node_38 rfl rfl ?_
      refine aw_aload_n (pc := 39) (i := 0) (x := 164) hM dX9_node_39 rfl rfl ?_
      refine aw_getR (pc := 40) (r := 171) hM fd_X9_41 sk_164 rfl dX9_node_40 ?_
      refine aw_iload_n (pc := 43) (i := 1) (x := p0) hM dX9_node_43 rfl rfl ?_
      refine aw_iload_n (pc := 44) (i := 2) (x := p1) hM dX9_node_44 rfl rfl ?_
      obtain ⟨r24, h23, h⟩ := bind_some h
      refine aw_cv1 (pc := 45) (n := 3) (As := [.ref 171, .int p0, .int p1]) (st := []) (b := 164) (vo := (some (.int r24))) (c2 := 0) (s2 := 0) hM (k_X9_tell (ia_of sk_171) h23) rfl cw_X9_208 sk_164 rfl rfl (by decide +kernel) rfl rfl ⟨(Nat.le_of_ble_eq_true rfl), (Nat.le_of_ble_eq_true rfl)⟩ (Nat.le_of_ble_eq_true rfl) ⟨(Nat.le_of_ble_eq_true rfl), (Nat.le_of_ble_eq_true rfl)⟩ dX9_node_45 rfl rfl ?_
      obtain rfl := Option.some.inj h
      exact aw_iret (pc := 48) hM dX9_node_48 (Nat.le_of_ble_eq_true rfl) (Nat.le_of_ble_eq_true rfl) hq
    · rw [if_neg c22] at h
      refine aw_iconst (pc := 36) (v := 0) hM dX9_node_36 (by decide) ?_
      obtain rfl := Option.some.inj h
      exact aw_iret (pc := 37) hM dX9_node_37 (Nat.le_of_ble_eq_true rfl) (Nat.le_of_ble_eq_true rfl) hq
def rmX9_pardon : Room := { frames := 2, cells := 0, slots := 0, locals := 46 }
def s_X9_pardon_b29 (F : MM) (x1 : Int32) (t0 : Int32) : Option (Int32 × MM) := (s_X9_refused F t0).bind (fun z9 => if z9.1 = 0 then (s_X9_note z9.2).bind (fun F12 => (s_X9_at F12 x1).bind (fun r14 => if inb (r14 + 14) 107 then (if inb 0 107 then ((some ((F12 171 (ix (r14 + 14))) - (F12 171 (ix 0)) : Int32)).bind (fun y17 => (s_X9_at F12 x1).bind (fun r20 => if inb 0 107 then (if inb (r20 + 14) 107 then ((some (mup F12 171 (ix (r20 + 14)) (F12 171 (ix 0)))).bind (fun F23 => (s_X9_at F23 x1).bind (fun r26 => if inb (r26 + 13) 107 then ((some (mup F23 171 (ix (r26 + 13)) 0)).bind (fun F28 => some (y17, F28))) else none))) else none) else none))) else none) else none)) else some (0, z9.2))
def s_X9_pardon (F : MM) (p0 : Int32) : Option (Int32 × MM) := (s_X9_isNode F p0).bind (fun r2 => if r2 = 0 then s_X9_pardon_b29 F p0 1 else (s_X9_isQuarantined F 171 p0).bind (fun r5 => if r5 = 0 then s_X9_pardon_b29 F p0 2 else s_X9_pardon_b29 F p0 0))
set_option maxRecDepth 20000 in
theorem k_X9_pardon_b29 {C : CX} {M : MX} {G : GG} {Q : OUT → MM → GG → Prop} {r : (Int32 × MM)} (hM : MOk C RX9 cX9_pardon 3 (some .int) rmX9_pardon M) (hT : MNoT M) (hq : Q (.inl (some (.int r.1))) r.2 G) (F : MM) (x1 : Int32) (t0 : Int32) (h : s_X9_pardon_b29 F x1 t0 = some r) : AW C 3 (ZM C rmX9_pardon Q M) M 0 0 29 [some (.ref 164), some (.int x1), none] [.int t0, .ref 164] F G := by
  rw [s_X9_pardon_b29] at h
  obtain ⟨z9, h7, h⟩ := bind_some h
  refine aw_cv1 (pc := 29) (n := 1) (As := [.int t0]) (st := []) (b := 164) (vo := (some (.int z9.1))) (c2 := 0) (s2 := 0) hM (k_X9_refused h7) rfl cw_X9_93 sk_164 rfl rfl (by decide +kernel) rfl rfl ⟨(Nat.le_of_ble_eq_true rfl), (Nat.le_of_ble_eq_true rfl)⟩ (Nat.le_of_ble_eq_true rfl) ⟨(Nat.le_of_ble_eq_true rfl), (Nat.le_of_ble_eq_true rfl)⟩ dX9_pardon_29 rfl rfl ?_
  refine aw_if_eq (pc := 32) (tgt := 37) hM dX9_pardon_32 (by decide) (fun c10 => ?_) (fun c10 => ?_)
  · rw [if_pos c10] at h
    refine aw_aload_n (pc := 37) (i := 0) (x := 164) hM dX9_pardon_37 rfl rfl ?_
    obtain ⟨F12, h11, h⟩ := bind_some h
    refine aw_cv1 (pc := 38) (n := 0) (As := []) (st := []) (b := 164) (vo := none) (c2 := 0) (s2 := 0) hM (k_X9_note h11) rfl cw_X9_79 sk_164 rfl rfl (by decide +kernel) rfl rfl ⟨(Nat.le_of_ble_eq_true rfl), (Nat.le_of_ble_eq_true rfl)⟩ (Nat.le_of_ble_eq_true rfl) ⟨(Nat.le_of_ble_eq_true rfl), (Nat.le_of_ble_eq_true rfl)⟩ dX9_pardon_38 rfl rfl ?_
    refine aw_aload_n (pc := 41) (i := 0) (x := 164) hM dX9_pardon_41 rfl rfl ?_
    refine aw_getR (pc := 42) (r := 171) hM fd_X9_41 sk_164 rfl dX9_pardon_42 ?_
    refine aw_iload_n (pc := 45) (i := 1) (x := x1) hM dX9_pardon_45 rfl rfl ?_
    obtain ⟨r14, h13, h⟩ := bind_some h
    refine aw_cs1 (pc := 46) (n := 1) (As := [.int x1]) (st := [.ref 171]) (vo := (some (.int r14))) (c2 := 0) (s2 := 0) hM (k_X9_at h13) rfl cw_X9_126 (by decide +kernel) rfl rfl ⟨(Nat.le_of_ble_eq_true rfl), (Nat.le_of_ble_eq_true rfl)⟩ (Nat.le_of_ble_eq_true rfl) ⟨(Nat.le_of_ble_eq_true rfl), (Nat.le_of_ble_eq_true rfl)⟩ dX9_pardon_46 rfl rfl ?_
    refine aw_bipush (pc := 49) (v := 14) hM dX9_pardon_49 (by decide) ?_
    refine aw_iadd (pc := 51) hM dX9_pardon_51 ?_
    obtain ⟨c15, h⟩ := ite_some h
    refine aw_iald (pc := 52) hM sk_171 c15 dX9_pardon_52 ?_
    refine aw_aload_n (pc := 53) (i := 0) (x := 164) hM dX9_pardon_53 rfl rfl ?_
    refine aw_getR (pc := 54) (r := 171) hM fd_X9_41 sk_164 rfl dX9_pardon_54 ?_
    refine aw_iconst (pc := 57) (v := 0) hM dX9_pardon_57 (by decide) ?_
    obtain ⟨c16, h⟩ := ite_some h
    refine aw_iald (pc := 58) hM sk_171 c16 dX9_pardon_58 ?_
    refine aw_isub (pc := 59) hM dX9_pardon_59 ?_
    obtain ⟨y17, e18, h⟩ := bind_some h
    have e18 := Option.some.inj e18
    refine aw_topi e18 ?_
    refine aw_istore_n (pc := 60) (i := 2) (L' := [some (.ref 164), some (.int x1), some (.int y17)]) hM dX9_pardon_60 rfl (by decide) rfl ?_
    refine aw_aload_n (pc := 61) (i := 0) (x := 164) hM dX9_pardon_61 rfl rfl ?_
    refine aw_getR (pc := 62) (r := 171) hM fd_X9_41 sk_164 rfl dX9_pardon_62 ?_
    refine aw_iload_n (pc := 65) (i := 1) (x := x1) hM dX9_pardon_65 rfl rfl ?_
    obtain ⟨r20, h19, h⟩ := bind_some h
    refine aw_cs1 (pc := 66) (n := 1) (As := [.int x1]) (st := [.ref 171]) (vo := (some (.int r20))) (c2 := 0) (s2 := 0) hM (k_X9_at h19) rfl cw_X9_126 (by decide +kernel) rfl rfl ⟨(Nat.le_of_ble_eq_true rfl), (Nat.le_of_ble_eq_true rfl)⟩ (Nat.le_of_ble_eq_true rfl) ⟨(Nat.le_of_ble_eq_true rfl), (Nat.le_of_ble_eq_true rfl)⟩ dX9_pardon_66 rfl rfl ?_
    refine aw_bipush (pc := 69) (v := 14) hM dX9_pardon_69 (by decide) ?_
    refine aw_iadd (pc := 71) hM dX9_pardon_71 ?_
    refine aw_aload_n (pc := 72) (i := 0) (x := 164) hM dX9_pardon_72 rfl rfl ?_
    refine aw_getR (pc := 73) (r := 171) hM fd_X9_41 sk_164 rfl dX9_pardon_73 ?_
    refine aw_iconst (pc := 76) (v := 0) hM dX9_pardon_76 (by decide) ?_
    obtain ⟨c21, h⟩ := ite_some h
    refine aw_iald (pc := 77) hM sk_171 c21 dX9_pardon_77 ?_
    obtain ⟨c22, h⟩ := ite_some h
    obtain ⟨F23, e24, h⟩ := bind_some h
    have e24 := Option.some.inj e24
    refine aw_iast (pc := 78) hM sk_171 c22 dX9_pardon_78 ?_
    refine aw_mem e24 ?_
    refine aw_aload_n (pc := 79) (i := 0) (x := 164) hM dX9_pardon_79 rfl rfl ?_
    refine aw_getR (pc := 80) (r := 171) hM fd_X9_41 sk_164 rfl dX9_pardon_80 ?_
    refine aw_iload_n (pc := 83) (i := 1) (x := x1) hM dX9_pardon_83 rfl rfl ?_
    obtain ⟨r26, h25, h⟩ := bind_some h
    refine aw_cs1 (pc := 84) (n := 1) (As := [.int x1]) (st := [.ref 171]) (vo := (some (.int r26))) (c2 := 0) (s2 := 0) hM (k_X9_at h25) rfl cw_X9_126 (by decide +kernel) rfl rfl ⟨(Nat.le_of_ble_eq_true rfl), (Nat.le_of_ble_eq_true rfl)⟩ (Nat.le_of_ble_eq_true rfl) ⟨(Nat.le_of_ble_eq_true rfl), (Nat.le_of_ble_eq_true rfl)⟩ dX9_pardon_84 rfl rfl ?_
    refine aw_bipush (pc := 87) (v := 13) hM dX9_pardon_87 (by decide) ?_
    refine aw_iadd (pc := 89) hM dX9_pardon_89 ?_
    refine aw_iconst (pc := 90) (v := 0) hM dX9_pardon_90 (by decide) ?_
    obtain ⟨c27, h⟩ := ite_some h
    obtain ⟨F28, e29, h⟩ := bind_some h
    have e29 := Option.some.inj e29
    refine aw_iast (pc := 91) hM sk_171 c27 dX9_pardon_91 ?_
    refine aw_mem e29 ?_
    refine aw_iload_n (pc := 92) (i := 2) (x := y17) hM dX9_pardon_92 rfl rfl ?_
    obtain rfl := Option.some.inj h
    exact aw_iret (pc := 93) hM dX9_pardon_93 (Nat.le_of_ble_eq_true rfl) (Nat.le_of_ble_eq_true rfl) hq
  · rw [if_neg c10] at h
    refine aw_iconst (pc := 35) (v := 0) hM dX9_pardon_35 (by decide) ?_
    obtain rfl := Option.some.inj h
    exact aw_iret (pc := 36) hM dX9_pardon_36 (Nat.le_of_ble_eq_true rfl) (Nat.le_of_ble_eq_true rfl) hq
set_option maxRecDepth 20000 in
theorem k_X9_pardon {C : CX} {F : MM} {G : GG} {p0 : Int32} {r : (Int32 × MM)} (h : s_X9_pardon F p0 = some r) : AM C yX9_pardon cX9_pardon 3 (some .int) rmX9_pardon [.ref 164, .int p0] F G (fun o F9 G9 => o = (.inl (some (.int r.1))) ∧ F9 = r.2 ∧ G9 = G) := by
  refine am_of (L := [some (.ref 164), some (.int p0), none]) (by decide) (Nat.le_of_ble_eq_true rfl) rfl (fun M hM hT => ?_)
  have hM : MOk C RX9 cX9_pardon 3 (some .int) rmX9_pardon M := hM
  obtain ⟨Q, hQ⟩ : ∃ Q : OUT → MM → GG → Prop, Q = (fun o F9 G9 => o = (.inl (some (.int r.1))) ∧ F9 = r.2 ∧ G9 = G) := ⟨_, rfl⟩
  have hq : Q (.inl (some (.int r.1))) r.2 G := by rw [hQ]; exact ⟨rfl, rfl, rfl⟩
  rw [← hQ]
  clear hQ
  rw [s_X9_pardon] at h
  refine aw_aload_n (pc := 0) (i := 0) (x := 164) hM dX9_pardon_0 rfl rfl ?_
  refine aw_aload_n (pc := 1) (i := 0) (x := 164) hM dX9_pardon_1 rfl rfl ?_
  refine aw_iload_n (pc := 2) (i := 1) (x := p0) hM dX9_pardon_2 rfl rfl ?_
  obtain ⟨r2, h1, h⟩ := bind_some h
  refine aw_cv1 (pc := 3) (n := 1) (As := [.int p0]) (st := [.ref 164]) (b := 164) (vo := (some (.int r2))) (c2 := 0) (s2 := 0) hM (k_X9_isNode h1) rfl cw_X9_203 sk_164 rfl rfl (by decide +kernel) rfl rfl ⟨(Nat.le_of_ble_eq_true rfl), (Nat.le_of_ble_eq_true rfl)⟩ (Nat.le_of_ble_eq_true rfl) ⟨(Nat.le_of_ble_eq_true rfl), (Nat.le_of_ble_eq_true rfl)⟩ dX9_pardon_3 rfl rfl ?_
  refine aw_if_ne (pc := 6) (tgt := 13) hM dX9_pardon_6 (by decide) (fun c3 => ?_) (fun c3 => ?_)
  · rw [if_neg c3] at h
    refine aw_aload_n (pc := 13) (i := 0) (x := 164) hM dX9_pardon_13 rfl rfl ?_
    refine aw_getR (pc := 14) (r := 171) hM fd_X9_41 sk_164 rfl dX9_pardon_14 ?_
    refine aw_iload_n (pc := 17) (i := 1) (x := p0) hM dX9_pardon_17 rfl rfl ?_
    obtain ⟨r5, h4, h⟩ := bind_some h
    refine aw_cs1 (pc := 18) (n := 2) (As := [.ref 171, .int p0]) (st := [.ref 164]) (vo := (some (.int r5))) (c2 := 0) (s2 := 0) hM (k_X9_isQuarantined (ia_of sk_171) h4) rfl cw_X9_170 (by decide +kernel) rfl rfl ⟨(Nat.le_of_ble_eq_true rfl), (Nat.le_of_ble_eq_true rfl)⟩ (Nat.le_of_ble_eq_true rfl) ⟨(Nat.le_of_ble_eq_true rfl), (Nat.le_of_ble_eq_true rfl)⟩ dX9_pardon_18 rfl rfl ?_
    refine aw_if_ne (pc := 21) (tgt := 28) hM dX9_pardon_21 (by decide) (fun c6 => ?_) (fun c6 => ?_)
    · rw [if_neg c6] at h
      refine aw_iconst (pc := 28) (v := 0) hM dX9_pardon_28 (by decide) ?_
      exact k_X9_pardon_b29 hM hT hq F p0 0 h
    · rw [if_pos c6] at h
      refine aw_iconst (pc := 24) (v := 2) hM dX9_pardon_24 (by decide) ?_
      refine aw_goto (pc := 25) (tgt := 29) hM dX9_pardon_25 (by decide) ?_
      exact k_X9_pardon_b29 hM hT hq F p0 2 h
  · rw [if_pos c3] at h
    refine aw_iconst (pc := 9) (v := 1) hM dX9_pardon_9 (by decide) ?_
    refine aw_goto (pc := 10) (tgt := 29) hM dX9_pardon_10 (by decide) ?_
    exact k_X9_pardon_b29 hM hT hq F p0 1 h
def rmX9_quorum : Room := { frames := 2, cells := 0, slots := 0, locals := 46 }
def s_X9_quorum (F : MM) (p0 : Int32) : Option (Int32 × MM) := (s_X9_isPart F p0).bind (fun r2 => if r2 = 0 then (s_X9_refused F 1).bind (fun z6 => if z6.1 = 0 then (s_X9_partAt z6.2 p0).bind (fun r9 => if inb r9 107 then (some (z6.2 171 (ix r9), z6.2)) else none) else some (0, z6.2)) else (s_X9_refused F 0).bind (fun z13 => if z13.1 = 0 then (s_X9_partAt z13.2 p0).bind (fun r16 => if inb r16 107 then (some (z13.2 171 (ix r16), z13.2)) else none) else some (0, z13.2)))
set_option maxRecDepth 20000 in
theorem k_X9_quorum {C : CX} {F : MM} {G : GG} {p0 : Int32} {r : (Int32 × MM)} (h : s_X9_quorum F p0 = some r) : AM C yX9_quorum cX9_quorum 2 (some .int) rmX9_quorum [.ref 164, .int p0] F G (fun o F9 G9 => o = (.inl (some (.int r.1))) ∧ F9 = r.2 ∧ G9 = G) := by
  refine am_of (L := [some (.ref 164), some (.int p0)]) (by decide) (Nat.le_of_ble_eq_true rfl) rfl (fun M hM hT => ?_)
  have hM : MOk C RX9 cX9_quorum 2 (some .int) rmX9_quorum M := hM
  obtain ⟨Q, hQ⟩ : ∃ Q : OUT → MM → GG → Prop, Q = (fun o F9 G9 => o = (.inl (some (.int r.1))) ∧ F9 = r.2 ∧ G9 = G) := ⟨_, rfl⟩
  have hq : Q (.inl (some (.int r.1))) r.2 G := by rw [hQ]; exact ⟨rfl, rfl, rfl⟩
  rw [← hQ]
  clear hQ
  rw [s_X9_quorum] at h
  refine aw_aload_n (pc := 0) (i := 0) (x := 164) hM dX9_quorum_0 rfl rfl ?_
  refine aw_aload_n (pc := 1) (i := 0) (x := 164) hM dX9_quorum_1 rfl rfl ?_
  refine aw_iload_n (pc := 2) (i := 1) (x := p0) hM dX9_quorum_2 rfl rfl ?_
  obtain ⟨r2, h1, h⟩ := bind_some h
  refine aw_cv1 (pc := 3) (n := 1) (As := [.int p0]) (st := [.ref 164]) (b := 164) (vo := (some (.int r2))) (c2 := 0) (s2 := 0) hM (k_X9_isPart h1) rfl cw_X9_211 sk_164 rfl rfl (by decide +kernel) rfl rfl ⟨(Nat.le_of_ble_eq_true rfl), (Nat.le_of_ble_eq_true rfl)⟩ (Nat.le_of_ble_eq_true rfl) ⟨(Nat.le_of_ble_eq_true rfl), (Nat.le_of_ble_eq_true rfl)⟩ dX9_quorum_3 rfl rfl ?_
  refine aw_if_eq (pc := 6) (tgt := 13) hM dX9_quorum_6 (by decide) (fun c3 => ?_) (fun c3 => ?_)
  · rw [if_pos c3] at h
    refine aw_iconst (pc := 13) (v := 1) hM dX9_quorum_13 (by decide) ?_
    obtain ⟨z6, h4, h⟩ := bind_some h
    refine aw_cv1 (pc := 14) (n := 1) (As := [.int 1]) (st := []) (b := 164) (vo := (some (.int z6.1))) (c2 := 0) (s2 := 0) hM (k_X9_refused h4) rfl cw_X9_93 sk_164 rfl rfl (by decide +kernel) rfl rfl ⟨(Nat.le_of_ble_eq_true rfl), (Nat.le_of_ble_eq_true rfl)⟩ (Nat.le_of_ble_eq_true rfl) ⟨(Nat.le_of_ble_eq_true rfl), (Nat.le_of_ble_eq_true rfl)⟩ dX9_quorum_14 rfl rfl ?_
    refine aw_if_eq (pc := 17) (tgt := 24) hM dX9_quorum_17 (by decide) (fun c7 => ?_) (fun c7 => ?_)
    · rw [if_pos c7] at h
      refine aw_aload_n (pc := 24) (i := 0) (x := 164) hM dX9_quorum_24 rfl rfl ?_
      refine aw_getR (pc := 25) (r := 171) hM fd_X9_41 sk_164 rfl dX9_quorum_25 ?_
      refine aw_iload_n (pc := 28) (i := 1) (x := p0) hM dX9_quorum_28 rfl rfl ?_
      obtain ⟨r9, h8, h⟩ := bind_some h
      refine aw_cs1 (pc := 29) (n := 1) (As := [.int p0]) (st := [.ref 171]) (vo := (some (.int r9))) (c2 := 0) (s2 := 0) hM (k_X9_partAt h8) rfl cw_X9_119 (by decide +kernel) rfl rfl ⟨(Nat.le_of_ble_eq_true rfl), (Nat.le_of_ble_eq_true rfl)⟩ (Nat.le_of_ble_eq_true rfl) ⟨(Nat.le_of_ble_eq_true rfl), (Nat.le_of_ble_eq_true rfl)⟩ dX9_quorum_29 rfl rfl ?_
      obtain ⟨c10, h⟩ := ite_some h
      refine aw_iald (pc := 32) hM sk_171 c10 dX9_quorum_32 ?_
      obtain rfl := Option.some.inj h
      exact aw_iret (pc := 33) hM dX9_quorum_33 (Nat.le_of_ble_eq_true rfl) (Nat.le_of_ble_eq_true rfl) hq
    · rw [if_neg c7] at h
      refine aw_iconst (pc := 20) (v := 0) hM dX9_quorum_20 (by decide) ?_
      refine aw_goto (pc := 21) (tgt := 33) hM dX9_quorum_21 (by decide) ?_
      obtain rfl := Option.some.inj h
      exact aw_iret (pc := 33) hM dX9_quorum_33 (Nat.le_of_ble_eq_true rfl) (Nat.le_of_ble_eq_true rfl) hq
  · rw [if_neg c3] at h
    refine aw_iconst (pc := 9) (v := 0) hM dX9_quorum_9 (by decide) ?_
    refine aw_goto (pc := 10) (tgt := 14) hM dX9_quorum_10 (by decide) ?_
    obtain ⟨z13, h11, h⟩ := bind_some h
    refine aw_cv1 (pc := 14) (n := 1) (As := [.int 0]) (st := []) (b := 164) (vo := (some (.int z13.1))) (c2 := 0) (s2 := 0) hM (k_X9_refused h11) rfl cw_X9_93 sk_164 rfl rfl (by decide +kernel) rfl rfl ⟨(Nat.le_of_ble_eq_true rfl), (Nat.le_of_ble_eq_true rfl)⟩ (Nat.le_of_ble_eq_true rfl) ⟨(Nat.le_of_ble_eq_true rfl), (Nat.le_of_ble_eq_true rfl)⟩ dX9_quorum_14 rfl rfl ?_
    refine aw_if_eq (pc := 17) (tgt := 24) hM dX9_quorum_17 (by decide) (fun c14 => ?_) (fun c14 => ?_)
    · rw [if_pos c14] at h
      refine aw_aload_n (pc := 24) (i := 0) (x := 164) hM dX9_quorum_24 rfl rfl ?_
      refine aw_getR (pc := 25) (r := 171) hM fd_X9_41 sk_164 rfl dX9_quorum_25 ?_
      refine aw_iload_n (pc := 28) (i := 1) (x := p0) hM dX9_quorum_28 rfl rfl ?_
      obtain ⟨r16, h15, h⟩ := bind_some h
      refine aw_cs1 (pc := 29) (n := 1) (As := [.int p0]) (st := [.ref 171]) (vo := (some (.int r16))) (c2 := 0) (s2 := 0) hM (k_X9_partAt h15) rfl cw_X9_119 (by decide +kernel) rfl rfl ⟨(Nat.le_of_ble_eq_true rfl), (Nat.le_of_ble_eq_true rfl)⟩ (Nat.le_of_ble_eq_true rfl) ⟨(Nat.le_of_ble_eq_true rfl), (Nat.le_of_ble_eq_true rfl)⟩ dX9_quorum_29 rfl rfl ?_
      obtain ⟨c17, h⟩ := ite_some h
      refine aw_iald (pc := 32) hM sk_171 c17 dX9_quorum_32 ?_
      obtain rfl := Option.some.inj h
      exact aw_iret (pc := 33) hM dX9_quorum_33 (Nat.le_of_ble_eq_true rfl) (Nat.le_of_ble_eq_true rfl) hq
    · rw [if_neg c14] at h
      refine aw_iconst (pc := 20) (v := 0) hM dX9_quorum_20 (by decide) ?_
      refine aw_goto (pc := 21) (tgt := 33) hM dX9_quorum_21 (by decide) ?_
      obtain rfl := Option.some.inj h
      exact aw_iret (pc := 33) hM dX9_quorum_33 (Nat.le_of_ble_eq_true rfl) (Nat.le_of_ble_eq_true rfl) hq
def rmX9_ranked : Room := { frames := 4, cells := 0, slots := 0, locals := 88 }
def s_X9_ranked_b40 (k26 : MM → Int32 → Int32 → Int32 → Option (Int32 × MM)) : Nat → MM → Int32 → Int32 → Int32 → Int32 → Int32 → Option (Int32 × MM)
  | 0, _, _, _, _, _, _ => none
  | n + 1, F, x1, x2, x3, x4, x5 => if (F 164 4) ≤ x5 then if x4 = x1 then (some (x3 + 1 : Int32)).bind (fun y17 => k26 F x1 x3 y17) else (some (x3 + 1 : Int32)).bind (fun y15 => k26 F x1 x2 y15) else (s_X9_distance F x5).bind (fun r20 => (s_X9_distance F x3).bind (fun r22 => if r22 < r20 then (some (x4 + 1 : Int32)).bind (fun y24 => (some (x5 + 1 : Int32)).bind (fun y26 => s_X9_ranked_b40 k26 n F x1 x2 x3 y24 y26)) else (s_X9_distance F x5).bind (fun r29 => (s_X9_distance F x3).bind (fun r31 => if r29 = r31 then if x3 ≤ x5 then (some (x4 + 0 : Int32)).bind (fun y38 => (some (x5 + 1 : Int32)).bind (fun y40 => s_X9_ranked_b40 k26 n F x1 x2 x3 y38 y40)) else (some (x4 + 1 : Int32)).bind (fun y42 => (some (x5 + 1 : Int32)).bind (fun y44 => s_X9_ranked_b40 k26 n F x1 x2 x3 y42 y44)) else (some (x4 + 0 : Int32)).bind (fun y33 => (some (x5 + 1 : Int32)).bind (fun y35 => s_X9_ranked_b40 k26 n F x1 x2 x3 y33 y35))))))
def s_X9_ranked_b26 : Nat → MM → Int32 → Int32 → Int32 → Option (Int32 × MM)
  | 0, _, _, _, _ => none
  | n + 1, F, x1, x2, x3 => if (F 164 4) ≤ x3 then some (x2, F) else s_X9_ranked_b40 (s_X9_ranked_b26 n) fu_ F x1 x2 x3 0 0
def s_X9_ranked (F : MM) (p0 : Int32) : Option (Int32 × MM) := (s_X9_isNode F p0).bind (fun r2 => if r2 = 0 then (s_X9_refused F 1).bind (fun z6 => if z6.1 = 0 then s_X9_ranked_b26 fu_ z6.2 p0 0 0 else some (0, z6.2)) else (s_X9_refused F 0).bind (fun z10 => if z10.1 = 0 then s_X9_ranked_b26 fu_ z10.2 p0 0 0 else some (0, z10.2)))
set_option maxRecDepth 20000 in
theorem k_X9_ranked_b40 {C : CX} {M : MX} {G : GG} {Q : OUT → MM → GG → Prop} {k26 : MM → Int32 → Int32 → Int32 → Option (Int32 × MM)} {r : (Int32 × MM)} (hM : MOk C RX9 cX9_ranked 6 (some .int) rmX9_ranked M) (hT : MNoT M) (hk26 : ∀ (wF : MM) (w0 : Int32) (w1 : Int32) (w2 : Int32), k26 wF w0 w1 w2 = some r → AW C 6 (ZM C rmX9_ranked Q M) M 0 0 26 [some (.ref 164), some (.int w0), some (.int w1), some (.int w2), none, none] [] wF G) (hq : Q (.inl (some (.int r.1))) r.2 G) : ∀ (n : Nat) (F : MM) (x1 : Int32) (x2 : Int32) (x3 : Int32) (x4 : Int32) (x5 : Int32), s_X9_ranked_b40 k26 n F x1 x2 x3 x4 x5 = some r → AW C 6 (ZM C rmX9_ranked Q M) M 0 0 40 [some (.ref 164), some (.int x1), some (.int x2), some (.int x3), some (.int x4), some (.int x5)] [] F G := by
  intro n
  induction n with
  | zero => intro F x1 x2 x3 x4 x5 h; exact nomatch h
  | succ n ih =>
    intro F x1 x2 x3 x4 x5 h
    rw [s_X9_ranked_b40] at h
    refine aw_iload (pc := 40) (i := 5) (x := x5) hM dX9_ranked_40  rfl ?_
    refine aw_aload_n (pc := 42) (i := 0) (x := 164) hM dX9_ranked_42 rfl rfl ?_
    refine aw_getI (pc := 43) hM fd_X9_13 sk_164 rfl dX9_ranked_43 ?_
    refine aw_icmp_ge (pc := 46) (tgt := 99) hM dX9_ranked_46 (by decide) (fun c13 => ?_) (fun c13 => ?_)
    · rw [if_pos c13] at h
      refine aw_iload (pc := 99) (i := 4) (x := x4) hM dX9_ranked_99  rfl ?_
      refine aw_iload_n (pc := 101) (i := 1) (x := x1) hM dX9_ranked_101 rfl rfl ?_
      refine aw_icmp_ne (pc := 102) (tgt := 109) hM dX9_ranked_102 (by decide) (fun c14 => ?_) (fun c14 => ?_)
      · rw [if_neg c14] at h
        refine aw_iload_n (pc := 109) (i := 2) (x := x2) hM dX9_ranked_109 rfl rfl ?_
        refine aw_istore_n (pc := 110) (i := 2) (L' := [some (.ref 164), some (.int x1), some (.int x2), some (.int x3), some (.int x4), some (.int x5)]) hM dX9_ranked_110 rfl (by decide) rfl ?_
        obtain ⟨y15, e16, h⟩ := bind_some h
        have e16 := Option.some.inj e16
        refine aw_iinc (pc := 111) (v := y15) (L' := [some (.ref 164), some (.int x1), some (.int x2), some (.int y15), some (.int x4), some (.int x5)]) hM dX9_ranked_111 rfl e16 (by decide) rfl ?_
        refine aw_goto (pc := 114) (tgt := 26) hM dX9_ranked_114 (by decide) ?_
        refine aw_weak (L' := [some (.ref 164), some (.int x1), some (.int x2), some (.int y15), none, none]) ?_ (lw_of [true, true, true, true, false, false] rfl)
        exact hk26 F x1 x2 y15 h
      · rw [if_pos c14] at h
        refine aw_iload_n (pc := 105) (i := 3) (x := x3) hM dX9_ranked_105 rfl rfl ?_
        refine aw_goto (pc := 106) (tgt := 110) hM dX9_ranked_106 (by decide) ?_
        refine aw_istore_n (pc := 110) (i := 2) (L' := [some (.ref 164), some (.int x1), some (.int x3), some (.int x3), some (.int x4), some (.int x5)]) hM dX9_ranked_110 rfl (by decide) rfl ?_
        obtain ⟨y17, e18, h⟩ := bind_some h
        have e18 := Option.some.inj e18
        refine aw_iinc (pc := 111) (v := y17) (L' := [some (.ref 164), some (.int x1), some (.int x3), some (.int y17), some (.int x4), some (.int x5)]) hM dX9_ranked_111 rfl e18 (by decide) rfl ?_
        refine aw_goto (pc := 114) (tgt := 26) hM dX9_ranked_114 (by decide) ?_
        refine aw_weak (L' := [some (.ref 164), some (.int x1), some (.int x3), some (.int y17), none, none]) ?_ (lw_of [true, true, true, true, false, false] rfl)
        exact hk26 F x1 x3 y17 h
    · rw [if_neg c13] at h
      refine aw_iload (pc := 49) (i := 4) (x := x4) hM dX9_ranked_49  rfl ?_
      refine aw_aload_n (pc := 51) (i := 0) (x := 164) hM dX9_ranked_51 rfl rfl ?_
      refine aw_iload (pc := 52) (i := 5) (x := x5) hM dX9_ranked_52  rfl ?_
      obtain ⟨r20, h19, h⟩ := bind_some h
      refine aw_cv1 (pc := 54) (n := 1) (As := [.int x5]) (st := [.int x4]) (b := 164) (vo := (some (.int r20))) (c2 := 0) (s2 := 0) hM (k_X9_distance h19) rfl cw_X9_249 sk_164 rfl rfl (by decide +kernel) rfl rfl ⟨(Nat.le_of_ble_eq_true rfl), (Nat.le_of_ble_eq_true rfl)⟩ (Nat.le_of_ble_eq_true rfl) ⟨(Nat.le_of_ble_eq_true rfl), (Nat.le_of_ble_eq_true rfl)⟩ dX9_ranked_54 rfl rfl ?_
      refine aw_aload_n (pc := 57) (i := 0) (x := 164) hM dX9_ranked_57 rfl rfl ?_
      refine aw_iload_n (pc := 58) (i := 3) (x := x3) hM dX9_ranked_58 rfl rfl ?_
      obtain ⟨r22, h21, h⟩ := bind_some h
      refine aw_cv1 (pc := 59) (n := 1) (As := [.int x3]) (st := [.int r20, .int x4]) (b := 164) (vo := (some (.int r22))) (c2 := 0) (s2 := 0) hM (k_X9_distance h21) rfl cw_X9_249 sk_164 rfl rfl (by decide +kernel) rfl rfl ⟨(Nat.le_of_ble_eq_true rfl), (Nat.le_of_ble_eq_true rfl)⟩ (Nat.le_of_ble_eq_true rfl) ⟨(Nat.le_of_ble_eq_true rfl), (Nat.le_of_ble_eq_true rfl)⟩ dX9_ranked_59 rfl rfl ?_
      refine aw_icmp_gt (pc := 62) (tgt := 85) hM dX9_ranked_62 (by decide) (fun c23 => ?_) (fun c23 => ?_)
      · rw [if_pos c23] at h
        refine aw_iconst (pc := 85) (v := 1) hM dX9_ranked_85 (by decide) ?_
        refine aw_goto (pc := 86) (tgt := 90) hM dX9_ranked_86 (by decide) ?_
        refine aw_iadd (pc := 90) hM dX9_ranked_90 ?_
        obtain ⟨y24, e25, h⟩ := bind_some h
        have e25 := Option.some.inj e25
        refine aw_topi e25 ?_
        refine aw_istore (pc := 91) (i := 4) (L' := [some (.ref 164), some (.int x1), some (.int x2), some (.int x3), some (.int y24), some (.int x5)]) hM dX9_ranked_91  (by decide) rfl ?_
        obtain ⟨y26, e27, h⟩ := bind_some h
        have e27 := Option.some.inj e27
        refine aw_iinc (pc := 93) (v := y26) (L' := [some (.ref 164), some (.int x1), some (.int x2), some (.int x3), some (.int y24), some (.int y26)]) hM dX9_ranked_93 rfl e27 (by decide) rfl ?_
        refine aw_goto (pc := 96) (tgt := 40) hM dX9_ranked_96 (by decide) ?_
        exact ih F x1 x2 x3 y24 y26 h
      · rw [if_neg c23] at h
        refine aw_aload_n (pc := 65) (i := 0) (x := 164) hM dX9_ranked_65 rfl rfl ?_
        refine aw_iload (pc := 66) (i := 5) (x := x5) hM dX9_ranked_66  rfl ?_
        obtain ⟨r29, h28, h⟩ := bind_some h
        refine aw_cv1 (pc := 68) (n := 1) (As := [.int x5]) (st := [.int x4]) (b := 164) (vo := (some (.int r29))) (c2 := 0) (s2 := 0) hM (k_X9_distance h28) rfl cw_X9_249 sk_164 rfl rfl (by decide +kernel) rfl rfl ⟨(Nat.le_of_ble_eq_true rfl), (Nat.le_of_ble_eq_true rfl)⟩ (Nat.le_of_ble_eq_true rfl) ⟨(Nat.le_of_ble_eq_true rfl), (Nat.le_of_ble_eq_true rfl)⟩ dX9_ranked_68 rfl rfl ?_
        refine aw_aload_n (pc := 71) (i := 0) (x := 164) hM dX9_ranked_71 rfl rfl ?_
        refine aw_iload_n (pc := 72) (i := 3) (x := x3) hM dX9_ranked_72 rfl rfl ?_
        obtain ⟨r31, h30, h⟩ := bind_some h
        refine aw_cv1 (pc := 73) (n := 1) (As := [.int x3]) (st := [.int r29, .int x4]) (b := 164) (vo := (some (.int r31))) (c2 := 0) (s2 := 0) hM (k_X9_distance h30) rfl cw_X9_249 sk_164 rfl rfl (by decide +kernel) rfl rfl ⟨(Nat.le_of_ble_eq_true rfl), (Nat.le_of_ble_eq_true rfl)⟩ (Nat.le_of_ble_eq_true rfl) ⟨(Nat.le_of_ble_eq_true rfl), (Nat.le_of_ble_eq_true rfl)⟩ dX9_ranked_73 rfl rfl ?_
        refine aw_icmp_ne (pc := 76) (tgt := 89) hM dX9_ranked_76 (by decide) (fun c32 => ?_) (fun c32 => ?_)
        · rw [if_neg c32] at h
          refine aw_iconst (pc := 89) (v := 0) hM dX9_ranked_89 (by decide) ?_
          refine aw_iadd (pc := 90) hM dX9_ranked_90 ?_
          obtain ⟨y33, e34, h⟩ := bind_some h
          have e34 := Option.some.inj e34
          refine aw_topi e34 ?_
          refine aw_istore (pc := 91) (i := 4) (L' := [some (.ref 164), some (.int x1), some (.int x2), some (.int x3), some (.int y33), some (.int x5)]) hM dX9_ranked_91  (by decide) rfl ?_
          obtain ⟨y35, e36, h⟩ := bind_some h
          have e36 := Option.some.inj e36
          refine aw_iinc (pc := 93) (v := y35) (L' := [some (.ref 164), some (.int x1), some (.int x2), some (.int x3), some (.int y33), some (.int y35)]) hM dX9_ranked_93 rfl e36 (by decide) rfl ?_
          refine aw_goto (pc := 96) (tgt := 40) hM dX9_ranked_96 (by decide) ?_
          exact ih F x1 x2 x3 y33 y35 h
        · rw [if_pos c32] at h
          refine aw_iload (pc := 79) (i := 5) (x := x5) hM dX9_ranked_79  rfl ?_
          refine aw_iload_n (pc := 81) (i := 3) (x := x3) hM dX9_ranked_81 rfl rfl ?_
          refine aw_icmp_ge (pc := 82) (tgt := 89) hM dX9_ranked_82 (by decide) (fun c37 => ?_) (fun c37 => ?_)
          · rw [if_pos c37] at h
            refine aw_iconst (pc := 89) (v := 0) hM dX9_ranked_89 (by decide) ?_
            refine aw_iadd (pc := 90) hM dX9_ranked_90 ?_
            obtain ⟨y38, e39, h⟩ := bind_some h
            have e39 := Option.some.inj e39
            refine aw_topi e39 ?_
            refine aw_istore (pc := 91) (i := 4) (L' := [some (.ref 164), some (.int x1), some (.int x2), some (.int x3), some (.int y38), some (.int x5)]) hM dX9_ranked_91  (by decide) rfl ?_
            obtain ⟨y40, e41, h⟩ := bind_some h
            have e41 := Option.some.inj e41
            refine aw_iinc (pc := 93) (v := y40) (L' := [some (.ref 164), some (.int x1), some (.int x2), some (.int x3), some (.int y38), some (.int y40)]) hM dX9_ranked_93 rfl e41 (by decide) rfl ?_
            refine aw_goto (pc := 96) (tgt := 40) hM dX9_ranked_96 (by decide) ?_
            exact ih F x1 x2 x3 y38 y40 h
          · rw [if_neg c37] at h
            refine aw_iconst (pc := 85) (v := 1) hM dX9_ranked_85 (by decide) ?_
            refine aw_goto (pc := 86) (tgt := 90) hM dX9_ranked_86 (by decide) ?_
            refine aw_iadd (pc := 90) hM dX9_ranked_90 ?_
            obtain ⟨y42, e43, h⟩ := bind_some h
            have e43 := Option.some.inj e43
            refine aw_topi e43 ?_
            refine aw_istore (pc := 91) (i := 4) (L' := [some (.ref 164), some (.int x1), some (.int x2), some (.int x3), some (.int y42), some (.int x5)]) hM dX9_ranked_91  (by decide) rfl ?_
            obtain ⟨y44, e45, h⟩ := bind_some h
            have e45 := Option.some.inj e45
            refine aw_iinc (pc := 93) (v := y44) (L' := [some (.ref 164), some (.int x1), some (.int x2), some (.int x3), some (.int y42), some (.int y44)]) hM dX9_ranked_93 rfl e45 (by decide) rfl ?_
            refine aw_goto (pc := 96) (tgt := 40) hM dX9_ranked_96 (by decide) ?_
            exact ih F x1 x2 x3 y42 y44 h
set_option maxRecDepth 20000 in
theorem k_X9_ranked_b26 {C : CX} {M : MX} {G : GG} {Q : OUT → MM → GG → Prop} {r : (Int32 × MM)} (hM : MOk C RX9 cX9_ranked 6 (some .int) rmX9_ranked M) (hT : MNoT M) (hq : Q (.inl (some (.int r.1))) r.2 G) : ∀ (n : Nat) (F : MM) (x1 : Int32) (x2 : Int32) (x3 : Int32), s_X9_ranked_b26 n F x1 x2 x3 = some r → AW C 6 (ZM C rmX9_ranked Q M) M 0 0 26 [some (.ref 164), some (.int x1), some (.int x2), some (.int x3), none, none] [] F G := by
  intro n
  induction n with
  | zero => intro F x1 x2 x3 h; exact nomatch h
  | succ n ih =>
    intro F x1 x2 x3 h
    rw [s_X9_ranked_b26] at h
    refine aw_iload_n (pc := 26) (i := 3) (x := x3) hM dX9_ranked_26 rfl rfl ?_
    refine aw_aload_n (pc := 27) (i := 0) (x := 164) hM dX9_ranked_27 rfl rfl ?_
    refine aw_getI (pc := 28) hM fd_X9_13 sk_164 rfl dX9_ranked_28 ?_
    refine aw_icmp_ge (pc := 31) (tgt := 117) hM dX9_ranked_31 (by decide) (fun c12 => ?_) (fun c12 => ?_)
    · rw [if_pos c12] at h
      refine aw_iload_n (pc := 117) (i := 2) (x := x2) hM dX9_ranked_117 rfl rfl ?_
      obtain rfl := Option.some.inj h
      exact aw_iret (pc := 118) hM dX9_ranked_118 (Nat.le_of_ble_eq_true rfl) (Nat.le_of_ble_eq_true rfl) hq
    · rw [if_neg c12] at h
      refine aw_iconst (pc := 34) (v := 0) hM dX9_ranked_34 (by decide) ?_
      refine aw_istore (pc := 35) (i := 4) (L' := [some (.ref 164), some (.int x1), some (.int x2), some (.int x3), some (.int 0), none]) hM dX9_ranked_35  (by decide) rfl ?_
      refine aw_iconst (pc := 37) (v := 0) hM dX9_ranked_37 (by decide) ?_
      refine aw_istore (pc := 38) (i := 5) (L' := [some (.ref 164), some (.int x1), some (.int x2), some (.int x3), some (.int 0), some (.int 0)]) hM dX9_ranked_38  (by decide) rfl ?_
      exact k_X9_ranked_b40 hM hT (fun wF w0 w1 w2 h9 => ih wF w0 w1 w2 h9) hq fu_ F x1 x2 x3 0 0 h
set_option maxRecDepth 20000 in
theorem k_X9_ranked {C : CX} {F : MM} {G : GG} {p0 : Int32} {r : (Int32 × MM)} (h : s_X9_ranked F p0 = some r) : AM C yX9_ranked cX9_ranked 6 (some .int) rmX9_ranked [.ref 164, .int p0] F G (fun o F9 G9 => o = (.inl (some (.int r.1))) ∧ F9 = r.2 ∧ G9 = G) := by
  refine am_of (L := [some (.ref 164), some (.int p0), none, none, none, none]) (by decide) (Nat.le_of_ble_eq_true rfl) rfl (fun M hM hT => ?_)
  have hM : MOk C RX9 cX9_ranked 6 (some .int) rmX9_ranked M := hM
  obtain ⟨Q, hQ⟩ : ∃ Q : OUT → MM → GG → Prop, Q = (fun o F9 G9 => o = (.inl (some (.int r.1))) ∧ F9 = r.2 ∧ G9 = G) := ⟨_, rfl⟩
  have hq : Q (.inl (some (.int r.1))) r.2 G := by rw [hQ]; exact ⟨rfl, rfl, rfl⟩
  rw [← hQ]
  clear hQ
  rw [s_X9_ranked] at h
  refine aw_aload_n (pc := 0) (i := 0) (x := 164) hM dX9_ranked_0 rfl rfl ?_
  refine aw_aload_n (pc := 1) (i := 0) (x := 164) hM dX9_ranked_1 rfl rfl ?_
  refine aw_iload_n (pc := 2) (i := 1) (x := p0) hM dX9_ranked_2 rfl rfl ?_
  obtain ⟨r2, h1, h⟩ := bind_some h
  refine aw_cv1 (pc := 3) (n := 1) (As := [.int p0]) (st := [.ref 164]) (b := 164) (vo := (some (.int r2))) (c2 := 0) (s2 := 0) hM (k_X9_isNode h1) rfl cw_X9_203 sk_164 rfl rfl (by decide +kernel) rfl rfl ⟨(Nat.le_of_ble_eq_true rfl), (Nat.le_of_ble_eq_true rfl)⟩ (Nat.le_of_ble_eq_true rfl) ⟨(Nat.le_of_ble_eq_true rfl), (Nat.le_of_ble_eq_true rfl)⟩ dX9_ranked_3 rfl rfl ?_
  refine aw_if_eq (pc := 6) (tgt := 13) hM dX9_ranked_6 (by decide) (fun c3 => ?_) (fun c3 => ?_)
  · rw [if_pos c3] at h
    refine aw_iconst (pc := 13) (v := 1) hM dX9_ranked_13 (by decide) ?_
    obtain ⟨z6, h4, h⟩ := bind_some h
    refine aw_cv1 (pc := 14) (n := 1) (As := [.int 1]) (st := []) (b := 164) (vo := (some (.int z6.1))) (c2 := 0) (s2 := 0) hM (k_X9_refused h4) rfl cw_X9_93 sk_164 rfl rfl (by decide +kernel) rfl rfl ⟨(Nat.le_of_ble_eq_true rfl), (Nat.le_of_ble_eq_true rfl)⟩ (Nat.le_of_ble_eq_true rfl) ⟨(Nat.le_of_ble_eq_true rfl), (Nat.le_of_ble_eq_true rfl)⟩ dX9_ranked_14 rfl rfl ?_
    refine aw_if_eq (pc := 17) (tgt := 22) hM dX9_ranked_17 (by decide) (fun c7 => ?_) (fun c7 => ?_)
    · rw [if_pos c7] at h
      refine aw_iconst (pc := 22) (v := 0) hM dX9_ranked_22 (by decide) ?_
      refine aw_istore_n (pc := 23) (i := 2) (L' := [some (.ref 164), some (.int p0), some (.int 0), none, none, none]) hM dX9_ranked_23 rfl (by decide) rfl ?_
      refine aw_iconst (pc := 24) (v := 0) hM dX9_ranked_24 (by decide) ?_
      refine aw_istore_n (pc := 25) (i := 3) (L' := [some (.ref 164), some (.int p0), some (.int 0), some (.int 0), none, none]) hM dX9_ranked_25 rfl (by decide) rfl ?_
      exact k_X9_ranked_b26 hM hT hq fu_ z6.2 p0 0 0 h
    · rw [if_neg c7] at h
      refine aw_iconst (pc := 20) (v := 0) hM dX9_ranked_20 (by decide) ?_
      obtain rfl := Option.some.inj h
      exact aw_iret (pc := 21) hM dX9_ranked_21 (Nat.le_of_ble_eq_true rfl) (Nat.le_of_ble_eq_true rfl) hq
  · rw [if_neg c3] at h
    refine aw_iconst (pc := 9) (v := 0) hM dX9_ranked_9 (by decide) ?_
    refine aw_goto (pc := 10) (tgt := 14) hM dX9_ranked_10 (by decide) ?_
    obtain ⟨z10, h8, h⟩ := bind_some h
    refine aw_cv1 (pc := 14) (n := 1) (As := [.int 0]) (st := []) (b := 164) (vo := (some (.int z10.1))) (c2 := 0) (s2 := 0) hM (k_X9_refused h8) rfl cw_X9_93 sk_164 rfl rfl (by decide +kernel) rfl rfl ⟨(Nat.le_of_ble_eq_true rfl), (Nat.le_of_ble_eq_true rfl)⟩ (Nat.le_of_ble_eq_true rfl) ⟨(Nat.le_of_ble_eq_true rfl), (Nat.le_of_ble_eq_true rfl)⟩ dX9_ranked_14 rfl rfl ?_
    refine aw_if_eq (pc := 17) (tgt := 22) hM dX9_ranked_17 (by decide) (fun c11 => ?_) (fun c11 => ?_)
    · rw [if_pos c11] at h
      refine aw_iconst (pc := 22) (v := 0) hM dX9_ranked_22 (by decide) ?_
      refine aw_istore_n (pc := 23) (i := 2) (L' := [some (.ref 164), some (.int p0), some (.int 0), none, none, none]) hM dX9_ranked_23 rfl (by decide) rfl ?_
      refine aw_iconst (pc := 24) (v := 0) hM dX9_ranked_24 (by decide) ?_
      refine aw_istore_n (pc := 25) (i := 3) (L' := [some (.ref 164), some (.int p0), some (.int 0), some (.int 0), none, none]) hM dX9_ranked_25 rfl (by decide) rfl ?_
      exact k_X9_ranked_b26 hM hT hq fu_ z10.2 p0 0 0 h
    · rw [if_neg c11] at h
      refine aw_iconst (pc := 20) (v := 0) hM dX9_ranked_20 (by decide) ?_
      obtain rfl := Option.some.inj h
      exact aw_iret (pc := 21) hM dX9_ranked_21 (Nat.le_of_ble_eq_true rfl) (Nat.le_of_ble_eq_true rfl) hq
def rmX9_restore : Room := { frames := 1, cells := 0, slots := 0, locals := 25 }
def s_X9_restore_b29 (F : MM) (x1 : Int32) (t0 : Int32) : Option (Int32 × MM) := (s_X9_refused F t0).bind (fun z8 => if z8.1 = 0 then (s_X9_copy z8.2 174 (107 * x1) 171 0 107).bind (fun F11 => (some (mup F11 164 22 0)).bind (fun F12 => if inb 0 107 then (some (F12 171 (ix 0), F12)) else none)) else some (0, z8.2))
def s_X9_restore (F : MM) (p0 : Int32) : Option (Int32 × MM) := (s_X9_in F (Int32.toInt64 p0) 0 1).bind (fun r2 => if r2 = 0 then s_X9_restore_b29 F p0 1 else if inb p0 2 then (if (F 175 (ix p0)) = 0 then s_X9_restore_b29 F p0 2 else s_X9_restore_b29 F p0 0) else none)
set_option maxRecDepth 20000 in
theorem k_X9_restore_b29 {C : CX} {M : MX} {G : GG} {Q : OUT → MM → GG → Prop} {r : (Int32 × MM)} (hM : MOk C RX9 cX9_restore 2 (some .int) rmX9_restore M) (hT : MNoT M) (hq : Q (.inl (some (.int r.1))) r.2 G) (F : MM) (x1 : Int32) (t0 : Int32) (h : s_X9_restore_b29 F x1 t0 = some r) : AW C 2 (ZM C rmX9_restore Q M) M 0 0 29 [some (.ref 164), some (.int x1)] [.int t0, .ref 164] F G := by
  rw [s_X9_restore_b29] at h
  obtain ⟨z8, h6, h⟩ := bind_some h
  refine aw_cv1 (pc := 29) (n := 1) (As := [.int t0]) (st := []) (b := 164) (vo := (some (.int z8.1))) (c2 := 0) (s2 := 0) hM (k_X9_refused h6) rfl cw_X9_93 sk_164 rfl rfl (by decide +kernel) rfl rfl ⟨(Nat.le_of_ble_eq_true rfl), (Nat.le_of_ble_eq_true rfl)⟩ (Nat.le_of_ble_eq_true rfl) ⟨(Nat.le_of_ble_eq_true rfl), (Nat.le_of_ble_eq_true rfl)⟩ dX9_restore_29 rfl rfl ?_
  refine aw_if_eq (pc := 32) (tgt := 37) hM dX9_restore_32 (by decide) (fun c9 => ?_) (fun c9 => ?_)
  · rw [if_pos c9] at h
    refine aw_aload_n (pc := 37) (i := 0) (x := 164) hM dX9_restore_37 rfl rfl ?_
    refine aw_getR (pc := 38) (r := 174) hM fd_X9_50 sk_164 rfl dX9_restore_38 ?_
    refine aw_bipush (pc := 41) (v := 107) hM dX9_restore_41 (by decide) ?_
    refine aw_iload_n (pc := 43) (i := 1) (x := x1) hM dX9_restore_43 rfl rfl ?_
    refine aw_imul (pc := 44) hM dX9_restore_44 ?_
    refine aw_aload_n (pc := 45) (i := 0) (x := 164) hM dX9_restore_45 rfl rfl ?_
    refine aw_getR (pc := 46) (r := 171) hM fd_X9_41 sk_164 rfl dX9_restore_46 ?_
    refine aw_iconst (pc := 49) (v := 0) hM dX9_restore_49 (by decide) ?_
    refine aw_bipush (pc := 50) (v := 107) hM dX9_restore_50 (by decide) ?_
    obtain ⟨F11, h10, h⟩ := bind_some h
    refine aw_cs1 (pc := 52) (n := 5) (As := [.ref 174, .int (107 * x1), .ref 171, .int 0, .int 107]) (st := []) (vo := none) (c2 := 0) (s2 := 0) hM (k_X9_copy (ia_of sk_174) (ia_of sk_171) h10) rfl cw_X9_75 (by decide +kernel) rfl rfl ⟨(Nat.le_of_ble_eq_true rfl), (Nat.le_of_ble_eq_true rfl)⟩ (Nat.le_of_ble_eq_true rfl) ⟨(Nat.le_of_ble_eq_true rfl), (Nat.le_of_ble_eq_true rfl)⟩ dX9_restore_52 rfl rfl ?_
    refine aw_aload_n (pc := 55) (i := 0) (x := 164) hM dX9_restore_55 rfl rfl ?_
    refine aw_iconst (pc := 56) (v := 0) hM dX9_restore_56 (by decide) ?_
    obtain ⟨F12, e13, h⟩ := bind_some h
    have e13 := Option.some.inj e13
    refine aw_put (pc := 57) (ty := .int) hM fd_X9_72 tyX9_ok nmX9 rfl (by decide +kernel) rfl rfl sk_164 rfl dX9_restore_57 ?_
    refine aw_mem e13 ?_
    refine aw_aload_n (pc := 60) (i := 0) (x := 164) hM dX9_restore_60 rfl rfl ?_
    refine aw_getR (pc := 61) (r := 171) hM fd_X9_41 sk_164 rfl dX9_restore_61 ?_
    refine aw_iconst (pc := 64) (v := 0) hM dX9_restore_64 (by decide) ?_
    obtain ⟨c14, h⟩ := ite_some h
    refine aw_iald (pc := 65) hM sk_171 c14 dX9_restore_65 ?_
    obtain rfl := Option.some.inj h
    exact aw_iret (pc := 66) hM dX9_restore_66 (Nat.le_of_ble_eq_true rfl) (Nat.le_of_ble_eq_true rfl) hq
  · rw [if_neg c9] at h
    refine aw_iconst (pc := 35) (v := 0) hM dX9_restore_35 (by decide) ?_
    obtain rfl := Option.some.inj h
    exact aw_iret (pc := 36) hM dX9_restore_36 (Nat.le_of_ble_eq_true rfl) (Nat.le_of_ble_eq_true rfl) hq
set_option maxRecDepth 20000 in
theorem k_X9_restore {C : CX} {F : MM} {G : GG} {p0 : Int32} {r : (Int32 × MM)} (h : s_X9_restore F p0 = some r) : AM C yX9_restore cX9_restore 2 (some .int) rmX9_restore [.ref 164, .int p0] F G (fun o F9 G9 => o = (.inl (some (.int r.1))) ∧ F9 = r.2 ∧ G9 = G) := by
  refine am_of (L := [some (.ref 164), some (.int p0)]) (by decide) (Nat.le_of_ble_eq_true rfl) rfl (fun M hM hT => ?_)
  have hM : MOk C RX9 cX9_restore 2 (some .int) rmX9_restore M := hM
  obtain ⟨Q, hQ⟩ : ∃ Q : OUT → MM → GG → Prop, Q = (fun o F9 G9 => o = (.inl (some (.int r.1))) ∧ F9 = r.2 ∧ G9 = G) := ⟨_, rfl⟩
  have hq : Q (.inl (some (.int r.1))) r.2 G := by rw [hQ]; exact ⟨rfl, rfl, rfl⟩
  rw [← hQ]
  clear hQ
  rw [s_X9_restore] at h
  refine aw_aload_n (pc := 0) (i := 0) (x := 164) hM dX9_restore_0 rfl rfl ?_
  refine aw_iload_n (pc := 1) (i := 1) (x := p0) hM dX9_restore_1 rfl rfl ?_
  refine aw_i2l (pc := 2) hM dX9_restore_2 ?_
  refine aw_lconst (pc := 3) (v := 0) hM dX9_restore_3 (by decide) ?_
  refine aw_lconst (pc := 4) (v := 1) hM dX9_restore_4 (by decide) ?_
  obtain ⟨r2, h1, h⟩ := bind_some h
  refine aw_cs1 (pc := 5) (n := 3) (As := [.long (Int32.toInt64 p0), .long 0, .long 1]) (st := [.ref 164]) (vo := (some (.int r2))) (c2 := 0) (s2 := 0) hM (k_X9_in h1) rfl cw_X9_82 (by decide +kernel) rfl rfl ⟨(Nat.le_of_ble_eq_true rfl), (Nat.le_of_ble_eq_true rfl)⟩ (Nat.le_of_ble_eq_true rfl) ⟨(Nat.le_of_ble_eq_true rfl), (Nat.le_of_ble_eq_true rfl)⟩ dX9_restore_5 rfl rfl ?_
  refine aw_if_ne (pc := 8) (tgt := 15) hM dX9_restore_8 (by decide) (fun c3 => ?_) (fun c3 => ?_)
  · rw [if_neg c3] at h
    refine aw_aload_n (pc := 15) (i := 0) (x := 164) hM dX9_restore_15 rfl rfl ?_
    refine aw_getR (pc := 16) (r := 175) hM fd_X9_53 sk_164 rfl dX9_restore_16 ?_
    refine aw_iload_n (pc := 19) (i := 1) (x := p0) hM dX9_restore_19 rfl rfl ?_
    obtain ⟨c4, h⟩ := ite_some h
    refine aw_zald (pc := 20) hM sk_175 c4 dX9_restore_20 ?_
    refine aw_if_ne (pc := 21) (tgt := 28) hM dX9_restore_21 (by decide) (fun c5 => ?_) (fun c5 => ?_)
    · rw [if_neg c5] at h
      refine aw_iconst (pc := 28) (v := 0) hM dX9_restore_28 (by decide) ?_
      exact k_X9_restore_b29 hM hT hq F p0 0 h
    · rw [if_pos c5] at h
      refine aw_iconst (pc := 24) (v := 2) hM dX9_restore_24 (by decide) ?_
      refine aw_goto (pc := 25) (tgt := 29) hM dX9_restore_25 (by decide) ?_
      exact k_X9_restore_b29 hM hT hq F p0 2 h
  · rw [if_pos c3] at h
    refine aw_iconst (pc := 11) (v := 1) hM dX9_restore_11 (by decide) ?_
    refine aw_goto (pc := 12) (tgt := 29) hM dX9_restore_12 (by decide) ?_
    exact k_X9_restore_b29 hM hT hq F p0 1 h
def rmX9_rule : Room := { frames := 1, cells := 0, slots := 0, locals := 25 }
def s_X9_rule (F : MM) (p0 : Int32) (p1 : Int32) : Option (Int32 × MM) := (s_X9_in F (Int32.toInt64 p0) 0 (Int32.toInt64 ((F 164 6) - 1))).bind (fun r2 => if r2 = 0 then (s_X9_refused F 1).bind (fun z19 => if z19.1 = 0 then if inb ((5 * p0) + p1) 50 then (some (z19.2 167 (ix ((5 * p0) + p1)), z19.2)) else none else some (0, z19.2)) else (s_X9_in F (Int32.toInt64 p1) 0 4).bind (fun r5 => if r5 = 0 then (s_X9_refused F 2).bind (fun z14 => if z14.1 = 0 then if inb ((5 * p0) + p1) 50 then (some (z14.2 167 (ix ((5 * p0) + p1)), z14.2)) else none else some (0, z14.2)) else (s_X9_refused F 0).bind (fun z9 => if z9.1 = 0 then if inb ((5 * p0) + p1) 50 then (some (z9.2 167 (ix ((5 * p0) + p1)), z9.2)) else none else some (0, z9.2))))
set_option maxRecDepth 20000 in
theorem k_X9_rule {C : CX} {F : MM} {G : GG} {p0 : Int32} {p1 : Int32} {r : (Int32 × MM)} (h : s_X9_rule F p0 p1 = some r) : AM C yX9_rule cX9_rule 3 (some .int) rmX9_rule [.ref 164, .int p0, .int p1] F G (fun o F9 G9 => o = (.inl (some (.int r.1))) ∧ F9 = r.2 ∧ G9 = G) := by
  refine am_of (L := [some (.ref 164), some (.int p0), some (.int p1)]) (by decide) (Nat.le_of_ble_eq_true rfl) rfl (fun M hM hT => ?_)
  have hM : MOk C RX9 cX9_rule 3 (some .int) rmX9_rule M := hM
  obtain ⟨Q, hQ⟩ : ∃ Q : OUT → MM → GG → Prop, Q = (fun o F9 G9 => o = (.inl (some (.int r.1))) ∧ F9 = r.2 ∧ G9 = G) := ⟨_, rfl⟩
  have hq : Q (.inl (some (.int r.1))) r.2 G := by rw [hQ]; exact ⟨rfl, rfl, rfl⟩
  rw [← hQ]
  clear hQ
  rw [s_X9_rule] at h
  refine aw_aload_n (pc := 0) (i := 0) (x := 164) hM dX9_rule_0 rfl rfl ?_
  refine aw_iload_n (pc := 1) (i := 1) (x := p0) hM dX9_rule_1 rfl rfl ?_
  refine aw_i2l (pc := 2) hM dX9_rule_2 ?_
  refine aw_lconst (pc := 3) (v := 0) hM dX9_rule_3 (by decide) ?_
  refine aw_aload_n (pc := 4) (i := 0) (x := 164) hM dX9_rule_4 rfl rfl ?_
  refine aw_getI (pc := 5) hM fd_X9_146 sk_164 rfl dX9_rule_5 ?_
  refine aw_iconst (pc := 8) (v := 1) hM dX9_rule_8 (by decide) ?_
  refine aw_isub (pc := 9) hM dX9_rule_9 ?_
  refine aw_i2l (pc := 10) hM dX9_rule_10 ?_
  obtain ⟨r2, h1, h⟩ := bind_some h
  refine aw_cs1 (pc := 11) (n := 3) (As := [.long (Int32.toInt64 p0), .long 0, .long (Int32.toInt64 ((F 164 6) - 1))]) (st := [.ref 164]) (vo := (some (.int r2))) (c2 := 0) (s2 := 0) hM (k_X9_in h1) rfl cw_X9_82 (by decide +kernel) rfl rfl ⟨(Nat.le_of_ble_eq_true rfl), (Nat.le_of_ble_eq_true rfl)⟩ (Nat.le_of_ble_eq_true rfl) ⟨(Nat.le_of_ble_eq_true rfl), (Nat.le_of_ble_eq_true rfl)⟩ dX9_rule_11 rfl rfl ?_
  refine aw_if_ne (pc := 14) (tgt := 21) hM dX9_rule_14 (by decide) (fun c3 => ?_) (fun c3 => ?_)
  · rw [if_neg c3] at h
    refine aw_iload_n (pc := 21) (i := 2) (x := p1) hM dX9_rule_21 rfl rfl ?_
    refine aw_i2l (pc := 22) hM dX9_rule_22 ?_
    refine aw_lconst (pc := 23) (v := 0) hM dX9_rule_23 (by decide) ?_
    refine aw_ldc2 (pc := 24) hM gw_1232 dX9_rule_24 ?_
    obtain ⟨r5, h4, h⟩ := bind_some h
    refine aw_cs1 (pc := 27) (n := 3) (As := [.long (Int32.toInt64 p1), .long 0, .long 4]) (st := [.ref 164]) (vo := (some (.int r5))) (c2 := 0) (s2 := 0) hM (k_X9_in h4) rfl cw_X9_82 (by decide +kernel) rfl rfl ⟨(Nat.le_of_ble_eq_true rfl), (Nat.le_of_ble_eq_true rfl)⟩ (Nat.le_of_ble_eq_true rfl) ⟨(Nat.le_of_ble_eq_true rfl), (Nat.le_of_ble_eq_true rfl)⟩ dX9_rule_27 rfl rfl ?_
    refine aw_if_ne (pc := 30) (tgt := 37) hM dX9_rule_30 (by decide) (fun c6 => ?_) (fun c6 => ?_)
    · rw [if_neg c6] at h
      refine aw_iconst (pc := 37) (v := 0) hM dX9_rule_37 (by decide) ?_
      obtain ⟨z9, h7, h⟩ := bind_some h
      refine aw_cv1 (pc := 38) (n := 1) (As := [.int 0]) (st := []) (b := 164) (vo := (some (.int z9.1))) (c2 := 0) (s2 := 0) hM (k_X9_refused h7) rfl cw_X9_93 sk_164 rfl rfl (by decide +kernel) rfl rfl ⟨(Nat.le_of_ble_eq_true rfl), (Nat.le_of_ble_eq_true rfl)⟩ (Nat.le_of_ble_eq_true rfl) ⟨(Nat.le_of_ble_eq_true rfl), (Nat.le_of_ble_eq_true rfl)⟩ dX9_rule_38 rfl rfl ?_
      refine aw_if_eq (pc := 41) (tgt := 46) hM dX9_rule_41 (by decide) (fun c10 => ?_) (fun c10 => ?_)
      · rw [if_pos c10] at h
        refine aw_aload_n (pc := 46) (i := 0) (x := 164) hM dX9_rule_46 rfl rfl ?_
        refine aw_getR (pc := 47) (r := 167) hM fd_X9_29 sk_164 rfl dX9_rule_47 ?_
        refine aw_iconst (pc := 50) (v := 5) hM dX9_rule_50 (by decide) ?_
        refine aw_iload_n (pc := 51) (i := 1) (x := p0) hM dX9_rule_51 rfl rfl ?_
        refine aw_imul (pc := 52) hM dX9_rule_52 ?_
        refine aw_iload_n (pc := 53) (i := 2) (x := p1) hM dX9_rule_53 rfl rfl ?_
        refine aw_iadd (pc := 54) hM dX9_rule_54 ?_
        obtain ⟨c11, h⟩ := ite_some h
        refine aw_iald (pc := 55) hM sk_167 c11 dX9_rule_55 ?_
        obtain rfl := Option.some.inj h
        exact aw_iret (pc := 56) hM dX9_rule_56 (Nat.le_of_ble_eq_true rfl) (Nat.le_of_ble_eq_true rfl) hq
      · rw [if_neg c10] at h
        refine aw_iconst (pc := 44) (v := 0) hM dX9_rule_44 (by decide) ?_
        obtain rfl := Option.some.inj h
        exact aw_iret (pc := 45) hM dX9_rule_45 (Nat.le_of_ble_eq_true rfl) (Nat.le_of_ble_eq_true rfl) hq
    · rw [if_pos c6] at h
      refine aw_iconst (pc := 33) (v := 2) hM dX9_rule_33 (by decide) ?_
      refine aw_goto (pc := 34) (tgt := 38) hM dX9_rule_34 (by decide) ?_
      obtain ⟨z14, h12, h⟩ := bind_some h
      refine aw_cv1 (pc := 38) (n := 1) (As := [.int 2]) (st := []) (b := 164) (vo := (some (.int z14.1))) (c2 := 0) (s2 := 0) hM (k_X9_refused h12) rfl cw_X9_93 sk_164 rfl rfl (by decide +kernel) rfl rfl ⟨(Nat.le_of_ble_eq_true rfl), (Nat.le_of_ble_eq_true rfl)⟩ (Nat.le_of_ble_eq_true rfl) ⟨(Nat.le_of_ble_eq_true rfl), (Nat.le_of_ble_eq_true rfl)⟩ dX9_rule_38 rfl rfl ?_
      refine aw_if_eq (pc := 41) (tgt := 46) hM dX9_rule_41 (by decide) (fun c15 => ?_) (fun c15 => ?_)
      · rw [if_pos c15] at h
        refine aw_aload_n (pc := 46) (i := 0) (x := 164) hM dX9_rule_46 rfl rfl ?_
        refine aw_getR (pc := 47) (r := 167) hM fd_X9_29 sk_164 rfl dX9_rule_47 ?_
        refine aw_iconst (pc := 50) (v := 5) hM dX9_rule_50 (by decide) ?_
        refine aw_iload_n (pc := 51) (i := 1) (x := p0) hM dX9_rule_51 rfl rfl ?_
        refine aw_imul (pc := 52) hM dX9_rule_52 ?_
        refine aw_iload_n (pc := 53) (i := 2) (x := p1) hM dX9_rule_53 rfl rfl ?_
        refine aw_iadd (pc := 54) hM dX9_rule_54 ?_
        obtain ⟨c16, h⟩ := ite_some h
        refine aw_iald (pc := 55) hM sk_167 c16 dX9_rule_55 ?_
        obtain rfl := Option.some.inj h
        exact aw_iret (pc := 56) hM dX9_rule_56 (Nat.le_of_ble_eq_true rfl) (Nat.le_of_ble_eq_true rfl) hq
      · rw [if_neg c15] at h
        refine aw_iconst (pc := 44) (v := 0) hM dX9_rule_44 (by decide) ?_
        obtain rfl := Option.some.inj h
        exact aw_iret (pc := 45) hM dX9_rule_45 (Nat.le_of_ble_eq_true rfl) (Nat.le_of_ble_eq_true rfl) hq
  · rw [if_pos c3] at h
    refine aw_iconst (pc := 17) (v := 1) hM dX9_rule_17 (by decide) ?_
    refine aw_goto (pc := 18) (tgt := 38) hM dX9_rule_18 (by decide) ?_
    obtain ⟨z19, h17, h⟩ := bind_some h
    refine aw_cv1 (pc := 38) (n := 1) (As := [.int 1]) (st := []) (b := 164) (vo := (some (.int z19.1))) (c2 := 0) (s2 := 0) hM (k_X9_refused h17) rfl cw_X9_93 sk_164 rfl rfl (by decide +kernel) rfl rfl ⟨(Nat.le_of_ble_eq_true rfl), (Nat.le_of_ble_eq_true rfl)⟩ (Nat.le_of_ble_eq_true rfl) ⟨(Nat.le_of_ble_eq_true rfl), (Nat.le_of_ble_eq_true rfl)⟩ dX9_rule_38 rfl rfl ?_
    refine aw_if_eq (pc := 41) (tgt := 46) hM dX9_rule_41 (by decide) (fun c20 => ?_) (fun c20 => ?_)
    · rw [if_pos c20] at h
      refine aw_aload_n (pc := 46) (i := 0) (x := 164) hM dX9_rule_46 rfl rfl ?_
      refine aw_getR (pc := 47) (r := 167) hM fd_X9_29 sk_164 rfl dX9_rule_47 ?_
      refine aw_iconst (pc := 50) (v := 5) hM dX9_rule_50 (by decide) ?_
      refine aw_iload_n (pc := 51) (i := 1) (x := p0) hM dX9_rule_51 rfl rfl ?_
      refine aw_imul (pc := 52) hM dX9_rule_52 ?_
      refine aw_iload_n (pc := 53) (i := 2) (x := p1) hM dX9_rule_53 rfl rfl ?_
      refine aw_iadd (pc := 54) hM dX9_rule_54 ?_
      obtain ⟨c21, h⟩ := ite_some h
      refine aw_iald (pc := 55) hM sk_167 c21 dX9_rule_55 ?_
      obtain rfl := Option.some.inj h
      exact aw_iret (pc := 56) hM dX9_rule_56 (Nat.le_of_ble_eq_true rfl) (Nat.le_of_ble_eq_true rfl) hq
    · rw [if_neg c20] at h
      refine aw_iconst (pc := 44) (v := 0) hM dX9_rule_44 (by decide) ?_
      obtain rfl := Option.some.inj h
      exact aw_iret (pc := 45) hM dX9_rule_45 (Nat.le_of_ble_eq_true rfl) (Nat.le_of_ble_eq_true rfl) hq
def rmX9_runScript : Room := { frames := 7, cells := 0, slots := 0, locals := 170 }
def s_X9_runScript_b58 : Nat → MM → Int32 → Int64 → Int32 → Option (Int32 × MM)
  | 0, _, _, _, _ => none
  | n + 1, F, x1, x2, x4 => if x1 ≤ x4 then some ((-9), F) else (s_X9_groups F ((x1 - 1) - x4)).bind (fun r17 => if ¬ r17 = 0 then ((s_X9_command F (Int64.toInt32 ((x2 / r17) - (x2 / r17) / 10000 * 10000))).bind (fun z21 => if z21.1 = 0 then some (x4, z21.2) else (some (x4 + 1 : Int32)).bind (fun y23 => s_X9_runScript_b58 n z21.2 x1 x2 y23))) else none)
def s_X9_runScript_b32 (F : MM) (x1 : Int32) (x2 : Int64) (t0 : Int32) : Option (Int32 × MM) := (s_X9_refused F t0).bind (fun z11 => if z11.1 = 0 then (s_X9_copy z11.2 171 0 172 0 107).bind (fun F14 => s_X9_runScript_b58 fu_ F14 x1 x2 0) else some (0, z11.2))
def s_X9_runScript (F : MM) (p0 : Int32) (p1 : Int64) : Option (Int32 × MM) := (s_X9_in F (Int32.toInt64 p0) 1 4).bind (fun r2 => if r2 = 0 then s_X9_runScript_b32 F p0 p1 1 else (s_X9_groups F p0).bind (fun r5 => (s_X9_in F p1 0 (r5 - 1)).bind (fun r7 => if r7 = 0 then s_X9_runScript_b32 F p0 p1 1 else s_X9_runScript_b32 F p0 p1 0)))
set_option maxRecDepth 20000 in
theorem k_X9_runScript_b58 {C : CX} {M : MX} {G : GG} {Q : OUT → MM → GG → Prop} {r : (Int32 × MM)} (hM : MOk C RX9 cX9_runScript 5 (some .int) rmX9_runScript M) (hT : MNoT M) (hq : Q (.inl (some (.int r.1))) r.2 G) : ∀ (n : Nat) (F : MM) (x1 : Int32) (x2 : Int64) (x4 : Int32), s_X9_runScript_b58 n F x1 x2 x4 = some r → AW C 5 (ZM C rmX9_runScript Q M) M 0 0 58 [some (.ref 164), some (.int x1), some (.long x2), none, some (.int x4)] [] F G := by
  intro n
  induction n with
  | zero => intro F x1 x2 x4 h; exact nomatch h
  | succ n ih =>
    intro F x1 x2 x4 h
    rw [s_X9_runScript_b58] at h
    refine aw_iload (pc := 58) (i := 4) (x := x4) hM dX9_runScript_58  rfl ?_
    refine aw_iload_n (pc := 60) (i := 1) (x := x1) hM dX9_runScript_60 rfl rfl ?_
    refine aw_icmp_ge (pc := 61) (tgt := 96) hM dX9_runScript_61 (by decide) (fun c15 => ?_) (fun c15 => ?_)
    · rw [if_pos c15] at h
      refine aw_bipush (pc := 96) (v := (-9)) hM dX9_runScript_96 (by decide) ?_
      obtain rfl := Option.some.inj h
      exact aw_iret (pc := 98) hM dX9_runScript_98 (Nat.le_of_ble_eq_true rfl) (Nat.le_of_ble_eq_true rfl) hq
    · rw [if_neg c15] at h
      refine aw_aload_n (pc := 64) (i := 0) (x := 164) hM dX9_runScript_64 rfl rfl ?_
      refine aw_lload_n (pc := 65) (i := 2) (x := x2) hM dX9_runScript_65 rfl rfl ?_
      refine aw_iload_n (pc := 66) (i := 1) (x := x1) hM dX9_runScript_66 rfl rfl ?_
      refine aw_iconst (pc := 67) (v := 1) hM dX9_runScript_67 (by decide) ?_
      refine aw_isub (pc := 68) hM dX9_runScript_68 ?_
      refine aw_iload (pc := 69) (i := 4) (x := x4) hM dX9_runScript_69  rfl ?_
      refine aw_isub (pc := 71) hM dX9_runScript_71 ?_
      obtain ⟨r17, h16, h⟩ := bind_some h
      refine aw_cs1 (pc := 72) (n := 1) (As := [.int ((x1 - 1) - x4)]) (st := [.long x2, .ref 164]) (vo := (some (.long r17))) (c2 := 0) (s2 := 0) hM (k_X9_groups h16) rfl cw_X9_254 (by decide +kernel) rfl rfl ⟨(Nat.le_of_ble_eq_true rfl), (Nat.le_of_ble_eq_true rfl)⟩ (Nat.le_of_ble_eq_true rfl) ⟨(Nat.le_of_ble_eq_true rfl), (Nat.le_of_ble_eq_true rfl)⟩ dX9_runScript_72 rfl rfl ?_
      obtain ⟨c18, h⟩ := ite_some h
      refine aw_ldiv (pc := 75) hM dX9_runScript_75 c18 ?_
      refine aw_ldc2 (pc := 76) hM gw_1403 dX9_runScript_76 ?_
      refine aw_lrem (pc := 79) hM dX9_runScript_79 (by decide) ?_
      refine aw_l2i (pc := 80) hM dX9_runScript_80 ?_
      obtain ⟨z21, h19, h⟩ := bind_some h
      refine aw_cv1 (pc := 81) (n := 1) (As := [.int (Int64.toInt32 ((x2 / r17) - (x2 / r17) / 10000 * 10000))]) (st := []) (b := 164) (vo := (some (.int z21.1))) (c2 := 0) (s2 := 0) hM (k_X9_command h19) rfl cw_X9_258 sk_164 rfl rfl (by decide +kernel) rfl rfl ⟨(Nat.le_of_ble_eq_true rfl), (Nat.le_of_ble_eq_true rfl)⟩ (Nat.le_of_ble_eq_true rfl) ⟨(Nat.le_of_ble_eq_true rfl), (Nat.le_of_ble_eq_true rfl)⟩ dX9_runScript_81 rfl rfl ?_
      refine aw_if_ne (pc := 84) (tgt := 90) hM dX9_runScript_84 (by decide) (fun c22 => ?_) (fun c22 => ?_)
      · rw [if_neg c22] at h
        obtain ⟨y23, e24, h⟩ := bind_some h
        have e24 := Option.some.inj e24
        refine aw_iinc (pc := 90) (v := y23) (L' := [some (.ref 164), some (.int x1), some (.long x2), none, some (.int y23)]) hM dX9_runScript_90 rfl e24 (by decide) rfl ?_
        refine aw_goto (pc := 93) (tgt := 58) hM dX9_runScript_93 (by decide) ?_
        exact ih z21.2 x1 x2 y23 h
      · rw [if_pos c22] at h
        refine aw_iload (pc := 87) (i := 4) (x := x4) hM dX9_runScript_87  rfl ?_
        obtain rfl := Option.some.inj h
        exact aw_iret (pc := 89) hM dX9_runScript_89 (Nat.le_of_ble_eq_true rfl) (Nat.le_of_ble_eq_true rfl) hq
set_option maxRecDepth 20000 in
theorem k_X9_runScript_b32 {C : CX} {M : MX} {G : GG} {Q : OUT → MM → GG → Prop} {r : (Int32 × MM)} (hM : MOk C RX9 cX9_runScript 5 (some .int) rmX9_runScript M) (hT : MNoT M) (hq : Q (.inl (some (.int r.1))) r.2 G) (F : MM) (x1 : Int32) (x2 : Int64) (t0 : Int32) (h : s_X9_runScript_b32 F x1 x2 t0 = some r) : AW C 5 (ZM C rmX9_runScript Q M) M 0 0 32 [some (.ref 164), some (.int x1), some (.long x2), none, none] [.int t0, .ref 164] F G := by
  rw [s_X9_runScript_b32] at h
  obtain ⟨z11, h9, h⟩ := bind_some h
  refine aw_cv1 (pc := 32) (n := 1) (As := [.int t0]) (st := []) (b := 164) (vo := (some (.int z11.1))) (c2 := 0) (s2 := 0) hM (k_X9_refused h9) rfl cw_X9_93 sk_164 rfl rfl (by decide +kernel) rfl rfl ⟨(Nat.le_of_ble_eq_true rfl), (Nat.le_of_ble_eq_true rfl)⟩ (Nat.le_of_ble_eq_true rfl) ⟨(Nat.le_of_ble_eq_true rfl), (Nat.le_of_ble_eq_true rfl)⟩ dX9_runScript_32 rfl rfl ?_
  refine aw_if_eq (pc := 35) (tgt := 40) hM dX9_runScript_35 (by decide) (fun c12 => ?_) (fun c12 => ?_)
  · rw [if_pos c12] at h
    refine aw_aload_n (pc := 40) (i := 0) (x := 164) hM dX9_runScript_40 rfl rfl ?_
    refine aw_getR (pc := 41) (r := 171) hM fd_X9_41 sk_164 rfl dX9_runScript_41 ?_
    refine aw_iconst (pc := 44) (v := 0) hM dX9_runScript_44 (by decide) ?_
    refine aw_aload_n (pc := 45) (i := 0) (x := 164) hM dX9_runScript_45 rfl rfl ?_
    refine aw_getR (pc := 46) (r := 172) hM fd_X9_44 sk_164 rfl dX9_runScript_46 ?_
    refine aw_iconst (pc := 49) (v := 0) hM dX9_runScript_49 (by decide) ?_
    refine aw_bipush (pc := 50) (v := 107) hM dX9_runScript_50 (by decide) ?_
    obtain ⟨F14, h13, h⟩ := bind_some h
    refine aw_cs1 (pc := 52) (n := 5) (As := [.ref 171, .int 0, .ref 172, .int 0, .int 107]) (st := []) (vo := none) (c2 := 0) (s2 := 0) hM (k_X9_copy (ia_of sk_171) (ia_of sk_172) h13) rfl cw_X9_75 (by decide +kernel) rfl rfl ⟨(Nat.le_of_ble_eq_true rfl), (Nat.le_of_ble_eq_true rfl)⟩ (Nat.le_of_ble_eq_true rfl) ⟨(Nat.le_of_ble_eq_true rfl), (Nat.le_of_ble_eq_true rfl)⟩ dX9_runScript_52 rfl rfl ?_
    refine aw_iconst (pc := 55) (v := 0) hM dX9_runScript_55 (by decide) ?_
    refine aw_istore (pc := 56) (i := 4) (L' := [some (.ref 164), some (.int x1), some (.long x2), none, some (.int 0)]) hM dX9_runScript_56  (by decide) rfl ?_
    exact k_X9_runScript_b58 hM hT hq fu_ F14 x1 x2 0 h
  · rw [if_neg c12] at h
    refine aw_iconst (pc := 38) (v := 0) hM dX9_runScript_38 (by decide) ?_
    obtain rfl := Option.some.inj h
    exact aw_iret (pc := 39) hM dX9_runScript_39 (Nat.le_of_ble_eq_true rfl) (Nat.le_of_ble_eq_true rfl) hq
set_option maxRecDepth 20000 in
theorem k_X9_runScript {C : CX} {F : MM} {G : GG} {p0 : Int32} {p1 : Int64} {r : (Int32 × MM)} (h : s_X9_runScript F p0 p1 = some r) : AM C yX9_runScript cX9_runScript 5 (some .int) rmX9_runScript [.ref 164, .int p0, .long p1] F G (fun o F9 G9 => o = (.inl (some (.int r.1))) ∧ F9 = r.2 ∧ G9 = G) := by
  refine am_of (L := [some (.ref 164), some (.int p0), some (.long p1), none, none]) (by decide) (Nat.le_of_ble_eq_true rfl) rfl (fun M hM hT => ?_)
  have hM : MOk C RX9 cX9_runScript 5 (some .int) rmX9_runScript M := hM
  obtain ⟨Q, hQ⟩ : ∃ Q : OUT → MM → GG → Prop, Q = (fun o F9 G9 => o = (.inl (some (.int r.1))) ∧ F9 = r.2 ∧ G9 = G) := ⟨_, rfl⟩
  have hq : Q (.inl (some (.int r.1))) r.2 G := by rw [hQ]; exact ⟨rfl, rfl, rfl⟩
  rw [← hQ]
  clear hQ
  rw [s_X9_runScript] at h
  refine aw_aload_n (pc := 0) (i := 0) (x := 164) hM dX9_runScript_0 rfl rfl ?_
  refine aw_iload_n (pc := 1) (i := 1) (x := p0) hM dX9_runScript_1 rfl rfl ?_
  refine aw_i2l (pc := 2) hM dX9_runScript_2 ?_
  refine aw_lconst (pc := 3) (v := 1) hM dX9_runScript_3 (by decide) ?_
  refine aw_ldc2 (pc := 4) hM gw_1232 dX9_runScript_4 ?_
  obtain ⟨r2, h1, h⟩ := bind_some h
  refine aw_cs1 (pc := 7) (n := 3) (As := [.long (Int32.toInt64 p0), .long 1, .long 4]) (st := [.ref 164]) (vo := (some (.int r2))) (c2 := 0) (s2 := 0) hM (k_X9_in h1) rfl cw_X9_82 (by decide +kernel) rfl rfl ⟨(Nat.le_of_ble_eq_true rfl), (Nat.le_of_ble_eq_true rfl)⟩ (Nat.le_of_ble_eq_true rfl) ⟨(Nat.le_of_ble_eq_true rfl), (Nat.le_of_ble_eq_true rfl)⟩ dX9_runScript_7 rfl rfl ?_
  refine aw_if_eq (pc := 10) (tgt := 31) hM dX9_runScript_10 (by decide) (fun c3 => ?_) (fun c3 => ?_)
  · rw [if_pos c3] at h
    refine aw_iconst (pc := 31) (v := 1) hM dX9_runScript_31 (by decide) ?_
    exact k_X9_runScript_b32 hM hT hq F p0 p1 1 h
  · rw [if_neg c3] at h
    refine aw_lload_n (pc := 13) (i := 2) (x := p1) hM dX9_runScript_13 rfl rfl ?_
    refine aw_lconst (pc := 14) (v := 0) hM dX9_runScript_14 (by decide) ?_
    refine aw_iload_n (pc := 15) (i := 1) (x := p0) hM dX9_runScript_15 rfl rfl ?_
    obtain ⟨r5, h4, h⟩ := bind_some h
    refine aw_cs1 (pc := 16) (n := 1) (As := [.int p0]) (st := [.long 0, .long p1, .ref 164]) (vo := (some (.long r5))) (c2 := 0) (s2 := 0) hM (k_X9_groups h4) rfl cw_X9_254 (by decide +kernel) rfl rfl ⟨(Nat.le_of_ble_eq_true rfl), (Nat.le_of_ble_eq_true rfl)⟩ (Nat.le_of_ble_eq_true rfl) ⟨(Nat.le_of_ble_eq_true rfl), (Nat.le_of_ble_eq_true rfl)⟩ dX9_runScript_16 rfl rfl ?_
    refine aw_lconst (pc := 19) (v := 1) hM dX9_runScript_19 (by decide) ?_
    refine aw_lsub (pc := 20) hM dX9_runScript_20 ?_
    obtain ⟨r7, h6, h⟩ := bind_some h
    refine aw_cs1 (pc := 21) (n := 3) (As := [.long p1, .long 0, .long (r5 - 1)]) (st := [.ref 164]) (vo := (some (.int r7))) (c2 := 0) (s2 := 0) hM (k_X9_in h6) rfl cw_X9_82 (by decide +kernel) rfl rfl ⟨(Nat.le_of_ble_eq_true rfl), (Nat.le_of_ble_eq_true rfl)⟩ (Nat.le_of_ble_eq_true rfl) ⟨(Nat.le_of_ble_eq_true rfl), (Nat.le_of_ble_eq_true rfl)⟩ dX9_runScript_21 rfl rfl ?_
    refine aw_if_eq (pc := 24) (tgt := 31) hM dX9_runScript_24 (by decide) (fun c8 => ?_) (fun c8 => ?_)
    · rw [if_pos c8] at h
      refine aw_iconst (pc := 31) (v := 1) hM dX9_runScript_31 (by decide) ?_
      exact k_X9_runScript_b32 hM hT hq F p0 p1 1 h
    · rw [if_neg c8] at h
      refine aw_iconst (pc := 27) (v := 0) hM dX9_runScript_27 (by decide) ?_
      refine aw_goto (pc := 28) (tgt := 32) hM dX9_runScript_28 (by decide) ?_
      exact k_X9_runScript_b32 hM hT hq F p0 p1 0 h
def rmX9_save : Room := { frames := 1, cells := 0, slots := 0, locals := 25 }
def s_X9_save_b16 (F : MM) (x1 : Int32) (t0 : Int32) : Option (Int32 × MM) := (s_X9_refused F t0).bind (fun z6 => if z6.1 = 0 then if inb x1 2 then ((some (mup z6.2 175 (ix x1) (vp_nar .boolean 1))).bind (fun F9 => (s_X9_copy F9 171 0 174 (107 * x1) 107).bind (fun F12 => if inb 0 107 then (some (F12 171 (ix 0), F12)) else none))) else none else some (0, z6.2))
def s_X9_save (F : MM) (p0 : Int32) : Option (Int32 × MM) := (s_X9_in F (Int32.toInt64 p0) 0 1).bind (fun r2 => if r2 = 0 then s_X9_save_b16 F p0 1 else s_X9_save_b16 F p0 0)
set_option maxRecDepth 20000 in
theorem k_X9_save_b16 {C : CX} {M : MX} {G : GG} {Q : OUT → MM → GG → Prop} {r : (Int32 × MM)} (hM : MOk C RX9 cX9_save 2 (some .int) rmX9_save M) (hT : MNoT M) (hq : Q (.inl (some (.int r.1))) r.2 G) (F : MM) (x1 : Int32) (t0 : Int32) (h : s_X9_save_b16 F x1 t0 = some r) : AW C 2 (ZM C rmX9_save Q M) M 0 0 16 [some (.ref 164), some (.int x1)] [.int t0, .ref 164] F G := by
  rw [s_X9_save_b16] at h
  obtain ⟨z6, h4, h⟩ := bind_some h
  refine aw_cv1 (pc := 16) (n := 1) (As := [.int t0]) (st := []) (b := 164) (vo := (some (.int z6.1))) (c2 := 0) (s2 := 0) hM (k_X9_refused h4) rfl cw_X9_93 sk_164 rfl rfl (by decide +kernel) rfl rfl ⟨(Nat.le_of_ble_eq_true rfl), (Nat.le_of_ble_eq_true rfl)⟩ (Nat.le_of_ble_eq_true rfl) ⟨(Nat.le_of_ble_eq_true rfl), (Nat.le_of_ble_eq_true rfl)⟩ dX9_save_16 rfl rfl ?_
  refine aw_if_eq (pc := 19) (tgt := 24) hM dX9_save_19 (by decide) (fun c7 => ?_) (fun c7 => ?_)
  · rw [if_pos c7] at h
    refine aw_aload_n (pc := 24) (i := 0) (x := 164) hM dX9_save_24 rfl rfl ?_
    refine aw_getR (pc := 25) (r := 175) hM fd_X9_53 sk_164 rfl dX9_save_25 ?_
    refine aw_iload_n (pc := 28) (i := 1) (x := x1) hM dX9_save_28 rfl rfl ?_
    refine aw_iconst (pc := 29) (v := 1) hM dX9_save_29 (by decide) ?_
    obtain ⟨c8, h⟩ := ite_some h
    obtain ⟨F9, e10, h⟩ := bind_some h
    have e10 := Option.some.inj e10
    refine aw_zast (pc := 30) hM sk_175 c8 dX9_save_30 ?_
    refine aw_mem e10 ?_
    refine aw_aload_n (pc := 31) (i := 0) (x := 164) hM dX9_save_31 rfl rfl ?_
    refine aw_getR (pc := 32) (r := 171) hM fd_X9_41 sk_164 rfl dX9_save_32 ?_
    refine aw_iconst (pc := 35) (v := 0) hM dX9_save_35 (by decide) ?_
    refine aw_aload_n (pc := 36) (i := 0) (x := 164) hM dX9_save_36 rfl rfl ?_
    refine aw_getR (pc := 37) (r := 174) hM fd_X9_50 sk_164 rfl dX9_save_37 ?_
    refine aw_bipush (pc := 40) (v := 107) hM dX9_save_40 (by decide) ?_
    refine aw_iload_n (pc := 42) (i := 1) (x := x1) hM dX9_save_42 rfl rfl ?_
    refine aw_imul (pc := 43) hM dX9_save_43 ?_
    refine aw_bipush (pc := 44) (v := 107) hM dX9_save_44 (by decide) ?_
    obtain ⟨F12, h11, h⟩ := bind_some h
    refine aw_cs1 (pc := 46) (n := 5) (As := [.ref 171, .int 0, .ref 174, .int (107 * x1), .int 107]) (st := []) (vo := none) (c2 := 0) (s2 := 0) hM (k_X9_copy (ia_of sk_171) (ia_of sk_174) h11) rfl cw_X9_75 (by decide +kernel) rfl rfl ⟨(Nat.le_of_ble_eq_true rfl), (Nat.le_of_ble_eq_true rfl)⟩ (Nat.le_of_ble_eq_true rfl) ⟨(Nat.le_of_ble_eq_true rfl), (Nat.le_of_ble_eq_true rfl)⟩ dX9_save_46 rfl rfl ?_
    refine aw_aload_n (pc := 49) (i := 0) (x := 164) hM dX9_save_49 rfl rfl ?_
    refine aw_getR (pc := 50) (r := 171) hM fd_X9_41 sk_164 rfl dX9_save_50 ?_
    refine aw_iconst (pc := 53) (v := 0) hM dX9_save_53 (by decide) ?_
    obtain ⟨c13, h⟩ := ite_some h
    refine aw_iald (pc := 54) hM sk_171 c13 dX9_save_54 ?_
    obtain rfl := Option.some.inj h
    exact aw_iret (pc := 55) hM dX9_save_55 (Nat.le_of_ble_eq_true rfl) (Nat.le_of_ble_eq_true rfl) hq
  · rw [if_neg c7] at h
    refine aw_iconst (pc := 22) (v := 0) hM dX9_save_22 (by decide) ?_
    obtain rfl := Option.some.inj h
    exact aw_iret (pc := 23) hM dX9_save_23 (Nat.le_of_ble_eq_true rfl) (Nat.le_of_ble_eq_true rfl) hq
set_option maxRecDepth 20000 in
theorem k_X9_save {C : CX} {F : MM} {G : GG} {p0 : Int32} {r : (Int32 × MM)} (h : s_X9_save F p0 = some r) : AM C yX9_save cX9_save 2 (some .int) rmX9_save [.ref 164, .int p0] F G (fun o F9 G9 => o = (.inl (some (.int r.1))) ∧ F9 = r.2 ∧ G9 = G) := by
  refine am_of (L := [some (.ref 164), some (.int p0)]) (by decide) (Nat.le_of_ble_eq_true rfl) rfl (fun M hM hT => ?_)
  have hM : MOk C RX9 cX9_save 2 (some .int) rmX9_save M := hM
  obtain ⟨Q, hQ⟩ : ∃ Q : OUT → MM → GG → Prop, Q = (fun o F9 G9 => o = (.inl (some (.int r.1))) ∧ F9 = r.2 ∧ G9 = G) := ⟨_, rfl⟩
  have hq : Q (.inl (some (.int r.1))) r.2 G := by rw [hQ]; exact ⟨rfl, rfl, rfl⟩
  rw [← hQ]
  clear hQ
  rw [s_X9_save] at h
  refine aw_aload_n (pc := 0) (i := 0) (x := 164) hM dX9_save_0 rfl rfl ?_
  refine aw_iload_n (pc := 1) (i := 1) (x := p0) hM dX9_save_1 rfl rfl ?_
  refine aw_i2l (pc := 2) hM dX9_save_2 ?_
  refine aw_lconst (pc := 3) (v := 0) hM dX9_save_3 (by decide) ?_
  refine aw_lconst (pc := 4) (v := 1) hM dX9_save_4 (by decide) ?_
  obtain ⟨r2, h1, h⟩ := bind_some h
  refine aw_cs1 (pc := 5) (n := 3) (As := [.long (Int32.toInt64 p0), .long 0, .long 1]) (st := [.ref 164]) (vo := (some (.int r2))) (c2 := 0) (s2 := 0) hM (k_X9_in h1) rfl cw_X9_82 (by decide +kernel) rfl rfl ⟨(Nat.le_of_ble_eq_true rfl), (Nat.le_of_ble_eq_true rfl)⟩ (Nat.le_of_ble_eq_true rfl) ⟨(Nat.le_of_ble_eq_true rfl), (Nat.le_of_ble_eq_true rfl)⟩ dX9_save_5 rfl rfl ?_
  refine aw_if_eq (pc := 8) (tgt := 15) hM dX9_save_8 (by decide) (fun c3 => ?_) (fun c3 => ?_)
  · rw [if_pos c3] at h
    refine aw_iconst (pc := 15) (v := 1) hM dX9_save_15 (by decide) ?_
    exact k_X9_save_b16 hM hT hq F p0 1 h
  · rw [if_neg c3] at h
    refine aw_iconst (pc := 11) (v := 0) hM dX9_save_11 (by decide) ?_
    refine aw_goto (pc := 12) (tgt := 16) hM dX9_save_12 (by decide) ?_
    exact k_X9_save_b16 hM hT hq F p0 0 h
def rmX9_setFaults : Room := { frames := 3, cells := 0, slots := 0, locals := 68 }
def s_X9_setFaults (F : MM) (p0 : Int32) (p1 : Int32) : Option (Int32 × MM) := (s_X9_isNode F p0).bind (fun r2 => if r2 = 0 then (s_X9_refused F 1).bind (fun z27 => if z27.1 = 0 then (s_X9_at z27.2 p0).bind (fun r30 => (s_X9_change z27.2 (r30 + 12) p1).bind (fun z33 => some (z33.1, z33.2))) else some (0, z27.2)) else (s_X9_in F (Int32.toInt64 p1) 0 9).bind (fun r5 => if r5 = 0 then (s_X9_refused F 2).bind (fun z18 => if z18.1 = 0 then (s_X9_at z18.2 p0).bind (fun r21 => (s_X9_change z18.2 (r21 + 12) p1).bind (fun z24 => some (z24.1, z24.2))) else some (0, z18.2)) else (s_X9_refused F 0).bind (fun z9 => if z9.1 = 0 then (s_X9_at z9.2 p0).bind (fun r12 => (s_X9_change z9.2 (r12 + 12) p1).bind (fun z15 => some (z15.1, z15.2))) else some (0, z9.2))))
set_option maxRecDepth 20000 in
theorem k_X9_setFaults {C : CX} {F : MM} {G : GG} {p0 : Int32} {p1 : Int32} {r : (Int32 × MM)} (h : s_X9_setFaults F p0 p1 = some r) : AM C yX9_setFaults cX9_setFaults 3 (some .int) rmX9_setFaults [.ref 164, .int p0, .int p1] F G (fun o F9 G9 => o = (.inl (some (.int r.1))) ∧ F9 = r.2 ∧ G9 = G) := by
  refine am_of (L := [some (.ref 164), some (.int p0), some (.int p1)]) (by decide) (Nat.le_of_ble_eq_true rfl) rfl (fun M hM hT => ?_)
  have hM : MOk C RX9 cX9_setFaults 3 (some .int) rmX9_setFaults M := hM
  obtain ⟨Q, hQ⟩ : ∃ Q : OUT → MM → GG → Prop, Q = (fun o F9 G9 => o = (.inl (some (.int r.1))) ∧ F9 = r.2 ∧ G9 = G) := ⟨_, rfl⟩
  have hq : Q (.inl (some (.int r.1))) r.2 G := by rw [hQ]; exact ⟨rfl, rfl, rfl⟩
  rw [← hQ]
  clear hQ
  rw [s_X9_setFaults] at h
  refine aw_aload_n (pc := 0) (i := 0) (x := 164) hM dX9_setFaults_0 rfl rfl ?_
  refine aw_aload_n (pc := 1) (i := 0) (x := 164) hM dX9_setFaults_1 rfl rfl ?_
  refine aw_iload_n (pc := 2) (i := 1) (x := p0) hM dX9_setFaults_2 rfl rfl ?_
  obtain ⟨r2, h1, h⟩ := bind_some h
  refine aw_cv1 (pc := 3) (n := 1) (As := [.int p0]) (st := [.ref 164]) (b := 164) (vo := (some (.int r2))) (c2 := 0) (s2 := 0) hM (k_X9_isNode h1) rfl cw_X9_203 sk_164 rfl rfl (by decide +kernel) rfl rfl ⟨(Nat.le_of_ble_eq_true rfl), (Nat.le_of_ble_eq_true rfl)⟩ (Nat.le_of_ble_eq_true rfl) ⟨(Nat.le_of_ble_eq_true rfl), (Nat.le_of_ble_eq_true rfl)⟩ dX9_setFaults_3 rfl rfl ?_
  refine aw_if_ne (pc := 6) (tgt := 13) hM dX9_setFaults_6 (by decide) (fun c3 => ?_) (fun c3 => ?_)
  · rw [if_neg c3] at h
    refine aw_iload_n (pc := 13) (i := 2) (x := p1) hM dX9_setFaults_13 rfl rfl ?_
    refine aw_i2l (pc := 14) hM dX9_setFaults_14 ?_
    refine aw_lconst (pc := 15) (v := 0) hM dX9_setFaults_15 (by decide) ?_
    refine aw_ldc2 (pc := 16) hM gw_1286 dX9_setFaults_16 ?_
    obtain ⟨r5, h4, h⟩ := bind_some h
    refine aw_cs1 (pc := 19) (n := 3) (As := [.long (Int32.toInt64 p1), .long 0, .long 9]) (st := [.ref 164]) (vo := (some (.int r5))) (c2 := 0) (s2 := 0) hM (k_X9_in h4) rfl cw_X9_82 (by decide +kernel) rfl rfl ⟨(Nat.le_of_ble_eq_true rfl), (Nat.le_of_ble_eq_true rfl)⟩ (Nat.le_of_ble_eq_true rfl) ⟨(Nat.le_of_ble_eq_true rfl), (Nat.le_of_ble_eq_true rfl)⟩ dX9_setFaults_19 rfl rfl ?_
    refine aw_if_ne (pc := 22) (tgt := 29) hM dX9_setFaults_22 (by decide) (fun c6 => ?_) (fun c6 => ?_)
    · rw [if_neg c6] at h
      refine aw_iconst (pc := 29) (v := 0) hM dX9_setFaults_29 (by decide) ?_
      obtain ⟨z9, h7, h⟩ := bind_some h
      refine aw_cv1 (pc := 30) (n := 1) (As := [.int 0]) (st := []) (b := 164) (vo := (some (.int z9.1))) (c2 := 0) (s2 := 0) hM (k_X9_refused h7) rfl cw_X9_93 sk_164 rfl rfl (by decide +kernel) rfl rfl ⟨(Nat.le_of_ble_eq_true rfl), (Nat.le_of_ble_eq_true rfl)⟩ (Nat.le_of_ble_eq_true rfl) ⟨(Nat.le_of_ble_eq_true rfl), (Nat.le_of_ble_eq_true rfl)⟩ dX9_setFaults_30 rfl rfl ?_
      refine aw_if_eq (pc := 33) (tgt := 38) hM dX9_setFaults_33 (by decide) (fun c10 => ?_) (fun c10 => ?_)
      · rw [if_pos c10] at h
        refine aw_aload_n (pc := 38) (i := 0) (x := 164) hM dX9_setFaults_38 rfl rfl ?_
        refine aw_iload_n (pc := 39) (i := 1) (x := p0) hM dX9_setFaults_39 rfl rfl ?_
        obtain ⟨r12, h11, h⟩ := bind_some h
        refine aw_cs1 (pc := 40) (n := 1) (As := [.int p0]) (st := [.ref 164]) (vo := (some (.int r12))) (c2 := 0) (s2 := 0) hM (k_X9_at h11) rfl cw_X9_126 (by decide +kernel) rfl rfl ⟨(Nat.le_of_ble_eq_true rfl), (Nat.le_of_ble_eq_true rfl)⟩ (Nat.le_of_ble_eq_true rfl) ⟨(Nat.le_of_ble_eq_true rfl), (Nat.le_of_ble_eq_true rfl)⟩ dX9_setFaults_40 rfl rfl ?_
        refine aw_bipush (pc := 43) (v := 12) hM dX9_setFaults_43 (by decide) ?_
        refine aw_iadd (pc := 45) hM dX9_setFaults_45 ?_
        refine aw_iload_n (pc := 46) (i := 2) (x := p1) hM dX9_setFaults_46 rfl rfl ?_
        obtain ⟨z15, h13, h⟩ := bind_some h
        refine aw_cv1 (pc := 47) (n := 2) (As := [.int (r12 + 12), .int p1]) (st := []) (b := 164) (vo := (some (.int z15.1))) (c2 := 0) (s2 := 0) hM (k_X9_change h13) rfl cw_X9_219 sk_164 rfl rfl (by decide +kernel) rfl rfl ⟨(Nat.le_of_ble_eq_true rfl), (Nat.le_of_ble_eq_true rfl)⟩ (Nat.le_of_ble_eq_true rfl) ⟨(Nat.le_of_ble_eq_true rfl), (Nat.le_of_ble_eq_true rfl)⟩ dX9_setFaults_47 rfl rfl ?_
        obtain rfl := Option.some.inj h
        exact aw_iret (pc := 50) hM dX9_setFaults_50 (Nat.le_of_ble_eq_true rfl) (Nat.le_of_ble_eq_true rfl) hq
      · rw [if_neg c10] at h
        refine aw_iconst (pc := 36) (v := 0) hM dX9_setFaults_36 (by decide) ?_
        obtain rfl := Option.some.inj h
        exact aw_iret (pc := 37) hM dX9_setFaults_37 (Nat.le_of_ble_eq_true rfl) (Nat.le_of_ble_eq_true rfl) hq
    · rw [if_pos c6] at h
      refine aw_iconst (pc := 25) (v := 2) hM dX9_setFaults_25 (by decide) ?_
      refine aw_goto (pc := 26) (tgt := 30) hM dX9_setFaults_26 (by decide) ?_
      obtain ⟨z18, h16, h⟩ := bind_some h
      refine aw_cv1 (pc := 30) (n := 1) (As := [.int 2]) (st := []) (b := 164) (vo := (some (.int z18.1))) (c2 := 0) (s2 := 0) hM (k_X9_refused h16) rfl cw_X9_93 sk_164 rfl rfl (by decide +kernel) rfl rfl ⟨(Nat.le_of_ble_eq_true rfl), (Nat.le_of_ble_eq_true rfl)⟩ (Nat.le_of_ble_eq_true rfl) ⟨(Nat.le_of_ble_eq_true rfl), (Nat.le_of_ble_eq_true rfl)⟩ dX9_setFaults_30 rfl rfl ?_
      refine aw_if_eq (pc := 33) (tgt := 38) hM dX9_setFaults_33 (by decide) (fun c19 => ?_) (fun c19 => ?_)
      · rw [if_pos c19] at h
        refine aw_aload_n (pc := 38) (i := 0) (x := 164) hM dX9_setFaults_38 rfl rfl ?_
        refine aw_iload_n (pc := 39) (i := 1) (x := p0) hM dX9_setFaults_39 rfl rfl ?_
        obtain ⟨r21, h20, h⟩ := bind_some h
        refine aw_cs1 (pc := 40) (n := 1) (As := [.int p0]) (st := [.ref 164]) (vo := (some (.int r21))) (c2 := 0) (s2 := 0) hM (k_X9_at h20) rfl cw_X9_126 (by decide +kernel) rfl rfl ⟨(Nat.le_of_ble_eq_true rfl), (Nat.le_of_ble_eq_true rfl)⟩ (Nat.le_of_ble_eq_true rfl) ⟨(Nat.le_of_ble_eq_true rfl), (Nat.le_of_ble_eq_true rfl)⟩ dX9_setFaults_40 rfl rfl ?_
        refine aw_bipush (pc := 43) (v := 12) hM dX9_setFaults_43 (by decide) ?_
        refine aw_iadd (pc := 45) hM dX9_setFaults_45 ?_
        refine aw_iload_n (pc := 46) (i := 2) (x := p1) hM dX9_setFaults_46 rfl rfl ?_
        obtain ⟨z24, h22, h⟩ := bind_some h
        refine aw_cv1 (pc := 47) (n := 2) (As := [.int (r21 + 12), .int p1]) (st := []) (b := 164) (vo := (some (.int z24.1))) (c2 := 0) (s2 := 0) hM (k_X9_change h22) rfl cw_X9_219 sk_164 rfl rfl (by decide +kernel) rfl rfl ⟨(Nat.le_of_ble_eq_true rfl), (Nat.le_of_ble_eq_true rfl)⟩ (Nat.le_of_ble_eq_true rfl) ⟨(Nat.le_of_ble_eq_true rfl), (Nat.le_of_ble_eq_true rfl)⟩ dX9_setFaults_47 rfl rfl ?_
        obtain rfl := Option.some.inj h
        exact aw_iret (pc := 50) hM dX9_setFaults_50 (Nat.le_of_ble_eq_true rfl) (Nat.le_of_ble_eq_true rfl) hq
      · rw [if_neg c19] at h
        refine aw_iconst (pc := 36) (v := 0) hM dX9_setFaults_36 (by decide) ?_
        obtain rfl := Option.some.inj h
        exact aw_iret (pc := 37) hM dX9_setFaults_37 (Nat.le_of_ble_eq_true rfl) (Nat.le_of_ble_eq_true rfl) hq
  · rw [if_pos c3] at h
    refine aw_iconst (pc := 9) (v := 1) hM dX9_setFaults_9 (by decide) ?_
    refine aw_goto (pc := 10) (tgt := 30) hM dX9_setFaults_10 (by decide) ?_
    obtain ⟨z27, h25, h⟩ := bind_some h
    refine aw_cv1 (pc := 30) (n := 1) (As := [.int 1]) (st := []) (b := 164) (vo := (some (.int z27.1))) (c2 := 0) (s2 := 0) hM (k_X9_refused h25) rfl cw_X9_93 sk_164 rfl rfl (by decide +kernel) rfl rfl ⟨(Nat.le_of_ble_eq_true rfl), (Nat.le_of_ble_eq_true rfl)⟩ (Nat.le_of_ble_eq_true rfl) ⟨(Nat.le_of_ble_eq_true rfl), (Nat.le_of_ble_eq_true rfl)⟩ dX9_setFaults_30 rfl rfl ?_
    refine aw_if_eq (pc := 33) (tgt := 38) hM dX9_setFaults_33 (by decide) (fun c28 => ?_) (fun c28 => ?_)
    · rw [if_pos c28] at h
      refine aw_aload_n (pc := 38) (i := 0) (x := 164) hM dX9_setFaults_38 rfl rfl ?_
      refine aw_iload_n (pc := 39) (i := 1) (x := p0) hM dX9_setFaults_39 rfl rfl ?_
      obtain ⟨r30, h29, h⟩ := bind_some h
      refine aw_cs1 (pc := 40) (n := 1) (As := [.int p0]) (st := [.ref 164]) (vo := (some (.int r30))) (c2 := 0) (s2 := 0) hM (k_X9_at h29) rfl cw_X9_126 (by decide +kernel) rfl rfl ⟨(Nat.le_of_ble_eq_true rfl), (Nat.le_of_ble_eq_true rfl)⟩ (Nat.le_of_ble_eq_true rfl) ⟨(Nat.le_of_ble_eq_true rfl), (Nat.le_of_ble_eq_true rfl)⟩ dX9_setFaults_40 rfl rfl ?_
      refine aw_bipush (pc := 43) (v := 12) hM dX9_setFaults_43 (by decide) ?_
      refine aw_iadd (pc := 45) hM dX9_setFaults_45 ?_
      refine aw_iload_n (pc := 46) (i := 2) (x := p1) hM dX9_setFaults_46 rfl rfl ?_
      obtain ⟨z33, h31, h⟩ := bind_some h
      refine aw_cv1 (pc := 47) (n := 2) (As := [.int (r30 + 12), .int p1]) (st := []) (b := 164) (vo := (some (.int z33.1))) (c2 := 0) (s2 := 0) hM (k_X9_change h31) rfl cw_X9_219 sk_164 rfl rfl (by decide +kernel) rfl rfl ⟨(Nat.le_of_ble_eq_true rfl), (Nat.le_of_ble_eq_true rfl)⟩ (Nat.le_of_ble_eq_true rfl) ⟨(Nat.le_of_ble_eq_true rfl), (Nat.le_of_ble_eq_true rfl)⟩ dX9_setFaults_47 rfl rfl ?_
      obtain rfl := Option.some.inj h
      exact aw_iret (pc := 50) hM dX9_setFaults_50 (Nat.le_of_ble_eq_true rfl) (Nat.le_of_ble_eq_true rfl) hq
    · rw [if_neg c28] at h
      refine aw_iconst (pc := 36) (v := 0) hM dX9_setFaults_36 (by decide) ?_
      obtain rfl := Option.some.inj h
      exact aw_iret (pc := 37) hM dX9_setFaults_37 (Nat.le_of_ble_eq_true rfl) (Nat.le_of_ble_eq_true rfl) hq
def rmX9_setQuorum : Room := { frames := 3, cells := 0, slots := 0, locals := 68 }
def s_X9_setQuorum (F : MM) (p0 : Int32) (p1 : Int32) : Option (Int32 × MM) := (s_X9_isPart F p0).bind (fun r2 => if r2 = 0 then (s_X9_refused F 1).bind (fun z27 => if z27.1 = 0 then (s_X9_partAt z27.2 p0).bind (fun r30 => (s_X9_change z27.2 r30 p1).bind (fun z33 => some (z33.1, z33.2))) else some (0, z27.2)) else (s_X9_in F (Int32.toInt64 p1) 0 5).bind (fun r5 => if r5 = 0 then (s_X9_refused F 2).bind (fun z18 => if z18.1 = 0 then (s_X9_partAt z18.2 p0).bind (fun r21 => (s_X9_change z18.2 r21 p1).bind (fun z24 => some (z24.1, z24.2))) else some (0, z18.2)) else (s_X9_refused F 0).bind (fun z9 => if z9.1 = 0 then (s_X9_partAt z9.2 p0).bind (fun r12 => (s_X9_change z9.2 r12 p1).bind (fun z15 => some (z15.1, z15.2))) else some (0, z9.2))))
set_option maxRecDepth 20000 in
theorem k_X9_setQuorum {C : CX} {F : MM} {G : GG} {p0 : Int32} {p1 : Int32} {r : (Int32 × MM)} (h : s_X9_setQuorum F p0 p1 = some r) : AM C yX9_setQuorum cX9_setQuorum 3 (some .int) rmX9_setQuorum [.ref 164, .int p0, .int p1] F G (fun o F9 G9 => o = (.inl (some (.int r.1))) ∧ F9 = r.2 ∧ G9 = G) := by
  refine am_of (L := [some (.ref 164), some (.int p0), some (.int p1)]) (by decide) (Nat.le_of_ble_eq_true rfl) rfl (fun M hM hT => ?_)
  have hM : MOk C RX9 cX9_setQuorum 3 (some .int) rmX9_setQuorum M := hM
  obtain ⟨Q, hQ⟩ : ∃ Q : OUT → MM → GG → Prop, Q = (fun o F9 G9 => o = (.inl (some (.int r.1))) ∧ F9 = r.2 ∧ G9 = G) := ⟨_, rfl⟩
  have hq : Q (.inl (some (.int r.1))) r.2 G := by rw [hQ]; exact ⟨rfl, rfl, rfl⟩
  rw [← hQ]
  clear hQ
  rw [s_X9_setQuorum] at h
  refine aw_aload_n (pc := 0) (i := 0) (x := 164) hM dX9_setQuorum_0 rfl rfl ?_
  refine aw_aload_n (pc := 1) (i := 0) (x := 164) hM dX9_setQuorum_1 rfl rfl ?_
  refine aw_iload_n (pc := 2) (i := 1) (x := p0) hM dX9_setQuorum_2 rfl rfl ?_
  obtain ⟨r2, h1, h⟩ := bind_some h
  refine aw_cv1 (pc := 3) (n := 1) (As := [.int p0]) (st := [.ref 164]) (b := 164) (vo := (some (.int r2))) (c2 := 0) (s2 := 0) hM (k_X9_isPart h1) rfl cw_X9_211 sk_164 rfl rfl (by decide +kernel) rfl rfl ⟨(Nat.le_of_ble_eq_true rfl), (Nat.le_of_ble_eq_true rfl)⟩ (Nat.le_of_ble_eq_true rfl) ⟨(Nat.le_of_ble_eq_true rfl), (Nat.le_of_ble_eq_true rfl)⟩ dX9_setQuorum_3 rfl rfl ?_
  refine aw_if_ne (pc := 6) (tgt := 13) hM dX9_setQuorum_6 (by decide) (fun c3 => ?_) (fun c3 => ?_)
  · rw [if_neg c3] at h
    refine aw_iload_n (pc := 13) (i := 2) (x := p1) hM dX9_setQuorum_13 rfl rfl ?_
    refine aw_i2l (pc := 14) hM dX9_setQuorum_14 ?_
    refine aw_lconst (pc := 15) (v := 0) hM dX9_setQuorum_15 (by decide) ?_
    refine aw_ldc2 (pc := 16) hM gw_1281 dX9_setQuorum_16 ?_
    obtain ⟨r5, h4, h⟩ := bind_some h
    refine aw_cs1 (pc := 19) (n := 3) (As := [.long (Int32.toInt64 p1), .long 0, .long 5]) (st := [.ref 164]) (vo := (some (.int r5))) (c2 := 0) (s2 := 0) hM (k_X9_in h4) rfl cw_X9_82 (by decide +kernel) rfl rfl ⟨(Nat.le_of_ble_eq_true rfl), (Nat.le_of_ble_eq_true rfl)⟩ (Nat.le_of_ble_eq_true rfl) ⟨(Nat.le_of_ble_eq_true rfl), (Nat.le_of_ble_eq_true rfl)⟩ dX9_setQuorum_19 rfl rfl ?_
    refine aw_if_ne (pc := 22) (tgt := 29) hM dX9_setQuorum_22 (by decide) (fun c6 => ?_) (fun c6 => ?_)
    · rw [if_neg c6] at h
      refine aw_iconst (pc := 29) (v := 0) hM dX9_setQuorum_29 (by decide) ?_
      obtain ⟨z9, h7, h⟩ := bind_some h
      refine aw_cv1 (pc := 30) (n := 1) (As := [.int 0]) (st := []) (b := 164) (vo := (some (.int z9.1))) (c2 := 0) (s2 := 0) hM (k_X9_refused h7) rfl cw_X9_93 sk_164 rfl rfl (by decide +kernel) rfl rfl ⟨(Nat.le_of_ble_eq_true rfl), (Nat.le_of_ble_eq_true rfl)⟩ (Nat.le_of_ble_eq_true rfl) ⟨(Nat.le_of_ble_eq_true rfl), (Nat.le_of_ble_eq_true rfl)⟩ dX9_setQuorum_30 rfl rfl ?_
      refine aw_if_eq (pc := 33) (tgt := 38) hM dX9_setQuorum_33 (by decide) (fun c10 => ?_) (fun c10 => ?_)
      · rw [if_pos c10] at h
        refine aw_aload_n (pc := 38) (i := 0) (x := 164) hM dX9_setQuorum_38 rfl rfl ?_
        refine aw_iload_n (pc := 39) (i := 1) (x := p0) hM dX9_setQuorum_39 rfl rfl ?_
        obtain ⟨r12, h11, h⟩ := bind_some h
        refine aw_cs1 (pc := 40) (n := 1) (As := [.int p0]) (st := [.ref 164]) (vo := (some (.int r12))) (c2 := 0) (s2 := 0) hM (k_X9_partAt h11) rfl cw_X9_119 (by decide +kernel) rfl rfl ⟨(Nat.le_of_ble_eq_true rfl), (Nat.le_of_ble_eq_true rfl)⟩ (Nat.le_of_ble_eq_true rfl) ⟨(Nat.le_of_ble_eq_true rfl), (Nat.le_of_ble_eq_true rfl)⟩ dX9_setQuorum_40 rfl rfl ?_
        refine aw_iload_n (pc := 43) (i := 2) (x := p1) hM dX9_setQuorum_43 rfl rfl ?_
        obtain ⟨z15, h13, h⟩ := bind_some h
        refine aw_cv1 (pc := 44) (n := 2) (As := [.int r12, .int p1]) (st := []) (b := 164) (vo := (some (.int z15.1))) (c2 := 0) (s2 := 0) hM (k_X9_change h13) rfl cw_X9_219 sk_164 rfl rfl (by decide +kernel) rfl rfl ⟨(Nat.le_of_ble_eq_true rfl), (Nat.le_of_ble_eq_true rfl)⟩ (Nat.le_of_ble_eq_true rfl) ⟨(Nat.le_of_ble_eq_true rfl), (Nat.le_of_ble_eq_true rfl)⟩ dX9_setQuorum_44 rfl rfl ?_
        obtain rfl := Option.some.inj h
        exact aw_iret (pc := 47) hM dX9_setQuorum_47 (Nat.le_of_ble_eq_true rfl) (Nat.le_of_ble_eq_true rfl) hq
      · rw [if_neg c10] at h
        refine aw_iconst (pc := 36) (v := 0) hM dX9_setQuorum_36 (by decide) ?_
        obtain rfl := Option.some.inj h
        exact aw_iret (pc := 37) hM dX9_setQuorum_37 (Nat.le_of_ble_eq_true rfl) (Nat.le_of_ble_eq_true rfl) hq
    · rw [if_pos c6] at h
      refine aw_iconst (pc := 25) (v := 2) hM dX9_setQuorum_25 (by decide) ?_
      refine aw_goto (pc := 26) (tgt := 30) hM dX9_setQuorum_26 (by decide) ?_
      obtain ⟨z18, h16, h⟩ := bind_some h
      refine aw_cv1 (pc := 30) (n := 1) (As := [.int 2]) (st := []) (b := 164) (vo := (some (.int z18.1))) (c2 := 0) (s2 := 0) hM (k_X9_refused h16) rfl cw_X9_93 sk_164 rfl rfl (by decide +kernel) rfl rfl ⟨(Nat.le_of_ble_eq_true rfl), (Nat.le_of_ble_eq_true rfl)⟩ (Nat.le_of_ble_eq_true rfl) ⟨(Nat.le_of_ble_eq_true rfl), (Nat.le_of_ble_eq_true rfl)⟩ dX9_setQuorum_30 rfl rfl ?_
      refine aw_if_eq (pc := 33) (tgt := 38) hM dX9_setQuorum_33 (by decide) (fun c19 => ?_) (fun c19 => ?_)
      · rw [if_pos c19] at h
        refine aw_aload_n (pc := 38) (i := 0) (x := 164) hM dX9_setQuorum_38 rfl rfl ?_
        refine aw_iload_n (pc := 39) (i := 1) (x := p0) hM dX9_setQuorum_39 rfl rfl ?_
        obtain ⟨r21, h20, h⟩ := bind_some h
        refine aw_cs1 (pc := 40) (n := 1) (As := [.int p0]) (st := [.ref 164]) (vo := (some (.int r21))) (c2 := 0) (s2 := 0) hM (k_X9_partAt h20) rfl cw_X9_119 (by decide +kernel) rfl rfl ⟨(Nat.le_of_ble_eq_true rfl), (Nat.le_of_ble_eq_true rfl)⟩ (Nat.le_of_ble_eq_true rfl) ⟨(Nat.le_of_ble_eq_true rfl), (Nat.le_of_ble_eq_true rfl)⟩ dX9_setQuorum_40 rfl rfl ?_
        refine aw_iload_n (pc := 43) (i := 2) (x := p1) hM dX9_setQuorum_43 rfl rfl ?_
        obtain ⟨z24, h22, h⟩ := bind_some h
        refine aw_cv1 (pc := 44) (n := 2) (As := [.int r21, .int p1]) (st := []) (b := 164) (vo := (some (.int z24.1))) (c2 := 0) (s2 := 0) hM (k_X9_change h22) rfl cw_X9_219 sk_164 rfl rfl (by decide +kernel) rfl rfl ⟨(Nat.le_of_ble_eq_true rfl), (Nat.le_of_ble_eq_true rfl)⟩ (Nat.le_of_ble_eq_true rfl) ⟨(Nat.le_of_ble_eq_true rfl), (Nat.le_of_ble_eq_true rfl)⟩ dX9_setQuorum_44 rfl rfl ?_
        obtain rfl := Option.some.inj h
        exact aw_iret (pc := 47) hM dX9_setQuorum_47 (Nat.le_of_ble_eq_true rfl) (Nat.le_of_ble_eq_true rfl) hq
      · rw [if_neg c19] at h
        refine aw_iconst (pc := 36) (v := 0) hM dX9_setQuorum_36 (by decide) ?_
        obtain rfl := Option.some.inj h
        exact aw_iret (pc := 37) hM dX9_setQuorum_37 (Nat.le_of_ble_eq_true rfl) (Nat.le_of_ble_eq_true rfl) hq
  · rw [if_pos c3] at h
    refine aw_iconst (pc := 9) (v := 1) hM dX9_setQuorum_9 (by decide) ?_
    refine aw_goto (pc := 10) (tgt := 30) hM dX9_setQuorum_10 (by decide) ?_
    obtain ⟨z27, h25, h⟩ := bind_some h
    refine aw_cv1 (pc := 30) (n := 1) (As := [.int 1]) (st := []) (b := 164) (vo := (some (.int z27.1))) (c2 := 0) (s2 := 0) hM (k_X9_refused h25) rfl cw_X9_93 sk_164 rfl rfl (by decide +kernel) rfl rfl ⟨(Nat.le_of_ble_eq_true rfl), (Nat.le_of_ble_eq_true rfl)⟩ (Nat.le_of_ble_eq_true rfl) ⟨(Nat.le_of_ble_eq_true rfl), (Nat.le_of_ble_eq_true rfl)⟩ dX9_setQuorum_30 rfl rfl ?_
    refine aw_if_eq (pc := 33) (tgt := 38) hM dX9_setQuorum_33 (by decide) (fun c28 => ?_) (fun c28 => ?_)
    · rw [if_pos c28] at h
      refine aw_aload_n (pc := 38) (i := 0) (x := 164) hM dX9_setQuorum_38 rfl rfl ?_
      refine aw_iload_n (pc := 39) (i := 1) (x := p0) hM dX9_setQuorum_39 rfl rfl ?_
      obtain ⟨r30, h29, h⟩ := bind_some h
      refine aw_cs1 (pc := 40) (n := 1) (As := [.int p0]) (st := [.ref 164]) (vo := (some (.int r30))) (c2 := 0) (s2 := 0) hM (k_X9_partAt h29) rfl cw_X9_119 (by decide +kernel) rfl rfl ⟨(Nat.le_of_ble_eq_true rfl), (Nat.le_of_ble_eq_true rfl)⟩ (Nat.le_of_ble_eq_true rfl) ⟨(Nat.le_of_ble_eq_true rfl), (Nat.le_of_ble_eq_true rfl)⟩ dX9_setQuorum_40 rfl rfl ?_
      refine aw_iload_n (pc := 43) (i := 2) (x := p1) hM dX9_setQuorum_43 rfl rfl ?_
      obtain ⟨z33, h31, h⟩ := bind_some h
      refine aw_cv1 (pc := 44) (n := 2) (As := [.int r30, .int p1]) (st := []) (b := 164) (vo := (some (.int z33.1))) (c2 := 0) (s2 := 0) hM (k_X9_change h31) rfl cw_X9_219 sk_164 rfl rfl (by decide +kernel) rfl rfl ⟨(Nat.le_of_ble_eq_true rfl), (Nat.le_of_ble_eq_true rfl)⟩ (Nat.le_of_ble_eq_true rfl) ⟨(Nat.le_of_ble_eq_true rfl), (Nat.le_of_ble_eq_true rfl)⟩ dX9_setQuorum_44 rfl rfl ?_
      obtain rfl := Option.some.inj h
      exact aw_iret (pc := 47) hM dX9_setQuorum_47 (Nat.le_of_ble_eq_true rfl) (Nat.le_of_ble_eq_true rfl) hq
    · rw [if_neg c28] at h
      refine aw_iconst (pc := 36) (v := 0) hM dX9_setQuorum_36 (by decide) ?_
      obtain rfl := Option.some.inj h
      exact aw_iret (pc := 37) hM dX9_setQuorum_37 (Nat.le_of_ble_eq_true rfl) (Nat.le_of_ble_eq_true rfl) hq
def rmX9_simulate : Room := { frames := 6, cells := 0, slots := 0, locals := 143 }
def s_X9_simulate_b128 (k55 : MM → Int32 → Int64 → Int32 → Int32 → Option (Int32 × MM)) (F : MM) (x3 : Int32) (x4 : Int64) (x6 : Int32) (x7 : Int32) (x8 : Int32) (x9 : Int32) : Option (Int32 × MM) := if (x8 - x8 / 3 * 3) = 1 then (s_X9_at F x9).bind (fun r39 => if inb (r39 + 12) 107 then ((some (mup F 172 (ix (r39 + 12)) ((x8 / 4096) - (x8 / 4096) / 4 * 4))).bind (fun F41 => (s_X9_tickOn F41 172).bind (fun F44 => (some (x7 + 1 : Int32)).bind (fun y45 => k55 F44 x3 x4 x6 y45)))) else none) else (s_X9_tickOn F 172).bind (fun F35 => (some (x7 + 1 : Int32)).bind (fun y36 => k55 F35 x3 x4 x6 y36))
def s_X9_simulate_b55 : Nat → MM → Int32 → Int64 → Int32 → Int32 → Option (Int32 × MM)
  | 0, _, _, _, _, _ => none
  | n + 1, F, x3, x4, x6, x7 => if x3 ≤ x7 then if inb 1 107 then ((s_X9_calmNodes F 172).bind (fun r16 => (s_X9_ones F r16).bind (fun r18 => some (((F 172 (ix 1)) - x6) + (1000 * ((F 164 4) - r18)), F)))) else none else (some ((x4 * 6364136223846793005) + 1442695040888963407 : Int64)).bind (fun y19 => (some (Int64.toInt32 (((Int64.toUInt64 y19) >>> ((Int32.toInt64 33).toUInt64 &&& Int64.toUInt64 63)).toInt64) : Int32)).bind (fun y21 => if ¬ (F 164 4) = 0 then ((some ((y21 / 64) - (y21 / 64) / (F 164 4) * (F 164 4) : Int32)).bind (fun y24 => if (y21 - y21 / 3 * 3) = 0 then (s_X9_at F y24).bind (fun r28 => if ¬ (F 164 5) = 0 then (if inb (r28 + ((y21 / 4) - (y21 / 4) / (F 164 5) * (F 164 5))) 107 then ((some (mup F 172 (ix (r28 + ((y21 / 4) - (y21 / 4) / (F 164 5) * (F 164 5)))) ((y21 / 1024) - (y21 / 1024) / 4 * 4))).bind (fun F31 => s_X9_simulate_b128 (s_X9_simulate_b55 n) F31 x3 y19 x6 x7 y21 y24)) else none) else none) else s_X9_simulate_b128 (s_X9_simulate_b55 n) F x3 y19 x6 x7 y21 y24)) else none))
def s_X9_simulate_b18 (F : MM) (x1 : Int64) (x3 : Int32) (t0 : Int32) : Option (Int32 × MM) := (s_X9_refused F t0).bind (fun z6 => if z6.1 = 0 then (s_X9_copy z6.2 171 0 172 0 107).bind (fun F9 => if inb 1 107 then ((some (F9 172 (ix 1) : Int32)).bind (fun y11 => s_X9_simulate_b55 fu_ F9 x3 x1 y11 0)) else none) else some (0, z6.2))
def s_X9_simulate (F : MM) (p0 : Int64) (p1 : Int32) : Option (Int32 × MM) := (s_X9_in F (Int32.toInt64 p1) 1 60).bind (fun r2 => if r2 = 0 then s_X9_simulate_b18 F p0 p1 1 else s_X9_simulate_b18 F p0 p1 0)
set_option maxRecDepth 20000 in
theorem k_X9_simulate_b128 {C : CX} {M : MX} {G : GG} {Q : OUT → MM → GG → Prop} {k55 : MM → Int32 → Int64 → Int32 → Int32 → Option (Int32 × MM)} {r : (Int32 × MM)} (hM : MOk C RX9 cX9_simulate 10 (some .int) rmX9_simulate M) (hT : MNoT M) (hk55 : ∀ (wF : MM) (w0 : Int32) (w1 : Int64) (w2 : Int32) (w3 : Int32), k55 wF w0 w1 w2 w3 = some r → AW C 10 (ZM C rmX9_simulate Q M) M 0 0 55 [some (.ref 164), none, none, some (.int w0), some (.long w1), none, some (.int w2), some (.int w3), none, none] [] wF G) (hq : Q (.inl (some (.int r.1))) r.2 G) (F : MM) (x3 : Int32) (x4 : Int64) (x6 : Int32) (x7 : Int32) (x8 : Int32) (x9 : Int32) (h : s_X9_simulate_b128 k55 F x3 x4 x6 x7 x8 x9 = some r) : AW C 10 (ZM C rmX9_simulate Q M) M 0 0 128 [some (.ref 164), none, none, some (.int x3), some (.long x4), none, some (.int x6), some (.int x7), some (.int x8), some (.int x9)] [] F G := by
  rw [s_X9_simulate_b128] at h
  refine aw_iload (pc := 128) (i := 8) (x := x8) hM dX9_simulate_128  rfl ?_
  refine aw_iconst (pc := 130) (v := 3) hM dX9_simulate_130 (by decide) ?_
  refine aw_irem (pc := 131) hM dX9_simulate_131 (by decide) ?_
  refine aw_iconst (pc := 132) (v := 1) hM dX9_simulate_132 (by decide) ?_
  refine aw_icmp_ne (pc := 133) (tgt := 157) hM dX9_simulate_133 (by decide) (fun c33 => ?_) (fun c33 => ?_)
  · rw [if_neg c33] at h
    refine aw_aload_n (pc := 157) (i := 0) (x := 164) hM dX9_simulate_157 rfl rfl ?_
    refine aw_aload_n (pc := 158) (i := 0) (x := 164) hM dX9_simulate_158 rfl rfl ?_
    refine aw_getR (pc := 159) (r := 172) hM fd_X9_44 sk_164 rfl dX9_simulate_159 ?_
    obtain ⟨F35, h34, h⟩ := bind_some h
    refine aw_cv1 (pc := 162) (n := 1) (As := [.ref 172]) (st := []) (b := 164) (vo := none) (c2 := 0) (s2 := 0) hM (k_X9_tickOn (ia_of sk_172) h34) rfl cw_X9_230 sk_164 rfl rfl (by decide +kernel) rfl rfl ⟨(Nat.le_of_ble_eq_true rfl), (Nat.le_of_ble_eq_true rfl)⟩ (Nat.le_of_ble_eq_true rfl) ⟨(Nat.le_of_ble_eq_true rfl), (Nat.le_of_ble_eq_true rfl)⟩ dX9_simulate_162 rfl rfl ?_
    obtain ⟨y36, e37, h⟩ := bind_some h
    have e37 := Option.some.inj e37
    refine aw_iinc (pc := 165) (v := y36) (L' := [some (.ref 164), none, none, some (.int x3), some (.long x4), none, some (.int x6), some (.int y36), some (.int x8), some (.int x9)]) hM dX9_simulate_165 rfl e37 (by decide) rfl ?_
    refine aw_goto (pc := 168) (tgt := 55) hM dX9_simulate_168 (by decide) ?_
    refine aw_weak (L' := [some (.ref 164), none, none, some (.int x3), some (.long x4), none, some (.int x6), some (.int y36), none, none]) ?_ (lw_of [true, true, true, true, true, true, true, true, false, false] rfl)
    exact hk55 F35 x3 x4 x6 y36 h
  · rw [if_pos c33] at h
    refine aw_aload_n (pc := 136) (i := 0) (x := 164) hM dX9_simulate_136 rfl rfl ?_
    refine aw_getR (pc := 137) (r := 172) hM fd_X9_44 sk_164 rfl dX9_simulate_137 ?_
    refine aw_iload (pc := 140) (i := 9) (x := x9) hM dX9_simulate_140  rfl ?_
    obtain ⟨r39, h38, h⟩ := bind_some h
    refine aw_cs1 (pc := 142) (n := 1) (As := [.int x9]) (st := [.ref 172]) (vo := (some (.int r39))) (c2 := 0) (s2 := 0) hM (k_X9_at h38) rfl cw_X9_126 (by decide +kernel) rfl rfl ⟨(Nat.le_of_ble_eq_true rfl), (Nat.le_of_ble_eq_true rfl)⟩ (Nat.le_of_ble_eq_true rfl) ⟨(Nat.le_of_ble_eq_true rfl), (Nat.le_of_ble_eq_true rfl)⟩ dX9_simulate_142 rfl rfl ?_
    refine aw_bipush (pc := 145) (v := 12) hM dX9_simulate_145 (by decide) ?_
    refine aw_iadd (pc := 147) hM dX9_simulate_147 ?_
    refine aw_iload (pc := 148) (i := 8) (x := x8) hM dX9_simulate_148  rfl ?_
    refine aw_sipush (pc := 150) (v := 4096) hM dX9_simulate_150 (by decide) ?_
    refine aw_idiv (pc := 153) hM dX9_simulate_153 (by decide) ?_
    refine aw_iconst (pc := 154) (v := 4) hM dX9_simulate_154 (by decide) ?_
    refine aw_irem (pc := 155) hM dX9_simulate_155 (by decide) ?_
    obtain ⟨c40, h⟩ := ite_some h
    obtain ⟨F41, e42, h⟩ := bind_some h
    have e42 := Option.some.inj e42
    refine aw_iast (pc := 156) hM sk_172 c40 dX9_simulate_156 ?_
    refine aw_mem e42 ?_
    refine aw_aload_n (pc := 157) (i := 0) (x := 164) hM dX9_simulate_157 rfl rfl ?_
    refine aw_aload_n (pc := 158) (i := 0) (x := 164) hM dX9_simulate_158 rfl rfl ?_
    refine aw_getR (pc := 159) (r := 172) hM fd_X9_44 sk_164 rfl dX9_simulate_159 ?_
    obtain ⟨F44, h43, h⟩ := bind_some h
    refine aw_cv1 (pc := 162) (n := 1) (As := [.ref 172]) (st := []) (b := 164) (vo := none) (c2 := 0) (s2 := 0) hM (k_X9_tickOn (ia_of sk_172) h43) rfl cw_X9_230 sk_164 rfl rfl (by decide +kernel) rfl rfl ⟨(Nat.le_of_ble_eq_true rfl), (Nat.le_of_ble_eq_true rfl)⟩ (Nat.le_of_ble_eq_true rfl) ⟨(Nat.le_of_ble_eq_true rfl), (Nat.le_of_ble_eq_true rfl)⟩ dX9_simulate_162 rfl rfl ?_
    obtain ⟨y45, e46, h⟩ := bind_some h
    have e46 := Option.some.inj e46
    refine aw_iinc (pc := 165) (v := y45) (L' := [some (.ref 164), none, none, some (.int x3), some (.long x4), none, some (.int x6), some (.int y45), some (.int x8), some (.int x9)]) hM dX9_simulate_165 rfl e46 (by decide) rfl ?_
    refine aw_goto (pc := 168) (tgt := 55) hM dX9_simulate_168 (by decide) ?_
    refine aw_weak (L' := [some (.ref 164), none, none, some (.int x3), some (.long x4), none, some (.int x6), some (.int y45), none, none]) ?_ (lw_of [true, true, true, true, true, true, true, true, false, false] rfl)
    exact hk55 F44 x3 x4 x6 y45 h
set_option maxRecDepth 20000 in
theorem k_X9_simulate_b55 {C : CX} {M : MX} {G : GG} {Q : OUT → MM → GG → Prop} {r : (Int32 × MM)} (hM : MOk C RX9 cX9_simulate 10 (some .int) rmX9_simulate M) (hT : MNoT M) (hq : Q (.inl (some (.int r.1))) r.2 G) : ∀ (n : Nat) (F : MM) (x3 : Int32) (x4 : Int64) (x6 : Int32) (x7 : Int32), s_X9_simulate_b55 n F x3 x4 x6 x7 = some r → AW C 10 (ZM C rmX9_simulate Q M) M 0 0 55 [some (.ref 164), none, none, some (.int x3), some (.long x4), none, some (.int x6), some (.int x7), none, none] [] F G := by
  intro n
  induction n with
  | zero => intro F x3 x4 x6 x7 h; exact nomatch h
  | succ n ih =>
    intro F x3 x4 x6 x7 h
    rw [s_X9_simulate_b55] at h
    refine aw_iload (pc := 55) (i := 7) (x := x7) hM dX9_simulate_55  rfl ?_
    refine aw_iload_n (pc := 57) (i := 3) (x := x3) hM dX9_simulate_57 rfl rfl ?_
    refine aw_icmp_ge (pc := 58) (tgt := 171) hM dX9_simulate_58 (by decide) (fun c13 => ?_) (fun c13 => ?_)
    · rw [if_pos c13] at h
      refine aw_aload_n (pc := 171) (i := 0) (x := 164) hM dX9_simulate_171 rfl rfl ?_
      refine aw_getR (pc := 172) (r := 172) hM fd_X9_44 sk_164 rfl dX9_simulate_172 ?_
      refine aw_iconst (pc := 175) (v := 1) hM dX9_simulate_175 (by decide) ?_
      obtain ⟨c14, h⟩ := ite_some h
      refine aw_iald (pc := 176) hM sk_172 c14 dX9_simulate_176 ?_
      refine aw_iload (pc := 177) (i := 6) (x := x6) hM dX9_simulate_177  rfl ?_
      refine aw_isub (pc := 179) hM dX9_simulate_179 ?_
      refine aw_sipush (pc := 180) (v := 1000) hM dX9_simulate_180 (by decide) ?_
      refine aw_aload_n (pc := 183) (i := 0) (x := 164) hM dX9_simulate_183 rfl rfl ?_
      refine aw_getI (pc := 184) hM fd_X9_13 sk_164 rfl dX9_simulate_184 ?_
      refine aw_aload_n (pc := 187) (i := 0) (x := 164) hM dX9_simulate_187 rfl rfl ?_
      refine aw_aload_n (pc := 188) (i := 0) (x := 164) hM dX9_simulate_188 rfl rfl ?_
      refine aw_getR (pc := 189) (r := 172) hM fd_X9_44 sk_164 rfl dX9_simulate_189 ?_
      obtain ⟨r16, h15, h⟩ := bind_some h
      refine aw_cv1 (pc := 192) (n := 1) (As := [.ref 172]) (st := [.int (F 164 4), .int 1000, .int ((F 172 (ix 1)) - x6)]) (b := 164) (vo := (some (.int r16))) (c2 := 0) (s2 := 0) hM (k_X9_calmNodes (ia_of sk_172) h15) rfl cw_X9_196 sk_164 rfl rfl (by decide +kernel) rfl rfl ⟨(Nat.le_of_ble_eq_true rfl), (Nat.le_of_ble_eq_true rfl)⟩ (Nat.le_of_ble_eq_true rfl) ⟨(Nat.le_of_ble_eq_true rfl), (Nat.le_of_ble_eq_true rfl)⟩ dX9_simulate_192 rfl rfl ?_
      obtain ⟨r18, h17, h⟩ := bind_some h
      refine aw_cs1 (pc := 195) (n := 1) (As := [.int r16]) (st := [.int (F 164 4), .int 1000, .int ((F 172 (ix 1)) - x6)]) (vo := (some (.int r18))) (c2 := 0) (s2 := 0) hM (k_X9_ones h17) rfl cw_X9_167 (by decide +kernel) rfl rfl ⟨(Nat.le_of_ble_eq_true rfl), (Nat.le_of_ble_eq_true rfl)⟩ (Nat.le_of_ble_eq_true rfl) ⟨(Nat.le_of_ble_eq_true rfl), (Nat.le_of_ble_eq_true rfl)⟩ dX9_simulate_195 rfl rfl ?_
      refine aw_isub (pc := 198) hM dX9_simulate_198 ?_
      refine aw_imul (pc := 199) hM dX9_simulate_199 ?_
      refine aw_iadd (pc := 200) hM dX9_simulate_200 ?_
      obtain rfl := Option.some.inj h
      exact aw_iret (pc := 201) hM dX9_simulate_201 (Nat.le_of_ble_eq_true rfl) (Nat.le_of_ble_eq_true rfl) hq
    · rw [if_neg c13] at h
      refine aw_lload (pc := 61) (i := 4) (x := x4) hM dX9_simulate_61  rfl ?_
      refine aw_ldc2 (pc := 63) hM gw_1413 dX9_simulate_63 ?_
      refine aw_lmul (pc := 66) hM dX9_simulate_66 ?_
      refine aw_ldc2 (pc := 67) hM gw_1414 dX9_simulate_67 ?_
      refine aw_ladd (pc := 70) hM dX9_simulate_70 ?_
      obtain ⟨y19, e20, h⟩ := bind_some h
      have e20 := Option.some.inj e20
      refine aw_topl e20 ?_
      refine aw_lstore (pc := 71) (i := 4) (L' := [some (.ref 164), none, none, some (.int x3), some (.long y19), none, some (.int x6), some (.int x7), none, none]) hM dX9_simulate_71  (by decide) rfl ?_
      refine aw_lload (pc := 73) (i := 4) (x := y19) hM dX9_simulate_73  rfl ?_
      refine aw_bipush (pc := 75) (v := 33) hM dX9_simulate_75 (by decide) ?_
      refine aw_lushr (pc := 77) hM dX9_simulate_77 ?_
      refine aw_l2i (pc := 78) hM dX9_simulate_78 ?_
      obtain ⟨y21, e22, h⟩ := bind_some h
      have e22 := Option.some.inj e22
      refine aw_topi e22 ?_
      refine aw_istore (pc := 79) (i := 8) (L' := [some (.ref 164), none, none, some (.int x3), some (.long y19), none, some (.int x6), some (.int x7), some (.int y21), none]) hM dX9_simulate_79  (by decide) rfl ?_
      refine aw_iload (pc := 81) (i := 8) (x := y21) hM dX9_simulate_81  rfl ?_
      refine aw_bipush (pc := 83) (v := 64) hM dX9_simulate_83 (by decide) ?_
      refine aw_idiv (pc := 85) hM dX9_simulate_85 (by decide) ?_
      refine aw_aload_n (pc := 86) (i := 0) (x := 164) hM dX9_simulate_86 rfl rfl ?_
      refine aw_getI (pc := 87) hM fd_X9_13 sk_164 rfl dX9_simulate_87 ?_
      obtain ⟨c23, h⟩ := ite_some h
      refine aw_irem (pc := 90) hM dX9_simulate_90 c23 ?_
      obtain ⟨y24, e25, h⟩ := bind_some h
      have e25 := Option.some.inj e25
      refine aw_topi e25 ?_
      refine aw_istore (pc := 91) (i := 9) (L' := [some (.ref 164), none, none, some (.int x3), some (.long y19), none, some (.int x6), some (.int x7), some (.int y21), some (.int y24)]) hM dX9_simulate_91  (by decide) rfl ?_
      refine aw_iload (pc := 93) (i := 8) (x := y21) hM dX9_simulate_93  rfl ?_
      refine aw_iconst (pc := 95) (v := 3) hM dX9_simulate_95 (by decide) ?_
      refine aw_irem (pc := 96) hM dX9_simulate_96 (by decide) ?_
      refine aw_if_ne (pc := 97) (tgt := 128) hM dX9_simulate_97 (by decide) (fun c26 => ?_) (fun c26 => ?_)
      · rw [if_neg c26] at h
        exact k_X9_simulate_b128 hM hT (fun wF w0 w1 w2 w3 h9 => ih wF w0 w1 w2 w3 h9) hq F x3 y19 x6 x7 y21 y24 h
      · rw [if_pos c26] at h
        refine aw_aload_n (pc := 100) (i := 0) (x := 164) hM dX9_simulate_100 rfl rfl ?_
        refine aw_getR (pc := 101) (r := 172) hM fd_X9_44 sk_164 rfl dX9_simulate_101 ?_
        refine aw_iload (pc := 104) (i := 9) (x := y24) hM dX9_simulate_104  rfl ?_
        obtain ⟨r28, h27, h⟩ := bind_some h
        refine aw_cs1 (pc := 106) (n := 1) (As := [.int y24]) (st := [.ref 172]) (vo := (some (.int r28))) (c2 := 0) (s2 := 0) hM (k_X9_at h27) rfl cw_X9_126 (by decide +kernel) rfl rfl ⟨(Nat.le_of_ble_eq_true rfl), (Nat.le_of_ble_eq_true rfl)⟩ (Nat.le_of_ble_eq_true rfl) ⟨(Nat.le_of_ble_eq_true rfl), (Nat.le_of_ble_eq_true rfl)⟩ dX9_simulate_106 rfl rfl ?_
        refine aw_iload (pc := 109) (i := 8) (x := y21) hM dX9_simulate_109  rfl ?_
        refine aw_iconst (pc := 111) (v := 4) hM dX9_simulate_111 (by decide) ?_
        refine aw_idiv (pc := 112) hM dX9_simulate_112 (by decide) ?_
        refine aw_aload_n (pc := 113) (i := 0) (x := 164) hM dX9_simulate_113 rfl rfl ?_
        refine aw_getI (pc := 114) hM fd_X9_17 sk_164 rfl dX9_simulate_114 ?_
        obtain ⟨c29, h⟩ := ite_some h
        refine aw_irem (pc := 117) hM dX9_simulate_117 c29 ?_
        refine aw_iadd (pc := 118) hM dX9_simulate_118 ?_
        refine aw_iload (pc := 119) (i := 8) (x := y21) hM dX9_simulate_119  rfl ?_
        refine aw_sipush (pc := 121) (v := 1024) hM dX9_simulate_121 (by decide) ?_
        refine aw_idiv (pc := 124) hM dX9_simulate_124 (by decide) ?_
        refine aw_iconst (pc := 125) (v := 4) hM dX9_simulate_125 (by decide) ?_
        refine aw_irem (pc := 126) hM dX9_simulate_126 (by decide) ?_
        obtain ⟨c30, h⟩ := ite_some h
        obtain ⟨F31, e32, h⟩ := bind_some h
        have e32 := Option.some.inj e32
        refine aw_iast (pc := 127) hM sk_172 c30 dX9_simulate_127 ?_
        refine aw_mem e32 ?_
        exact k_X9_simulate_b128 hM hT (fun wF w0 w1 w2 w3 h9 => ih wF w0 w1 w2 w3 h9) hq F31 x3 y19 x6 x7 y21 y24 h
set_option maxRecDepth 20000 in
theorem k_X9_simulate_b18 {C : CX} {M : MX} {G : GG} {Q : OUT → MM → GG → Prop} {r : (Int32 × MM)} (hM : MOk C RX9 cX9_simulate 10 (some .int) rmX9_simulate M) (hT : MNoT M) (hq : Q (.inl (some (.int r.1))) r.2 G) (F : MM) (x1 : Int64) (x3 : Int32) (t0 : Int32) (h : s_X9_simulate_b18 F x1 x3 t0 = some r) : AW C 10 (ZM C rmX9_simulate Q M) M 0 0 18 [some (.ref 164), some (.long x1), none, some (.int x3), none, none, none, none, none, none] [.int t0, .ref 164] F G := by
  rw [s_X9_simulate_b18] at h
  obtain ⟨z6, h4, h⟩ := bind_some h
  refine aw_cv1 (pc := 18) (n := 1) (As := [.int t0]) (st := []) (b := 164) (vo := (some (.int z6.1))) (c2 := 0) (s2 := 0) hM (k_X9_refused h4) rfl cw_X9_93 sk_164 rfl rfl (by decide +kernel) rfl rfl ⟨(Nat.le_of_ble_eq_true rfl), (Nat.le_of_ble_eq_true rfl)⟩ (Nat.le_of_ble_eq_true rfl) ⟨(Nat.le_of_ble_eq_true rfl), (Nat.le_of_ble_eq_true rfl)⟩ dX9_simulate_18 rfl rfl ?_
  refine aw_if_eq (pc := 21) (tgt := 26) hM dX9_simulate_21 (by decide) (fun c7 => ?_) (fun c7 => ?_)
  · rw [if_pos c7] at h
    refine aw_aload_n (pc := 26) (i := 0) (x := 164) hM dX9_simulate_26 rfl rfl ?_
    refine aw_getR (pc := 27) (r := 171) hM fd_X9_41 sk_164 rfl dX9_simulate_27 ?_
    refine aw_iconst (pc := 30) (v := 0) hM dX9_simulate_30 (by decide) ?_
    refine aw_aload_n (pc := 31) (i := 0) (x := 164) hM dX9_simulate_31 rfl rfl ?_
    refine aw_getR (pc := 32) (r := 172) hM fd_X9_44 sk_164 rfl dX9_simulate_32 ?_
    refine aw_iconst (pc := 35) (v := 0) hM dX9_simulate_35 (by decide) ?_
    refine aw_bipush (pc := 36) (v := 107) hM dX9_simulate_36 (by decide) ?_
    obtain ⟨F9, h8, h⟩ := bind_some h
    refine aw_cs1 (pc := 38) (n := 5) (As := [.ref 171, .int 0, .ref 172, .int 0, .int 107]) (st := []) (vo := none) (c2 := 0) (s2 := 0) hM (k_X9_copy (ia_of sk_171) (ia_of sk_172) h8) rfl cw_X9_75 (by decide +kernel) rfl rfl ⟨(Nat.le_of_ble_eq_true rfl), (Nat.le_of_ble_eq_true rfl)⟩ (Nat.le_of_ble_eq_true rfl) ⟨(Nat.le_of_ble_eq_true rfl), (Nat.le_of_ble_eq_true rfl)⟩ dX9_simulate_38 rfl rfl ?_
    refine aw_lload_n (pc := 41) (i := 1) (x := x1) hM dX9_simulate_41 rfl rfl ?_
    refine aw_lstore (pc := 42) (i := 4) (L' := [some (.ref 164), some (.long x1), none, some (.int x3), some (.long x1), none, none, none, none, none]) hM dX9_simulate_42  (by decide) rfl ?_
    refine aw_aload_n (pc := 44) (i := 0) (x := 164) hM dX9_simulate_44 rfl rfl ?_
    refine aw_getR (pc := 45) (r := 172) hM fd_X9_44 sk_164 rfl dX9_simulate_45 ?_
    refine aw_iconst (pc := 48) (v := 1) hM dX9_simulate_48 (by decide) ?_
    obtain ⟨c10, h⟩ := ite_some h
    refine aw_iald (pc := 49) hM sk_172 c10 dX9_simulate_49 ?_
    obtain ⟨y11, e12, h⟩ := bind_some h
    have e12 := Option.some.inj e12
    refine aw_topi e12 ?_
    refine aw_istore (pc := 50) (i := 6) (L' := [some (.ref 164), some (.long x1), none, some (.int x3), some (.long x1), none, some (.int y11), none, none, none]) hM dX9_simulate_50  (by decide) rfl ?_
    refine aw_iconst (pc := 52) (v := 0) hM dX9_simulate_52 (by decide) ?_
    refine aw_istore (pc := 53) (i := 7) (L' := [some (.ref 164), some (.long x1), none, some (.int x3), some (.long x1), none, some (.int y11), some (.int 0), none, none]) hM dX9_simulate_53  (by decide) rfl ?_
    refine aw_weak (L' := [some (.ref 164), none, none, some (.int x3), some (.long x1), none, some (.int y11), some (.int 0), none, none]) ?_ (lw_of [true, false, true, true, true, true, true, true, true, true] rfl)
    exact k_X9_simulate_b55 hM hT hq fu_ F9 x3 x1 y11 0 h
  · rw [if_neg c7] at h
    refine aw_iconst (pc := 24) (v := 0) hM dX9_simulate_24 (by decide) ?_
    obtain rfl := Option.some.inj h
    exact aw_iret (pc := 25) hM dX9_simulate_25 (Nat.le_of_ble_eq_true rfl) (Nat.le_of_ble_eq_true rfl) hq
set_option maxRecDepth 20000 in
theorem k_X9_simulate {C : CX} {F : MM} {G : GG} {p0 : Int64} {p1 : Int32} {r : (Int32 × MM)} (h : s_X9_simulate F p0 p1 = some r) : AM C yX9_simulate cX9_simulate 10 (some .int) rmX9_simulate [.ref 164, .long p0, .int p1] F G (fun o F9 G9 => o = (.inl (some (.int r.1))) ∧ F9 = r.2 ∧ G9 = G) := by
  refine am_of (L := [some (.ref 164), some (.long p0), none, some (.int p1), none, none, none, none, none, none]) (by decide) (Nat.le_of_ble_eq_true rfl) rfl (fun M hM hT => ?_)
  have hM : MOk C RX9 cX9_simulate 10 (some .int) rmX9_simulate M := hM
  obtain ⟨Q, hQ⟩ : ∃ Q : OUT → MM → GG → Prop, Q = (fun o F9 G9 => o = (.inl (some (.int r.1))) ∧ F9 = r.2 ∧ G9 = G) := ⟨_, rfl⟩
  have hq : Q (.inl (some (.int r.1))) r.2 G := by rw [hQ]; exact ⟨rfl, rfl, rfl⟩
  rw [← hQ]
  clear hQ
  rw [s_X9_simulate] at h
  refine aw_aload_n (pc := 0) (i := 0) (x := 164) hM dX9_simulate_0 rfl rfl ?_
  refine aw_iload_n (pc := 1) (i := 3) (x := p1) hM dX9_simulate_1 rfl rfl ?_
  refine aw_i2l (pc := 2) hM dX9_simulate_2 ?_
  refine aw_lconst (pc := 3) (v := 1) hM dX9_simulate_3 (by decide) ?_
  refine aw_ldc2 (pc := 4) hM gw_1412 dX9_simulate_4 ?_
  obtain ⟨r2, h1, h⟩ := bind_some h
  refine aw_cs1 (pc := 7) (n := 3) (As := [.long (Int32.toInt64 p1), .long 1, .long 60]) (st := [.ref 164]) (vo := (some (.int r2))) (c2 := 0) (s2 := 0) hM (k_X9_in h1) rfl cw_X9_82 (by decide +kernel) rfl rfl ⟨(Nat.le_of_ble_eq_true rfl), (Nat.le_of_ble_eq_true rfl)⟩ (Nat.le_of_ble_eq_true rfl) ⟨(Nat.le_of_ble_eq_true rfl), (Nat.le_of_ble_eq_true rfl)⟩ dX9_simulate_7 rfl rfl ?_
  refine aw_if_eq (pc := 10) (tgt := 17) hM dX9_simulate_10 (by decide) (fun c3 => ?_) (fun c3 => ?_)
  · rw [if_pos c3] at h
    refine aw_iconst (pc := 17) (v := 1) hM dX9_simulate_17 (by decide) ?_
    exact k_X9_simulate_b18 hM hT hq F p0 p1 1 h
  · rw [if_neg c3] at h
    refine aw_iconst (pc := 13) (v := 0) hM dX9_simulate_13 (by decide) ?_
    refine aw_goto (pc := 14) (tgt := 18) hM dX9_simulate_14 (by decide) ?_
    exact k_X9_simulate_b18 hM hT hq F p0 p1 0 h
def rmX9_state : Room := { frames := 4, cells := 0, slots := 0, locals := 96 }
def s_X9_state (F : MM) (p0 : Int32) (p1 : Int32) : Option (Int32 × MM) := (s_X9_isNode F p0).bind (fun r2 => if r2 = 0 then (s_X9_refused F 1).bind (fun z6 => if z6.1 = 0 then (s_X9_stateOf z6.2 171 p0 p1).bind (fun r9 => some (r9, z6.2)) else some (0, z6.2)) else (s_X9_isPart F p1).bind (fun r11 => if r11 = 0 then (s_X9_refused F 1).bind (fun z15 => if z15.1 = 0 then (s_X9_stateOf z15.2 171 p0 p1).bind (fun r18 => some (r18, z15.2)) else some (0, z15.2)) else (s_X9_refused F 0).bind (fun z21 => if z21.1 = 0 then (s_X9_stateOf z21.2 171 p0 p1).bind (fun r24 => some (r24, z21.2)) else some (0, z21.2))))
set_option maxRecDepth 20000 in
theorem k_X9_state {C : CX} {F : MM} {G : GG} {p0 : Int32} {p1 : Int32} {r : (Int32 × MM)} (h : s_X9_state F p0 p1 = some r) : AM C yX9_state cX9_state 3 (some .int) rmX9_state [.ref 164, .int p0, .int p1] F G (fun o F9 G9 => o = (.inl (some (.int r.1))) ∧ F9 = r.2 ∧ G9 = G) := by
  refine am_of (L := [some (.ref 164), some (.int p0), some (.int p1)]) (by decide) (Nat.le_of_ble_eq_true rfl) rfl (fun M hM hT => ?_)
  have hM : MOk C RX9 cX9_state 3 (some .int) rmX9_state M := hM
  obtain ⟨Q, hQ⟩ : ∃ Q : OUT → MM → GG → Prop, Q = (fun o F9 G9 => o = (.inl (some (.int r.1))) ∧ F9 = r.2 ∧ G9 = G) := ⟨_, rfl⟩
  have hq : Q (.inl (some (.int r.1))) r.2 G := by rw [hQ]; exact ⟨rfl, rfl, rfl⟩
  rw [← hQ]
  clear hQ
  rw [s_X9_state] at h
  refine aw_aload_n (pc := 0) (i := 0) (x := 164) hM dX9_state_0 rfl rfl ?_
  refine aw_aload_n (pc := 1) (i := 0) (x := 164) hM dX9_state_1 rfl rfl ?_
  refine aw_iload_n (pc := 2) (i := 1) (x := p0) hM dX9_state_2 rfl rfl ?_
  obtain ⟨r2, h1, h⟩ := bind_some h
  refine aw_cv1 (pc := 3) (n := 1) (As := [.int p0]) (st := [.ref 164]) (b := 164) (vo := (some (.int r2))) (c2 := 0) (s2 := 0) hM (k_X9_isNode h1) rfl cw_X9_203 sk_164 rfl rfl (by decide +kernel) rfl rfl ⟨(Nat.le_of_ble_eq_true rfl), (Nat.le_of_ble_eq_true rfl)⟩ (Nat.le_of_ble_eq_true rfl) ⟨(Nat.le_of_ble_eq_true rfl), (Nat.le_of_ble_eq_true rfl)⟩ dX9_state_3 rfl rfl ?_
  refine aw_if_eq (pc := 6) (tgt := 21) hM dX9_state_6 (by decide) (fun c3 => ?_) (fun c3 => ?_)
  · rw [if_pos c3] at h
    refine aw_iconst (pc := 21) (v := 1) hM dX9_state_21 (by decide) ?_
    obtain ⟨z6, h4, h⟩ := bind_some h
    refine aw_cv1 (pc := 22) (n := 1) (As := [.int 1]) (st := []) (b := 164) (vo := (some (.int z6.1))) (c2 := 0) (s2 := 0) hM (k_X9_refused h4) rfl cw_X9_93 sk_164 rfl rfl (by decide +kernel) rfl rfl ⟨(Nat.le_of_ble_eq_true rfl), (Nat.le_of_ble_eq_true rfl)⟩ (Nat.le_of_ble_eq_true rfl) ⟨(Nat.le_of_ble_eq_true rfl), (Nat.le_of_ble_eq_true rfl)⟩ dX9_state_22 rfl rfl ?_
    refine aw_if_eq (pc := 25) (tgt := 30) hM dX9_state_25 (by decide) (fun c7 => ?_) (fun c7 => ?_)
    · rw [if_pos c7] at h
      refine aw_aload_n (pc := 30) (i := 0) (x := 164) hM dX9_state_30 rfl rfl ?_
      refine aw_aload_n (pc := 31) (i := 0) (x := 164) hM dX9_state_31 rfl rfl ?_
      refine aw_getR (pc := 32) (r := 171) hM fd_X9_41 sk_164 rfl dX9_state_32 ?_
      refine aw_iload_n (pc := 35) (i := 1) (x := p0) hM dX9_state_35 rfl rfl ?_
      refine aw_iload_n (pc := 36) (i := 2) (x := p1) hM dX9_state_36 rfl rfl ?_
      obtain ⟨r9, h8, h⟩ := bind_some h
      refine aw_cv1 (pc := 37) (n := 3) (As := [.ref 171, .int p0, .int p1]) (st := []) (b := 164) (vo := (some (.int r9))) (c2 := 0) (s2 := 0) hM (k_X9_stateOf (ia_of sk_171) h8) rfl cw_X9_184 sk_164 rfl rfl (by decide +kernel) rfl rfl ⟨(Nat.le_of_ble_eq_true rfl), (Nat.le_of_ble_eq_true rfl)⟩ (Nat.le_of_ble_eq_true rfl) ⟨(Nat.le_of_ble_eq_true rfl), (Nat.le_of_ble_eq_true rfl)⟩ dX9_state_37 rfl rfl ?_
      obtain rfl := Option.some.inj h
      exact aw_iret (pc := 40) hM dX9_state_40 (Nat.le_of_ble_eq_true rfl) (Nat.le_of_ble_eq_true rfl) hq
    · rw [if_neg c7] at h
      refine aw_iconst (pc := 28) (v := 0) hM dX9_state_28 (by decide) ?_
      obtain rfl := Option.some.inj h
      exact aw_iret (pc := 29) hM dX9_state_29 (Nat.le_of_ble_eq_true rfl) (Nat.le_of_ble_eq_true rfl) hq
  · rw [if_neg c3] at h
    refine aw_aload_n (pc := 9) (i := 0) (x := 164) hM dX9_state_9 rfl rfl ?_
    refine aw_iload_n (pc := 10) (i := 2) (x := p1) hM dX9_state_10 rfl rfl ?_
    obtain ⟨r11, h10, h⟩ := bind_some h
    refine aw_cv1 (pc := 11) (n := 1) (As := [.int p1]) (st := [.ref 164]) (b := 164) (vo := (some (.int r11))) (c2 := 0) (s2 := 0) hM (k_X9_isPart h10) rfl cw_X9_211 sk_164 rfl rfl (by decide +kernel) rfl rfl ⟨(Nat.le_of_ble_eq_true rfl), (Nat.le_of_ble_eq_true rfl)⟩ (Nat.le_of_ble_eq_true rfl) ⟨(Nat.le_of_ble_eq_true rfl), (Nat.le_of_ble_eq_true rfl)⟩ dX9_state_11 rfl rfl ?_
    refine aw_if_eq (pc := 14) (tgt := 21) hM dX9_state_14 (by decide) (fun c12 => ?_) (fun c12 => ?_)
    · rw [if_pos c12] at h
      refine aw_iconst (pc := 21) (v := 1) hM dX9_state_21 (by decide) ?_
      obtain ⟨z15, h13, h⟩ := bind_some h
      refine aw_cv1 (pc := 22) (n := 1) (As := [.int 1]) (st := []) (b := 164) (vo := (some (.int z15.1))) (c2 := 0) (s2 := 0) hM (k_X9_refused h13) rfl cw_X9_93 sk_164 rfl rfl (by decide +kernel) rfl rfl ⟨(Nat.le_of_ble_eq_true rfl), (Nat.le_of_ble_eq_true rfl)⟩ (Nat.le_of_ble_eq_true rfl) ⟨(Nat.le_of_ble_eq_true rfl), (Nat.le_of_ble_eq_true rfl)⟩ dX9_state_22 rfl rfl ?_
      refine aw_if_eq (pc := 25) (tgt := 30) hM dX9_state_25 (by decide) (fun c16 => ?_) (fun c16 => ?_)
      · rw [if_pos c16] at h
        refine aw_aload_n (pc := 30) (i := 0) (x := 164) hM dX9_state_30 rfl rfl ?_
        refine aw_aload_n (pc := 31) (i := 0) (x := 164) hM dX9_state_31 rfl rfl ?_
        refine aw_getR (pc := 32) (r := 171) hM fd_X9_41 sk_164 rfl dX9_state_32 ?_
        refine aw_iload_n (pc := 35) (i := 1) (x := p0) hM dX9_state_35 rfl rfl ?_
        refine aw_iload_n (pc := 36) (i := 2) (x := p1) hM dX9_state_36 rfl rfl ?_
        obtain ⟨r18, h17, h⟩ := bind_some h
        refine aw_cv1 (pc := 37) (n := 3) (As := [.ref 171, .int p0, .int p1]) (st := []) (b := 164) (vo := (some (.int r18))) (c2 := 0) (s2 := 0) hM (k_X9_stateOf (ia_of sk_171) h17) rfl cw_X9_184 sk_164 rfl rfl (by decide +kernel) rfl rfl ⟨(Nat.le_of_ble_eq_true rfl), (Nat.le_of_ble_eq_true rfl)⟩ (Nat.le_of_ble_eq_true rfl) ⟨(Nat.le_of_ble_eq_true rfl), (Nat.le_of_ble_eq_true rfl)⟩ dX9_state_37 rfl rfl ?_
        obtain rfl := Option.some.inj h
        exact aw_iret (pc := 40) hM dX9_state_40 (Nat.le_of_ble_eq_true rfl) (Nat.le_of_ble_eq_true rfl) hq
      · rw [if_neg c16] at h
        refine aw_iconst (pc := 28) (v := 0) hM dX9_state_28 (by decide) ?_
        obtain rfl := Option.some.inj h
        exact aw_iret (pc := 29) hM dX9_state_29 (Nat.le_of_ble_eq_true rfl) (Nat.le_of_ble_eq_true rfl) hq
    · rw [if_neg c12] at h
      refine aw_iconst (pc := 17) (v := 0) hM dX9_state_17 (by decide) ?_
      refine aw_goto (pc := 18) (tgt := 22) hM dX9_state_18 (by decide) ?_
      obtain ⟨z21, h19, h⟩ := bind_some h
      refine aw_cv1 (pc := 22) (n := 1) (As := [.int 0]) (st := []) (b := 164) (vo := (some (.int z21.1))) (c2 := 0) (s2 := 0) hM (k_X9_refused h19) rfl cw_X9_93 sk_164 rfl rfl (by decide +kernel) rfl rfl ⟨(Nat.le_of_ble_eq_true rfl), (Nat.le_of_ble_eq_true rfl)⟩ (Nat.le_of_ble_eq_true rfl) ⟨(Nat.le_of_ble_eq_true rfl), (Nat.le_of_ble_eq_true rfl)⟩ dX9_state_22 rfl rfl ?_
      refine aw_if_eq (pc := 25) (tgt := 30) hM dX9_state_25 (by decide) (fun c22 => ?_) (fun c22 => ?_)
      · rw [if_pos c22] at h
        refine aw_aload_n (pc := 30) (i := 0) (x := 164) hM dX9_state_30 rfl rfl ?_
        refine aw_aload_n (pc := 31) (i := 0) (x := 164) hM dX9_state_31 rfl rfl ?_
        refine aw_getR (pc := 32) (r := 171) hM fd_X9_41 sk_164 rfl dX9_state_32 ?_
        refine aw_iload_n (pc := 35) (i := 1) (x := p0) hM dX9_state_35 rfl rfl ?_
        refine aw_iload_n (pc := 36) (i := 2) (x := p1) hM dX9_state_36 rfl rfl ?_
        obtain ⟨r24, h23, h⟩ := bind_some h
        refine aw_cv1 (pc := 37) (n := 3) (As := [.ref 171, .int p0, .int p1]) (st := []) (b := 164) (vo := (some (.int r24))) (c2 := 0) (s2 := 0) hM (k_X9_stateOf (ia_of sk_171) h23) rfl cw_X9_184 sk_164 rfl rfl (by decide +kernel) rfl rfl ⟨(Nat.le_of_ble_eq_true rfl), (Nat.le_of_ble_eq_true rfl)⟩ (Nat.le_of_ble_eq_true rfl) ⟨(Nat.le_of_ble_eq_true rfl), (Nat.le_of_ble_eq_true rfl)⟩ dX9_state_37 rfl rfl ?_
        obtain rfl := Option.some.inj h
        exact aw_iret (pc := 40) hM dX9_state_40 (Nat.le_of_ble_eq_true rfl) (Nat.le_of_ble_eq_true rfl) hq
      · rw [if_neg c22] at h
        refine aw_iconst (pc := 28) (v := 0) hM dX9_state_28 (by decide) ?_
        obtain rfl := Option.some.inj h
        exact aw_iret (pc := 29) hM dX9_state_29 (Nat.le_of_ble_eq_true rfl) (Nat.le_of_ble_eq_true rfl) hq
def rmX9_step : Room := { frames := 3, cells := 0, slots := 0, locals := 75 }
def s_X9_step_b79 : Nat → MM → Int32 → Int32 → Int32 → Int32 → Option (Int32 × MM)
  | 0, _, _, _, _, _ => none
  | n + 1, F, x2, x3, x4, x5 => if x2 ≤ x5 then some (x4, F) else (s_X9_with F x3 (x4 / 4) (x4 - x4 / 4 * 4)).bind (fun r21 => (s_X9_firstStep F r21).bind (fun r23 => (some (x5 + 1 : Int32)).bind (fun y24 => s_X9_step_b79 n F x2 r21 r23 y24)))
def s_X9_step_b22 (F : MM) (x1 : Int32) (x2 : Int32) (t0 : Int32) : Option (Int32 × MM) := (s_X9_refused F t0).bind (fun z7 => if z7.1 = 0 then (s_X9_codeOf z7.2 171 x1 6).bind (fun r10 => (s_X9_layWays z7.2 r10).bind (fun F12 => (s_X9_codeOf F12 171 x1 0).bind (fun r14 => if inb r14 4096 then (if x2 < (F12 177 (ix r14)) then (s_X9_firstStep F12 r14).bind (fun r18 => s_X9_step_b79 fu_ F12 x2 r14 r18 0) else some ((-9), F12)) else none))) else some (0, z7.2))
def s_X9_step (F : MM) (p0 : Int32) (p1 : Int32) : Option (Int32 × MM) := (s_X9_isNode F p0).bind (fun r2 => if r2 = 0 then s_X9_step_b22 F p0 p1 1 else if 0 ≤ p1 then s_X9_step_b22 F p0 p1 0 else s_X9_step_b22 F p0 p1 2)
set_option maxRecDepth 20000 in
theorem k_X9_step_b79 {C : CX} {M : MX} {G : GG} {Q : OUT → MM → GG → Prop} {r : (Int32 × MM)} (hM : MOk C RX9 cX9_step 6 (some .int) rmX9_step M) (hT : MNoT M) (hq : Q (.inl (some (.int r.1))) r.2 G) : ∀ (n : Nat) (F : MM) (x2 : Int32) (x3 : Int32) (x4 : Int32) (x5 : Int32), s_X9_step_b79 n F x2 x3 x4 x5 = some r → AW C 6 (ZM C rmX9_step Q M) M 0 0 79 [some (.ref 164), none, some (.int x2), some (.int x3), some (.int x4), some (.int x5)] [] F G := by
  intro n
  induction n with
  | zero => intro F x2 x3 x4 x5 h; exact nomatch h
  | succ n ih =>
    intro F x2 x3 x4 x5 h
    rw [s_X9_step_b79] at h
    refine aw_iload (pc := 79) (i := 5) (x := x5) hM dX9_step_79  rfl ?_
    refine aw_iload_n (pc := 81) (i := 2) (x := x2) hM dX9_step_81 rfl rfl ?_
    refine aw_icmp_ge (pc := 82) (tgt := 111) hM dX9_step_82 (by decide) (fun c19 => ?_) (fun c19 => ?_)
    · rw [if_pos c19] at h
      refine aw_iload (pc := 111) (i := 4) (x := x4) hM dX9_step_111  rfl ?_
      obtain rfl := Option.some.inj h
      exact aw_iret (pc := 113) hM dX9_step_113 (Nat.le_of_ble_eq_true rfl) (Nat.le_of_ble_eq_true rfl) hq
    · rw [if_neg c19] at h
      refine aw_iload_n (pc := 85) (i := 3) (x := x3) hM dX9_step_85 rfl rfl ?_
      refine aw_iload (pc := 86) (i := 4) (x := x4) hM dX9_step_86  rfl ?_
      refine aw_iconst (pc := 88) (v := 4) hM dX9_step_88 (by decide) ?_
      refine aw_idiv (pc := 89) hM dX9_step_89 (by decide) ?_
      refine aw_iload (pc := 90) (i := 4) (x := x4) hM dX9_step_90  rfl ?_
      refine aw_iconst (pc := 92) (v := 4) hM dX9_step_92 (by decide) ?_
      refine aw_irem (pc := 93) hM dX9_step_93 (by decide) ?_
      obtain ⟨r21, h20, h⟩ := bind_some h
      refine aw_cs1 (pc := 94) (n := 3) (As := [.int x3, .int (x4 / 4), .int (x4 - x4 / 4 * 4)]) (st := []) (vo := (some (.int r21))) (c2 := 0) (s2 := 0) hM (k_X9_with h20) rfl cw_X9_157 (by decide +kernel) rfl rfl ⟨(Nat.le_of_ble_eq_true rfl), (Nat.le_of_ble_eq_true rfl)⟩ (Nat.le_of_ble_eq_true rfl) ⟨(Nat.le_of_ble_eq_true rfl), (Nat.le_of_ble_eq_true rfl)⟩ dX9_step_94 rfl rfl ?_
      refine aw_istore_n (pc := 97) (i := 3) (L' := [some (.ref 164), none, some (.int x2), some (.int r21), some (.int x4), some (.int x5)]) hM dX9_step_97 rfl (by decide) rfl ?_
      refine aw_aload_n (pc := 98) (i := 0) (x := 164) hM dX9_step_98 rfl rfl ?_
      refine aw_iload_n (pc := 99) (i := 3) (x := r21) hM dX9_step_99 rfl rfl ?_
      obtain ⟨r23, h22, h⟩ := bind_some h
      refine aw_cv1 (pc := 100) (n := 1) (As := [.int r21]) (st := []) (b := 164) (vo := (some (.int r23))) (c2 := 0) (s2 := 0) hM (k_X9_firstStep h22) rfl cw_X9_240 sk_164 rfl rfl (by decide +kernel) rfl rfl ⟨(Nat.le_of_ble_eq_true rfl), (Nat.le_of_ble_eq_true rfl)⟩ (Nat.le_of_ble_eq_true rfl) ⟨(Nat.le_of_ble_eq_true rfl), (Nat.le_of_ble_eq_true rfl)⟩ dX9_step_100 rfl rfl ?_
      refine aw_istore (pc := 103) (i := 4) (L' := [some (.ref 164), none, some (.int x2), some (.int r21), some (.int r23), some (.int x5)]) hM dX9_step_103  (by decide) rfl ?_
      obtain ⟨y24, e25, h⟩ := bind_some h
      have e25 := Option.some.inj e25
      refine aw_iinc (pc := 105) (v := y24) (L' := [some (.ref 164), none, some (.int x2), some (.int r21), some (.int r23), some (.int y24)]) hM dX9_step_105 rfl e25 (by decide) rfl ?_
      refine aw_goto (pc := 108) (tgt := 79) hM dX9_step_108 (by decide) ?_
      exact ih F x2 r21 r23 y24 h
set_option maxRecDepth 20000 in
theorem k_X9_step_b22 {C : CX} {M : MX} {G : GG} {Q : OUT → MM → GG → Prop} {r : (Int32 × MM)} (hM : MOk C RX9 cX9_step 6 (some .int) rmX9_step M) (hT : MNoT M) (hq : Q (.inl (some (.int r.1))) r.2 G) (F : MM) (x1 : Int32) (x2 : Int32) (t0 : Int32) (h : s_X9_step_b22 F x1 x2 t0 = some r) : AW C 6 (ZM C rmX9_step Q M) M 0 0 22 [some (.ref 164), some (.int x1), some (.int x2), none, none, none] [.int t0, .ref 164] F G := by
  rw [s_X9_step_b22] at h
  obtain ⟨z7, h5, h⟩ := bind_some h
  refine aw_cv1 (pc := 22) (n := 1) (As := [.int t0]) (st := []) (b := 164) (vo := (some (.int z7.1))) (c2 := 0) (s2 := 0) hM (k_X9_refused h5) rfl cw_X9_93 sk_164 rfl rfl (by decide +kernel) rfl rfl ⟨(Nat.le_of_ble_eq_true rfl), (Nat.le_of_ble_eq_true rfl)⟩ (Nat.le_of_ble_eq_true rfl) ⟨(Nat.le_of_ble_eq_true rfl), (Nat.le_of_ble_eq_true rfl)⟩ dX9_step_22 rfl rfl ?_
  refine aw_if_eq (pc := 25) (tgt := 30) hM dX9_step_25 (by decide) (fun c8 => ?_) (fun c8 => ?_)
  · rw [if_pos c8] at h
    refine aw_aload_n (pc := 30) (i := 0) (x := 164) hM dX9_step_30 rfl rfl ?_
    refine aw_aload_n (pc := 31) (i := 0) (x := 164) hM dX9_step_31 rfl rfl ?_
    refine aw_aload_n (pc := 32) (i := 0) (x := 164) hM dX9_step_32 rfl rfl ?_
    refine aw_getR (pc := 33) (r := 171) hM fd_X9_41 sk_164 rfl dX9_step_33 ?_
    refine aw_iload_n (pc := 36) (i := 1) (x := x1) hM dX9_step_36 rfl rfl ?_
    refine aw_bipush (pc := 37) (v := 6) hM dX9_step_37 (by decide) ?_
    obtain ⟨r10, h9, h⟩ := bind_some h
    refine aw_cv1 (pc := 39) (n := 3) (As := [.ref 171, .int x1, .int 6]) (st := [.ref 164]) (b := 164) (vo := (some (.int r10))) (c2 := 0) (s2 := 0) hM (k_X9_codeOf (ia_of sk_171) h9) rfl cw_X9_153 sk_164 rfl rfl (by decide +kernel) rfl rfl ⟨(Nat.le_of_ble_eq_true rfl), (Nat.le_of_ble_eq_true rfl)⟩ (Nat.le_of_ble_eq_true rfl) ⟨(Nat.le_of_ble_eq_true rfl), (Nat.le_of_ble_eq_true rfl)⟩ dX9_step_39 rfl rfl ?_
    obtain ⟨F12, h11, h⟩ := bind_some h
    refine aw_cv1 (pc := 42) (n := 1) (As := [.int r10]) (st := []) (b := 164) (vo := none) (c2 := 0) (s2 := 0) hM (k_X9_layWays h11) rfl cw_X9_236 sk_164 rfl rfl (by decide +kernel) rfl rfl ⟨(Nat.le_of_ble_eq_true rfl), (Nat.le_of_ble_eq_true rfl)⟩ (Nat.le_of_ble_eq_true rfl) ⟨(Nat.le_of_ble_eq_true rfl), (Nat.le_of_ble_eq_true rfl)⟩ dX9_step_42 rfl rfl ?_
    refine aw_aload_n (pc := 45) (i := 0) (x := 164) hM dX9_step_45 rfl rfl ?_
    refine aw_aload_n (pc := 46) (i := 0) (x := 164) hM dX9_step_46 rfl rfl ?_
    refine aw_getR (pc := 47) (r := 171) hM fd_X9_41 sk_164 rfl dX9_step_47 ?_
    refine aw_iload_n (pc := 50) (i := 1) (x := x1) hM dX9_step_50 rfl rfl ?_
    refine aw_iconst (pc := 51) (v := 0) hM dX9_step_51 (by decide) ?_
    obtain ⟨r14, h13, h⟩ := bind_some h
    refine aw_cv1 (pc := 52) (n := 3) (As := [.ref 171, .int x1, .int 0]) (st := []) (b := 164) (vo := (some (.int r14))) (c2 := 0) (s2 := 0) hM (k_X9_codeOf (ia_of sk_171) h13) rfl cw_X9_153 sk_164 rfl rfl (by decide +kernel) rfl rfl ⟨(Nat.le_of_ble_eq_true rfl), (Nat.le_of_ble_eq_true rfl)⟩ (Nat.le_of_ble_eq_true rfl) ⟨(Nat.le_of_ble_eq_true rfl), (Nat.le_of_ble_eq_true rfl)⟩ dX9_step_52 rfl rfl ?_
    refine aw_istore_n (pc := 55) (i := 3) (L' := [some (.ref 164), some (.int x1), some (.int x2), some (.int r14), none, none]) hM dX9_step_55 rfl (by decide) rfl ?_
    refine aw_iload_n (pc := 56) (i := 2) (x := x2) hM dX9_step_56 rfl rfl ?_
    refine aw_aload_n (pc := 57) (i := 0) (x := 164) hM dX9_step_57 rfl rfl ?_
    refine aw_getR (pc := 58) (r := 177) hM fd_X9_60 sk_164 rfl dX9_step_58 ?_
    refine aw_iload_n (pc := 61) (i := 3) (x := r14) hM dX9_step_61 rfl rfl ?_
    obtain ⟨c15, h⟩ := ite_some h
    refine aw_iald (pc := 62) hM sk_177 c15 dX9_step_62 ?_
    refine aw_icmp_lt (pc := 63) (tgt := 69) hM dX9_step_63 (by decide) (fun c16 => ?_) (fun c16 => ?_)
    · rw [if_pos c16] at h
      refine aw_aload_n (pc := 69) (i := 0) (x := 164) hM dX9_step_69 rfl rfl ?_
      refine aw_iload_n (pc := 70) (i := 3) (x := r14) hM dX9_step_70 rfl rfl ?_
      obtain ⟨r18, h17, h⟩ := bind_some h
      refine aw_cv1 (pc := 71) (n := 1) (As := [.int r14]) (st := []) (b := 164) (vo := (some (.int r18))) (c2 := 0) (s2 := 0) hM (k_X9_firstStep h17) rfl cw_X9_240 sk_164 rfl rfl (by decide +kernel) rfl rfl ⟨(Nat.le_of_ble_eq_true rfl), (Nat.le_of_ble_eq_true rfl)⟩ (Nat.le_of_ble_eq_true rfl) ⟨(Nat.le_of_ble_eq_true rfl), (Nat.le_of_ble_eq_true rfl)⟩ dX9_step_71 rfl rfl ?_
      refine aw_istore (pc := 74) (i := 4) (L' := [some (.ref 164), some (.int x1), some (.int x2), some (.int r14), some (.int r18), none]) hM dX9_step_74  (by decide) rfl ?_
      refine aw_iconst (pc := 76) (v := 0) hM dX9_step_76 (by decide) ?_
      refine aw_istore (pc := 77) (i := 5) (L' := [some (.ref 164), some (.int x1), some (.int x2), some (.int r14), some (.int r18), some (.int 0)]) hM dX9_step_77  (by decide) rfl ?_
      refine aw_weak (L' := [some (.ref 164), none, some (.int x2), some (.int r14), some (.int r18), some (.int 0)]) ?_ (lw_of [true, false, true, true, true, true] rfl)
      exact k_X9_step_b79 hM hT hq fu_ F12 x2 r14 r18 0 h
    · rw [if_neg c16] at h
      refine aw_bipush (pc := 66) (v := (-9)) hM dX9_step_66 (by decide) ?_
      obtain rfl := Option.some.inj h
      exact aw_iret (pc := 68) hM dX9_step_68 (Nat.le_of_ble_eq_true rfl) (Nat.le_of_ble_eq_true rfl) hq
  · rw [if_neg c8] at h
    refine aw_iconst (pc := 28) (v := 0) hM dX9_step_28 (by decide) ?_
    obtain rfl := Option.some.inj h
    exact aw_iret (pc := 29) hM dX9_step_29 (Nat.le_of_ble_eq_true rfl) (Nat.le_of_ble_eq_true rfl) hq
set_option maxRecDepth 20000 in
theorem k_X9_step {C : CX} {F : MM} {G : GG} {p0 : Int32} {p1 : Int32} {r : (Int32 × MM)} (h : s_X9_step F p0 p1 = some r) : AM C yX9_step cX9_step 6 (some .int) rmX9_step [.ref 164, .int p0, .int p1] F G (fun o F9 G9 => o = (.inl (some (.int r.1))) ∧ F9 = r.2 ∧ G9 = G) := by
  refine am_of (L := [some (.ref 164), some (.int p0), some (.int p1), none, none, none]) (by decide) (Nat.le_of_ble_eq_true rfl) rfl (fun M hM hT => ?_)
  have hM : MOk C RX9 cX9_step 6 (some .int) rmX9_step M := hM
  obtain ⟨Q, hQ⟩ : ∃ Q : OUT → MM → GG → Prop, Q = (fun o F9 G9 => o = (.inl (some (.int r.1))) ∧ F9 = r.2 ∧ G9 = G) := ⟨_, rfl⟩
  have hq : Q (.inl (some (.int r.1))) r.2 G := by rw [hQ]; exact ⟨rfl, rfl, rfl⟩
  rw [← hQ]
  clear hQ
  rw [s_X9_step] at h
  refine aw_aload_n (pc := 0) (i := 0) (x := 164) hM dX9_step_0 rfl rfl ?_
  refine aw_aload_n (pc := 1) (i := 0) (x := 164) hM dX9_step_1 rfl rfl ?_
  refine aw_iload_n (pc := 2) (i := 1) (x := p0) hM dX9_step_2 rfl rfl ?_
  obtain ⟨r2, h1, h⟩ := bind_some h
  refine aw_cv1 (pc := 3) (n := 1) (As := [.int p0]) (st := [.ref 164]) (b := 164) (vo := (some (.int r2))) (c2 := 0) (s2 := 0) hM (k_X9_isNode h1) rfl cw_X9_203 sk_164 rfl rfl (by decide +kernel) rfl rfl ⟨(Nat.le_of_ble_eq_true rfl), (Nat.le_of_ble_eq_true rfl)⟩ (Nat.le_of_ble_eq_true rfl) ⟨(Nat.le_of_ble_eq_true rfl), (Nat.le_of_ble_eq_true rfl)⟩ dX9_step_3 rfl rfl ?_
  refine aw_if_ne (pc := 6) (tgt := 13) hM dX9_step_6 (by decide) (fun c3 => ?_) (fun c3 => ?_)
  · rw [if_neg c3] at h
    refine aw_iload_n (pc := 13) (i := 2) (x := p1) hM dX9_step_13 rfl rfl ?_
    refine aw_if_ge (pc := 14) (tgt := 21) hM dX9_step_14 (by decide) (fun c4 => ?_) (fun c4 => ?_)
    · rw [if_pos c4] at h
      refine aw_iconst (pc := 21) (v := 0) hM dX9_step_21 (by decide) ?_
      exact k_X9_step_b22 hM hT hq F p0 p1 0 h
    · rw [if_neg c4] at h
      refine aw_iconst (pc := 17) (v := 2) hM dX9_step_17 (by decide) ?_
      refine aw_goto (pc := 18) (tgt := 22) hM dX9_step_18 (by decide) ?_
      exact k_X9_step_b22 hM hT hq F p0 p1 2 h
  · rw [if_pos c3] at h
    refine aw_iconst (pc := 9) (v := 1) hM dX9_step_9 (by decide) ?_
    refine aw_goto (pc := 10) (tgt := 22) hM dX9_step_10 (by decide) ?_
    exact k_X9_step_b22 hM hT hq F p0 p1 1 h
def rmX9_thrown : Room := { frames := 0, cells := 0, slots := 0, locals := 0 }
def s_X9_thrown (F : MM) : Option Int32 := some (F 164 0)
set_option maxRecDepth 20000 in
theorem k_X9_thrown {C : CX} {F : MM} {G : GG} {r : Int32} (h : s_X9_thrown F = some r) : AM C yX9_thrown cX9_thrown 1 (some .int) rmX9_thrown [.ref 164] F G (fun o F9 G9 => o = (.inl (some (.int r))) ∧ F9 = F ∧ G9 = G) := by
  refine am_of (L := [some (.ref 164)]) (by decide) (Nat.le_of_ble_eq_true rfl) rfl (fun M hM hT => ?_)
  have hM : MOk C RX9 cX9_thrown 1 (some .int) rmX9_thrown M := hM
  obtain ⟨Q, hQ⟩ : ∃ Q : OUT → MM → GG → Prop, Q = (fun o F9 G9 => o = (.inl (some (.int r))) ∧ F9 = F ∧ G9 = G) := ⟨_, rfl⟩
  have hq : Q (.inl (some (.int r))) F G := by rw [hQ]; exact ⟨rfl, rfl, rfl⟩
  rw [← hQ]
  clear hQ
  rw [s_X9_thrown] at h
  refine aw_aload_n (pc := 0) (i := 0) (x := 164) hM dX9_thrown_0 rfl rfl ?_
  refine aw_getI (pc := 1) hM fd_X9_69 sk_164 rfl dX9_thrown_1 ?_
  obtain rfl := Option.some.inj h
  exact aw_iret (pc := 4) hM dX9_thrown_4 (Nat.le_of_ble_eq_true rfl) (Nat.le_of_ble_eq_true rfl) hq
def rmX9_tick : Room := { frames := 6, cells := 0, slots := 0, locals := 143 }
def s_X9_tick_b39 : Nat → MM → Int32 → Int32 → Int32 → Option (Int32 × MM)
  | 0, _, _, _, _ => none
  | n + 1, F, x1, x2, x3 => if x1 ≤ x3 then if inb 1 107 then (some ((F 171 (ix 1)) - x2, F)) else none else (s_X9_tickOn F 171).bind (fun F25 => (some (x3 + 1 : Int32)).bind (fun y26 => s_X9_tick_b39 n F25 x1 x2 y26))
def s_X9_tick (F : MM) (p0 : Int32) : Option (Int32 × MM) := (s_X9_in F (Int32.toInt64 p0) 1 50).bind (fun r2 => if r2 = 0 then (s_X9_refused F 1).bind (fun z6 => if z6.1 = 0 then (s_X9_note z6.2).bind (fun F9 => if inb 1 107 then ((some (F9 171 (ix 1) : Int32)).bind (fun y11 => s_X9_tick_b39 fu_ F9 p0 y11 0)) else none) else some (0, z6.2)) else (s_X9_refused F 0).bind (fun z15 => if z15.1 = 0 then (s_X9_note z15.2).bind (fun F18 => if inb 1 107 then ((some (F18 171 (ix 1) : Int32)).bind (fun y20 => s_X9_tick_b39 fu_ F18 p0 y20 0)) else none) else some (0, z15.2)))
set_option maxRecDepth 20000 in
theorem k_X9_tick_b39 {C : CX} {M : MX} {G : GG} {Q : OUT → MM → GG → Prop} {r : (Int32 × MM)} (hM : MOk C RX9 cX9_tick 4 (some .int) rmX9_tick M) (hT : MNoT M) (hq : Q (.inl (some (.int r.1))) r.2 G) : ∀ (n : Nat) (F : MM) (x1 : Int32) (x2 : Int32) (x3 : Int32), s_X9_tick_b39 n F x1 x2 x3 = some r → AW C 4 (ZM C rmX9_tick Q M) M 0 0 39 [some (.ref 164), some (.int x1), some (.int x2), some (.int x3)] [] F G := by
  intro n
  induction n with
  | zero => intro F x1 x2 x3 h; exact nomatch h
  | succ n ih =>
    intro F x1 x2 x3 h
    rw [s_X9_tick_b39] at h
    refine aw_iload_n (pc := 39) (i := 3) (x := x3) hM dX9_tick_39 rfl rfl ?_
    refine aw_iload_n (pc := 40) (i := 1) (x := x1) hM dX9_tick_40 rfl rfl ?_
    refine aw_icmp_ge (pc := 41) (tgt := 58) hM dX9_tick_41 (by decide) (fun c22 => ?_) (fun c22 => ?_)
    · rw [if_pos c22] at h
      refine aw_aload_n (pc := 58) (i := 0) (x := 164) hM dX9_tick_58 rfl rfl ?_
      refine aw_getR (pc := 59) (r := 171) hM fd_X9_41 sk_164 rfl dX9_tick_59 ?_
      refine aw_iconst (pc := 62) (v := 1) hM dX9_tick_62 (by decide) ?_
      obtain ⟨c23, h⟩ := ite_some h
      refine aw_iald (pc := 63) hM sk_171 c23 dX9_tick_63 ?_
      refine aw_iload_n (pc := 64) (i := 2) (x := x2) hM dX9_tick_64 rfl rfl ?_
      refine aw_isub (pc := 65) hM dX9_tick_65 ?_
      obtain rfl := Option.some.inj h
      exact aw_iret (pc := 66) hM dX9_tick_66 (Nat.le_of_ble_eq_true rfl) (Nat.le_of_ble_eq_true rfl) hq
    · rw [if_neg c22] at h
      refine aw_aload_n (pc := 44) (i := 0) (x := 164) hM dX9_tick_44 rfl rfl ?_
      refine aw_aload_n (pc := 45) (i := 0) (x := 164) hM dX9_tick_45 rfl rfl ?_
      refine aw_getR (pc := 46) (r := 171) hM fd_X9_41 sk_164 rfl dX9_tick_46 ?_
      obtain ⟨F25, h24, h⟩ := bind_some h
      refine aw_cv1 (pc := 49) (n := 1) (As := [.ref 171]) (st := []) (b := 164) (vo := none) (c2 := 0) (s2 := 0) hM (k_X9_tickOn (ia_of sk_171) h24) rfl cw_X9_230 sk_164 rfl rfl (by decide +kernel) rfl rfl ⟨(Nat.le_of_ble_eq_true rfl), (Nat.le_of_ble_eq_true rfl)⟩ (Nat.le_of_ble_eq_true rfl) ⟨(Nat.le_of_ble_eq_true rfl), (Nat.le_of_ble_eq_true rfl)⟩ dX9_tick_49 rfl rfl ?_
      obtain ⟨y26, e27, h⟩ := bind_some h
      have e27 := Option.some.inj e27
      refine aw_iinc (pc := 52) (v := y26) (L' := [some (.ref 164), some (.int x1), some (.int x2), some (.int y26)]) hM dX9_tick_52 rfl e27 (by decide) rfl ?_
      refine aw_goto (pc := 55) (tgt := 39) hM dX9_tick_55 (by decide) ?_
      exact ih F25 x1 x2 y26 h
set_option maxRecDepth 20000 in
theorem k_X9_tick {C : CX} {F : MM} {G : GG} {p0 : Int32} {r : (Int32 × MM)} (h : s_X9_tick F p0 = some r) : AM C yX9_tick cX9_tick 4 (some .int) rmX9_tick [.ref 164, .int p0] F G (fun o F9 G9 => o = (.inl (some (.int r.1))) ∧ F9 = r.2 ∧ G9 = G) := by
  refine am_of (L := [some (.ref 164), some (.int p0), none, none]) (by decide) (Nat.le_of_ble_eq_true rfl) rfl (fun M hM hT => ?_)
  have hM : MOk C RX9 cX9_tick 4 (some .int) rmX9_tick M := hM
  obtain ⟨Q, hQ⟩ : ∃ Q : OUT → MM → GG → Prop, Q = (fun o F9 G9 => o = (.inl (some (.int r.1))) ∧ F9 = r.2 ∧ G9 = G) := ⟨_, rfl⟩
  have hq : Q (.inl (some (.int r.1))) r.2 G := by rw [hQ]; exact ⟨rfl, rfl, rfl⟩
  rw [← hQ]
  clear hQ
  rw [s_X9_tick] at h
  refine aw_aload_n (pc := 0) (i := 0) (x := 164) hM dX9_tick_0 rfl rfl ?_
  refine aw_iload_n (pc := 1) (i := 1) (x := p0) hM dX9_tick_1 rfl rfl ?_
  refine aw_i2l (pc := 2) hM dX9_tick_2 ?_
  refine aw_lconst (pc := 3) (v := 1) hM dX9_tick_3 (by decide) ?_
  refine aw_ldc2 (pc := 4) hM gw_1295 dX9_tick_4 ?_
  obtain ⟨r2, h1, h⟩ := bind_some h
  refine aw_cs1 (pc := 7) (n := 3) (As := [.long (Int32.toInt64 p0), .long 1, .long 50]) (st := [.ref 164]) (vo := (some (.int r2))) (c2 := 0) (s2 := 0) hM (k_X9_in h1) rfl cw_X9_82 (by decide +kernel) rfl rfl ⟨(Nat.le_of_ble_eq_true rfl), (Nat.le_of_ble_eq_true rfl)⟩ (Nat.le_of_ble_eq_true rfl) ⟨(Nat.le_of_ble_eq_true rfl), (Nat.le_of_ble_eq_true rfl)⟩ dX9_tick_7 rfl rfl ?_
  refine aw_if_eq (pc := 10) (tgt := 17) hM dX9_tick_10 (by decide) (fun c3 => ?_) (fun c3 => ?_)
  · rw [if_pos c3] at h
    refine aw_iconst (pc := 17) (v := 1) hM dX9_tick_17 (by decide) ?_
    obtain ⟨z6, h4, h⟩ := bind_some h
    refine aw_cv1 (pc := 18) (n := 1) (As := [.int 1]) (st := []) (b := 164) (vo := (some (.int z6.1))) (c2 := 0) (s2 := 0) hM (k_X9_refused h4) rfl cw_X9_93 sk_164 rfl rfl (by decide +kernel) rfl rfl ⟨(Nat.le_of_ble_eq_true rfl), (Nat.le_of_ble_eq_true rfl)⟩ (Nat.le_of_ble_eq_true rfl) ⟨(Nat.le_of_ble_eq_true rfl), (Nat.le_of_ble_eq_true rfl)⟩ dX9_tick_18 rfl rfl ?_
    refine aw_if_eq (pc := 21) (tgt := 26) hM dX9_tick_21 (by decide) (fun c7 => ?_) (fun c7 => ?_)
    · rw [if_pos c7] at h
      refine aw_aload_n (pc := 26) (i := 0) (x := 164) hM dX9_tick_26 rfl rfl ?_
      obtain ⟨F9, h8, h⟩ := bind_some h
      refine aw_cv1 (pc := 27) (n := 0) (As := []) (st := []) (b := 164) (vo := none) (c2 := 0) (s2 := 0) hM (k_X9_note h8) rfl cw_X9_79 sk_164 rfl rfl (by decide +kernel) rfl rfl ⟨(Nat.le_of_ble_eq_true rfl), (Nat.le_of_ble_eq_true rfl)⟩ (Nat.le_of_ble_eq_true rfl) ⟨(Nat.le_of_ble_eq_true rfl), (Nat.le_of_ble_eq_true rfl)⟩ dX9_tick_27 rfl rfl ?_
      refine aw_aload_n (pc := 30) (i := 0) (x := 164) hM dX9_tick_30 rfl rfl ?_
      refine aw_getR (pc := 31) (r := 171) hM fd_X9_41 sk_164 rfl dX9_tick_31 ?_
      refine aw_iconst (pc := 34) (v := 1) hM dX9_tick_34 (by decide) ?_
      obtain ⟨c10, h⟩ := ite_some h
      refine aw_iald (pc := 35) hM sk_171 c10 dX9_tick_35 ?_
      obtain ⟨y11, e12, h⟩ := bind_some h
      have e12 := Option.some.inj e12
      refine aw_topi e12 ?_
      refine aw_istore_n (pc := 36) (i := 2) (L' := [some (.ref 164), some (.int p0), some (.int y11), none]) hM dX9_tick_36 rfl (by decide) rfl ?_
      refine aw_iconst (pc := 37) (v := 0) hM dX9_tick_37 (by decide) ?_
      refine aw_istore_n (pc := 38) (i := 3) (L' := [some (.ref 164), some (.int p0), some (.int y11), some (.int 0)]) hM dX9_tick_38 rfl (by decide) rfl ?_
      exact k_X9_tick_b39 hM hT hq fu_ F9 p0 y11 0 h
    · rw [if_neg c7] at h
      refine aw_iconst (pc := 24) (v := 0) hM dX9_tick_24 (by decide) ?_
      obtain rfl := Option.some.inj h
      exact aw_iret (pc := 25) hM dX9_tick_25 (Nat.le_of_ble_eq_true rfl) (Nat.le_of_ble_eq_true rfl) hq
  · rw [if_neg c3] at h
    refine aw_iconst (pc := 13) (v := 0) hM dX9_tick_13 (by decide) ?_
    refine aw_goto (pc := 14) (tgt := 18) hM dX9_tick_14 (by decide) ?_
    obtain ⟨z15, h13, h⟩ := bind_some h
    refine aw_cv1 (pc := 18) (n := 1) (As := [.int 0]) (st := []) (b := 164) (vo := (some (.int z15.1))) (c2 := 0) (s2 := 0) hM (k_X9_refused h13) rfl cw_X9_93 sk_164 rfl rfl (by decide +kernel) rfl rfl ⟨(Nat.le_of_ble_eq_true rfl), (Nat.le_of_ble_eq_true rfl)⟩ (Nat.le_of_ble_eq_true rfl) ⟨(Nat.le_of_ble_eq_true rfl), (Nat.le_of_ble_eq_true rfl)⟩ dX9_tick_18 rfl rfl ?_
    refine aw_if_eq (pc := 21) (tgt := 26) hM dX9_tick_21 (by decide) (fun c16 => ?_) (fun c16 => ?_)
    · rw [if_pos c16] at h
      refine aw_aload_n (pc := 26) (i := 0) (x := 164) hM dX9_tick_26 rfl rfl ?_
      obtain ⟨F18, h17, h⟩ := bind_some h
      refine aw_cv1 (pc := 27) (n := 0) (As := []) (st := []) (b := 164) (vo := none) (c2 := 0) (s2 := 0) hM (k_X9_note h17) rfl cw_X9_79 sk_164 rfl rfl (by decide +kernel) rfl rfl ⟨(Nat.le_of_ble_eq_true rfl), (Nat.le_of_ble_eq_true rfl)⟩ (Nat.le_of_ble_eq_true rfl) ⟨(Nat.le_of_ble_eq_true rfl), (Nat.le_of_ble_eq_true rfl)⟩ dX9_tick_27 rfl rfl ?_
      refine aw_aload_n (pc := 30) (i := 0) (x := 164) hM dX9_tick_30 rfl rfl ?_
      refine aw_getR (pc := 31) (r := 171) hM fd_X9_41 sk_164 rfl dX9_tick_31 ?_
      refine aw_iconst (pc := 34) (v := 1) hM dX9_tick_34 (by decide) ?_
      obtain ⟨c19, h⟩ := ite_some h
      refine aw_iald (pc := 35) hM sk_171 c19 dX9_tick_35 ?_
      obtain ⟨y20, e21, h⟩ := bind_some h
      have e21 := Option.some.inj e21
      refine aw_topi e21 ?_
      refine aw_istore_n (pc := 36) (i := 2) (L' := [some (.ref 164), some (.int p0), some (.int y20), none]) hM dX9_tick_36 rfl (by decide) rfl ?_
      refine aw_iconst (pc := 37) (v := 0) hM dX9_tick_37 (by decide) ?_
      refine aw_istore_n (pc := 38) (i := 3) (L' := [some (.ref 164), some (.int p0), some (.int y20), some (.int 0)]) hM dX9_tick_38 rfl (by decide) rfl ?_
      exact k_X9_tick_b39 hM hT hq fu_ F18 p0 y20 0 h
    · rw [if_neg c16] at h
      refine aw_iconst (pc := 24) (v := 0) hM dX9_tick_24 (by decide) ?_
      obtain rfl := Option.some.inj h
      exact aw_iret (pc := 25) hM dX9_tick_25 (Nat.le_of_ble_eq_true rfl) (Nat.le_of_ble_eq_true rfl) hq
def rmX9_undo : Room := { frames := 1, cells := 0, slots := 0, locals := 25 }
def s_X9_undo_b13 (F : MM) (t0 : Int32) : Option (Int32 × MM) := (s_X9_refused F t0).bind (fun z4 => if z4.1 = 0 then (some (mup z4.2 164 22 ((z4.2 164 22) - 1))).bind (fun F6 => (s_X9_copy F6 173 (107 * (F6 164 22)) 171 0 107).bind (fun F9 => some (F9 164 22, F9))) else some (0, z4.2))
def s_X9_undo (F : MM) : Option (Int32 × MM) := if (F 164 22) = 0 then s_X9_undo_b13 F 1 else s_X9_undo_b13 F 0
set_option maxRecDepth 20000 in
theorem k_X9_undo_b13 {C : CX} {M : MX} {G : GG} {Q : OUT → MM → GG → Prop} {r : (Int32 × MM)} (hM : MOk C RX9 cX9_undo 1 (some .int) rmX9_undo M) (hT : MNoT M) (hq : Q (.inl (some (.int r.1))) r.2 G) (F : MM) (t0 : Int32) (h : s_X9_undo_b13 F t0 = some r) : AW C 1 (ZM C rmX9_undo Q M) M 0 0 13 [some (.ref 164)] [.int t0, .ref 164] F G := by
  rw [s_X9_undo_b13] at h
  obtain ⟨z4, h2, h⟩ := bind_some h
  refine aw_cv1 (pc := 13) (n := 1) (As := [.int t0]) (st := []) (b := 164) (vo := (some (.int z4.1))) (c2 := 0) (s2 := 0) hM (k_X9_refused h2) rfl cw_X9_93 sk_164 rfl rfl (by decide +kernel) rfl rfl ⟨(Nat.le_of_ble_eq_true rfl), (Nat.le_of_ble_eq_true rfl)⟩ (Nat.le_of_ble_eq_true rfl) ⟨(Nat.le_of_ble_eq_true rfl), (Nat.le_of_ble_eq_true rfl)⟩ dX9_undo_13 rfl rfl ?_
  refine aw_if_eq (pc := 16) (tgt := 21) hM dX9_undo_16 (by decide) (fun c5 => ?_) (fun c5 => ?_)
  · rw [if_pos c5] at h
    refine aw_aload_n (pc := 21) (i := 0) (x := 164) hM dX9_undo_21 rfl rfl ?_
    refine aw_dup (pc := 22) hM dX9_undo_22 rfl ?_
    refine aw_getI (pc := 23) hM fd_X9_72 sk_164 rfl dX9_undo_23 ?_
    refine aw_iconst (pc := 26) (v := 1) hM dX9_undo_26 (by decide) ?_
    refine aw_isub (pc := 27) hM dX9_undo_27 ?_
    obtain ⟨F6, e7, h⟩ := bind_some h
    have e7 := Option.some.inj e7
    refine aw_put (pc := 28) (ty := .int) hM fd_X9_72 tyX9_ok nmX9 rfl (by decide +kernel) rfl rfl sk_164 rfl dX9_undo_28 ?_
    refine aw_mem e7 ?_
    refine aw_aload_n (pc := 31) (i := 0) (x := 164) hM dX9_undo_31 rfl rfl ?_
    refine aw_getR (pc := 32) (r := 173) hM fd_X9_47 sk_164 rfl dX9_undo_32 ?_
    refine aw_bipush (pc := 35) (v := 107) hM dX9_undo_35 (by decide) ?_
    refine aw_aload_n (pc := 37) (i := 0) (x := 164) hM dX9_undo_37 rfl rfl ?_
    refine aw_getI (pc := 38) hM fd_X9_72 sk_164 rfl dX9_undo_38 ?_
    refine aw_imul (pc := 41) hM dX9_undo_41 ?_
    refine aw_aload_n (pc := 42) (i := 0) (x := 164) hM dX9_undo_42 rfl rfl ?_
    refine aw_getR (pc := 43) (r := 171) hM fd_X9_41 sk_164 rfl dX9_undo_43 ?_
    refine aw_iconst (pc := 46) (v := 0) hM dX9_undo_46 (by decide) ?_
    refine aw_bipush (pc := 47) (v := 107) hM dX9_undo_47 (by decide) ?_
    obtain ⟨F9, h8, h⟩ := bind_some h
    refine aw_cs1 (pc := 49) (n := 5) (As := [.ref 173, .int (107 * (F6 164 22)), .ref 171, .int 0, .int 107]) (st := []) (vo := none) (c2 := 0) (s2 := 0) hM (k_X9_copy (ia_of sk_173) (ia_of sk_171) h8) rfl cw_X9_75 (by decide +kernel) rfl rfl ⟨(Nat.le_of_ble_eq_true rfl), (Nat.le_of_ble_eq_true rfl)⟩ (Nat.le_of_ble_eq_true rfl) ⟨(Nat.le_of_ble_eq_true rfl), (Nat.le_of_ble_eq_true rfl)⟩ dX9_undo_49 rfl rfl ?_
    refine aw_aload_n (pc := 52) (i := 0) (x := 164) hM dX9_undo_52 rfl rfl ?_
    refine aw_getI (pc := 53) hM fd_X9_72 sk_164 rfl dX9_undo_53 ?_
    obtain rfl := Option.some.inj h
    exact aw_iret (pc := 56) hM dX9_undo_56 (Nat.le_of_ble_eq_true rfl) (Nat.le_of_ble_eq_true rfl) hq
  · rw [if_neg c5] at h
    refine aw_iconst (pc := 19) (v := 0) hM dX9_undo_19 (by decide) ?_
    obtain rfl := Option.some.inj h
    exact aw_iret (pc := 20) hM dX9_undo_20 (Nat.le_of_ble_eq_true rfl) (Nat.le_of_ble_eq_true rfl) hq
set_option maxRecDepth 20000 in
theorem k_X9_undo {C : CX} {F : MM} {G : GG} {r : (Int32 × MM)} (h : s_X9_undo F = some r) : AM C yX9_undo cX9_undo 1 (some .int) rmX9_undo [.ref 164] F G (fun o F9 G9 => o = (.inl (some (.int r.1))) ∧ F9 = r.2 ∧ G9 = G) := by
  refine am_of (L := [some (.ref 164)]) (by decide) (Nat.le_of_ble_eq_true rfl) rfl (fun M hM hT => ?_)
  have hM : MOk C RX9 cX9_undo 1 (some .int) rmX9_undo M := hM
  obtain ⟨Q, hQ⟩ : ∃ Q : OUT → MM → GG → Prop, Q = (fun o F9 G9 => o = (.inl (some (.int r.1))) ∧ F9 = r.2 ∧ G9 = G) := ⟨_, rfl⟩
  have hq : Q (.inl (some (.int r.1))) r.2 G := by rw [hQ]; exact ⟨rfl, rfl, rfl⟩
  rw [← hQ]
  clear hQ
  rw [s_X9_undo] at h
  refine aw_aload_n (pc := 0) (i := 0) (x := 164) hM dX9_undo_0 rfl rfl ?_
  refine aw_aload_n (pc := 1) (i := 0) (x := 164) hM dX9_undo_1 rfl rfl ?_
  refine aw_getI (pc := 2) hM fd_X9_72 sk_164 rfl dX9_undo_2 ?_
  refine aw_if_ne (pc := 5) (tgt := 12) hM dX9_undo_5 (by decide) (fun c1 => ?_) (fun c1 => ?_)
  · rw [if_neg c1] at h
    refine aw_iconst (pc := 12) (v := 0) hM dX9_undo_12 (by decide) ?_
    exact k_X9_undo_b13 hM hT hq F 0 h
  · rw [if_pos c1] at h
    refine aw_iconst (pc := 8) (v := 1) hM dX9_undo_8 (by decide) ?_
    refine aw_goto (pc := 9) (tgt := 13) hM dX9_undo_9 (by decide) ?_
    exact k_X9_undo_b13 hM hT hq F 1 h
def rmX9_version : Room := { frames := 2, cells := 0, slots := 0, locals := 46 }
def s_X9_version_b22 (F : MM) (x1 : Int32) (x2 : Int32) (x3 : Int32) (t0 : Int32) : Option (Int32 × MM) := (s_X9_refused F t0).bind (fun z9 => if z9.1 = 0 then (s_X9_at z9.2 x1).bind (fun r12 => if x3 = 0 then if inb ((r12 + 0) + x2) 107 then (some (z9.2 171 (ix ((r12 + 0) + x2)), z9.2)) else none else if inb ((r12 + 6) + x2) 107 then (some (z9.2 171 (ix ((r12 + 6) + x2)), z9.2)) else none) else some (0, z9.2))
def s_X9_version (F : MM) (p0 : Int32) (p1 : Int32) (p2 : Int32) : Option (Int32 × MM) := (s_X9_isNode F p0).bind (fun r2 => if r2 = 0 then s_X9_version_b22 F p0 p1 p2 1 else (s_X9_isPart F p1).bind (fun r5 => if r5 = 0 then s_X9_version_b22 F p0 p1 p2 1 else s_X9_version_b22 F p0 p1 p2 0))
set_option maxRecDepth 20000 in
theorem k_X9_version_b22 {C : CX} {M : MX} {G : GG} {Q : OUT → MM → GG → Prop} {r : (Int32 × MM)} (hM : MOk C RX9 cX9_version 4 (some .int) rmX9_version M) (hT : MNoT M) (hq : Q (.inl (some (.int r.1))) r.2 G) (F : MM) (x1 : Int32) (x2 : Int32) (x3 : Int32) (t0 : Int32) (h : s_X9_version_b22 F x1 x2 x3 t0 = some r) : AW C 4 (ZM C rmX9_version Q M) M 0 0 22 [some (.ref 164), some (.int x1), some (.int x2), some (.int x3)] [.int t0, .ref 164] F G := by
  rw [s_X9_version_b22] at h
  obtain ⟨z9, h7, h⟩ := bind_some h
  refine aw_cv1 (pc := 22) (n := 1) (As := [.int t0]) (st := []) (b := 164) (vo := (some (.int z9.1))) (c2 := 0) (s2 := 0) hM (k_X9_refused h7) rfl cw_X9_93 sk_164 rfl rfl (by decide +kernel) rfl rfl ⟨(Nat.le_of_ble_eq_true rfl), (Nat.le_of_ble_eq_true rfl)⟩ (Nat.le_of_ble_eq_true rfl) ⟨(Nat.le_of_ble_eq_true rfl), (Nat.le_of_ble_eq_true rfl)⟩ dX9_version_22 rfl rfl ?_
  refine aw_if_eq (pc := 25) (tgt := 30) hM dX9_version_25 (by decide) (fun c10 => ?_) (fun c10 => ?_)
  · rw [if_pos c10] at h
    refine aw_aload_n (pc := 30) (i := 0) (x := 164) hM dX9_version_30 rfl rfl ?_
    refine aw_getR (pc := 31) (r := 171) hM fd_X9_41 sk_164 rfl dX9_version_31 ?_
    refine aw_iload_n (pc := 34) (i := 1) (x := x1) hM dX9_version_34 rfl rfl ?_
    obtain ⟨r12, h11, h⟩ := bind_some h
    refine aw_cs1 (pc := 35) (n := 1) (As := [.int x1]) (st := [.ref 171]) (vo := (some (.int r12))) (c2 := 0) (s2 := 0) hM (k_X9_at h11) rfl cw_X9_126 (by decide +kernel) rfl rfl ⟨(Nat.le_of_ble_eq_true rfl), (Nat.le_of_ble_eq_true rfl)⟩ (Nat.le_of_ble_eq_true rfl) ⟨(Nat.le_of_ble_eq_true rfl), (Nat.le_of_ble_eq_true rfl)⟩ dX9_version_35 rfl rfl ?_
    refine aw_iload_n (pc := 38) (i := 3) (x := x3) hM dX9_version_38 rfl rfl ?_
    refine aw_if_eq (pc := 39) (tgt := 47) hM dX9_version_39 (by decide) (fun c13 => ?_) (fun c13 => ?_)
    · rw [if_pos c13] at h
      refine aw_iconst (pc := 47) (v := 0) hM dX9_version_47 (by decide) ?_
      refine aw_iadd (pc := 48) hM dX9_version_48 ?_
      refine aw_iload_n (pc := 49) (i := 2) (x := x2) hM dX9_version_49 rfl rfl ?_
      refine aw_iadd (pc := 50) hM dX9_version_50 ?_
      obtain ⟨c14, h⟩ := ite_some h
      refine aw_iald (pc := 51) hM sk_171 c14 dX9_version_51 ?_
      obtain rfl := Option.some.inj h
      exact aw_iret (pc := 52) hM dX9_version_52 (Nat.le_of_ble_eq_true rfl) (Nat.le_of_ble_eq_true rfl) hq
    · rw [if_neg c13] at h
      refine aw_bipush (pc := 42) (v := 6) hM dX9_version_42 (by decide) ?_
      refine aw_goto (pc := 44) (tgt := 48) hM dX9_version_44 (by decide) ?_
      refine aw_iadd (pc := 48) hM dX9_version_48 ?_
      refine aw_iload_n (pc := 49) (i := 2) (x := x2) hM dX9_version_49 rfl rfl ?_
      refine aw_iadd (pc := 50) hM dX9_version_50 ?_
      obtain ⟨c15, h⟩ := ite_some h
      refine aw_iald (pc := 51) hM sk_171 c15 dX9_version_51 ?_
      obtain rfl := Option.some.inj h
      exact aw_iret (pc := 52) hM dX9_version_52 (Nat.le_of_ble_eq_true rfl) (Nat.le_of_ble_eq_true rfl) hq
  · rw [if_neg c10] at h
    refine aw_iconst (pc := 28) (v := 0) hM dX9_version_28 (by decide) ?_
    obtain rfl := Option.some.inj h
    exact aw_iret (pc := 29) hM dX9_version_29 (Nat.le_of_ble_eq_true rfl) (Nat.le_of_ble_eq_true rfl) hq
set_option maxRecDepth 20000 in
theorem k_X9_version {C : CX} {F : MM} {G : GG} {p0 : Int32} {p1 : Int32} {p2 : Int32} {r : (Int32 × MM)} (h : s_X9_version F p0 p1 p2 = some r) : AM C yX9_version cX9_version 4 (some .int) rmX9_version [.ref 164, .int p0, .int p1, .int p2] F G (fun o F9 G9 => o = (.inl (some (.int r.1))) ∧ F9 = r.2 ∧ G9 = G) := by
  refine am_of (L := [some (.ref 164), some (.int p0), some (.int p1), some (.int p2)]) (by decide) (Nat.le_of_ble_eq_true rfl) rfl (fun M hM hT => ?_)
  have hM : MOk C RX9 cX9_version 4 (some .int) rmX9_version M := hM
  obtain ⟨Q, hQ⟩ : ∃ Q : OUT → MM → GG → Prop, Q = (fun o F9 G9 => o = (.inl (some (.int r.1))) ∧ F9 = r.2 ∧ G9 = G) := ⟨_, rfl⟩
  have hq : Q (.inl (some (.int r.1))) r.2 G := by rw [hQ]; exact ⟨rfl, rfl, rfl⟩
  rw [← hQ]
  clear hQ
  rw [s_X9_version] at h
  refine aw_aload_n (pc := 0) (i := 0) (x := 164) hM dX9_version_0 rfl rfl ?_
  refine aw_aload_n (pc := 1) (i := 0) (x := 164) hM dX9_version_1 rfl rfl ?_
  refine aw_iload_n (pc := 2) (i := 1) (x := p0) hM dX9_version_2 rfl rfl ?_
  obtain ⟨r2, h1, h⟩ := bind_some h
  refine aw_cv1 (pc := 3) (n := 1) (As := [.int p0]) (st := [.ref 164]) (b := 164) (vo := (some (.int r2))) (c2 := 0) (s2 := 0) hM (k_X9_isNode h1) rfl cw_X9_203 sk_164 rfl rfl (by decide +kernel) rfl rfl ⟨(Nat.le_of_ble_eq_true rfl), (Nat.le_of_ble_eq_true rfl)⟩ (Nat.le_of_ble_eq_true rfl) ⟨(Nat.le_of_ble_eq_true rfl), (Nat.le_of_ble_eq_true rfl)⟩ dX9_version_3 rfl rfl ?_
  refine aw_if_eq (pc := 6) (tgt := 21) hM dX9_version_6 (by decide) (fun c3 => ?_) (fun c3 => ?_)
  · rw [if_pos c3] at h
    refine aw_iconst (pc := 21) (v := 1) hM dX9_version_21 (by decide) ?_
    exact k_X9_version_b22 hM hT hq F p0 p1 p2 1 h
  · rw [if_neg c3] at h
    refine aw_aload_n (pc := 9) (i := 0) (x := 164) hM dX9_version_9 rfl rfl ?_
    refine aw_iload_n (pc := 10) (i := 2) (x := p1) hM dX9_version_10 rfl rfl ?_
    obtain ⟨r5, h4, h⟩ := bind_some h
    refine aw_cv1 (pc := 11) (n := 1) (As := [.int p1]) (st := [.ref 164]) (b := 164) (vo := (some (.int r5))) (c2 := 0) (s2 := 0) hM (k_X9_isPart h4) rfl cw_X9_211 sk_164 rfl rfl (by decide +kernel) rfl rfl ⟨(Nat.le_of_ble_eq_true rfl), (Nat.le_of_ble_eq_true rfl)⟩ (Nat.le_of_ble_eq_true rfl) ⟨(Nat.le_of_ble_eq_true rfl), (Nat.le_of_ble_eq_true rfl)⟩ dX9_version_11 rfl rfl ?_
    refine aw_if_eq (pc := 14) (tgt := 21) hM dX9_version_14 (by decide) (fun c6 => ?_) (fun c6 => ?_)
    · rw [if_pos c6] at h
      refine aw_iconst (pc := 21) (v := 1) hM dX9_version_21 (by decide) ?_
      exact k_X9_version_b22 hM hT hq F p0 p1 p2 1 h
    · rw [if_neg c6] at h
      refine aw_iconst (pc := 17) (v := 0) hM dX9_version_17 (by decide) ?_
      refine aw_goto (pc := 18) (tgt := 22) hM dX9_version_18 (by decide) ?_
      exact k_X9_version_b22 hM hT hq F p0 p1 p2 0 h
def rmX9_wish : Room := { frames := 3, cells := 0, slots := 0, locals := 68 }
def s_X9_wish_b17 (F : MM) (x1 : Int32) (x2 : Int32) (x3 : Int32) : Option (Int32 × MM) := (s_X9_refused F 1).bind (fun z30 => if z30.1 = 0 then (s_X9_at z30.2 x1).bind (fun r33 => (s_X9_change z30.2 ((r33 + 6) + x2) x3).bind (fun z36 => some (z36.1, z36.2))) else some (0, z30.2))
def s_X9_wish (F : MM) (p0 : Int32) (p1 : Int32) (p2 : Int32) : Option (Int32 × MM) := (s_X9_isNode F p0).bind (fun r2 => if r2 = 0 then s_X9_wish_b17 F p0 p1 p2 else (s_X9_isPart F p1).bind (fun r5 => if r5 = 0 then s_X9_wish_b17 F p0 p1 p2 else (s_X9_isVersion F p2).bind (fun r8 => if r8 = 0 then (s_X9_refused F 2).bind (fun z21 => if z21.1 = 0 then (s_X9_at z21.2 p0).bind (fun r24 => (s_X9_change z21.2 ((r24 + 6) + p1) p2).bind (fun z27 => some (z27.1, z27.2))) else some (0, z21.2)) else (s_X9_refused F 0).bind (fun z12 => if z12.1 = 0 then (s_X9_at z12.2 p0).bind (fun r15 => (s_X9_change z12.2 ((r15 + 6) + p1) p2).bind (fun z18 => some (z18.1, z18.2))) else some (0, z12.2)))))
set_option maxRecDepth 20000 in
theorem k_X9_wish_b17 {C : CX} {M : MX} {G : GG} {Q : OUT → MM → GG → Prop} {r : (Int32 × MM)} (hM : MOk C RX9 cX9_wish 4 (some .int) rmX9_wish M) (hT : MNoT M) (hq : Q (.inl (some (.int r.1))) r.2 G) (F : MM) (x1 : Int32) (x2 : Int32) (x3 : Int32) (h : s_X9_wish_b17 F x1 x2 x3 = some r) : AW C 4 (ZM C rmX9_wish Q M) M 0 0 17 [some (.ref 164), some (.int x1), some (.int x2), some (.int x3)] [.ref 164] F G := by
  rw [s_X9_wish_b17] at h
  refine aw_iconst (pc := 17) (v := 1) hM dX9_wish_17 (by decide) ?_
  refine aw_goto (pc := 18) (tgt := 33) hM dX9_wish_18 (by decide) ?_
  obtain ⟨z30, h28, h⟩ := bind_some h
  refine aw_cv1 (pc := 33) (n := 1) (As := [.int 1]) (st := []) (b := 164) (vo := (some (.int z30.1))) (c2 := 0) (s2 := 0) hM (k_X9_refused h28) rfl cw_X9_93 sk_164 rfl rfl (by decide +kernel) rfl rfl ⟨(Nat.le_of_ble_eq_true rfl), (Nat.le_of_ble_eq_true rfl)⟩ (Nat.le_of_ble_eq_true rfl) ⟨(Nat.le_of_ble_eq_true rfl), (Nat.le_of_ble_eq_true rfl)⟩ dX9_wish_33 rfl rfl ?_
  refine aw_if_eq (pc := 36) (tgt := 41) hM dX9_wish_36 (by decide) (fun c31 => ?_) (fun c31 => ?_)
  · rw [if_pos c31] at h
    refine aw_aload_n (pc := 41) (i := 0) (x := 164) hM dX9_wish_41 rfl rfl ?_
    refine aw_iload_n (pc := 42) (i := 1) (x := x1) hM dX9_wish_42 rfl rfl ?_
    obtain ⟨r33, h32, h⟩ := bind_some h
    refine aw_cs1 (pc := 43) (n := 1) (As := [.int x1]) (st := [.ref 164]) (vo := (some (.int r33))) (c2 := 0) (s2 := 0) hM (k_X9_at h32) rfl cw_X9_126 (by decide +kernel) rfl rfl ⟨(Nat.le_of_ble_eq_true rfl), (Nat.le_of_ble_eq_true rfl)⟩ (Nat.le_of_ble_eq_true rfl) ⟨(Nat.le_of_ble_eq_true rfl), (Nat.le_of_ble_eq_true rfl)⟩ dX9_wish_43 rfl rfl ?_
    refine aw_bipush (pc := 46) (v := 6) hM dX9_wish_46 (by decide) ?_
    refine aw_iadd (pc := 48) hM dX9_wish_48 ?_
    refine aw_iload_n (pc := 49) (i := 2) (x := x2) hM dX9_wish_49 rfl rfl ?_
    refine aw_iadd (pc := 50) hM dX9_wish_50 ?_
    refine aw_iload_n (pc := 51) (i := 3) (x := x3) hM dX9_wish_51 rfl rfl ?_
    obtain ⟨z36, h34, h⟩ := bind_some h
    refine aw_cv1 (pc := 52) (n := 2) (As := [.int ((r33 + 6) + x2), .int x3]) (st := []) (b := 164) (vo := (some (.int z36.1))) (c2 := 0) (s2 := 0) hM (k_X9_change h34) rfl cw_X9_219 sk_164 rfl rfl (by decide +kernel) rfl rfl ⟨(Nat.le_of_ble_eq_true rfl), (Nat.le_of_ble_eq_true rfl)⟩ (Nat.le_of_ble_eq_true rfl) ⟨(Nat.le_of_ble_eq_true rfl), (Nat.le_of_ble_eq_true rfl)⟩ dX9_wish_52 rfl rfl ?_
    obtain rfl := Option.some.inj h
    exact aw_iret (pc := 55) hM dX9_wish_55 (Nat.le_of_ble_eq_true rfl) (Nat.le_of_ble_eq_true rfl) hq
  · rw [if_neg c31] at h
    refine aw_iconst (pc := 39) (v := 0) hM dX9_wish_39 (by decide) ?_
    obtain rfl := Option.some.inj h
    exact aw_iret (pc := 40) hM dX9_wish_40 (Nat.le_of_ble_eq_true rfl) (Nat.le_of_ble_eq_true rfl) hq
set_option maxRecDepth 20000 in
theorem k_X9_wish {C : CX} {F : MM} {G : GG} {p0 : Int32} {p1 : Int32} {p2 : Int32} {r : (Int32 × MM)} (h : s_X9_wish F p0 p1 p2 = some r) : AM C yX9_wish cX9_wish 4 (some .int) rmX9_wish [.ref 164, .int p0, .int p1, .int p2] F G (fun o F9 G9 => o = (.inl (some (.int r.1))) ∧ F9 = r.2 ∧ G9 = G) := by
  refine am_of (L := [some (.ref 164), some (.int p0), some (.int p1), some (.int p2)]) (by decide) (Nat.le_of_ble_eq_true rfl) rfl (fun M hM hT => ?_)
  have hM : MOk C RX9 cX9_wish 4 (some .int) rmX9_wish M := hM
  obtain ⟨Q, hQ⟩ : ∃ Q : OUT → MM → GG → Prop, Q = (fun o F9 G9 => o = (.inl (some (.int r.1))) ∧ F9 = r.2 ∧ G9 = G) := ⟨_, rfl⟩
  have hq : Q (.inl (some (.int r.1))) r.2 G := by rw [hQ]; exact ⟨rfl, rfl, rfl⟩
  rw [← hQ]
  clear hQ
  rw [s_X9_wish] at h
  refine aw_aload_n (pc := 0) (i := 0) (x := 164) hM dX9_wish_0 rfl rfl ?_
  refine aw_aload_n (pc := 1) (i := 0) (x := 164) hM dX9_wish_1 rfl rfl ?_
  refine aw_iload_n (pc := 2) (i := 1) (x := p0) hM dX9_wish_2 rfl rfl ?_
  obtain ⟨r2, h1, h⟩ := bind_some h
  refine aw_cv1 (pc := 3) (n := 1) (As := [.int p0]) (st := [.ref 164]) (b := 164) (vo := (some (.int r2))) (c2 := 0) (s2 := 0) hM (k_X9_isNode h1) rfl cw_X9_203 sk_164 rfl rfl (by decide +kernel) rfl rfl ⟨(Nat.le_of_ble_eq_true rfl), (Nat.le_of_ble_eq_true rfl)⟩ (Nat.le_of_ble_eq_true rfl) ⟨(Nat.le_of_ble_eq_true rfl), (Nat.le_of_ble_eq_true rfl)⟩ dX9_wish_3 rfl rfl ?_
  refine aw_if_eq (pc := 6) (tgt := 17) hM dX9_wish_6 (by decide) (fun c3 => ?_) (fun c3 => ?_)
  · rw [if_pos c3] at h
    exact k_X9_wish_b17 hM hT hq F p0 p1 p2 h
  · rw [if_neg c3] at h
    refine aw_aload_n (pc := 9) (i := 0) (x := 164) hM dX9_wish_9 rfl rfl ?_
    refine aw_iload_n (pc := 10) (i := 2) (x := p1) hM dX9_wish_10 rfl rfl ?_
    obtain ⟨r5, h4, h⟩ := bind_some h
    refine aw_cv1 (pc := 11) (n := 1) (As := [.int p1]) (st := [.ref 164]) (b := 164) (vo := (some (.int r5))) (c2 := 0) (s2 := 0) hM (k_X9_isPart h4) rfl cw_X9_211 sk_164 rfl rfl (by decide +kernel) rfl rfl ⟨(Nat.le_of_ble_eq_true rfl), (Nat.le_of_ble_eq_true rfl)⟩ (Nat.le_of_ble_eq_true rfl) ⟨(Nat.le_of_ble_eq_true rfl), (Nat.le_of_ble_eq_true rfl)⟩ dX9_wish_11 rfl rfl ?_
    refine aw_if_ne (pc := 14) (tgt := 21) hM dX9_wish_14 (by decide) (fun c6 => ?_) (fun c6 => ?_)
    · rw [if_neg c6] at h
      refine aw_iload_n (pc := 21) (i := 3) (x := p2) hM dX9_wish_21 rfl rfl ?_
      obtain ⟨r8, h7, h⟩ := bind_some h
      refine aw_cs1 (pc := 22) (n := 1) (As := [.int p2]) (st := [.ref 164]) (vo := (some (.int r8))) (c2 := 0) (s2 := 0) hM (k_X9_isVersion h7) rfl cw_X9_216 (by decide +kernel) rfl rfl ⟨(Nat.le_of_ble_eq_true rfl), (Nat.le_of_ble_eq_true rfl)⟩ (Nat.le_of_ble_eq_true rfl) ⟨(Nat.le_of_ble_eq_true rfl), (Nat.le_of_ble_eq_true rfl)⟩ dX9_wish_22 rfl rfl ?_
      refine aw_if_ne (pc := 25) (tgt := 32) hM dX9_wish_25 (by decide) (fun c9 => ?_) (fun c9 => ?_)
      · rw [if_neg c9] at h
        refine aw_iconst (pc := 32) (v := 0) hM dX9_wish_32 (by decide) ?_
        obtain ⟨z12, h10, h⟩ := bind_some h
        refine aw_cv1 (pc := 33) (n := 1) (As := [.int 0]) (st := []) (b := 164) (vo := (some (.int z12.1))) (c2 := 0) (s2 := 0) hM (k_X9_refused h10) rfl cw_X9_93 sk_164 rfl rfl (by decide +kernel) rfl rfl ⟨(Nat.le_of_ble_eq_true rfl), (Nat.le_of_ble_eq_true rfl)⟩ (Nat.le_of_ble_eq_true rfl) ⟨(Nat.le_of_ble_eq_true rfl), (Nat.le_of_ble_eq_true rfl)⟩ dX9_wish_33 rfl rfl ?_
        refine aw_if_eq (pc := 36) (tgt := 41) hM dX9_wish_36 (by decide) (fun c13 => ?_) (fun c13 => ?_)
        · rw [if_pos c13] at h
          refine aw_aload_n (pc := 41) (i := 0) (x := 164) hM dX9_wish_41 rfl rfl ?_
          refine aw_iload_n (pc := 42) (i := 1) (x := p0) hM dX9_wish_42 rfl rfl ?_
          obtain ⟨r15, h14, h⟩ := bind_some h
          refine aw_cs1 (pc := 43) (n := 1) (As := [.int p0]) (st := [.ref 164]) (vo := (some (.int r15))) (c2 := 0) (s2 := 0) hM (k_X9_at h14) rfl cw_X9_126 (by decide +kernel) rfl rfl ⟨(Nat.le_of_ble_eq_true rfl), (Nat.le_of_ble_eq_true rfl)⟩ (Nat.le_of_ble_eq_true rfl) ⟨(Nat.le_of_ble_eq_true rfl), (Nat.le_of_ble_eq_true rfl)⟩ dX9_wish_43 rfl rfl ?_
          refine aw_bipush (pc := 46) (v := 6) hM dX9_wish_46 (by decide) ?_
          refine aw_iadd (pc := 48) hM dX9_wish_48 ?_
          refine aw_iload_n (pc := 49) (i := 2) (x := p1) hM dX9_wish_49 rfl rfl ?_
          refine aw_iadd (pc := 50) hM dX9_wish_50 ?_
          refine aw_iload_n (pc := 51) (i := 3) (x := p2) hM dX9_wish_51 rfl rfl ?_
          obtain ⟨z18, h16, h⟩ := bind_some h
          refine aw_cv1 (pc := 52) (n := 2) (As := [.int ((r15 + 6) + p1), .int p2]) (st := []) (b := 164) (vo := (some (.int z18.1))) (c2 := 0) (s2 := 0) hM (k_X9_change h16) rfl cw_X9_219 sk_164 rfl rfl (by decide +kernel) rfl rfl ⟨(Nat.le_of_ble_eq_true rfl), (Nat.le_of_ble_eq_true rfl)⟩ (Nat.le_of_ble_eq_true rfl) ⟨(Nat.le_of_ble_eq_true rfl), (Nat.le_of_ble_eq_true rfl)⟩ dX9_wish_52 rfl rfl ?_
          obtain rfl := Option.some.inj h
          exact aw_iret (pc := 55) hM dX9_wish_55 (Nat.le_of_ble_eq_true rfl) (Nat.le_of_ble_eq_true rfl) hq
        · rw [if_neg c13] at h
          refine aw_iconst (pc := 39) (v := 0) hM dX9_wish_39 (by decide) ?_
          obtain rfl := Option.some.inj h
          exact aw_iret (pc := 40) hM dX9_wish_40 (Nat.le_of_ble_eq_true rfl) (Nat.le_of_ble_eq_true rfl) hq
      · rw [if_pos c9] at h
        refine aw_iconst (pc := 28) (v := 2) hM dX9_wish_28 (by decide) ?_
        refine aw_goto (pc := 29) (tgt := 33) hM dX9_wish_29 (by decide) ?_
        obtain ⟨z21, h19, h⟩ := bind_some h
        refine aw_cv1 (pc := 33) (n := 1) (As := [.int 2]) (st := []) (b := 164) (vo := (some (.int z21.1))) (c2 := 0) (s2 := 0) hM (k_X9_refused h19) rfl cw_X9_93 sk_164 rfl rfl (by decide +kernel) rfl rfl ⟨(Nat.le_of_ble_eq_true rfl), (Nat.le_of_ble_eq_true rfl)⟩ (Nat.le_of_ble_eq_true rfl) ⟨(Nat.le_of_ble_eq_true rfl), (Nat.le_of_ble_eq_true rfl)⟩ dX9_wish_33 rfl rfl ?_
        refine aw_if_eq (pc := 36) (tgt := 41) hM dX9_wish_36 (by decide) (fun c22 => ?_) (fun c22 => ?_)
        · rw [if_pos c22] at h
          refine aw_aload_n (pc := 41) (i := 0) (x := 164) hM dX9_wish_41 rfl rfl ?_
          refine aw_iload_n (pc := 42) (i := 1) (x := p0) hM dX9_wish_42 rfl rfl ?_
          obtain ⟨r24, h23, h⟩ := bind_some h
          refine aw_cs1 (pc := 43) (n := 1) (As := [.int p0]) (st := [.ref 164]) (vo := (some (.int r24))) (c2 := 0) (s2 := 0) hM (k_X9_at h23) rfl cw_X9_126 (by decide +kernel) rfl rfl ⟨(Nat.le_of_ble_eq_true rfl), (Nat.le_of_ble_eq_true rfl)⟩ (Nat.le_of_ble_eq_true rfl) ⟨(Nat.le_of_ble_eq_true rfl), (Nat.le_of_ble_eq_true rfl)⟩ dX9_wish_43 rfl rfl ?_
          refine aw_bipush (pc := 46) (v := 6) hM dX9_wish_46 (by decide) ?_
          refine aw_iadd (pc := 48) hM dX9_wish_48 ?_
          refine aw_iload_n (pc := 49) (i := 2) (x := p1) hM dX9_wish_49 rfl rfl ?_
          refine aw_iadd (pc := 50) hM dX9_wish_50 ?_
          refine aw_iload_n (pc := 51) (i := 3) (x := p2) hM dX9_wish_51 rfl rfl ?_
          obtain ⟨z27, h25, h⟩ := bind_some h
          refine aw_cv1 (pc := 52) (n := 2) (As := [.int ((r24 + 6) + p1), .int p2]) (st := []) (b := 164) (vo := (some (.int z27.1))) (c2 := 0) (s2 := 0) hM (k_X9_change h25) rfl cw_X9_219 sk_164 rfl rfl (by decide +kernel) rfl rfl ⟨(Nat.le_of_ble_eq_true rfl), (Nat.le_of_ble_eq_true rfl)⟩ (Nat.le_of_ble_eq_true rfl) ⟨(Nat.le_of_ble_eq_true rfl), (Nat.le_of_ble_eq_true rfl)⟩ dX9_wish_52 rfl rfl ?_
          obtain rfl := Option.some.inj h
          exact aw_iret (pc := 55) hM dX9_wish_55 (Nat.le_of_ble_eq_true rfl) (Nat.le_of_ble_eq_true rfl) hq
        · rw [if_neg c22] at h
          refine aw_iconst (pc := 39) (v := 0) hM dX9_wish_39 (by decide) ?_
          obtain rfl := Option.some.inj h
          exact aw_iret (pc := 40) hM dX9_wish_40 (Nat.le_of_ble_eq_true rfl) (Nat.le_of_ble_eq_true rfl) hq
    · rw [if_pos c6] at h
      exact k_X9_wish_b17 hM hT hq F p0 p1 p2 h
def rmX9_wishRing : Room := { frames := 2, cells := 0, slots := 0, locals := 46 }
def s_X9_wishRing_b55 : Nat → MM → Int32 → Int32 → Int32 → Int32 → Int32 → Option (Int32 × MM)
  | 0, _, _, _, _, _, _ => none
  | n + 1, F, x1, x2, x3, x4, x5 => if (F 164 4) ≤ x5 then some (x4, F) else if inb x5 5 then (if (F 166 (ix x5)) = x1 then (s_X9_at F x5).bind (fun r40 => if inb ((r40 + 6) + x2) 107 then ((some (mup F 171 (ix ((r40 + 6) + x2)) x3)).bind (fun F42 => (some (x4 + 1 : Int32)).bind (fun y44 => (some (x5 + 1 : Int32)).bind (fun y46 => s_X9_wishRing_b55 n F42 x1 x2 x3 y44 y46)))) else none) else (some (x5 + 1 : Int32)).bind (fun y37 => s_X9_wishRing_b55 n F x1 x2 x3 x4 y37)) else none
def s_X9_wishRing (F : MM) (p0 : Int32) (p1 : Int32) (p2 : Int32) : Option (Int32 × MM) := (s_X9_isPart F p1).bind (fun r2 => if r2 = 0 then (s_X9_refused F 1).bind (fun z30 => if z30.1 = 0 then (s_X9_note z30.2).bind (fun F33 => s_X9_wishRing_b55 fu_ F33 p0 p1 p2 0 0) else some (0, z30.2)) else (s_X9_in F (Int32.toInt64 p0) 0 2).bind (fun r5 => if r5 = 0 then (s_X9_refused F 2).bind (fun z9 => if z9.1 = 0 then (s_X9_note z9.2).bind (fun F12 => s_X9_wishRing_b55 fu_ F12 p0 p1 p2 0 0) else some (0, z9.2)) else (s_X9_isVersion F p2).bind (fun r14 => if r14 = 0 then (s_X9_refused F 2).bind (fun z24 => if z24.1 = 0 then (s_X9_note z24.2).bind (fun F27 => s_X9_wishRing_b55 fu_ F27 p0 p1 p2 0 0) else some (0, z24.2)) else (s_X9_refused F 0).bind (fun z18 => if z18.1 = 0 then (s_X9_note z18.2).bind (fun F21 => s_X9_wishRing_b55 fu_ F21 p0 p1 p2 0 0) else some (0, z18.2)))))
set_option maxRecDepth 20000 in
theorem k_X9_wishRing_b55 {C : CX} {M : MX} {G : GG} {Q : OUT → MM → GG → Prop} {r : (Int32 × MM)} (hM : MOk C RX9 cX9_wishRing 6 (some .int) rmX9_wishRing M) (hT : MNoT M) (hq : Q (.inl (some (.int r.1))) r.2 G) : ∀ (n : Nat) (F : MM) (x1 : Int32) (x2 : Int32) (x3 : Int32) (x4 : Int32) (x5 : Int32), s_X9_wishRing_b55 n F x1 x2 x3 x4 x5 = some r → AW C 6 (ZM C rmX9_wishRing Q M) M 0 0 55 [some (.ref 164), some (.int x1), some (.int x2), some (.int x3), some (.int x4), some (.int x5)] [] F G := by
  intro n
  induction n with
  | zero => intro F x1 x2 x3 x4 x5 h; exact nomatch h
  | succ n ih =>
    intro F x1 x2 x3 x4 x5 h
    rw [s_X9_wishRing_b55] at h
    refine aw_iload (pc := 55) (i := 5) (x := x5) hM dX9_wishRing_55  rfl ?_
    refine aw_aload_n (pc := 57) (i := 0) (x := 164) hM dX9_wishRing_57 rfl rfl ?_
    refine aw_getI (pc := 58) hM fd_X9_13 sk_164 rfl dX9_wishRing_58 ?_
    refine aw_icmp_ge (pc := 61) (tgt := 100) hM dX9_wishRing_61 (by decide) (fun c34 => ?_) (fun c34 => ?_)
    · rw [if_pos c34] at h
      refine aw_iload (pc := 100) (i := 4) (x := x4) hM dX9_wishRing_100  rfl ?_
      obtain rfl := Option.some.inj h
      exact aw_iret (pc := 102) hM dX9_wishRing_102 (Nat.le_of_ble_eq_true rfl) (Nat.le_of_ble_eq_true rfl) hq
    · rw [if_neg c34] at h
      refine aw_aload_n (pc := 64) (i := 0) (x := 164) hM dX9_wishRing_64 rfl rfl ?_
      refine aw_getR (pc := 65) (r := 166) hM fd_X9_26 sk_164 rfl dX9_wishRing_65 ?_
      refine aw_iload (pc := 68) (i := 5) (x := x5) hM dX9_wishRing_68  rfl ?_
      obtain ⟨c35, h⟩ := ite_some h
      refine aw_iald (pc := 70) hM sk_166 c35 dX9_wishRing_70 ?_
      refine aw_iload_n (pc := 71) (i := 1) (x := x1) hM dX9_wishRing_71 rfl rfl ?_
      refine aw_icmp_ne (pc := 72) (tgt := 94) hM dX9_wishRing_72 (by decide) (fun c36 => ?_) (fun c36 => ?_)
      · rw [if_neg c36] at h
        obtain ⟨y37, e38, h⟩ := bind_some h
        have e38 := Option.some.inj e38
        refine aw_iinc (pc := 94) (v := y37) (L' := [some (.ref 164), some (.int x1), some (.int x2), some (.int x3), some (.int x4), some (.int y37)]) hM dX9_wishRing_94 rfl e38 (by decide) rfl ?_
        refine aw_goto (pc := 97) (tgt := 55) hM dX9_wishRing_97 (by decide) ?_
        exact ih F x1 x2 x3 x4 y37 h
      · rw [if_pos c36] at h
        refine aw_aload_n (pc := 75) (i := 0) (x := 164) hM dX9_wishRing_75 rfl rfl ?_
        refine aw_getR (pc := 76) (r := 171) hM fd_X9_41 sk_164 rfl dX9_wishRing_76 ?_
        refine aw_iload (pc := 79) (i := 5) (x := x5) hM dX9_wishRing_79  rfl ?_
        obtain ⟨r40, h39, h⟩ := bind_some h
        refine aw_cs1 (pc := 81) (n := 1) (As := [.int x5]) (st := [.ref 171]) (vo := (some (.int r40))) (c2 := 0) (s2 := 0) hM (k_X9_at h39) rfl cw_X9_126 (by decide +kernel) rfl rfl ⟨(Nat.le_of_ble_eq_true rfl), (Nat.le_of_ble_eq_true rfl)⟩ (Nat.le_of_ble_eq_true rfl) ⟨(Nat.le_of_ble_eq_true rfl), (Nat.le_of_ble_eq_true rfl)⟩ dX9_wishRing_81 rfl rfl ?_
        refine aw_bipush (pc := 84) (v := 6) hM dX9_wishRing_84 (by decide) ?_
        refine aw_iadd (pc := 86) hM dX9_wishRing_86 ?_
        refine aw_iload_n (pc := 87) (i := 2) (x := x2) hM dX9_wishRing_87 rfl rfl ?_
        refine aw_iadd (pc := 88) hM dX9_wishRing_88 ?_
        refine aw_iload_n (pc := 89) (i := 3) (x := x3) hM dX9_wishRing_89 rfl rfl ?_
        obtain ⟨c41, h⟩ := ite_some h
        obtain ⟨F42, e43, h⟩ := bind_some h
        have e43 := Option.some.inj e43
        refine aw_iast (pc := 90) hM sk_171 c41 dX9_wishRing_90 ?_
        refine aw_mem e43 ?_
        obtain ⟨y44, e45, h⟩ := bind_some h
        have e45 := Option.some.inj e45
        refine aw_iinc (pc := 91) (v := y44) (L' := [some (.ref 164), some (.int x1), some (.int x2), some (.int x3), some (.int y44), some (.int x5)]) hM dX9_wishRing_91 rfl e45 (by decide) rfl ?_
        obtain ⟨y46, e47, h⟩ := bind_some h
        have e47 := Option.some.inj e47
        refine aw_iinc (pc := 94) (v := y46) (L' := [some (.ref 164), some (.int x1), some (.int x2), some (.int x3), some (.int y44), some (.int y46)]) hM dX9_wishRing_94 rfl e47 (by decide) rfl ?_
        refine aw_goto (pc := 97) (tgt := 55) hM dX9_wishRing_97 (by decide) ?_
        exact ih F42 x1 x2 x3 y44 y46 h
set_option maxRecDepth 20000 in
theorem k_X9_wishRing {C : CX} {F : MM} {G : GG} {p0 : Int32} {p1 : Int32} {p2 : Int32} {r : (Int32 × MM)} (h : s_X9_wishRing F p0 p1 p2 = some r) : AM C yX9_wishRing cX9_wishRing 6 (some .int) rmX9_wishRing [.ref 164, .int p0, .int p1, .int p2] F G (fun o F9 G9 => o = (.inl (some (.int r.1))) ∧ F9 = r.2 ∧ G9 = G) := by
  refine am_of (L := [some (.ref 164), some (.int p0), some (.int p1), some (.int p2), none, none]) (by decide) (Nat.le_of_ble_eq_true rfl) rfl (fun M hM hT => ?_)
  have hM : MOk C RX9 cX9_wishRing 6 (some .int) rmX9_wishRing M := hM
  obtain ⟨Q, hQ⟩ : ∃ Q : OUT → MM → GG → Prop, Q = (fun o F9 G9 => o = (.inl (some (.int r.1))) ∧ F9 = r.2 ∧ G9 = G) := ⟨_, rfl⟩
  have hq : Q (.inl (some (.int r.1))) r.2 G := by rw [hQ]; exact ⟨rfl, rfl, rfl⟩
  rw [← hQ]
  clear hQ
  rw [s_X9_wishRing] at h
  refine aw_aload_n (pc := 0) (i := 0) (x := 164) hM dX9_wishRing_0 rfl rfl ?_
  refine aw_aload_n (pc := 1) (i := 0) (x := 164) hM dX9_wishRing_1 rfl rfl ?_
  refine aw_iload_n (pc := 2) (i := 2) (x := p1) hM dX9_wishRing_2 rfl rfl ?_
  obtain ⟨r2, h1, h⟩ := bind_some h
  refine aw_cv1 (pc := 3) (n := 1) (As := [.int p1]) (st := [.ref 164]) (b := 164) (vo := (some (.int r2))) (c2 := 0) (s2 := 0) hM (k_X9_isPart h1) rfl cw_X9_211 sk_164 rfl rfl (by decide +kernel) rfl rfl ⟨(Nat.le_of_ble_eq_true rfl), (Nat.le_of_ble_eq_true rfl)⟩ (Nat.le_of_ble_eq_true rfl) ⟨(Nat.le_of_ble_eq_true rfl), (Nat.le_of_ble_eq_true rfl)⟩ dX9_wishRing_3 rfl rfl ?_
  refine aw_if_ne (pc := 6) (tgt := 13) hM dX9_wishRing_6 (by decide) (fun c3 => ?_) (fun c3 => ?_)
  · rw [if_neg c3] at h
    refine aw_iload_n (pc := 13) (i := 1) (x := p0) hM dX9_wishRing_13 rfl rfl ?_
    refine aw_i2l (pc := 14) hM dX9_wishRing_14 ?_
    refine aw_lconst (pc := 15) (v := 0) hM dX9_wishRing_15 (by decide) ?_
    refine aw_ldc2 (pc := 16) hM gw_1261 dX9_wishRing_16 ?_
    obtain ⟨r5, h4, h⟩ := bind_some h
    refine aw_cs1 (pc := 19) (n := 3) (As := [.long (Int32.toInt64 p0), .long 0, .long 2]) (st := [.ref 164]) (vo := (some (.int r5))) (c2 := 0) (s2 := 0) hM (k_X9_in h4) rfl cw_X9_82 (by decide +kernel) rfl rfl ⟨(Nat.le_of_ble_eq_true rfl), (Nat.le_of_ble_eq_true rfl)⟩ (Nat.le_of_ble_eq_true rfl) ⟨(Nat.le_of_ble_eq_true rfl), (Nat.le_of_ble_eq_true rfl)⟩ dX9_wishRing_19 rfl rfl ?_
    refine aw_if_eq (pc := 22) (tgt := 32) hM dX9_wishRing_22 (by decide) (fun c6 => ?_) (fun c6 => ?_)
    · rw [if_pos c6] at h
      refine aw_iconst (pc := 32) (v := 2) hM dX9_wishRing_32 (by decide) ?_
      refine aw_goto (pc := 33) (tgt := 37) hM dX9_wishRing_33 (by decide) ?_
      obtain ⟨z9, h7, h⟩ := bind_some h
      refine aw_cv1 (pc := 37) (n := 1) (As := [.int 2]) (st := []) (b := 164) (vo := (some (.int z9.1))) (c2 := 0) (s2 := 0) hM (k_X9_refused h7) rfl cw_X9_93 sk_164 rfl rfl (by decide +kernel) rfl rfl ⟨(Nat.le_of_ble_eq_true rfl), (Nat.le_of_ble_eq_true rfl)⟩ (Nat.le_of_ble_eq_true rfl) ⟨(Nat.le_of_ble_eq_true rfl), (Nat.le_of_ble_eq_true rfl)⟩ dX9_wishRing_37 rfl rfl ?_
      refine aw_if_eq (pc := 40) (tgt := 45) hM dX9_wishRing_40 (by decide) (fun c10 => ?_) (fun c10 => ?_)
      · rw [if_pos c10] at h
        refine aw_aload_n (pc := 45) (i := 0) (x := 164) hM dX9_wishRing_45 rfl rfl ?_
        obtain ⟨F12, h11, h⟩ := bind_some h
        refine aw_cv1 (pc := 46) (n := 0) (As := []) (st := []) (b := 164) (vo := none) (c2 := 0) (s2 := 0) hM (k_X9_note h11) rfl cw_X9_79 sk_164 rfl rfl (by decide +kernel) rfl rfl ⟨(Nat.le_of_ble_eq_true rfl), (Nat.le_of_ble_eq_true rfl)⟩ (Nat.le_of_ble_eq_true rfl) ⟨(Nat.le_of_ble_eq_true rfl), (Nat.le_of_ble_eq_true rfl)⟩ dX9_wishRing_46 rfl rfl ?_
        refine aw_iconst (pc := 49) (v := 0) hM dX9_wishRing_49 (by decide) ?_
        refine aw_istore (pc := 50) (i := 4) (L' := [some (.ref 164), some (.int p0), some (.int p1), some (.int p2), some (.int 0), none]) hM dX9_wishRing_50  (by decide) rfl ?_
        refine aw_iconst (pc := 52) (v := 0) hM dX9_wishRing_52 (by decide) ?_
        refine aw_istore (pc := 53) (i := 5) (L' := [some (.ref 164), some (.int p0), some (.int p1), some (.int p2), some (.int 0), some (.int 0)]) hM dX9_wishRing_53  (by decide) rfl ?_
        exact k_X9_wishRing_b55 hM hT hq fu_ F12 p0 p1 p2 0 0 h
      · rw [if_neg c10] at h
        refine aw_iconst (pc := 43) (v := 0) hM dX9_wishRing_43 (by decide) ?_
        obtain rfl := Option.some.inj h
        exact aw_iret (pc := 44) hM dX9_wishRing_44 (Nat.le_of_ble_eq_true rfl) (Nat.le_of_ble_eq_true rfl) hq
    · rw [if_neg c6] at h
      refine aw_iload_n (pc := 25) (i := 3) (x := p2) hM dX9_wishRing_25 rfl rfl ?_
      obtain ⟨r14, h13, h⟩ := bind_some h
      refine aw_cs1 (pc := 26) (n := 1) (As := [.int p2]) (st := [.ref 164]) (vo := (some (.int r14))) (c2 := 0) (s2 := 0) hM (k_X9_isVersion h13) rfl cw_X9_216 (by decide +kernel) rfl rfl ⟨(Nat.le_of_ble_eq_true rfl), (Nat.le_of_ble_eq_true rfl)⟩ (Nat.le_of_ble_eq_true rfl) ⟨(Nat.le_of_ble_eq_true rfl), (Nat.le_of_ble_eq_true rfl)⟩ dX9_wishRing_26 rfl rfl ?_
      refine aw_if_ne (pc := 29) (tgt := 36) hM dX9_wishRing_29 (by decide) (fun c15 => ?_) (fun c15 => ?_)
      · rw [if_neg c15] at h
        refine aw_iconst (pc := 36) (v := 0) hM dX9_wishRing_36 (by decide) ?_
        obtain ⟨z18, h16, h⟩ := bind_some h
        refine aw_cv1 (pc := 37) (n := 1) (As := [.int 0]) (st := []) (b := 164) (vo := (some (.int z18.1))) (c2 := 0) (s2 := 0) hM (k_X9_refused h16) rfl cw_X9_93 sk_164 rfl rfl (by decide +kernel) rfl rfl ⟨(Nat.le_of_ble_eq_true rfl), (Nat.le_of_ble_eq_true rfl)⟩ (Nat.le_of_ble_eq_true rfl) ⟨(Nat.le_of_ble_eq_true rfl), (Nat.le_of_ble_eq_true rfl)⟩ dX9_wishRing_37 rfl rfl ?_
        refine aw_if_eq (pc := 40) (tgt := 45) hM dX9_wishRing_40 (by decide) (fun c19 => ?_) (fun c19 => ?_)
        · rw [if_pos c19] at h
          refine aw_aload_n (pc := 45) (i := 0) (x := 164) hM dX9_wishRing_45 rfl rfl ?_
          obtain ⟨F21, h20, h⟩ := bind_some h
          refine aw_cv1 (pc := 46) (n := 0) (As := []) (st := []) (b := 164) (vo := none) (c2 := 0) (s2 := 0) hM (k_X9_note h20) rfl cw_X9_79 sk_164 rfl rfl (by decide +kernel) rfl rfl ⟨(Nat.le_of_ble_eq_true rfl), (Nat.le_of_ble_eq_true rfl)⟩ (Nat.le_of_ble_eq_true rfl) ⟨(Nat.le_of_ble_eq_true rfl), (Nat.le_of_ble_eq_true rfl)⟩ dX9_wishRing_46 rfl rfl ?_
          refine aw_iconst (pc := 49) (v := 0) hM dX9_wishRing_49 (by decide) ?_
          refine aw_istore (pc := 50) (i := 4) (L' := [some (.ref 164), some (.int p0), some (.int p1), some (.int p2), some (.int 0), none]) hM dX9_wishRing_50  (by decide) rfl ?_
          refine aw_iconst (pc := 52) (v := 0) hM dX9_wishRing_52 (by decide) ?_
          refine aw_istore (pc := 53) (i := 5) (L' := [some (.ref 164), some (.int p0), some (.int p1), some (.int p2), some (.int 0), some (.int 0)]) hM dX9_wishRing_53  (by decide) rfl ?_
          exact k_X9_wishRing_b55 hM hT hq fu_ F21 p0 p1 p2 0 0 h
        · rw [if_neg c19] at h
          refine aw_iconst (pc := 43) (v := 0) hM dX9_wishRing_43 (by decide) ?_
          obtain rfl := Option.some.inj h
          exact aw_iret (pc := 44) hM dX9_wishRing_44 (Nat.le_of_ble_eq_true rfl) (Nat.le_of_ble_eq_true rfl) hq
      · rw [if_pos c15] at h
        refine aw_iconst (pc := 32) (v := 2) hM dX9_wishRing_32 (by decide) ?_
        refine aw_goto (pc := 33) (tgt := 37) hM dX9_wishRing_33 (by decide) ?_
        obtain ⟨z24, h22, h⟩ := bind_some h
        refine aw_cv1 (pc := 37) (n := 1) (As := [.int 2]) (st := []) (b := 164) (vo := (some (.int z24.1))) (c2 := 0) (s2 := 0) hM (k_X9_refused h22) rfl cw_X9_93 sk_164 rfl rfl (by decide +kernel) rfl rfl ⟨(Nat.le_of_ble_eq_true rfl), (Nat.le_of_ble_eq_true rfl)⟩ (Nat.le_of_ble_eq_true rfl) ⟨(Nat.le_of_ble_eq_true rfl), (Nat.le_of_ble_eq_true rfl)⟩ dX9_wishRing_37 rfl rfl ?_
        refine aw_if_eq (pc := 40) (tgt := 45) hM dX9_wishRing_40 (by decide) (fun c25 => ?_) (fun c25 => ?_)
        · rw [if_pos c25] at h
          refine aw_aload_n (pc := 45) (i := 0) (x := 164) hM dX9_wishRing_45 rfl rfl ?_
          obtain ⟨F27, h26, h⟩ := bind_some h
          refine aw_cv1 (pc := 46) (n := 0) (As := []) (st := []) (b := 164) (vo := none) (c2 := 0) (s2 := 0) hM (k_X9_note h26) rfl cw_X9_79 sk_164 rfl rfl (by decide +kernel) rfl rfl ⟨(Nat.le_of_ble_eq_true rfl), (Nat.le_of_ble_eq_true rfl)⟩ (Nat.le_of_ble_eq_true rfl) ⟨(Nat.le_of_ble_eq_true rfl), (Nat.le_of_ble_eq_true rfl)⟩ dX9_wishRing_46 rfl rfl ?_
          refine aw_iconst (pc := 49) (v := 0) hM dX9_wishRing_49 (by decide) ?_
          refine aw_istore (pc := 50) (i := 4) (L' := [some (.ref 164), some (.int p0), some (.int p1), some (.int p2), some (.int 0), none]) hM dX9_wishRing_50  (by decide) rfl ?_
          refine aw_iconst (pc := 52) (v := 0) hM dX9_wishRing_52 (by decide) ?_
          refine aw_istore (pc := 53) (i := 5) (L' := [some (.ref 164), some (.int p0), some (.int p1), some (.int p2), some (.int 0), some (.int 0)]) hM dX9_wishRing_53  (by decide) rfl ?_
          exact k_X9_wishRing_b55 hM hT hq fu_ F27 p0 p1 p2 0 0 h
        · rw [if_neg c25] at h
          refine aw_iconst (pc := 43) (v := 0) hM dX9_wishRing_43 (by decide) ?_
          obtain rfl := Option.some.inj h
          exact aw_iret (pc := 44) hM dX9_wishRing_44 (Nat.le_of_ble_eq_true rfl) (Nat.le_of_ble_eq_true rfl) hq
  · rw [if_pos c3] at h
    refine aw_iconst (pc := 9) (v := 1) hM dX9_wishRing_9 (by decide) ?_
    refine aw_goto (pc := 10) (tgt := 37) hM dX9_wishRing_10 (by decide) ?_
    obtain ⟨z30, h28, h⟩ := bind_some h
    refine aw_cv1 (pc := 37) (n := 1) (As := [.int 1]) (st := []) (b := 164) (vo := (some (.int z30.1))) (c2 := 0) (s2 := 0) hM (k_X9_refused h28) rfl cw_X9_93 sk_164 rfl rfl (by decide +kernel) rfl rfl ⟨(Nat.le_of_ble_eq_true rfl), (Nat.le_of_ble_eq_true rfl)⟩ (Nat.le_of_ble_eq_true rfl) ⟨(Nat.le_of_ble_eq_true rfl), (Nat.le_of_ble_eq_true rfl)⟩ dX9_wishRing_37 rfl rfl ?_
    refine aw_if_eq (pc := 40) (tgt := 45) hM dX9_wishRing_40 (by decide) (fun c31 => ?_) (fun c31 => ?_)
    · rw [if_pos c31] at h
      refine aw_aload_n (pc := 45) (i := 0) (x := 164) hM dX9_wishRing_45 rfl rfl ?_
      obtain ⟨F33, h32, h⟩ := bind_some h
      refine aw_cv1 (pc := 46) (n := 0) (As := []) (st := []) (b := 164) (vo := none) (c2 := 0) (s2 := 0) hM (k_X9_note h32) rfl cw_X9_79 sk_164 rfl rfl (by decide +kernel) rfl rfl ⟨(Nat.le_of_ble_eq_true rfl), (Nat.le_of_ble_eq_true rfl)⟩ (Nat.le_of_ble_eq_true rfl) ⟨(Nat.le_of_ble_eq_true rfl), (Nat.le_of_ble_eq_true rfl)⟩ dX9_wishRing_46 rfl rfl ?_
      refine aw_iconst (pc := 49) (v := 0) hM dX9_wishRing_49 (by decide) ?_
      refine aw_istore (pc := 50) (i := 4) (L' := [some (.ref 164), some (.int p0), some (.int p1), some (.int p2), some (.int 0), none]) hM dX9_wishRing_50  (by decide) rfl ?_
      refine aw_iconst (pc := 52) (v := 0) hM dX9_wishRing_52 (by decide) ?_
      refine aw_istore (pc := 53) (i := 5) (L' := [some (.ref 164), some (.int p0), some (.int p1), some (.int p2), some (.int 0), some (.int 0)]) hM dX9_wishRing_53  (by decide) rfl ?_
      exact k_X9_wishRing_b55 hM hT hq fu_ F33 p0 p1 p2 0 0 h
    · rw [if_neg c31] at h
      refine aw_iconst (pc := 43) (v := 0) hM dX9_wishRing_43 (by decide) ?_
      obtain rfl := Option.some.inj h
      exact aw_iret (pc := 44) hM dX9_wishRing_44 (Nat.le_of_ble_eq_true rfl) (Nat.le_of_ble_eq_true rfl) hq
