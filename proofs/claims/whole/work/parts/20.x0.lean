def rmJ6_bitCount_0f7a4 : Room := { frames := 0, cells := 0, slots := 0, locals := 0 }
def s_J6_bitCount_0f7a4 (F : MM) (p0 : Int32) : Option Int32 := (some (p0 - (((p0.toUInt32 >>> ((1 : Int32).toUInt32 &&& Int32.toUInt32 31)).toInt32) &&& 1431655765) : Int32)).bind (fun y1 => (some ((y1 &&& 858993459) + (((y1.toUInt32 >>> ((2 : Int32).toUInt32 &&& Int32.toUInt32 31)).toInt32) &&& 858993459) : Int32)).bind (fun y3 => (some ((y3 + ((y3.toUInt32 >>> ((4 : Int32).toUInt32 &&& Int32.toUInt32 31)).toInt32)) &&& 252645135 : Int32)).bind (fun y5 => (some (y5 + ((y5.toUInt32 >>> ((8 : Int32).toUInt32 &&& Int32.toUInt32 31)).toInt32) : Int32)).bind (fun y7 => (some (y7 + ((y7.toUInt32 >>> ((16 : Int32).toUInt32 &&& Int32.toUInt32 31)).toInt32) : Int32)).bind (fun y9 => some (y9 &&& 63))))))
set_option maxRecDepth 20000 in
theorem k_J6_bitCount_0f7a4 {C : CX} {F : MM} {G : GG} {p0 : Int32} {r : Int32} (h : s_J6_bitCount_0f7a4 F p0 = some r) : AM C yJ6_bitCount_0f7a4 cJ6_bitCount_0f7a4 1 (some .int) rmJ6_bitCount_0f7a4 [.int p0] F G (fun o F9 G9 => o = (.inl (some (.int r))) ∧ F9 = F ∧ G9 = G) := by
  refine am_of (L := [some (.int p0)]) (by decide) (Nat.le_of_ble_eq_true rfl) rfl (fun M hM hT => ?_)
  have hM : MOk C RJ6 cJ6_bitCount_0f7a4 1 (some .int) rmJ6_bitCount_0f7a4 M := hM
  obtain ⟨Q, hQ⟩ : ∃ Q : OUT → MM → GG → Prop, Q = (fun o F9 G9 => o = (.inl (some (.int r))) ∧ F9 = F ∧ G9 = G) := ⟨_, rfl⟩
  have hq : Q (.inl (some (.int r))) F G := by rw [hQ]; exact ⟨rfl, rfl, rfl⟩
  rw [← hQ]
  clear hQ
  rw [s_J6_bitCount_0f7a4] at h
  refine aw_iload_n (pc := 0) (i := 0) (x := p0) hM dJ6_bitCount_0f7a4_0 rfl rfl ?_
  refine aw_iload_n (pc := 1) (i := 0) (x := p0) hM dJ6_bitCount_0f7a4_1 rfl rfl ?_
  refine aw_iconst (pc := 2) (v := 1) hM dJ6_bitCount_0f7a4_2 (by decide) ?_
  refine aw_iushr (pc := 3) hM dJ6_bitCount_0f7a4_3 ?_
  refine aw_ldcw (pc := 4) hM gw_438 dJ6_bitCount_0f7a4_4 ?_
  refine aw_iand (pc := 7) hM dJ6_bitCount_0f7a4_7 ?_
  refine aw_isub (pc := 8) hM dJ6_bitCount_0f7a4_8 ?_
  obtain ⟨y1, e2, h⟩ := bind_some h
  have e2 := Option.some.inj e2
  refine aw_topi e2 ?_
  refine aw_istore_n (pc := 9) (i := 0) (L' := [some (.int y1)]) hM dJ6_bitCount_0f7a4_9 rfl (by decide) rfl ?_
  refine aw_iload_n (pc := 10) (i := 0) (x := y1) hM dJ6_bitCount_0f7a4_10 rfl rfl ?_
  refine aw_ldcw (pc := 11) hM gw_439 dJ6_bitCount_0f7a4_11 ?_
  refine aw_iand (pc := 14) hM dJ6_bitCount_0f7a4_14 ?_
  refine aw_iload_n (pc := 15) (i := 0) (x := y1) hM dJ6_bitCount_0f7a4_15 rfl rfl ?_
  refine aw_iconst (pc := 16) (v := 2) hM dJ6_bitCount_0f7a4_16 (by decide) ?_
  refine aw_iushr (pc := 17) hM dJ6_bitCount_0f7a4_17 ?_
  refine aw_ldcw (pc := 18) hM gw_439 dJ6_bitCount_0f7a4_18 ?_
  refine aw_iand (pc := 21) hM dJ6_bitCount_0f7a4_21 ?_
  refine aw_iadd (pc := 22) hM dJ6_bitCount_0f7a4_22 ?_
  obtain ⟨y3, e4, h⟩ := bind_some h
  have e4 := Option.some.inj e4
  refine aw_topi e4 ?_
  refine aw_istore_n (pc := 23) (i := 0) (L' := [some (.int y3)]) hM dJ6_bitCount_0f7a4_23 rfl (by decide) rfl ?_
  refine aw_iload_n (pc := 24) (i := 0) (x := y3) hM dJ6_bitCount_0f7a4_24 rfl rfl ?_
  refine aw_iload_n (pc := 25) (i := 0) (x := y3) hM dJ6_bitCount_0f7a4_25 rfl rfl ?_
  refine aw_iconst (pc := 26) (v := 4) hM dJ6_bitCount_0f7a4_26 (by decide) ?_
  refine aw_iushr (pc := 27) hM dJ6_bitCount_0f7a4_27 ?_
  refine aw_iadd (pc := 28) hM dJ6_bitCount_0f7a4_28 ?_
  refine aw_ldcw (pc := 29) hM gw_440 dJ6_bitCount_0f7a4_29 ?_
  refine aw_iand (pc := 32) hM dJ6_bitCount_0f7a4_32 ?_
  obtain ⟨y5, e6, h⟩ := bind_some h
  have e6 := Option.some.inj e6
  refine aw_topi e6 ?_
  refine aw_istore_n (pc := 33) (i := 0) (L' := [some (.int y5)]) hM dJ6_bitCount_0f7a4_33 rfl (by decide) rfl ?_
  refine aw_iload_n (pc := 34) (i := 0) (x := y5) hM dJ6_bitCount_0f7a4_34 rfl rfl ?_
  refine aw_iload_n (pc := 35) (i := 0) (x := y5) hM dJ6_bitCount_0f7a4_35 rfl rfl ?_
  refine aw_bipush (pc := 36) (v := 8) hM dJ6_bitCount_0f7a4_36 (by decide) ?_
  refine aw_iushr (pc := 38) hM dJ6_bitCount_0f7a4_38 ?_
  refine aw_iadd (pc := 39) hM dJ6_bitCount_0f7a4_39 ?_
  obtain ⟨y7, e8, h⟩ := bind_some h
  have e8 := Option.some.inj e8
  refine aw_topi e8 ?_
  refine aw_istore_n (pc := 40) (i := 0) (L' := [some (.int y7)]) hM dJ6_bitCount_0f7a4_40 rfl (by decide) rfl ?_
  refine aw_iload_n (pc := 41) (i := 0) (x := y7) hM dJ6_bitCount_0f7a4_41 rfl rfl ?_
  refine aw_iload_n (pc := 42) (i := 0) (x := y7) hM dJ6_bitCount_0f7a4_42 rfl rfl ?_
  refine aw_bipush (pc := 43) (v := 16) hM dJ6_bitCount_0f7a4_43 (by decide) ?_
  refine aw_iushr (pc := 45) hM dJ6_bitCount_0f7a4_45 ?_
  refine aw_iadd (pc := 46) hM dJ6_bitCount_0f7a4_46 ?_
  obtain ⟨y9, e10, h⟩ := bind_some h
  have e10 := Option.some.inj e10
  refine aw_topi e10 ?_
  refine aw_istore_n (pc := 47) (i := 0) (L' := [some (.int y9)]) hM dJ6_bitCount_0f7a4_47 rfl (by decide) rfl ?_
  refine aw_iload_n (pc := 48) (i := 0) (x := y9) hM dJ6_bitCount_0f7a4_48 rfl rfl ?_
  refine aw_bipush (pc := 49) (v := 63) hM dJ6_bitCount_0f7a4_49 (by decide) ?_
  refine aw_iand (pc := 51) hM dJ6_bitCount_0f7a4_51 ?_
  obtain rfl := Option.some.inj h
  exact aw_iret (pc := 52) hM dJ6_bitCount_0f7a4_52 (Nat.le_of_ble_eq_true rfl) (Nat.le_of_ble_eq_true rfl) hq
def rmJ7_fill_53178 : Room := { frames := 0, cells := 0, slots := 0, locals := 0 }
def s_J7_fill_53178_b5 (q0 : Nat) : Nat → MM → Int32 → Int32 → Int32 → Option MM
  | 0, _, _, _, _ => none
  | n + 1, F, x1, x2, x3 => if x3 ≤ x2 then some F else if inb x2 (alen q0) then ((some (mup F q0 (ix x2) x1)).bind (fun F5 => (some (x2 + 1 : Int32)).bind (fun y7 => s_J7_fill_53178_b5 q0 n F5 x1 y7 x3))) else none
def s_J7_fill_53178 (F : MM) (q0 : Nat) (p1 : Int32) : Option MM := (some (Int32.ofNat (alen q0) : Int32)).bind (fun y1 => s_J7_fill_53178_b5 q0 fu_ F p1 0 y1)
set_option maxRecDepth 20000 in
theorem k_J7_fill_53178_b5 {C : CX} {M : MX} {G : GG} {Q : OUT → MM → GG → Prop} {q0 : Nat} {r : MM}  (hq0 : isIA q0)(hM : MOk C RJ7 cJ7_fill_53178 4 none rmJ7_fill_53178 M) (hT : MNoT M) (hq : Q (.inl none) r G) : ∀ (n : Nat) (F : MM) (x1 : Int32) (x2 : Int32) (x3 : Int32), s_J7_fill_53178_b5 q0 n F x1 x2 x3 = some r → AW C 4 (ZM C rmJ7_fill_53178 Q M) M 0 0 5 [some (.ref q0), some (.int x1), some (.int x2), some (.int x3)] [] F G := by
  intro n
  induction n with
  | zero => intro F x1 x2 x3 h; exact nomatch h
  | succ n ih =>
    intro F x1 x2 x3 h
    rw [s_J7_fill_53178_b5] at h
    refine aw_iload_n (pc := 5) (i := 2) (x := x2) hM dJ7_fill_53178_5 rfl rfl ?_
    refine aw_iload_n (pc := 6) (i := 3) (x := x3) hM dJ7_fill_53178_6 rfl rfl ?_
    refine aw_icmp_ge (pc := 7) (tgt := 20) hM dJ7_fill_53178_7 (by decide) (fun c3 => ?_) (fun c3 => ?_)
    · rw [if_pos c3] at h
      obtain rfl := Option.some.inj h
      exact aw_vret (pc := 20) hM dJ7_fill_53178_20 (Nat.le_of_ble_eq_true rfl) (Nat.le_of_ble_eq_true rfl) hq
    · rw [if_neg c3] at h
      refine aw_aload_n (pc := 10) (i := 0) (x := q0) hM dJ7_fill_53178_10 rfl rfl ?_
      refine aw_iload_n (pc := 11) (i := 2) (x := x2) hM dJ7_fill_53178_11 rfl rfl ?_
      refine aw_iload_n (pc := 12) (i := 1) (x := x1) hM dJ7_fill_53178_12 rfl rfl ?_
      obtain ⟨c4, h⟩ := ite_some h
      obtain ⟨F5, e6, h⟩ := bind_some h
      have e6 := Option.some.inj e6
      refine aw_iast (pc := 13) hM hq0 c4 dJ7_fill_53178_13 ?_
      refine aw_mem e6 ?_
      obtain ⟨y7, e8, h⟩ := bind_some h
      have e8 := Option.some.inj e8
      refine aw_iinc (pc := 14) (v := y7) (L' := [some (.ref q0), some (.int x1), some (.int y7), some (.int x3)]) hM dJ7_fill_53178_14 rfl e8 (by decide) rfl ?_
      refine aw_goto (pc := 17) (tgt := 5) hM dJ7_fill_53178_17 (by decide) ?_
      exact ih F5 x1 y7 x3 h
set_option maxRecDepth 20000 in
theorem k_J7_fill_53178 {C : CX} {F : MM} {G : GG} {q0 : Nat} {p1 : Int32} {r : MM} (hq0 : isIA q0) (h : s_J7_fill_53178 F q0 p1 = some r) : AM C yJ7_fill_53178 cJ7_fill_53178 4 none rmJ7_fill_53178 [.ref q0, .int p1] F G (fun o F9 G9 => o = (.inl none) ∧ F9 = r ∧ G9 = G) := by
  refine am_of (L := [some (.ref q0), some (.int p1), none, none]) (by decide) (Nat.le_of_ble_eq_true rfl) rfl (fun M hM hT => ?_)
  have hM : MOk C RJ7 cJ7_fill_53178 4 none rmJ7_fill_53178 M := hM
  obtain ⟨Q, hQ⟩ : ∃ Q : OUT → MM → GG → Prop, Q = (fun o F9 G9 => o = (.inl none) ∧ F9 = r ∧ G9 = G) := ⟨_, rfl⟩
  have hq : Q (.inl none) r G := by rw [hQ]; exact ⟨rfl, rfl, rfl⟩
  rw [← hQ]
  clear hQ
  rw [s_J7_fill_53178] at h
  refine aw_iconst (pc := 0) (v := 0) hM dJ7_fill_53178_0 (by decide) ?_
  refine aw_istore_n (pc := 1) (i := 2) (L' := [some (.ref q0), some (.int p1), some (.int 0), none]) hM dJ7_fill_53178_1 rfl (by decide) rfl ?_
  refine aw_aload_n (pc := 2) (i := 0) (x := q0) hM dJ7_fill_53178_2 rfl rfl ?_
  refine aw_alen (pc := 3) (k := 0) hM hq0 dJ7_fill_53178_3 ?_
  obtain ⟨y1, e2, h⟩ := bind_some h
  have e2 := Option.some.inj e2
  refine aw_topi e2 ?_
  refine aw_istore_n (pc := 4) (i := 3) (L' := [some (.ref q0), some (.int p1), some (.int 0), some (.int y1)]) hM dJ7_fill_53178_4 rfl (by decide) rfl ?_
  exact k_J7_fill_53178_b5 hq0 hM hT hq fu_ F p1 0 y1 h
def rmX0_change : Room := { frames := 0, cells := 0, slots := 0, locals := 0 }
def s_X0_change (F : MM) (p0 : Int32) (p1 : Int32) : Option Int32 := some ((4 * p0) + p1)
set_option maxRecDepth 20000 in
theorem k_X0_change {C : CX} {F : MM} {G : GG} {p0 : Int32} {p1 : Int32} {r : Int32} (h : s_X0_change F p0 p1 = some r) : AM C yX0_change cX0_change 2 (some .int) rmX0_change [.int p0, .int p1] F G (fun o F9 G9 => o = (.inl (some (.int r))) ∧ F9 = F ∧ G9 = G) := by
  refine am_of (L := [some (.int p0), some (.int p1)]) (by decide) (Nat.le_of_ble_eq_true rfl) rfl (fun M hM hT => ?_)
  have hM : MOk C RX0 cX0_change 2 (some .int) rmX0_change M := hM
  obtain ⟨Q, hQ⟩ : ∃ Q : OUT → MM → GG → Prop, Q = (fun o F9 G9 => o = (.inl (some (.int r))) ∧ F9 = F ∧ G9 = G) := ⟨_, rfl⟩
  have hq : Q (.inl (some (.int r))) F G := by rw [hQ]; exact ⟨rfl, rfl, rfl⟩
  rw [← hQ]
  clear hQ
  rw [s_X0_change] at h
  refine aw_iconst (pc := 0) (v := 4) hM dX0_change_0 (by decide) ?_
  refine aw_iload_n (pc := 1) (i := 0) (x := p0) hM dX0_change_1 rfl rfl ?_
  refine aw_imul (pc := 2) hM dX0_change_2 ?_
  refine aw_iload_n (pc := 3) (i := 1) (x := p1) hM dX0_change_3 rfl rfl ?_
  refine aw_iadd (pc := 4) hM dX0_change_4 ?_
  obtain rfl := Option.some.inj h
  exact aw_iret (pc := 5) hM dX0_change_5 (Nat.le_of_ble_eq_true rfl) (Nat.le_of_ble_eq_true rfl) hq
def rmX0_versionIn : Room := { frames := 0, cells := 0, slots := 0, locals := 0 }
def s_X0_versionIn (F : MM) (p0 : Int32) (p1 : Int32) : Option Int32 := some ((p0 >>> ((2 * p1) &&& 31)) &&& 3)
set_option maxRecDepth 20000 in
theorem k_X0_versionIn {C : CX} {F : MM} {G : GG} {p0 : Int32} {p1 : Int32} {r : Int32} (h : s_X0_versionIn F p0 p1 = some r) : AM C yX0_versionIn cX0_versionIn 2 (some .int) rmX0_versionIn [.int p0, .int p1] F G (fun o F9 G9 => o = (.inl (some (.int r))) ∧ F9 = F ∧ G9 = G) := by
  refine am_of (L := [some (.int p0), some (.int p1)]) (by decide) (Nat.le_of_ble_eq_true rfl) rfl (fun M hM hT => ?_)
  have hM : MOk C RX0 cX0_versionIn 2 (some .int) rmX0_versionIn M := hM
  obtain ⟨Q, hQ⟩ : ∃ Q : OUT → MM → GG → Prop, Q = (fun o F9 G9 => o = (.inl (some (.int r))) ∧ F9 = F ∧ G9 = G) := ⟨_, rfl⟩
  have hq : Q (.inl (some (.int r))) F G := by rw [hQ]; exact ⟨rfl, rfl, rfl⟩
  rw [← hQ]
  clear hQ
  rw [s_X0_versionIn] at h
  refine aw_iload_n (pc := 0) (i := 0) (x := p0) hM dX0_versionIn_0 rfl rfl ?_
  refine aw_iconst (pc := 1) (v := 2) hM dX0_versionIn_1 (by decide) ?_
  refine aw_iload_n (pc := 2) (i := 1) (x := p1) hM dX0_versionIn_2 rfl rfl ?_
  refine aw_imul (pc := 3) hM dX0_versionIn_3 ?_
  refine aw_ishr (pc := 4) hM dX0_versionIn_4 ?_
  refine aw_iconst (pc := 5) (v := 3) hM dX0_versionIn_5 (by decide) ?_
  refine aw_iand (pc := 6) hM dX0_versionIn_6 ?_
  obtain rfl := Option.some.inj h
  exact aw_iret (pc := 7) hM dX0_versionIn_7 (Nat.le_of_ble_eq_true rfl) (Nat.le_of_ble_eq_true rfl) hq
def rmX0_with : Room := { frames := 0, cells := 0, slots := 0, locals := 0 }
def s_X0_with (F : MM) (p0 : Int32) (p1 : Int32) (p2 : Int32) : Option Int32 := some ((p0 &&& (((3 : Int32) <<< ((2 * p1) &&& 31)) ^^^ (-1))) ||| (p2 <<< ((2 * p1) &&& 31)))
set_option maxRecDepth 20000 in
theorem k_X0_with {C : CX} {F : MM} {G : GG} {p0 : Int32} {p1 : Int32} {p2 : Int32} {r : Int32} (h : s_X0_with F p0 p1 p2 = some r) : AM C yX0_with cX0_with 3 (some .int) rmX0_with [.int p0, .int p1, .int p2] F G (fun o F9 G9 => o = (.inl (some (.int r))) ∧ F9 = F ∧ G9 = G) := by
  refine am_of (L := [some (.int p0), some (.int p1), some (.int p2)]) (by decide) (Nat.le_of_ble_eq_true rfl) rfl (fun M hM hT => ?_)
  have hM : MOk C RX0 cX0_with 3 (some .int) rmX0_with M := hM
  obtain ⟨Q, hQ⟩ : ∃ Q : OUT → MM → GG → Prop, Q = (fun o F9 G9 => o = (.inl (some (.int r))) ∧ F9 = F ∧ G9 = G) := ⟨_, rfl⟩
  have hq : Q (.inl (some (.int r))) F G := by rw [hQ]; exact ⟨rfl, rfl, rfl⟩
  rw [← hQ]
  clear hQ
  rw [s_X0_with] at h
  refine aw_iload_n (pc := 0) (i := 0) (x := p0) hM dX0_with_0 rfl rfl ?_
  refine aw_iconst (pc := 1) (v := 3) hM dX0_with_1 (by decide) ?_
  refine aw_iconst (pc := 2) (v := 2) hM dX0_with_2 (by decide) ?_
  refine aw_iload_n (pc := 3) (i := 1) (x := p1) hM dX0_with_3 rfl rfl ?_
  refine aw_imul (pc := 4) hM dX0_with_4 ?_
  refine aw_ishl (pc := 5) hM dX0_with_5 ?_
  refine aw_iconst (pc := 6) (v := (-1)) hM dX0_with_6 (by decide) ?_
  refine aw_ixor (pc := 7) hM dX0_with_7 ?_
  refine aw_iand (pc := 8) hM dX0_with_8 ?_
  refine aw_iload_n (pc := 9) (i := 2) (x := p2) hM dX0_with_9 rfl rfl ?_
  refine aw_iconst (pc := 10) (v := 2) hM dX0_with_10 (by decide) ?_
  refine aw_iload_n (pc := 11) (i := 1) (x := p1) hM dX0_with_11 rfl rfl ?_
  refine aw_imul (pc := 12) hM dX0_with_12 ?_
  refine aw_ishl (pc := 13) hM dX0_with_13 ?_
  refine aw_ior (pc := 14) hM dX0_with_14 ?_
  obtain rfl := Option.some.inj h
  exact aw_iret (pc := 15) hM dX0_with_15 (Nat.le_of_ble_eq_true rfl) (Nat.le_of_ble_eq_true rfl) hq
def rmX1_addApproval : Room := { frames := 1, cells := 0, slots := 0, locals := 21 }
def s_X1_addApproval (F : MM) (q0 : Nat) (p1 : Int32) (p2 : Int32) (p3 : Int32) : Option (Int32 × MM) := if (F 8 1) ≤ p1 then some (0, F) else if 3 < p2 then some (0, F) else if p3 < 5 then (s_X0_change F p1 p2).bind (fun r5 => if inb r5 24 then (if inb r5 24 then ((some (mup F (q0 + 7) (ix r5) ((F (q0 + 7) (ix r5)) ||| ((1 : Int32) <<< (p3 &&& 31))))).bind (fun F8 => some (1, F8))) else none) else none) else some (0, F)
set_option maxRecDepth 20000 in
theorem k_X1_addApproval {C : CX} {F : MM} {G : GG} {q0 : Nat} {p1 : Int32} {p2 : Int32} {p3 : Int32} {r : (Int32 × MM)} (hq0 : isSt q0) (h : s_X1_addApproval F q0 p1 p2 p3 = some r) : AM C yX1_addApproval cX1_addApproval 4 (some .boolean) rmX1_addApproval [.ref q0, .int p1, .int p2, .int p3] F G (fun o F9 G9 => o = (.inl (some (.int r.1))) ∧ F9 = r.2 ∧ G9 = G) := by
  refine am_of (L := [some (.ref q0), some (.int p1), some (.int p2), some (.int p3)]) (by decide) (Nat.le_of_ble_eq_true rfl) rfl (fun M hM hT => ?_)
  have hM : MOk C RX1 cX1_addApproval 4 (some .boolean) rmX1_addApproval M := hM
  obtain ⟨Q, hQ⟩ : ∃ Q : OUT → MM → GG → Prop, Q = (fun o F9 G9 => o = (.inl (some (.int r.1))) ∧ F9 = r.2 ∧ G9 = G) := ⟨_, rfl⟩
  have hq : Q (.inl (some (.int r.1))) r.2 G := by rw [hQ]; exact ⟨rfl, rfl, rfl⟩
  rw [← hQ]
  clear hQ
  rw [s_X1_addApproval] at h
  refine aw_iload_n (pc := 0) (i := 1) (x := p1) hM dX1_addApproval_0 rfl rfl ?_
  refine aw_aload_n (pc := 1) (i := 0) (x := q0) hM dX1_addApproval_1 rfl rfl ?_
  refine aw_getNest (pc := 2) (r := 8) hM uw_X5 (st_ob hq0) rfl dX1_addApproval_2 ?_
  refine aw_getI (pc := 5) hM fd_X1_63 sk_8 rfl dX1_addApproval_5 ?_
  refine aw_icmp_ge (pc := 8) (tgt := 21) hM dX1_addApproval_8 (by decide) (fun c1 => ?_) (fun c1 => ?_)
  · rw [if_pos c1] at h
    refine aw_iconst (pc := 21) (v := 0) hM dX1_addApproval_21 (by decide) ?_
    obtain rfl := Option.some.inj h
    exact aw_zret (pc := 22) hM dX1_addApproval_22 (by decide) (Nat.le_of_ble_eq_true rfl) (Nat.le_of_ble_eq_true rfl) hq
  · rw [if_neg c1] at h
    refine aw_iload_n (pc := 11) (i := 2) (x := p2) hM dX1_addApproval_11 rfl rfl ?_
    refine aw_iconst (pc := 12) (v := 3) hM dX1_addApproval_12 (by decide) ?_
    refine aw_icmp_gt (pc := 13) (tgt := 21) hM dX1_addApproval_13 (by decide) (fun c2 => ?_) (fun c2 => ?_)
    · rw [if_pos c2] at h
      refine aw_iconst (pc := 21) (v := 0) hM dX1_addApproval_21 (by decide) ?_
      obtain rfl := Option.some.inj h
      exact aw_zret (pc := 22) hM dX1_addApproval_22 (by decide) (Nat.le_of_ble_eq_true rfl) (Nat.le_of_ble_eq_true rfl) hq
    · rw [if_neg c2] at h
      refine aw_iload_n (pc := 16) (i := 3) (x := p3) hM dX1_addApproval_16 rfl rfl ?_
      refine aw_iconst (pc := 17) (v := 5) hM dX1_addApproval_17 (by decide) ?_
      refine aw_icmp_lt (pc := 18) (tgt := 23) hM dX1_addApproval_18 (by decide) (fun c3 => ?_) (fun c3 => ?_)
      · rw [if_pos c3] at h
        refine aw_aload_n (pc := 23) (i := 0) (x := q0) hM dX1_addApproval_23 rfl rfl ?_
        refine aw_getR (pc := 24) (r := (q0 + 7)) hM fd_X1_66 (st_ob hq0) rfl dX1_addApproval_24 ?_
        refine aw_iload_n (pc := 27) (i := 1) (x := p1) hM dX1_addApproval_27 rfl rfl ?_
        refine aw_iload_n (pc := 28) (i := 2) (x := p2) hM dX1_addApproval_28 rfl rfl ?_
        obtain ⟨r5, h4, h⟩ := bind_some h
        refine aw_cs1 (pc := 29) (n := 2) (As := [.int p1, .int p2]) (st := [.ref (q0 + 7)]) (vo := (some (.int r5))) (c2 := 0) (s2 := 0) hM (k_X0_change h4) rfl cw_X1_69 (by decide +kernel) rfl rfl ⟨(Nat.le_of_ble_eq_true rfl), (Nat.le_of_ble_eq_true rfl)⟩ (Nat.le_of_ble_eq_true rfl) ⟨(Nat.le_of_ble_eq_true rfl), (Nat.le_of_ble_eq_true rfl)⟩ dX1_addApproval_29 rfl rfl ?_
        refine aw_dup2 (pc := 32) hM dX1_addApproval_32 rfl rfl ?_
        obtain ⟨c6, h⟩ := ite_some h
        refine aw_iald (pc := 33) hM (st_a7 hq0) c6 dX1_addApproval_33 ?_
        refine aw_iconst (pc := 34) (v := 1) hM dX1_addApproval_34 (by decide) ?_
        refine aw_iload_n (pc := 35) (i := 3) (x := p3) hM dX1_addApproval_35 rfl rfl ?_
        refine aw_ishl (pc := 36) hM dX1_addApproval_36 ?_
        refine aw_ior (pc := 37) hM dX1_addApproval_37 ?_
        obtain ⟨c7, h⟩ := ite_some h
        obtain ⟨F8, e9, h⟩ := bind_some h
        have e9 := Option.some.inj e9
        refine aw_iast (pc := 38) hM (st_a7 hq0) c7 dX1_addApproval_38 ?_
        refine aw_mem e9 ?_
        refine aw_iconst (pc := 39) (v := 1) hM dX1_addApproval_39 (by decide) ?_
        obtain rfl := Option.some.inj h
        exact aw_zret (pc := 40) hM dX1_addApproval_40 (by decide) (Nat.le_of_ble_eq_true rfl) (Nat.le_of_ble_eq_true rfl) hq
      · rw [if_neg c3] at h
        refine aw_iconst (pc := 21) (v := 0) hM dX1_addApproval_21 (by decide) ?_
        obtain rfl := Option.some.inj h
        exact aw_zret (pc := 22) hM dX1_addApproval_22 (by decide) (Nat.le_of_ble_eq_true rfl) (Nat.le_of_ble_eq_true rfl) hq
def rmX1_giveFaults : Room := { frames := 0, cells := 0, slots := 0, locals := 0 }
def s_X1_giveFaults (F : MM) (q0 : Nat) (p1 : Int32) (p2 : Int32) : Option (Int32 × MM) := if p1 < (F 8 0) then if inb p1 5 then ((some (mup F (q0 + 3) (ix p1) p2)).bind (fun F3 => some (1, F3))) else none else some (0, F)
set_option maxRecDepth 20000 in
theorem k_X1_giveFaults {C : CX} {F : MM} {G : GG} {q0 : Nat} {p1 : Int32} {p2 : Int32} {r : (Int32 × MM)} (hq0 : isSt q0) (h : s_X1_giveFaults F q0 p1 p2 = some r) : AM C yX1_giveFaults cX1_giveFaults 3 (some .boolean) rmX1_giveFaults [.ref q0, .int p1, .int p2] F G (fun o F9 G9 => o = (.inl (some (.int r.1))) ∧ F9 = r.2 ∧ G9 = G) := by
  refine am_of (L := [some (.ref q0), some (.int p1), some (.int p2)]) (by decide) (Nat.le_of_ble_eq_true rfl) rfl (fun M hM hT => ?_)
  have hM : MOk C RX1 cX1_giveFaults 3 (some .boolean) rmX1_giveFaults M := hM
  obtain ⟨Q, hQ⟩ : ∃ Q : OUT → MM → GG → Prop, Q = (fun o F9 G9 => o = (.inl (some (.int r.1))) ∧ F9 = r.2 ∧ G9 = G) := ⟨_, rfl⟩
  have hq : Q (.inl (some (.int r.1))) r.2 G := by rw [hQ]; exact ⟨rfl, rfl, rfl⟩
  rw [← hQ]
  clear hQ
  rw [s_X1_giveFaults] at h
  refine aw_iload_n (pc := 0) (i := 1) (x := p1) hM dX1_giveFaults_0 rfl rfl ?_
  refine aw_aload_n (pc := 1) (i := 0) (x := q0) hM dX1_giveFaults_1 rfl rfl ?_
  refine aw_getNest (pc := 2) (r := 8) hM uw_X5 (st_ob hq0) rfl dX1_giveFaults_2 ?_
  refine aw_getI (pc := 5) hM fd_X1_72 sk_8 rfl dX1_giveFaults_5 ?_
  refine aw_icmp_lt (pc := 8) (tgt := 13) hM dX1_giveFaults_8 (by decide) (fun c1 => ?_) (fun c1 => ?_)
  · rw [if_pos c1] at h
    refine aw_aload_n (pc := 13) (i := 0) (x := q0) hM dX1_giveFaults_13 rfl rfl ?_
    refine aw_getR (pc := 14) (r := (q0 + 3)) hM fd_X1_75 (st_ob hq0) rfl dX1_giveFaults_14 ?_
    refine aw_iload_n (pc := 17) (i := 1) (x := p1) hM dX1_giveFaults_17 rfl rfl ?_
    refine aw_iload_n (pc := 18) (i := 2) (x := p2) hM dX1_giveFaults_18 rfl rfl ?_
    obtain ⟨c2, h⟩ := ite_some h
    obtain ⟨F3, e4, h⟩ := bind_some h
    have e4 := Option.some.inj e4
    refine aw_iast (pc := 19) hM (st_a3 hq0) c2 dX1_giveFaults_19 ?_
    refine aw_mem e4 ?_
    refine aw_iconst (pc := 20) (v := 1) hM dX1_giveFaults_20 (by decide) ?_
    obtain rfl := Option.some.inj h
    exact aw_zret (pc := 21) hM dX1_giveFaults_21 (by decide) (Nat.le_of_ble_eq_true rfl) (Nat.le_of_ble_eq_true rfl) hq
  · rw [if_neg c1] at h
    refine aw_iconst (pc := 11) (v := 0) hM dX1_giveFaults_11 (by decide) ?_
    obtain rfl := Option.some.inj h
    exact aw_zret (pc := 12) hM dX1_giveFaults_12 (by decide) (Nat.le_of_ble_eq_true rfl) (Nat.le_of_ble_eq_true rfl) hq
def rmX3_has : Room := { frames := 0, cells := 0, slots := 0, locals := 0 }
def s_X3_has (F : MM) (p0 : Int32) (p1 : Int32) : Option Int32 := if p0 < 0 then some 0 else if (F 8 0) ≤ p0 then some 0 else if p1 < 0 then some 0 else if (F 8 1) ≤ p1 then some 0 else some 1
set_option maxRecDepth 20000 in
theorem k_X3_has {C : CX} {F : MM} {G : GG} {p0 : Int32} {p1 : Int32} {r : Int32} (h : s_X3_has F p0 p1 = some r) : AM C yX3_has cX3_has 3 (some .boolean) rmX3_has [.ref 8, .int p0, .int p1] F G (fun o F9 G9 => o = (.inl (some (.int r))) ∧ F9 = F ∧ G9 = G) := by
  refine am_of (L := [some (.ref 8), some (.int p0), some (.int p1)]) (by decide) (Nat.le_of_ble_eq_true rfl) rfl (fun M hM hT => ?_)
  have hM : MOk C RX3 cX3_has 3 (some .boolean) rmX3_has M := hM
  obtain ⟨Q, hQ⟩ : ∃ Q : OUT → MM → GG → Prop, Q = (fun o F9 G9 => o = (.inl (some (.int r))) ∧ F9 = F ∧ G9 = G) := ⟨_, rfl⟩
  have hq : Q (.inl (some (.int r))) F G := by rw [hQ]; exact ⟨rfl, rfl, rfl⟩
  rw [← hQ]
  clear hQ
  rw [s_X3_has] at h
  refine aw_iload_n (pc := 0) (i := 1) (x := p0) hM dX3_has_0 rfl rfl ?_
  refine aw_if_lt (pc := 1) (tgt := 28) hM dX3_has_1 (by decide) (fun c1 => ?_) (fun c1 => ?_)
  · rw [if_pos c1] at h
    refine aw_iconst (pc := 28) (v := 0) hM dX3_has_28 (by decide) ?_
    obtain rfl := Option.some.inj h
    exact aw_zret (pc := 29) hM dX3_has_29 (by decide) (Nat.le_of_ble_eq_true rfl) (Nat.le_of_ble_eq_true rfl) hq
  · rw [if_neg c1] at h
    refine aw_iload_n (pc := 4) (i := 1) (x := p0) hM dX3_has_4 rfl rfl ?_
    refine aw_aload_n (pc := 5) (i := 0) (x := 8) hM dX3_has_5 rfl rfl ?_
    refine aw_getI (pc := 6) hM fd_X3_9 sk_8 rfl dX3_has_6 ?_
    refine aw_icmp_ge (pc := 9) (tgt := 28) hM dX3_has_9 (by decide) (fun c2 => ?_) (fun c2 => ?_)
    · rw [if_pos c2] at h
      refine aw_iconst (pc := 28) (v := 0) hM dX3_has_28 (by decide) ?_
      obtain rfl := Option.some.inj h
      exact aw_zret (pc := 29) hM dX3_has_29 (by decide) (Nat.le_of_ble_eq_true rfl) (Nat.le_of_ble_eq_true rfl) hq
    · rw [if_neg c2] at h
      refine aw_iload_n (pc := 12) (i := 2) (x := p1) hM dX3_has_12 rfl rfl ?_
      refine aw_if_lt (pc := 13) (tgt := 28) hM dX3_has_13 (by decide) (fun c3 => ?_) (fun c3 => ?_)
      · rw [if_pos c3] at h
        refine aw_iconst (pc := 28) (v := 0) hM dX3_has_28 (by decide) ?_
        obtain rfl := Option.some.inj h
        exact aw_zret (pc := 29) hM dX3_has_29 (by decide) (Nat.le_of_ble_eq_true rfl) (Nat.le_of_ble_eq_true rfl) hq
      · rw [if_neg c3] at h
        refine aw_iload_n (pc := 16) (i := 2) (x := p1) hM dX3_has_16 rfl rfl ?_
        refine aw_aload_n (pc := 17) (i := 0) (x := 8) hM dX3_has_17 rfl rfl ?_
        refine aw_getI (pc := 18) hM fd_X3_15 sk_8 rfl dX3_has_18 ?_
        refine aw_icmp_ge (pc := 21) (tgt := 28) hM dX3_has_21 (by decide) (fun c4 => ?_) (fun c4 => ?_)
        · rw [if_pos c4] at h
          refine aw_iconst (pc := 28) (v := 0) hM dX3_has_28 (by decide) ?_
          obtain rfl := Option.some.inj h
          exact aw_zret (pc := 29) hM dX3_has_29 (by decide) (Nat.le_of_ble_eq_true rfl) (Nat.le_of_ble_eq_true rfl) hq
        · rw [if_neg c4] at h
          refine aw_iconst (pc := 24) (v := 1) hM dX3_has_24 (by decide) ?_
          refine aw_goto (pc := 25) (tgt := 29) hM dX3_has_25 (by decide) ?_
          obtain rfl := Option.some.inj h
          exact aw_zret (pc := 29) hM dX3_has_29 (by decide) (Nat.le_of_ble_eq_true rfl) (Nat.le_of_ble_eq_true rfl) hq
def rmX1_setVersion : Room := { frames := 1, cells := 0, slots := 0, locals := 22 }
def s_X1_setVersion (F : MM) (q1 : Nat) (p2 : Int32) (p3 : Int32) (p4 : Int32) : Option (Int32 × MM) := (s_X3_has F p2 p3).bind (fun r2 => if r2 = 0 then some (0, F) else if p4 ≤ 3 then if inb p2 (alen q1) then ((s_X0_with F (F q1 (ix p2)) p3 p4).bind (fun r7 => if inb p2 (alen q1) then ((some (mup F q1 (ix p2) r7)).bind (fun F9 => some (1, F9))) else none)) else none else some (0, F))
set_option maxRecDepth 20000 in
theorem k_X1_setVersion {C : CX} {F : MM} {G : GG} {q1 : Nat} {p2 : Int32} {p3 : Int32} {p4 : Int32} {r : (Int32 × MM)} (hq1 : isIA q1) (h : s_X1_setVersion F q1 p2 p3 p4 = some r) : AM C yX1_setVersion cX1_setVersion 5 (some .boolean) rmX1_setVersion [.ref 8, .ref q1, .int p2, .int p3, .int p4] F G (fun o F9 G9 => o = (.inl (some (.int r.1))) ∧ F9 = r.2 ∧ G9 = G) := by
  refine am_of (L := [some (.ref 8), some (.ref q1), some (.int p2), some (.int p3), some (.int p4)]) (by decide) (Nat.le_of_ble_eq_true rfl) rfl (fun M hM hT => ?_)
  have hM : MOk C RX1 cX1_setVersion 5 (some .boolean) rmX1_setVersion M := hM
  obtain ⟨Q, hQ⟩ : ∃ Q : OUT → MM → GG → Prop, Q = (fun o F9 G9 => o = (.inl (some (.int r.1))) ∧ F9 = r.2 ∧ G9 = G) := ⟨_, rfl⟩
  have hq : Q (.inl (some (.int r.1))) r.2 G := by rw [hQ]; exact ⟨rfl, rfl, rfl⟩
  rw [← hQ]
  clear hQ
  rw [s_X1_setVersion] at h
  refine aw_aload_n (pc := 0) (i := 0) (x := 8) hM dX1_setVersion_0 rfl rfl ?_
  refine aw_iload_n (pc := 1) (i := 2) (x := p2) hM dX1_setVersion_1 rfl rfl ?_
  refine aw_iload_n (pc := 2) (i := 3) (x := p3) hM dX1_setVersion_2 rfl rfl ?_
  obtain ⟨r2, h1, h⟩ := bind_some h
  refine aw_cv1 (pc := 3) (n := 2) (As := [.int p2, .int p3]) (st := []) (b := 8) (vo := (some (.int r2))) (c2 := 0) (s2 := 0) hM (k_X3_has h1) rfl cw_X1_40 sk_8 rfl rfl (by decide +kernel) rfl rfl ⟨(Nat.le_of_ble_eq_true rfl), (Nat.le_of_ble_eq_true rfl)⟩ (Nat.le_of_ble_eq_true rfl) ⟨(Nat.le_of_ble_eq_true rfl), (Nat.le_of_ble_eq_true rfl)⟩ dX1_setVersion_3 rfl rfl ?_
  refine aw_if_eq (pc := 6) (tgt := 15) hM dX1_setVersion_6 (by decide) (fun c3 => ?_) (fun c3 => ?_)
  · rw [if_pos c3] at h
    refine aw_iconst (pc := 15) (v := 0) hM dX1_setVersion_15 (by decide) ?_
    obtain rfl := Option.some.inj h
    exact aw_zret (pc := 16) hM dX1_setVersion_16 (by decide) (Nat.le_of_ble_eq_true rfl) (Nat.le_of_ble_eq_true rfl) hq
  · rw [if_neg c3] at h
    refine aw_iload (pc := 9) (i := 4) (x := p4) hM dX1_setVersion_9  rfl ?_
    refine aw_iconst (pc := 11) (v := 3) hM dX1_setVersion_11 (by decide) ?_
    refine aw_icmp_le (pc := 12) (tgt := 17) hM dX1_setVersion_12 (by decide) (fun c4 => ?_) (fun c4 => ?_)
    · rw [if_pos c4] at h
      refine aw_aload_n (pc := 17) (i := 1) (x := q1) hM dX1_setVersion_17 rfl rfl ?_
      refine aw_iload_n (pc := 18) (i := 2) (x := p2) hM dX1_setVersion_18 rfl rfl ?_
      refine aw_aload_n (pc := 19) (i := 1) (x := q1) hM dX1_setVersion_19 rfl rfl ?_
      refine aw_iload_n (pc := 20) (i := 2) (x := p2) hM dX1_setVersion_20 rfl rfl ?_
      obtain ⟨c5, h⟩ := ite_some h
      refine aw_iald (pc := 21) hM hq1 c5 dX1_setVersion_21 ?_
      refine aw_iload_n (pc := 22) (i := 3) (x := p3) hM dX1_setVersion_22 rfl rfl ?_
      refine aw_iload (pc := 23) (i := 4) (x := p4) hM dX1_setVersion_23  rfl ?_
      obtain ⟨r7, h6, h⟩ := bind_some h
      refine aw_cs1 (pc := 25) (n := 3) (As := [.int (F q1 (ix p2)), .int p3, .int p4]) (st := [.int p2, .ref q1]) (vo := (some (.int r7))) (c2 := 0) (s2 := 0) hM (k_X0_with h6) rfl cw_X1_59 (by decide +kernel) rfl rfl ⟨(Nat.le_of_ble_eq_true rfl), (Nat.le_of_ble_eq_true rfl)⟩ (Nat.le_of_ble_eq_true rfl) ⟨(Nat.le_of_ble_eq_true rfl), (Nat.le_of_ble_eq_true rfl)⟩ dX1_setVersion_25 rfl rfl ?_
      obtain ⟨c8, h⟩ := ite_some h
      obtain ⟨F9, e10, h⟩ := bind_some h
      have e10 := Option.some.inj e10
      refine aw_iast (pc := 28) hM hq1 c8 dX1_setVersion_28 ?_
      refine aw_mem e10 ?_
      refine aw_iconst (pc := 29) (v := 1) hM dX1_setVersion_29 (by decide) ?_
      obtain rfl := Option.some.inj h
      exact aw_zret (pc := 30) hM dX1_setVersion_30 (by decide) (Nat.le_of_ble_eq_true rfl) (Nat.le_of_ble_eq_true rfl) hq
    · rw [if_neg c4] at h
      refine aw_iconst (pc := 15) (v := 0) hM dX1_setVersion_15 (by decide) ?_
      obtain rfl := Option.some.inj h
      exact aw_zret (pc := 16) hM dX1_setVersion_16 (by decide) (Nat.le_of_ble_eq_true rfl) (Nat.le_of_ble_eq_true rfl) hq
def rmX5_isDrifted : Room := { frames := 0, cells := 0, slots := 0, locals := 0 }
def s_X5_isDrifted (F : MM) (a_this : Nat) (p0 : Int32) (p1 : Int32) : Option Int32 := if inb p0 5 then (if inb p0 5 then (if ((((F (a_this + 1) (ix p0)) ^^^ (F (a_this + 2) (ix p0))) >>> ((2 * p1) &&& 31)) &&& 3) = 0 then some 0 else some 1) else none) else none
set_option maxRecDepth 20000 in
theorem k_X5_isDrifted {C : CX} {F : MM} {G : GG} {a_this : Nat} {p0 : Int32} {p1 : Int32} {r : Int32} (ha_this : isSt a_this) (h : s_X5_isDrifted F a_this p0 p1 = some r) : AM C yX5_isDrifted cX5_isDrifted 3 (some .boolean) rmX5_isDrifted [.ref a_this, .int p0, .int p1] F G (fun o F9 G9 => o = (.inl (some (.int r))) ∧ F9 = F ∧ G9 = G) := by
  refine am_of (L := [some (.ref a_this), some (.int p0), some (.int p1)]) (by decide) (Nat.le_of_ble_eq_true rfl) rfl (fun M hM hT => ?_)
  have hM : MOk C RX5 cX5_isDrifted 3 (some .boolean) rmX5_isDrifted M := hM
  obtain ⟨Q, hQ⟩ : ∃ Q : OUT → MM → GG → Prop, Q = (fun o F9 G9 => o = (.inl (some (.int r))) ∧ F9 = F ∧ G9 = G) := ⟨_, rfl⟩
  have hq : Q (.inl (some (.int r))) F G := by rw [hQ]; exact ⟨rfl, rfl, rfl⟩
  rw [← hQ]
  clear hQ
  rw [s_X5_isDrifted] at h
  refine aw_aload_n (pc := 0) (i := 0) (x := a_this) hM dX5_isDrifted_0 rfl rfl ?_
  refine aw_getR (pc := 1) (r := (a_this + 1)) hM fd_X5_9 (st_ob ha_this) rfl dX5_isDrifted_1 ?_
  refine aw_iload_n (pc := 4) (i := 1) (x := p0) hM dX5_isDrifted_4 rfl rfl ?_
  obtain ⟨c1, h⟩ := ite_some h
  refine aw_iald (pc := 5) hM (st_a1 ha_this) c1 dX5_isDrifted_5 ?_
  refine aw_aload_n (pc := 6) (i := 0) (x := a_this) hM dX5_isDrifted_6 rfl rfl ?_
  refine aw_getR (pc := 7) (r := (a_this + 2)) hM fd_X5_15 (st_ob ha_this) rfl dX5_isDrifted_7 ?_
  refine aw_iload_n (pc := 10) (i := 1) (x := p0) hM dX5_isDrifted_10 rfl rfl ?_
  obtain ⟨c2, h⟩ := ite_some h
  refine aw_iald (pc := 11) hM (st_a2 ha_this) c2 dX5_isDrifted_11 ?_
  refine aw_ixor (pc := 12) hM dX5_isDrifted_12 ?_
  refine aw_iconst (pc := 13) (v := 2) hM dX5_isDrifted_13 (by decide) ?_
  refine aw_iload_n (pc := 14) (i := 2) (x := p1) hM dX5_isDrifted_14 rfl rfl ?_
  refine aw_imul (pc := 15) hM dX5_isDrifted_15 ?_
  refine aw_ishr (pc := 16) hM dX5_isDrifted_16 ?_
  refine aw_iconst (pc := 17) (v := 3) hM dX5_isDrifted_17 (by decide) ?_
  refine aw_iand (pc := 18) hM dX5_isDrifted_18 ?_
  refine aw_if_eq (pc := 19) (tgt := 26) hM dX5_isDrifted_19 (by decide) (fun c3 => ?_) (fun c3 => ?_)
  · rw [if_pos c3] at h
    refine aw_iconst (pc := 26) (v := 0) hM dX5_isDrifted_26 (by decide) ?_
    obtain rfl := Option.some.inj h
    exact aw_zret (pc := 27) hM dX5_isDrifted_27 (by decide) (Nat.le_of_ble_eq_true rfl) (Nat.le_of_ble_eq_true rfl) hq
  · rw [if_neg c3] at h
    refine aw_iconst (pc := 22) (v := 1) hM dX5_isDrifted_22 (by decide) ?_
    refine aw_goto (pc := 23) (tgt := 27) hM dX5_isDrifted_23 (by decide) ?_
    obtain rfl := Option.some.inj h
    exact aw_zret (pc := 27) hM dX5_isDrifted_27 (by decide) (Nat.le_of_ble_eq_true rfl) (Nat.le_of_ble_eq_true rfl) hq
def rmX5_isQuarantined : Room := { frames := 0, cells := 0, slots := 0, locals := 0 }
def s_X5_isQuarantined (F : MM) (a_this : Nat) (p0 : Int32) : Option Int32 := if inb p0 5 then (if (F (a_this + 5) (ix p0)) ≤ (F a_this 8) then some 0 else some 1) else none
set_option maxRecDepth 20000 in
theorem k_X5_isQuarantined {C : CX} {F : MM} {G : GG} {a_this : Nat} {p0 : Int32} {r : Int32} (ha_this : isSt a_this) (h : s_X5_isQuarantined F a_this p0 = some r) : AM C yX5_isQuarantined cX5_isQuarantined 2 (some .boolean) rmX5_isQuarantined [.ref a_this, .int p0] F G (fun o F9 G9 => o = (.inl (some (.int r))) ∧ F9 = F ∧ G9 = G) := by
  refine am_of (L := [some (.ref a_this), some (.int p0)]) (by decide) (Nat.le_of_ble_eq_true rfl) rfl (fun M hM hT => ?_)
  have hM : MOk C RX5 cX5_isQuarantined 2 (some .boolean) rmX5_isQuarantined M := hM
  obtain ⟨Q, hQ⟩ : ∃ Q : OUT → MM → GG → Prop, Q = (fun o F9 G9 => o = (.inl (some (.int r))) ∧ F9 = F ∧ G9 = G) := ⟨_, rfl⟩
  have hq : Q (.inl (some (.int r))) F G := by rw [hQ]; exact ⟨rfl, rfl, rfl⟩
  rw [← hQ]
  clear hQ
  rw [s_X5_isQuarantined] at h
  refine aw_aload_n (pc := 0) (i := 0) (x := a_this) hM dX5_isQuarantined_0 rfl rfl ?_
  refine aw_getR (pc := 1) (r := (a_this + 5)) hM fd_X5_24 (st_ob ha_this) rfl dX5_isQuarantined_1 ?_
  refine aw_iload_n (pc := 4) (i := 1) (x := p0) hM dX5_isQuarantined_4 rfl rfl ?_
  obtain ⟨c1, h⟩ := ite_some h
  refine aw_iald (pc := 5) hM (st_a5 ha_this) c1 dX5_isQuarantined_5 ?_
  refine aw_aload_n (pc := 6) (i := 0) (x := a_this) hM dX5_isQuarantined_6 rfl rfl ?_
  refine aw_getI (pc := 7) hM fd_X5_43 (st_ob ha_this) rfl dX5_isQuarantined_7 ?_
  refine aw_icmp_le (pc := 10) (tgt := 17) hM dX5_isQuarantined_10 (by decide) (fun c2 => ?_) (fun c2 => ?_)
  · rw [if_pos c2] at h
    refine aw_iconst (pc := 17) (v := 0) hM dX5_isQuarantined_17 (by decide) ?_
    obtain rfl := Option.some.inj h
    exact aw_zret (pc := 18) hM dX5_isQuarantined_18 (by decide) (Nat.le_of_ble_eq_true rfl) (Nat.le_of_ble_eq_true rfl) hq
  · rw [if_neg c2] at h
    refine aw_iconst (pc := 13) (v := 1) hM dX5_isQuarantined_13 (by decide) ?_
    refine aw_goto (pc := 14) (tgt := 18) hM dX5_isQuarantined_14 (by decide) ?_
    obtain rfl := Option.some.inj h
    exact aw_zret (pc := 18) hM dX5_isQuarantined_18 (by decide) (Nat.le_of_ble_eq_true rfl) (Nat.le_of_ble_eq_true rfl) hq
def rmX5_missingTo : Room := { frames := 1, cells := 0, slots := 0, locals := 21 }
def s_X5_missingTo (F : MM) (a_this : Nat) (p0 : Int32) (p1 : Int32) : Option Int32 := if inb p0 6 then ((s_X0_change F p0 p1).bind (fun r3 => if inb r3 24 then ((s_J6_bitCount_0f7a4 F (F (a_this + 7) (ix r3))).bind (fun r6 => some (if 0 < ((F (a_this + 6) (ix p0)) - r6) then ((F (a_this + 6) (ix p0)) - r6) else 0))) else none)) else none
set_option maxRecDepth 20000 in
theorem k_X5_missingTo {C : CX} {F : MM} {G : GG} {a_this : Nat} {p0 : Int32} {p1 : Int32} {r : Int32} (ha_this : isSt a_this) (h : s_X5_missingTo F a_this p0 p1 = some r) : AM C yX5_missingTo cX5_missingTo 3 (some .int) rmX5_missingTo [.ref a_this, .int p0, .int p1] F G (fun o F9 G9 => o = (.inl (some (.int r))) ∧ F9 = F ∧ G9 = G) := by
  refine am_of (L := [some (.ref a_this), some (.int p0), some (.int p1)]) (by decide) (Nat.le_of_ble_eq_true rfl) rfl (fun M hM hT => ?_)
  have hM : MOk C RX5 cX5_missingTo 3 (some .int) rmX5_missingTo M := hM
  obtain ⟨Q, hQ⟩ : ∃ Q : OUT → MM → GG → Prop, Q = (fun o F9 G9 => o = (.inl (some (.int r))) ∧ F9 = F ∧ G9 = G) := ⟨_, rfl⟩
  have hq : Q (.inl (some (.int r))) F G := by rw [hQ]; exact ⟨rfl, rfl, rfl⟩
  rw [← hQ]
  clear hQ
  rw [s_X5_missingTo] at h
  refine aw_iconst (pc := 0) (v := 0) hM dX5_missingTo_0 (by decide) ?_
  refine aw_aload_n (pc := 1) (i := 0) (x := a_this) hM dX5_missingTo_1 rfl rfl ?_
  refine aw_getR (pc := 2) (r := (a_this + 6)) hM fd_X5_27 (st_ob ha_this) rfl dX5_missingTo_2 ?_
  refine aw_iload_n (pc := 5) (i := 1) (x := p0) hM dX5_missingTo_5 rfl rfl ?_
  obtain ⟨c1, h⟩ := ite_some h
  refine aw_iald (pc := 6) hM (st_a6 ha_this) c1 dX5_missingTo_6 ?_
  refine aw_aload_n (pc := 7) (i := 0) (x := a_this) hM dX5_missingTo_7 rfl rfl ?_
  refine aw_getR (pc := 8) (r := (a_this + 7)) hM fd_X5_30 (st_ob ha_this) rfl dX5_missingTo_8 ?_
  refine aw_iload_n (pc := 11) (i := 1) (x := p0) hM dX5_missingTo_11 rfl rfl ?_
  refine aw_iload_n (pc := 12) (i := 2) (x := p1) hM dX5_missingTo_12 rfl rfl ?_
  obtain ⟨r3, h2, h⟩ := bind_some h
  refine aw_cs1 (pc := 13) (n := 2) (As := [.int p0, .int p1]) (st := [.ref (a_this + 7), .int (F (a_this + 6) (ix p0)), .int 0]) (vo := (some (.int r3))) (c2 := 0) (s2 := 0) hM (k_X0_change h2) rfl cw_X5_115 (by decide +kernel) rfl rfl ⟨(Nat.le_of_ble_eq_true rfl), (Nat.le_of_ble_eq_true rfl)⟩ (Nat.le_of_ble_eq_true rfl) ⟨(Nat.le_of_ble_eq_true rfl), (Nat.le_of_ble_eq_true rfl)⟩ dX5_missingTo_13 rfl rfl ?_
  obtain ⟨c4, h⟩ := ite_some h
  refine aw_iald (pc := 16) hM (st_a7 ha_this) c4 dX5_missingTo_16 ?_
  obtain ⟨r6, h5, h⟩ := bind_some h
  refine aw_cs1 (pc := 17) (n := 1) (As := [.int (F (a_this + 7) (ix r3))]) (st := [.int (F (a_this + 6) (ix p0)), .int 0]) (vo := (some (.int r6))) (c2 := 0) (s2 := 0) hM (k_J6_bitCount_0f7a4 h5) rfl cw_X5_118 (by decide +kernel) rfl rfl ⟨(Nat.le_of_ble_eq_true rfl), (Nat.le_of_ble_eq_true rfl)⟩ (Nat.le_of_ble_eq_true rfl) ⟨(Nat.le_of_ble_eq_true rfl), (Nat.le_of_ble_eq_true rfl)⟩ dX5_missingTo_17 rfl rfl ?_
  refine aw_isub (pc := 20) hM dX5_missingTo_20 ?_
  refine aw_mmax (pc := 21) hM gw_441 gw_442 gw_71 gw_443 (Nat.le_of_ble_eq_true rfl) (Nat.le_of_ble_eq_true rfl) (Nat.le_of_ble_eq_true rfl) (Nat.le_of_ble_eq_true rfl) dX5_missingTo_21 ?_
  obtain rfl := Option.some.inj h
  exact aw_iret (pc := 24) hM dX5_missingTo_24 (Nat.le_of_ble_eq_true rfl) (Nat.le_of_ble_eq_true rfl) hq
def rmX5_isDriftedBelow : Room := { frames := 1, cells := 0, slots := 0, locals := 22 }
def s_X5_isDriftedBelow_b2 (F : MM) (a_this : Nat) : Nat → Int32 → Int32 → Int32 → Option Int32
  | 0, _, _, _ => none
  | n + 1, x1, x2, x3 => if (F 8 0) ≤ x3 then some 0 else if inb x3 5 then (if x1 ≤ (F 9 (ix x3)) then (some (x3 + 1 : Int32)).bind (fun y4 => s_X5_isDriftedBelow_b2 F a_this n x1 x2 y4) else (s_X5_isQuarantined F a_this x3).bind (fun r7 => if r7 = 0 then (s_X5_isDrifted F a_this x3 x2).bind (fun r12 => if r12 = 0 then (some (x3 + 1 : Int32)).bind (fun y14 => s_X5_isDriftedBelow_b2 F a_this n x1 x2 y14) else some 1) else (some (x3 + 1 : Int32)).bind (fun y9 => s_X5_isDriftedBelow_b2 F a_this n x1 x2 y9))) else none
def s_X5_isDriftedBelow (F : MM) (a_this : Nat) (p0 : Int32) (p1 : Int32) : Option Int32 := s_X5_isDriftedBelow_b2 F a_this fu_ p0 p1 0
set_option maxRecDepth 20000 in
theorem k_X5_isDriftedBelow_b2 {C : CX} {M : MX} {G : GG} {Q : OUT → MM → GG → Prop} {F : MM} {a_this : Nat} {r : Int32}  (ha_this : isSt a_this)(hM : MOk C RX5 cX5_isDriftedBelow 4 (some .boolean) rmX5_isDriftedBelow M) (hT : MNoT M) (hq : Q (.inl (some (.int r))) F G) : ∀ (n : Nat) (x1 : Int32) (x2 : Int32) (x3 : Int32), s_X5_isDriftedBelow_b2 F a_this n x1 x2 x3 = some r → AW C 4 (ZM C rmX5_isDriftedBelow Q M) M 0 0 2 [some (.ref a_this), some (.int x1), some (.int x2), some (.int x3)] [] F G := by
  intro n
  induction n with
  | zero => intro x1 x2 x3 h; exact nomatch h
  | succ n ih =>
    intro x1 x2 x3 h
    rw [s_X5_isDriftedBelow_b2] at h
    refine aw_iload_n (pc := 2) (i := 3) (x := x3) hM dX5_isDriftedBelow_2 rfl rfl ?_
    refine aw_aload_n (pc := 3) (i := 0) (x := a_this) hM dX5_isDriftedBelow_3 rfl rfl ?_
    refine aw_getR (pc := 4) (r := 8) hM fd_X5_33 (st_ob ha_this) rfl dX5_isDriftedBelow_4 ?_
    refine aw_getI (pc := 7) hM fd_X5_70 sk_8 rfl dX5_isDriftedBelow_7 ?_
    refine aw_icmp_ge (pc := 10) (tgt := 51) hM dX5_isDriftedBelow_10 (by decide) (fun c1 => ?_) (fun c1 => ?_)
    · rw [if_pos c1] at h
      refine aw_iconst (pc := 51) (v := 0) hM dX5_isDriftedBelow_51 (by decide) ?_
      obtain rfl := Option.some.inj h
      exact aw_zret (pc := 52) hM dX5_isDriftedBelow_52 (by decide) (Nat.le_of_ble_eq_true rfl) (Nat.le_of_ble_eq_true rfl) hq
    · rw [if_neg c1] at h
      refine aw_aload_n (pc := 13) (i := 0) (x := a_this) hM dX5_isDriftedBelow_13 rfl rfl ?_
      refine aw_getR (pc := 14) (r := 8) hM fd_X5_33 (st_ob ha_this) rfl dX5_isDriftedBelow_14 ?_
      refine aw_getR (pc := 17) (r := 9) hM fd_X5_83 sk_8 rfl dX5_isDriftedBelow_17 ?_
      refine aw_iload_n (pc := 20) (i := 3) (x := x3) hM dX5_isDriftedBelow_20 rfl rfl ?_
      obtain ⟨c2, h⟩ := ite_some h
      refine aw_iald (pc := 21) hM sk_9 c2 dX5_isDriftedBelow_21 ?_
      refine aw_iload_n (pc := 22) (i := 1) (x := x1) hM dX5_isDriftedBelow_22 rfl rfl ?_
      refine aw_icmp_ge (pc := 23) (tgt := 45) hM dX5_isDriftedBelow_23 (by decide) (fun c3 => ?_) (fun c3 => ?_)
      · rw [if_pos c3] at h
        obtain ⟨y4, e5, h⟩ := bind_some h
        have e5 := Option.some.inj e5
        refine aw_iinc (pc := 45) (v := y4) (L' := [some (.ref a_this), some (.int x1), some (.int x2), some (.int y4)]) hM dX5_isDriftedBelow_45 rfl e5 (by decide) rfl ?_
        refine aw_goto (pc := 48) (tgt := 2) hM dX5_isDriftedBelow_48 (by decide) ?_
        exact ih x1 x2 y4 h
      · rw [if_neg c3] at h
        refine aw_aload_n (pc := 26) (i := 0) (x := a_this) hM dX5_isDriftedBelow_26 rfl rfl ?_
        refine aw_iload_n (pc := 27) (i := 3) (x := x3) hM dX5_isDriftedBelow_27 rfl rfl ?_
        obtain ⟨r7, h6, h⟩ := bind_some h
        refine aw_cv1 (pc := 28) (n := 1) (As := [.int x3]) (st := []) (b := a_this) (vo := (some (.int r7))) (c2 := 0) (s2 := 0) hM (k_X5_isQuarantined ha_this h6) rfl cw_X5_86 (st_ob ha_this) rfl rfl (by decide +kernel) rfl rfl ⟨(Nat.le_of_ble_eq_true rfl), (Nat.le_of_ble_eq_true rfl)⟩ (Nat.le_of_ble_eq_true rfl) ⟨(Nat.le_of_ble_eq_true rfl), (Nat.le_of_ble_eq_true rfl)⟩ dX5_isDriftedBelow_28 rfl rfl ?_
        refine aw_if_ne (pc := 31) (tgt := 45) hM dX5_isDriftedBelow_31 (by decide) (fun c8 => ?_) (fun c8 => ?_)
        · rw [if_neg c8] at h
          obtain ⟨y9, e10, h⟩ := bind_some h
          have e10 := Option.some.inj e10
          refine aw_iinc (pc := 45) (v := y9) (L' := [some (.ref a_this), some (.int x1), some (.int x2), some (.int y9)]) hM dX5_isDriftedBelow_45 rfl e10 (by decide) rfl ?_
          refine aw_goto (pc := 48) (tgt := 2) hM dX5_isDriftedBelow_48 (by decide) ?_
          exact ih x1 x2 y9 h
        · rw [if_pos c8] at h
          refine aw_aload_n (pc := 34) (i := 0) (x := a_this) hM dX5_isDriftedBelow_34 rfl rfl ?_
          refine aw_iload_n (pc := 35) (i := 3) (x := x3) hM dX5_isDriftedBelow_35 rfl rfl ?_
          refine aw_iload_n (pc := 36) (i := 2) (x := x2) hM dX5_isDriftedBelow_36 rfl rfl ?_
          obtain ⟨r12, h11, h⟩ := bind_some h
          refine aw_cv1 (pc := 37) (n := 2) (As := [.int x3, .int x2]) (st := []) (b := a_this) (vo := (some (.int r12))) (c2 := 0) (s2 := 0) hM (k_X5_isDrifted ha_this h11) rfl cw_X5_66 (st_ob ha_this) rfl rfl (by decide +kernel) rfl rfl ⟨(Nat.le_of_ble_eq_true rfl), (Nat.le_of_ble_eq_true rfl)⟩ (Nat.le_of_ble_eq_true rfl) ⟨(Nat.le_of_ble_eq_true rfl), (Nat.le_of_ble_eq_true rfl)⟩ dX5_isDriftedBelow_37 rfl rfl ?_
          refine aw_if_eq (pc := 40) (tgt := 45) hM dX5_isDriftedBelow_40 (by decide) (fun c13 => ?_) (fun c13 => ?_)
          · rw [if_pos c13] at h
            obtain ⟨y14, e15, h⟩ := bind_some h
            have e15 := Option.some.inj e15
            refine aw_iinc (pc := 45) (v := y14) (L' := [some (.ref a_this), some (.int x1), some (.int x2), some (.int y14)]) hM dX5_isDriftedBelow_45 rfl e15 (by decide) rfl ?_
            refine aw_goto (pc := 48) (tgt := 2) hM dX5_isDriftedBelow_48 (by decide) ?_
            exact ih x1 x2 y14 h
          · rw [if_neg c13] at h
            refine aw_iconst (pc := 43) (v := 1) hM dX5_isDriftedBelow_43 (by decide) ?_
            obtain rfl := Option.some.inj h
            exact aw_zret (pc := 44) hM dX5_isDriftedBelow_44 (by decide) (Nat.le_of_ble_eq_true rfl) (Nat.le_of_ble_eq_true rfl) hq
set_option maxRecDepth 20000 in
theorem k_X5_isDriftedBelow {C : CX} {F : MM} {G : GG} {a_this : Nat} {p0 : Int32} {p1 : Int32} {r : Int32} (ha_this : isSt a_this) (h : s_X5_isDriftedBelow F a_this p0 p1 = some r) : AM C yX5_isDriftedBelow cX5_isDriftedBelow 4 (some .boolean) rmX5_isDriftedBelow [.ref a_this, .int p0, .int p1] F G (fun o F9 G9 => o = (.inl (some (.int r))) ∧ F9 = F ∧ G9 = G) := by
  refine am_of (L := [some (.ref a_this), some (.int p0), some (.int p1), none]) (by decide) (Nat.le_of_ble_eq_true rfl) rfl (fun M hM hT => ?_)
  have hM : MOk C RX5 cX5_isDriftedBelow 4 (some .boolean) rmX5_isDriftedBelow M := hM
  obtain ⟨Q, hQ⟩ : ∃ Q : OUT → MM → GG → Prop, Q = (fun o F9 G9 => o = (.inl (some (.int r))) ∧ F9 = F ∧ G9 = G) := ⟨_, rfl⟩
  have hq : Q (.inl (some (.int r))) F G := by rw [hQ]; exact ⟨rfl, rfl, rfl⟩
  rw [← hQ]
  clear hQ
  rw [s_X5_isDriftedBelow] at h
  refine aw_iconst (pc := 0) (v := 0) hM dX5_isDriftedBelow_0 (by decide) ?_
  refine aw_istore_n (pc := 1) (i := 3) (L' := [some (.ref a_this), some (.int p0), some (.int p1), some (.int 0)]) hM dX5_isDriftedBelow_1 rfl (by decide) rfl ?_
  exact k_X5_isDriftedBelow_b2 ha_this hM hT hq fu_ p0 p1 0 h
def rmX4_newlyBroken : Room := { frames := 0, cells := 0, slots := 0, locals := 0 }
def s_X4_newlyBroken (F : MM) (p0 : Int32) (p1 : Int32) : Option Int32 := if inb (p1 &&& 4095) 4096 then (if inb (p0 &&& 4095) 4096 then (some ((F 12 (ix (p1 &&& 4095))) &&& ((F 12 (ix (p0 &&& 4095))) ^^^ (-1)))) else none) else none
set_option maxRecDepth 20000 in
theorem k_X4_newlyBroken {C : CX} {F : MM} {G : GG} {p0 : Int32} {p1 : Int32} {r : Int32} (h : s_X4_newlyBroken F p0 p1 = some r) : AM C yX4_newlyBroken cX4_newlyBroken 3 (some .int) rmX4_newlyBroken [.ref 10, .int p0, .int p1] F G (fun o F9 G9 => o = (.inl (some (.int r))) ∧ F9 = F ∧ G9 = G) := by
  refine am_of (L := [some (.ref 10), some (.int p0), some (.int p1)]) (by decide) (Nat.le_of_ble_eq_true rfl) rfl (fun M hM hT => ?_)
  have hM : MOk C RX4 cX4_newlyBroken 3 (some .int) rmX4_newlyBroken M := hM
  obtain ⟨Q, hQ⟩ : ∃ Q : OUT → MM → GG → Prop, Q = (fun o F9 G9 => o = (.inl (some (.int r))) ∧ F9 = F ∧ G9 = G) := ⟨_, rfl⟩
  have hq : Q (.inl (some (.int r))) F G := by rw [hQ]; exact ⟨rfl, rfl, rfl⟩
  rw [← hQ]
  clear hQ
  rw [s_X4_newlyBroken] at h
  refine aw_aload_n (pc := 0) (i := 0) (x := 10) hM dX4_newlyBroken_0 rfl rfl ?_
  refine aw_getR (pc := 1) (r := 12) hM fd_X4_15 sk_10 rfl dX4_newlyBroken_1 ?_
  refine aw_iload_n (pc := 4) (i := 2) (x := p1) hM dX4_newlyBroken_4 rfl rfl ?_
  refine aw_sipush (pc := 5) (v := 4095) hM dX4_newlyBroken_5 (by decide) ?_
  refine aw_iand (pc := 8) hM dX4_newlyBroken_8 ?_
  obtain ⟨c1, h⟩ := ite_some h
  refine aw_iald (pc := 9) hM sk_12 c1 dX4_newlyBroken_9 ?_
  refine aw_aload_n (pc := 10) (i := 0) (x := 10) hM dX4_newlyBroken_10 rfl rfl ?_
  refine aw_getR (pc := 11) (r := 12) hM fd_X4_15 sk_10 rfl dX4_newlyBroken_11 ?_
  refine aw_iload_n (pc := 14) (i := 1) (x := p0) hM dX4_newlyBroken_14 rfl rfl ?_
  refine aw_sipush (pc := 15) (v := 4095) hM dX4_newlyBroken_15 (by decide) ?_
  refine aw_iand (pc := 18) hM dX4_newlyBroken_18 ?_
  obtain ⟨c2, h⟩ := ite_some h
  refine aw_iald (pc := 19) hM sk_12 c2 dX4_newlyBroken_19 ?_
  refine aw_iconst (pc := 20) (v := (-1)) hM dX4_newlyBroken_20 (by decide) ?_
  refine aw_ixor (pc := 21) hM dX4_newlyBroken_21 ?_
  refine aw_iand (pc := 22) hM dX4_newlyBroken_22 ?_
  obtain rfl := Option.some.inj h
  exact aw_iret (pc := 23) hM dX4_newlyBroken_23 (Nat.le_of_ble_eq_true rfl) (Nat.le_of_ble_eq_true rfl) hq
def rmX5_brokenByWish : Room := { frames := 1, cells := 0, slots := 0, locals := 22 }
def s_X5_brokenByWish (F : MM) (a_this : Nat) (p0 : Int32) (p1 : Int32) : Option Int32 := if inb p0 5 then (if inb p0 5 then (if inb p0 5 then ((s_X0_versionIn F (F (a_this + 2) (ix p0)) p1).bind (fun r5 => (s_X0_with F (F (a_this + 1) (ix p0)) p1 r5).bind (fun r7 => (s_X4_newlyBroken F (F (a_this + 1) (ix p0)) r7).bind (fun r9 => some r9)))) else none) else none) else none
set_option maxRecDepth 20000 in
theorem k_X5_brokenByWish {C : CX} {F : MM} {G : GG} {a_this : Nat} {p0 : Int32} {p1 : Int32} {r : Int32} (ha_this : isSt a_this) (h : s_X5_brokenByWish F a_this p0 p1 = some r) : AM C yX5_brokenByWish cX5_brokenByWish 3 (some .int) rmX5_brokenByWish [.ref a_this, .int p0, .int p1] F G (fun o F9 G9 => o = (.inl (some (.int r))) ∧ F9 = F ∧ G9 = G) := by
  refine am_of (L := [some (.ref a_this), some (.int p0), some (.int p1)]) (by decide) (Nat.le_of_ble_eq_true rfl) rfl (fun M hM hT => ?_)
  have hM : MOk C RX5 cX5_brokenByWish 3 (some .int) rmX5_brokenByWish M := hM
  obtain ⟨Q, hQ⟩ : ∃ Q : OUT → MM → GG → Prop, Q = (fun o F9 G9 => o = (.inl (some (.int r))) ∧ F9 = F ∧ G9 = G) := ⟨_, rfl⟩
  have hq : Q (.inl (some (.int r))) F G := by rw [hQ]; exact ⟨rfl, rfl, rfl⟩
  rw [← hQ]
  clear hQ
  rw [s_X5_brokenByWish] at h
  refine aw_aload_n (pc := 0) (i := 0) (x := a_this) hM dX5_brokenByWish_0 rfl rfl ?_
  refine aw_getR (pc := 1) (r := 8) hM fd_X5_33 (st_ob ha_this) rfl dX5_brokenByWish_1 ?_
  refine aw_getR (pc := 4) (r := 10) hM fd_X5_94 sk_8 rfl dX5_brokenByWish_4 ?_
  refine aw_aload_n (pc := 7) (i := 0) (x := a_this) hM dX5_brokenByWish_7 rfl rfl ?_
  refine aw_getR (pc := 8) (r := (a_this + 1)) hM fd_X5_9 (st_ob ha_this) rfl dX5_brokenByWish_8 ?_
  refine aw_iload_n (pc := 11) (i := 1) (x := p0) hM dX5_brokenByWish_11 rfl rfl ?_
  obtain ⟨c1, h⟩ := ite_some h
  refine aw_iald (pc := 12) hM (st_a1 ha_this) c1 dX5_brokenByWish_12 ?_
  refine aw_aload_n (pc := 13) (i := 0) (x := a_this) hM dX5_brokenByWish_13 rfl rfl ?_
  refine aw_getR (pc := 14) (r := (a_this + 1)) hM fd_X5_9 (st_ob ha_this) rfl dX5_brokenByWish_14 ?_
  refine aw_iload_n (pc := 17) (i := 1) (x := p0) hM dX5_brokenByWish_17 rfl rfl ?_
  obtain ⟨c2, h⟩ := ite_some h
  refine aw_iald (pc := 18) hM (st_a1 ha_this) c2 dX5_brokenByWish_18 ?_
  refine aw_iload_n (pc := 19) (i := 2) (x := p1) hM dX5_brokenByWish_19 rfl rfl ?_
  refine aw_aload_n (pc := 20) (i := 0) (x := a_this) hM dX5_brokenByWish_20 rfl rfl ?_
  refine aw_getR (pc := 21) (r := (a_this + 2)) hM fd_X5_15 (st_ob ha_this) rfl dX5_brokenByWish_21 ?_
  refine aw_iload_n (pc := 24) (i := 1) (x := p0) hM dX5_brokenByWish_24 rfl rfl ?_
  obtain ⟨c3, h⟩ := ite_some h
  refine aw_iald (pc := 25) hM (st_a2 ha_this) c3 dX5_brokenByWish_25 ?_
  refine aw_iload_n (pc := 26) (i := 2) (x := p1) hM dX5_brokenByWish_26 rfl rfl ?_
  obtain ⟨r5, h4, h⟩ := bind_some h
  refine aw_cs1 (pc := 27) (n := 2) (As := [.int (F (a_this + 2) (ix p0)), .int p1]) (st := [.int p1, .int (F (a_this + 1) (ix p0)), .int (F (a_this + 1) (ix p0)), .ref 10]) (vo := (some (.int r5))) (c2 := 0) (s2 := 0) hM (k_X0_versionIn h4) rfl cw_X5_77 (by decide +kernel) rfl rfl ⟨(Nat.le_of_ble_eq_true rfl), (Nat.le_of_ble_eq_true rfl)⟩ (Nat.le_of_ble_eq_true rfl) ⟨(Nat.le_of_ble_eq_true rfl), (Nat.le_of_ble_eq_true rfl)⟩ dX5_brokenByWish_27 rfl rfl ?_
  obtain ⟨r7, h6, h⟩ := bind_some h
  refine aw_cs1 (pc := 30) (n := 3) (As := [.int (F (a_this + 1) (ix p0)), .int p1, .int r5]) (st := [.int (F (a_this + 1) (ix p0)), .ref 10]) (vo := (some (.int r7))) (c2 := 0) (s2 := 0) hM (k_X0_with h6) rfl cw_X5_128 (by decide +kernel) rfl rfl ⟨(Nat.le_of_ble_eq_true rfl), (Nat.le_of_ble_eq_true rfl)⟩ (Nat.le_of_ble_eq_true rfl) ⟨(Nat.le_of_ble_eq_true rfl), (Nat.le_of_ble_eq_true rfl)⟩ dX5_brokenByWish_30 rfl rfl ?_
  obtain ⟨r9, h8, h⟩ := bind_some h
  refine aw_cv1 (pc := 33) (n := 2) (As := [.int (F (a_this + 1) (ix p0)), .int r7]) (st := []) (b := 10) (vo := (some (.int r9))) (c2 := 0) (s2 := 0) hM (k_X4_newlyBroken h8) rfl cw_X5_132 sk_10 rfl rfl (by decide +kernel) rfl rfl ⟨(Nat.le_of_ble_eq_true rfl), (Nat.le_of_ble_eq_true rfl)⟩ (Nat.le_of_ble_eq_true rfl) ⟨(Nat.le_of_ble_eq_true rfl), (Nat.le_of_ble_eq_true rfl)⟩ dX5_brokenByWish_33 rfl rfl ?_
  obtain rfl := Option.some.inj h
  exact aw_iret (pc := 36) hM dX5_brokenByWish_36 (Nat.le_of_ble_eq_true rfl) (Nat.le_of_ble_eq_true rfl) hq
def rmX5_stateOf : Room := { frames := 2, cells := 0, slots := 0, locals := 45 }
def s_X5_stateOf (F : MM) (a_this : Nat) (p0 : Int32) (p1 : Int32) : Option Int32 := (s_X5_isDrifted F a_this p0 p1).bind (fun r2 => if r2 = 0 then some 1 else (s_X5_isQuarantined F a_this p0).bind (fun r5 => if r5 = 0 then if inb p0 5 then ((s_X0_versionIn F (F (a_this + 2) (ix p0)) p1).bind (fun r9 => (s_X5_missingTo F a_this p1 r9).bind (fun r11 => if r11 ≤ 0 then if inb p0 5 then ((s_X5_isDriftedBelow F a_this (F 9 (ix p0)) p1).bind (fun r15 => if r15 = 0 then (s_X5_brokenByWish F a_this p0 p1).bind (fun r18 => if r18 = 0 then some 0 else some 5) else some 4)) else none else some 3))) else none else some 2))
set_option maxRecDepth 20000 in
theorem k_X5_stateOf {C : CX} {F : MM} {G : GG} {a_this : Nat} {p0 : Int32} {p1 : Int32} {r : Int32} (ha_this : isSt a_this) (h : s_X5_stateOf F a_this p0 p1 = some r) : AM C yX5_stateOf cX5_stateOf 3 (some .int) rmX5_stateOf [.ref a_this, .int p0, .int p1] F G (fun o F9 G9 => o = (.inl (some (.int r))) ∧ F9 = F ∧ G9 = G) := by
  refine am_of (L := [some (.ref a_this), some (.int p0), some (.int p1)]) (by decide) (Nat.le_of_ble_eq_true rfl) rfl (fun M hM hT => ?_)
  have hM : MOk C RX5 cX5_stateOf 3 (some .int) rmX5_stateOf M := hM
  obtain ⟨Q, hQ⟩ : ∃ Q : OUT → MM → GG → Prop, Q = (fun o F9 G9 => o = (.inl (some (.int r))) ∧ F9 = F ∧ G9 = G) := ⟨_, rfl⟩
  have hq : Q (.inl (some (.int r))) F G := by rw [hQ]; exact ⟨rfl, rfl, rfl⟩
  rw [← hQ]
  clear hQ
  rw [s_X5_stateOf] at h
  refine aw_aload_n (pc := 0) (i := 0) (x := a_this) hM dX5_stateOf_0 rfl rfl ?_
  refine aw_iload_n (pc := 1) (i := 1) (x := p0) hM dX5_stateOf_1 rfl rfl ?_
  refine aw_iload_n (pc := 2) (i := 2) (x := p1) hM dX5_stateOf_2 rfl rfl ?_
  obtain ⟨r2, h1, h⟩ := bind_some h
  refine aw_cv1 (pc := 3) (n := 2) (As := [.int p0, .int p1]) (st := []) (b := a_this) (vo := (some (.int r2))) (c2 := 0) (s2 := 0) hM (k_X5_isDrifted ha_this h1) rfl cw_X5_66 (st_ob ha_this) rfl rfl (by decide +kernel) rfl rfl ⟨(Nat.le_of_ble_eq_true rfl), (Nat.le_of_ble_eq_true rfl)⟩ (Nat.le_of_ble_eq_true rfl) ⟨(Nat.le_of_ble_eq_true rfl), (Nat.le_of_ble_eq_true rfl)⟩ dX5_stateOf_3 rfl rfl ?_
  refine aw_if_ne (pc := 6) (tgt := 11) hM dX5_stateOf_6 (by decide) (fun c3 => ?_) (fun c3 => ?_)
  · rw [if_neg c3] at h
    refine aw_aload_n (pc := 11) (i := 0) (x := a_this) hM dX5_stateOf_11 rfl rfl ?_
    refine aw_iload_n (pc := 12) (i := 1) (x := p0) hM dX5_stateOf_12 rfl rfl ?_
    obtain ⟨r5, h4, h⟩ := bind_some h
    refine aw_cv1 (pc := 13) (n := 1) (As := [.int p0]) (st := []) (b := a_this) (vo := (some (.int r5))) (c2 := 0) (s2 := 0) hM (k_X5_isQuarantined ha_this h4) rfl cw_X5_86 (st_ob ha_this) rfl rfl (by decide +kernel) rfl rfl ⟨(Nat.le_of_ble_eq_true rfl), (Nat.le_of_ble_eq_true rfl)⟩ (Nat.le_of_ble_eq_true rfl) ⟨(Nat.le_of_ble_eq_true rfl), (Nat.le_of_ble_eq_true rfl)⟩ dX5_stateOf_13 rfl rfl ?_
    refine aw_if_eq (pc := 16) (tgt := 21) hM dX5_stateOf_16 (by decide) (fun c6 => ?_) (fun c6 => ?_)
    · rw [if_pos c6] at h
      refine aw_aload_n (pc := 21) (i := 0) (x := a_this) hM dX5_stateOf_21 rfl rfl ?_
      refine aw_iload_n (pc := 22) (i := 2) (x := p1) hM dX5_stateOf_22 rfl rfl ?_
      refine aw_aload_n (pc := 23) (i := 0) (x := a_this) hM dX5_stateOf_23 rfl rfl ?_
      refine aw_getR (pc := 24) (r := (a_this + 2)) hM fd_X5_15 (st_ob ha_this) rfl dX5_stateOf_24 ?_
      refine aw_iload_n (pc := 27) (i := 1) (x := p0) hM dX5_stateOf_27 rfl rfl ?_
      obtain ⟨c7, h⟩ := ite_some h
      refine aw_iald (pc := 28) hM (st_a2 ha_this) c7 dX5_stateOf_28 ?_
      refine aw_iload_n (pc := 29) (i := 2) (x := p1) hM dX5_stateOf_29 rfl rfl ?_
      obtain ⟨r9, h8, h⟩ := bind_some h
      refine aw_cs1 (pc := 30) (n := 2) (As := [.int (F (a_this + 2) (ix p0)), .int p1]) (st := [.int p1, .ref a_this]) (vo := (some (.int r9))) (c2 := 0) (s2 := 0) hM (k_X0_versionIn h8) rfl cw_X5_77 (by decide +kernel) rfl rfl ⟨(Nat.le_of_ble_eq_true rfl), (Nat.le_of_ble_eq_true rfl)⟩ (Nat.le_of_ble_eq_true rfl) ⟨(Nat.le_of_ble_eq_true rfl), (Nat.le_of_ble_eq_true rfl)⟩ dX5_stateOf_30 rfl rfl ?_
      obtain ⟨r11, h10, h⟩ := bind_some h
      refine aw_cv1 (pc := 33) (n := 2) (As := [.int p1, .int r9]) (st := []) (b := a_this) (vo := (some (.int r11))) (c2 := 0) (s2 := 0) hM (k_X5_missingTo ha_this h10) rfl cw_X5_106 (st_ob ha_this) rfl rfl (by decide +kernel) rfl rfl ⟨(Nat.le_of_ble_eq_true rfl), (Nat.le_of_ble_eq_true rfl)⟩ (Nat.le_of_ble_eq_true rfl) ⟨(Nat.le_of_ble_eq_true rfl), (Nat.le_of_ble_eq_true rfl)⟩ dX5_stateOf_33 rfl rfl ?_
      refine aw_if_le (pc := 36) (tgt := 41) hM dX5_stateOf_36 (by decide) (fun c12 => ?_) (fun c12 => ?_)
      · rw [if_pos c12] at h
        refine aw_aload_n (pc := 41) (i := 0) (x := a_this) hM dX5_stateOf_41 rfl rfl ?_
        refine aw_aload_n (pc := 42) (i := 0) (x := a_this) hM dX5_stateOf_42 rfl rfl ?_
        refine aw_getR (pc := 43) (r := 8) hM fd_X5_33 (st_ob ha_this) rfl dX5_stateOf_43 ?_
        refine aw_getR (pc := 46) (r := 9) hM fd_X5_83 sk_8 rfl dX5_stateOf_46 ?_
        refine aw_iload_n (pc := 49) (i := 1) (x := p0) hM dX5_stateOf_49 rfl rfl ?_
        obtain ⟨c13, h⟩ := ite_some h
        refine aw_iald (pc := 50) hM sk_9 c13 dX5_stateOf_50 ?_
        refine aw_iload_n (pc := 51) (i := 2) (x := p1) hM dX5_stateOf_51 rfl rfl ?_
        obtain ⟨r15, h14, h⟩ := bind_some h
        refine aw_cv1 (pc := 52) (n := 2) (As := [.int (F 9 (ix p0)), .int p1]) (st := []) (b := a_this) (vo := (some (.int r15))) (c2 := 0) (s2 := 0) hM (k_X5_isDriftedBelow ha_this h14) rfl cw_X5_109 (st_ob ha_this) rfl rfl (by decide +kernel) rfl rfl ⟨(Nat.le_of_ble_eq_true rfl), (Nat.le_of_ble_eq_true rfl)⟩ (Nat.le_of_ble_eq_true rfl) ⟨(Nat.le_of_ble_eq_true rfl), (Nat.le_of_ble_eq_true rfl)⟩ dX5_stateOf_52 rfl rfl ?_
        refine aw_if_eq (pc := 55) (tgt := 60) hM dX5_stateOf_55 (by decide) (fun c16 => ?_) (fun c16 => ?_)
        · rw [if_pos c16] at h
          refine aw_aload_n (pc := 60) (i := 0) (x := a_this) hM dX5_stateOf_60 rfl rfl ?_
          refine aw_iload_n (pc := 61) (i := 1) (x := p0) hM dX5_stateOf_61 rfl rfl ?_
          refine aw_iload_n (pc := 62) (i := 2) (x := p1) hM dX5_stateOf_62 rfl rfl ?_
          obtain ⟨r18, h17, h⟩ := bind_some h
          refine aw_cv1 (pc := 63) (n := 2) (As := [.int p0, .int p1]) (st := []) (b := a_this) (vo := (some (.int r18))) (c2 := 0) (s2 := 0) hM (k_X5_brokenByWish ha_this h17) rfl cw_X5_112 (st_ob ha_this) rfl rfl (by decide +kernel) rfl rfl ⟨(Nat.le_of_ble_eq_true rfl), (Nat.le_of_ble_eq_true rfl)⟩ (Nat.le_of_ble_eq_true rfl) ⟨(Nat.le_of_ble_eq_true rfl), (Nat.le_of_ble_eq_true rfl)⟩ dX5_stateOf_63 rfl rfl ?_
          refine aw_if_eq (pc := 66) (tgt := 73) hM dX5_stateOf_66 (by decide) (fun c19 => ?_) (fun c19 => ?_)
          · rw [if_pos c19] at h
            refine aw_iconst (pc := 73) (v := 0) hM dX5_stateOf_73 (by decide) ?_
            obtain rfl := Option.some.inj h
            exact aw_iret (pc := 74) hM dX5_stateOf_74 (Nat.le_of_ble_eq_true rfl) (Nat.le_of_ble_eq_true rfl) hq
          · rw [if_neg c19] at h
            refine aw_iconst (pc := 69) (v := 5) hM dX5_stateOf_69 (by decide) ?_
            refine aw_goto (pc := 70) (tgt := 74) hM dX5_stateOf_70 (by decide) ?_
            obtain rfl := Option.some.inj h
            exact aw_iret (pc := 74) hM dX5_stateOf_74 (Nat.le_of_ble_eq_true rfl) (Nat.le_of_ble_eq_true rfl) hq
        · rw [if_neg c16] at h
          refine aw_iconst (pc := 58) (v := 4) hM dX5_stateOf_58 (by decide) ?_
          obtain rfl := Option.some.inj h
          exact aw_iret (pc := 59) hM dX5_stateOf_59 (Nat.le_of_ble_eq_true rfl) (Nat.le_of_ble_eq_true rfl) hq
      · rw [if_neg c12] at h
        refine aw_iconst (pc := 39) (v := 3) hM dX5_stateOf_39 (by decide) ?_
        obtain rfl := Option.some.inj h
        exact aw_iret (pc := 40) hM dX5_stateOf_40 (Nat.le_of_ble_eq_true rfl) (Nat.le_of_ble_eq_true rfl) hq
    · rw [if_neg c6] at h
      refine aw_iconst (pc := 19) (v := 2) hM dX5_stateOf_19 (by decide) ?_
      obtain rfl := Option.some.inj h
      exact aw_iret (pc := 20) hM dX5_stateOf_20 (Nat.le_of_ble_eq_true rfl) (Nat.le_of_ble_eq_true rfl) hq
  · rw [if_pos c3] at h
    refine aw_iconst (pc := 9) (v := 1) hM dX5_stateOf_9 (by decide) ?_
    obtain rfl := Option.some.inj h
    exact aw_iret (pc := 10) hM dX5_stateOf_10 (Nat.le_of_ble_eq_true rfl) (Nat.le_of_ble_eq_true rfl) hq
def rmX5_readyOn : Room := { frames := 3, cells := 0, slots := 0, locals := 67 }
def s_X5_readyOn_b2 (F : MM) (a_this : Nat) : Nat → Int32 → Int32 → Option Int32
  | 0, _, _ => none
  | n + 1, x1, x2 => if (F 8 1) ≤ x2 then some (-9) else (s_X5_stateOf F a_this x1 x2).bind (fun r3 => if r3 = 0 then some x2 else (some (x2 + 1 : Int32)).bind (fun y5 => s_X5_readyOn_b2 F a_this n x1 y5))
def s_X5_readyOn (F : MM) (a_this : Nat) (p0 : Int32) : Option Int32 := s_X5_readyOn_b2 F a_this fu_ p0 0
set_option maxRecDepth 20000 in
theorem k_X5_readyOn_b2 {C : CX} {M : MX} {G : GG} {Q : OUT → MM → GG → Prop} {F : MM} {a_this : Nat} {r : Int32}  (ha_this : isSt a_this)(hM : MOk C RX5 cX5_readyOn 3 (some .int) rmX5_readyOn M) (hT : MNoT M) (hq : Q (.inl (some (.int r))) F G) : ∀ (n : Nat) (x1 : Int32) (x2 : Int32), s_X5_readyOn_b2 F a_this n x1 x2 = some r → AW C 3 (ZM C rmX5_readyOn Q M) M 0 0 2 [some (.ref a_this), some (.int x1), some (.int x2)] [] F G := by
  intro n
  induction n with
  | zero => intro x1 x2 h; exact nomatch h
  | succ n ih =>
    intro x1 x2 h
    rw [s_X5_readyOn_b2] at h
    refine aw_iload_n (pc := 2) (i := 2) (x := x2) hM dX5_readyOn_2 rfl rfl ?_
    refine aw_aload_n (pc := 3) (i := 0) (x := a_this) hM dX5_readyOn_3 rfl rfl ?_
    refine aw_getR (pc := 4) (r := 8) hM fd_X5_33 (st_ob ha_this) rfl dX5_readyOn_4 ?_
    refine aw_getI (pc := 7) hM fd_X5_61 sk_8 rfl dX5_readyOn_7 ?_
    refine aw_icmp_ge (pc := 10) (tgt := 30) hM dX5_readyOn_10 (by decide) (fun c1 => ?_) (fun c1 => ?_)
    · rw [if_pos c1] at h
      refine aw_bipush (pc := 30) (v := (-9)) hM dX5_readyOn_30 (by decide) ?_
      obtain rfl := Option.some.inj h
      exact aw_iret (pc := 32) hM dX5_readyOn_32 (Nat.le_of_ble_eq_true rfl) (Nat.le_of_ble_eq_true rfl) hq
    · rw [if_neg c1] at h
      refine aw_aload_n (pc := 13) (i := 0) (x := a_this) hM dX5_readyOn_13 rfl rfl ?_
      refine aw_iload_n (pc := 14) (i := 1) (x := x1) hM dX5_readyOn_14 rfl rfl ?_
      refine aw_iload_n (pc := 15) (i := 2) (x := x2) hM dX5_readyOn_15 rfl rfl ?_
      obtain ⟨r3, h2, h⟩ := bind_some h
      refine aw_cv1 (pc := 16) (n := 2) (As := [.int x1, .int x2]) (st := []) (b := a_this) (vo := (some (.int r3))) (c2 := 0) (s2 := 0) hM (k_X5_stateOf ha_this h2) rfl cw_X5_135 (st_ob ha_this) rfl rfl (by decide +kernel) rfl rfl ⟨(Nat.le_of_ble_eq_true rfl), (Nat.le_of_ble_eq_true rfl)⟩ (Nat.le_of_ble_eq_true rfl) ⟨(Nat.le_of_ble_eq_true rfl), (Nat.le_of_ble_eq_true rfl)⟩ dX5_readyOn_16 rfl rfl ?_
      refine aw_if_ne (pc := 19) (tgt := 24) hM dX5_readyOn_19 (by decide) (fun c4 => ?_) (fun c4 => ?_)
      · rw [if_neg c4] at h
        obtain ⟨y5, e6, h⟩ := bind_some h
        have e6 := Option.some.inj e6
        refine aw_iinc (pc := 24) (v := y5) (L' := [some (.ref a_this), some (.int x1), some (.int y5)]) hM dX5_readyOn_24 rfl e6 (by decide) rfl ?_
        refine aw_goto (pc := 27) (tgt := 2) hM dX5_readyOn_27 (by decide) ?_
        exact ih x1 y5 h
      · rw [if_pos c4] at h
        refine aw_iload_n (pc := 22) (i := 2) (x := x2) hM dX5_readyOn_22 rfl rfl ?_
        obtain rfl := Option.some.inj h
        exact aw_iret (pc := 23) hM dX5_readyOn_23 (Nat.le_of_ble_eq_true rfl) (Nat.le_of_ble_eq_true rfl) hq
set_option maxRecDepth 20000 in
theorem k_X5_readyOn {C : CX} {F : MM} {G : GG} {a_this : Nat} {p0 : Int32} {r : Int32} (ha_this : isSt a_this) (h : s_X5_readyOn F a_this p0 = some r) : AM C yX5_readyOn cX5_readyOn 3 (some .int) rmX5_readyOn [.ref a_this, .int p0] F G (fun o F9 G9 => o = (.inl (some (.int r))) ∧ F9 = F ∧ G9 = G) := by
  refine am_of (L := [some (.ref a_this), some (.int p0), none]) (by decide) (Nat.le_of_ble_eq_true rfl) rfl (fun M hM hT => ?_)
  have hM : MOk C RX5 cX5_readyOn 3 (some .int) rmX5_readyOn M := hM
  obtain ⟨Q, hQ⟩ : ∃ Q : OUT → MM → GG → Prop, Q = (fun o F9 G9 => o = (.inl (some (.int r))) ∧ F9 = F ∧ G9 = G) := ⟨_, rfl⟩
  have hq : Q (.inl (some (.int r))) F G := by rw [hQ]; exact ⟨rfl, rfl, rfl⟩
  rw [← hQ]
  clear hQ
  rw [s_X5_readyOn] at h
  refine aw_iconst (pc := 0) (v := 0) hM dX5_readyOn_0 (by decide) ?_
  refine aw_istore_n (pc := 1) (i := 2) (L' := [some (.ref a_this), some (.int p0), some (.int 0)]) hM dX5_readyOn_1 rfl (by decide) rfl ?_
  exact k_X5_readyOn_b2 ha_this hM hT hq fu_ p0 0 h
def rmX5_attempt : Room := { frames := 1, cells := 0, slots := 0, locals := 22 }
def s_X5_attempt (F : MM) (a_this : Nat) (p0 : Int32) (p1 : Int32) : Option MM := if inb p0 5 then (if (F (a_this + 3) (ix p0)) = 0 then if inb p0 5 then (if inb p0 5 then ((s_X0_versionIn F (F (a_this + 2) (ix p0)) p1).bind (fun r22 => (s_X0_with F (F (a_this + 1) (ix p0)) p1 r22).bind (fun r24 => if inb p0 5 then ((some (mup F (a_this + 1) (ix p0) r24)).bind (fun F26 => if inb p0 5 then ((some (mup F26 (a_this + 4) (ix p0) 0)).bind (fun F29 => (some (mup F29 a_this 9 ((F29 a_this 9) + 1))).bind (fun F31 => some F31))) else none)) else none))) else none) else none else if inb p0 5 then (if inb p0 5 then ((some (mup F (a_this + 3) (ix p0) ((F (a_this + 3) (ix p0)) - 1))).bind (fun F5 => if inb p0 5 then (if inb p0 5 then ((some (mup F5 (a_this + 4) (ix p0) ((F5 (a_this + 4) (ix p0)) + 1))).bind (fun F9 => if inb p0 5 then (if (F9 (a_this + 4) (ix p0)) = (F9 8 2) then if inb p0 5 then ((some (mup F9 (a_this + 4) (ix p0) 0)).bind (fun F14 => if inb p0 5 then ((some (mup F14 (a_this + 5) (ix p0) ((F14 a_this 8) + (F14 8 3)))).bind (fun F17 => some F17)) else none)) else none else some F9) else none)) else none) else none)) else none) else none) else none
set_option maxRecDepth 20000 in
theorem k_X5_attempt {C : CX} {F : MM} {G : GG} {a_this : Nat} {p0 : Int32} {p1 : Int32} {r : MM} (ha_this : isSt a_this) (h : s_X5_attempt F a_this p0 p1 = some r) : AM C yX5_attempt cX5_attempt 3 none rmX5_attempt [.ref a_this, .int p0, .int p1] F G (fun o F9 G9 => o = (.inl none) ∧ F9 = r ∧ G9 = G) := by
  refine am_of (L := [some (.ref a_this), some (.int p0), some (.int p1)]) (by decide) (Nat.le_of_ble_eq_true rfl) rfl (fun M hM hT => ?_)
  have hM : MOk C RX5 cX5_attempt 3 none rmX5_attempt M := hM
  obtain ⟨Q, hQ⟩ : ∃ Q : OUT → MM → GG → Prop, Q = (fun o F9 G9 => o = (.inl none) ∧ F9 = r ∧ G9 = G) := ⟨_, rfl⟩
  have hq : Q (.inl none) r G := by rw [hQ]; exact ⟨rfl, rfl, rfl⟩
  rw [← hQ]
  clear hQ
  rw [s_X5_attempt] at h
  refine aw_aload_n (pc := 0) (i := 0) (x := a_this) hM dX5_attempt_0 rfl rfl ?_
  refine aw_getR (pc := 1) (r := (a_this + 3)) hM fd_X5_18 (st_ob ha_this) rfl dX5_attempt_1 ?_
  refine aw_iload_n (pc := 4) (i := 1) (x := p0) hM dX5_attempt_4 rfl rfl ?_
  obtain ⟨c1, h⟩ := ite_some h
  refine aw_iald (pc := 5) hM (st_a3 ha_this) c1 dX5_attempt_5 ?_
  refine aw_if_ne (pc := 6) (tgt := 53) hM dX5_attempt_6 (by decide) (fun c2 => ?_) (fun c2 => ?_)
  · rw [if_neg c2] at h
    refine aw_aload_n (pc := 53) (i := 0) (x := a_this) hM dX5_attempt_53 rfl rfl ?_
    refine aw_getR (pc := 54) (r := (a_this + 3)) hM fd_X5_18 (st_ob ha_this) rfl dX5_attempt_54 ?_
    refine aw_iload_n (pc := 57) (i := 1) (x := p0) hM dX5_attempt_57 rfl rfl ?_
    refine aw_dup2 (pc := 58) hM dX5_attempt_58 rfl rfl ?_
    obtain ⟨c3, h⟩ := ite_some h
    refine aw_iald (pc := 59) hM (st_a3 ha_this) c3 dX5_attempt_59 ?_
    refine aw_iconst (pc := 60) (v := 1) hM dX5_attempt_60 (by decide) ?_
    refine aw_isub (pc := 61) hM dX5_attempt_61 ?_
    obtain ⟨c4, h⟩ := ite_some h
    obtain ⟨F5, e6, h⟩ := bind_some h
    have e6 := Option.some.inj e6
    refine aw_iast (pc := 62) hM (st_a3 ha_this) c4 dX5_attempt_62 ?_
    refine aw_mem e6 ?_
    refine aw_aload_n (pc := 63) (i := 0) (x := a_this) hM dX5_attempt_63 rfl rfl ?_
    refine aw_getR (pc := 64) (r := (a_this + 4)) hM fd_X5_21 (st_ob ha_this) rfl dX5_attempt_64 ?_
    refine aw_iload_n (pc := 67) (i := 1) (x := p0) hM dX5_attempt_67 rfl rfl ?_
    refine aw_dup2 (pc := 68) hM dX5_attempt_68 rfl rfl ?_
    obtain ⟨c7, h⟩ := ite_some h
    refine aw_iald (pc := 69) hM (st_a4 ha_this) c7 dX5_attempt_69 ?_
    refine aw_iconst (pc := 70) (v := 1) hM dX5_attempt_70 (by decide) ?_
    refine aw_iadd (pc := 71) hM dX5_attempt_71 ?_
    obtain ⟨c8, h⟩ := ite_some h
    obtain ⟨F9, e10, h⟩ := bind_some h
    have e10 := Option.some.inj e10
    refine aw_iast (pc := 72) hM (st_a4 ha_this) c8 dX5_attempt_72 ?_
    refine aw_mem e10 ?_
    refine aw_aload_n (pc := 73) (i := 0) (x := a_this) hM dX5_attempt_73 rfl rfl ?_
    refine aw_getR (pc := 74) (r := (a_this + 4)) hM fd_X5_21 (st_ob ha_this) rfl dX5_attempt_74 ?_
    refine aw_iload_n (pc := 77) (i := 1) (x := p0) hM dX5_attempt_77 rfl rfl ?_
    obtain ⟨c11, h⟩ := ite_some h
    refine aw_iald (pc := 78) hM (st_a4 ha_this) c11 dX5_attempt_78 ?_
    refine aw_aload_n (pc := 79) (i := 0) (x := a_this) hM dX5_attempt_79 rfl rfl ?_
    refine aw_getR (pc := 80) (r := 8) hM fd_X5_33 (st_ob ha_this) rfl dX5_attempt_80 ?_
    refine aw_getI (pc := 83) hM fd_X5_145 sk_8 rfl dX5_attempt_83 ?_
    refine aw_icmp_ne (pc := 86) (tgt := 114) hM dX5_attempt_86 (by decide) (fun c12 => ?_) (fun c12 => ?_)
    · rw [if_neg c12] at h
      obtain rfl := Option.some.inj h
      exact aw_vret (pc := 114) hM dX5_attempt_114 (Nat.le_of_ble_eq_true rfl) (Nat.le_of_ble_eq_true rfl) hq
    · rw [if_pos c12] at h
      refine aw_aload_n (pc := 89) (i := 0) (x := a_this) hM dX5_attempt_89 rfl rfl ?_
      refine aw_getR (pc := 90) (r := (a_this + 4)) hM fd_X5_21 (st_ob ha_this) rfl dX5_attempt_90 ?_
      refine aw_iload_n (pc := 93) (i := 1) (x := p0) hM dX5_attempt_93 rfl rfl ?_
      refine aw_iconst (pc := 94) (v := 0) hM dX5_attempt_94 (by decide) ?_
      obtain ⟨c13, h⟩ := ite_some h
      obtain ⟨F14, e15, h⟩ := bind_some h
      have e15 := Option.some.inj e15
      refine aw_iast (pc := 95) hM (st_a4 ha_this) c13 dX5_attempt_95 ?_
      refine aw_mem e15 ?_
      refine aw_aload_n (pc := 96) (i := 0) (x := a_this) hM dX5_attempt_96 rfl rfl ?_
      refine aw_getR (pc := 97) (r := (a_this + 5)) hM fd_X5_24 (st_ob ha_this) rfl dX5_attempt_97 ?_
      refine aw_iload_n (pc := 100) (i := 1) (x := p0) hM dX5_attempt_100 rfl rfl ?_
      refine aw_aload_n (pc := 101) (i := 0) (x := a_this) hM dX5_attempt_101 rfl rfl ?_
      refine aw_getI (pc := 102) hM fd_X5_43 (st_ob ha_this) rfl dX5_attempt_102 ?_
      refine aw_aload_n (pc := 105) (i := 0) (x := a_this) hM dX5_attempt_105 rfl rfl ?_
      refine aw_getR (pc := 106) (r := 8) hM fd_X5_33 (st_ob ha_this) rfl dX5_attempt_106 ?_
      refine aw_getI (pc := 109) hM fd_X5_148 sk_8 rfl dX5_attempt_109 ?_
      refine aw_iadd (pc := 112) hM dX5_attempt_112 ?_
      obtain ⟨c16, h⟩ := ite_some h
      obtain ⟨F17, e18, h⟩ := bind_some h
      have e18 := Option.some.inj e18
      refine aw_iast (pc := 113) hM (st_a5 ha_this) c16 dX5_attempt_113 ?_
      refine aw_mem e18 ?_
      obtain rfl := Option.some.inj h
      exact aw_vret (pc := 114) hM dX5_attempt_114 (Nat.le_of_ble_eq_true rfl) (Nat.le_of_ble_eq_true rfl) hq
  · rw [if_pos c2] at h
    refine aw_aload_n (pc := 9) (i := 0) (x := a_this) hM dX5_attempt_9 rfl rfl ?_
    refine aw_getR (pc := 10) (r := (a_this + 1)) hM fd_X5_9 (st_ob ha_this) rfl dX5_attempt_10 ?_
    refine aw_iload_n (pc := 13) (i := 1) (x := p0) hM dX5_attempt_13 rfl rfl ?_
    refine aw_aload_n (pc := 14) (i := 0) (x := a_this) hM dX5_attempt_14 rfl rfl ?_
    refine aw_getR (pc := 15) (r := (a_this + 1)) hM fd_X5_9 (st_ob ha_this) rfl dX5_attempt_15 ?_
    refine aw_iload_n (pc := 18) (i := 1) (x := p0) hM dX5_attempt_18 rfl rfl ?_
    obtain ⟨c19, h⟩ := ite_some h
    refine aw_iald (pc := 19) hM (st_a1 ha_this) c19 dX5_attempt_19 ?_
    refine aw_iload_n (pc := 20) (i := 2) (x := p1) hM dX5_attempt_20 rfl rfl ?_
    refine aw_aload_n (pc := 21) (i := 0) (x := a_this) hM dX5_attempt_21 rfl rfl ?_
    refine aw_getR (pc := 22) (r := (a_this + 2)) hM fd_X5_15 (st_ob ha_this) rfl dX5_attempt_22 ?_
    refine aw_iload_n (pc := 25) (i := 1) (x := p0) hM dX5_attempt_25 rfl rfl ?_
    obtain ⟨c20, h⟩ := ite_some h
    refine aw_iald (pc := 26) hM (st_a2 ha_this) c20 dX5_attempt_26 ?_
    refine aw_iload_n (pc := 27) (i := 2) (x := p1) hM dX5_attempt_27 rfl rfl ?_
    obtain ⟨r22, h21, h⟩ := bind_some h
    refine aw_cs1 (pc := 28) (n := 2) (As := [.int (F (a_this + 2) (ix p0)), .int p1]) (st := [.int p1, .int (F (a_this + 1) (ix p0)), .int p0, .ref (a_this + 1)]) (vo := (some (.int r22))) (c2 := 0) (s2 := 0) hM (k_X0_versionIn h21) rfl cw_X5_77 (by decide +kernel) rfl rfl ⟨(Nat.le_of_ble_eq_true rfl), (Nat.le_of_ble_eq_true rfl)⟩ (Nat.le_of_ble_eq_true rfl) ⟨(Nat.le_of_ble_eq_true rfl), (Nat.le_of_ble_eq_true rfl)⟩ dX5_attempt_28 rfl rfl ?_
    obtain ⟨r24, h23, h⟩ := bind_some h
    refine aw_cs1 (pc := 31) (n := 3) (As := [.int (F (a_this + 1) (ix p0)), .int p1, .int r22]) (st := [.int p0, .ref (a_this + 1)]) (vo := (some (.int r24))) (c2 := 0) (s2 := 0) hM (k_X0_with h23) rfl cw_X5_128 (by decide +kernel) rfl rfl ⟨(Nat.le_of_ble_eq_true rfl), (Nat.le_of_ble_eq_true rfl)⟩ (Nat.le_of_ble_eq_true rfl) ⟨(Nat.le_of_ble_eq_true rfl), (Nat.le_of_ble_eq_true rfl)⟩ dX5_attempt_31 rfl rfl ?_
    obtain ⟨c25, h⟩ := ite_some h
    obtain ⟨F26, e27, h⟩ := bind_some h
    have e27 := Option.some.inj e27
    refine aw_iast (pc := 34) hM (st_a1 ha_this) c25 dX5_attempt_34 ?_
    refine aw_mem e27 ?_
    refine aw_aload_n (pc := 35) (i := 0) (x := a_this) hM dX5_attempt_35 rfl rfl ?_
    refine aw_getR (pc := 36) (r := (a_this + 4)) hM fd_X5_21 (st_ob ha_this) rfl dX5_attempt_36 ?_
    refine aw_iload_n (pc := 39) (i := 1) (x := p0) hM dX5_attempt_39 rfl rfl ?_
    refine aw_iconst (pc := 40) (v := 0) hM dX5_attempt_40 (by decide) ?_
    obtain ⟨c28, h⟩ := ite_some h
    obtain ⟨F29, e30, h⟩ := bind_some h
    have e30 := Option.some.inj e30
    refine aw_iast (pc := 41) hM (st_a4 ha_this) c28 dX5_attempt_41 ?_
    refine aw_mem e30 ?_
    refine aw_aload_n (pc := 42) (i := 0) (x := a_this) hM dX5_attempt_42 rfl rfl ?_
    refine aw_dup (pc := 43) hM dX5_attempt_43 rfl ?_
    refine aw_getI (pc := 44) hM fd_X5_47 (st_ob ha_this) rfl dX5_attempt_44 ?_
    refine aw_iconst (pc := 47) (v := 1) hM dX5_attempt_47 (by decide) ?_
    refine aw_iadd (pc := 48) hM dX5_attempt_48 ?_
    obtain ⟨F31, e32, h⟩ := bind_some h
    have e32 := Option.some.inj e32
    refine aw_put (pc := 49) (ty := .int) hM fd_X5_47 tyX5_ok nmX5 rfl (by decide +kernel) rfl rfl (st_ob ha_this) rfl dX5_attempt_49 ?_
    refine aw_mem e32 ?_
    obtain rfl := Option.some.inj h
    exact aw_vret (pc := 52) hM dX5_attempt_52 (Nat.le_of_ble_eq_true rfl) (Nat.le_of_ble_eq_true rfl) hq
def rmX5_passTicks : Room := { frames := 4, cells := 0, slots := 0, locals := 89 }
def s_X5_passTicks_b19 (a_this : Nat) (k2 : MM → Int32 → Int32 → Option MM) : Nat → MM → Int32 → Int32 → Int32 → Option MM
  | 0, _, _, _, _ => none
  | n + 1, F, x1, x2, x3 => if (F 8 0) ≤ x3 then (some (x2 + 1 : Int32)).bind (fun y5 => k2 F x1 y5) else (s_X5_readyOn F a_this x3).bind (fun r8 => if r8 = (-9) then (some (x3 + 1 : Int32)).bind (fun y10 => s_X5_passTicks_b19 a_this k2 n F x1 x2 y10) else (s_X5_attempt F a_this x3 r8).bind (fun F13 => (some (x3 + 1 : Int32)).bind (fun y14 => s_X5_passTicks_b19 a_this k2 n F13 x1 x2 y14)))
def s_X5_passTicks_b2 (a_this : Nat) : Nat → MM → Int32 → Int32 → Option MM
  | 0, _, _, _ => none
  | n + 1, F, x1, x2 => if x1 ≤ x2 then some F else (some (mup F a_this 8 ((F a_this 8) + 1))).bind (fun F2 => s_X5_passTicks_b19 a_this (s_X5_passTicks_b2 a_this n) fu_ F2 x1 x2 0)
def s_X5_passTicks (F : MM) (a_this : Nat) (p0 : Int32) : Option MM := s_X5_passTicks_b2 a_this fu_ F p0 0
set_option maxRecDepth 20000 in
theorem k_X5_passTicks_b19 {C : CX} {M : MX} {G : GG} {Q : OUT → MM → GG → Prop} {a_this : Nat} {k2 : MM → Int32 → Int32 → Option MM} {r : MM}  (ha_this : isSt a_this)(hM : MOk C RX5 cX5_passTicks 5 none rmX5_passTicks M) (hT : MNoT M) (hk2 : ∀ (wF : MM) (w0 : Int32) (w1 : Int32), k2 wF w0 w1 = some r → AW C 5 (ZM C rmX5_passTicks Q M) M 0 0 2 [some (.ref a_this), some (.int w0), some (.int w1), none, none] [] wF G) (hq : Q (.inl none) r G) : ∀ (n : Nat) (F : MM) (x1 : Int32) (x2 : Int32) (x3 : Int32), s_X5_passTicks_b19 a_this k2 n F x1 x2 x3 = some r → AW C 5 (ZM C rmX5_passTicks Q M) M 0 0 19 [some (.ref a_this), some (.int x1), some (.int x2), some (.int x3), none] [] F G := by
  intro n
  induction n with
  | zero => intro F x1 x2 x3 h; exact nomatch h
  | succ n ih =>
    intro F x1 x2 x3 h
    rw [s_X5_passTicks_b19] at h
    refine aw_iload_n (pc := 19) (i := 3) (x := x3) hM dX5_passTicks_19 rfl rfl ?_
    refine aw_aload_n (pc := 20) (i := 0) (x := a_this) hM dX5_passTicks_20 rfl rfl ?_
    refine aw_getR (pc := 21) (r := 8) hM fd_X5_33 (st_ob ha_this) rfl dX5_passTicks_21 ?_
    refine aw_getI (pc := 24) hM fd_X5_70 sk_8 rfl dX5_passTicks_24 ?_
    refine aw_icmp_ge (pc := 27) (tgt := 57) hM dX5_passTicks_27 (by decide) (fun c4 => ?_) (fun c4 => ?_)
    · rw [if_pos c4] at h
      obtain ⟨y5, e6, h⟩ := bind_some h
      have e6 := Option.some.inj e6
      refine aw_iinc (pc := 57) (v := y5) (L' := [some (.ref a_this), some (.int x1), some (.int y5), some (.int x3), none]) hM dX5_passTicks_57 rfl e6 (by decide) rfl ?_
      refine aw_goto (pc := 60) (tgt := 2) hM dX5_passTicks_60 (by decide) ?_
      refine aw_weak (L' := [some (.ref a_this), some (.int x1), some (.int y5), none, none]) ?_ (lw_of [true, true, true, false, true] rfl)
      exact hk2 F x1 y5 h
    · rw [if_neg c4] at h
      refine aw_aload_n (pc := 30) (i := 0) (x := a_this) hM dX5_passTicks_30 rfl rfl ?_
      refine aw_iload_n (pc := 31) (i := 3) (x := x3) hM dX5_passTicks_31 rfl rfl ?_
      obtain ⟨r8, h7, h⟩ := bind_some h
      refine aw_cv1 (pc := 32) (n := 1) (As := [.int x3]) (st := []) (b := a_this) (vo := (some (.int r8))) (c2 := 0) (s2 := 0) hM (k_X5_readyOn ha_this h7) rfl cw_X5_138 (st_ob ha_this) rfl rfl (by decide +kernel) rfl rfl ⟨(Nat.le_of_ble_eq_true rfl), (Nat.le_of_ble_eq_true rfl)⟩ (Nat.le_of_ble_eq_true rfl) ⟨(Nat.le_of_ble_eq_true rfl), (Nat.le_of_ble_eq_true rfl)⟩ dX5_passTicks_32 rfl rfl ?_
      refine aw_istore (pc := 35) (i := 4) (L' := [some (.ref a_this), some (.int x1), some (.int x2), some (.int x3), some (.int r8)]) hM dX5_passTicks_35  (by decide) rfl ?_
      refine aw_iload (pc := 37) (i := 4) (x := r8) hM dX5_passTicks_37  rfl ?_
      refine aw_bipush (pc := 39) (v := (-9)) hM dX5_passTicks_39 (by decide) ?_
      refine aw_icmp_eq (pc := 41) (tgt := 51) hM dX5_passTicks_41 (by decide) (fun c9 => ?_) (fun c9 => ?_)
      · rw [if_pos c9] at h
        obtain ⟨y10, e11, h⟩ := bind_some h
        have e11 := Option.some.inj e11
        refine aw_iinc (pc := 51) (v := y10) (L' := [some (.ref a_this), some (.int x1), some (.int x2), some (.int y10), some (.int r8)]) hM dX5_passTicks_51 rfl e11 (by decide) rfl ?_
        refine aw_goto (pc := 54) (tgt := 19) hM dX5_passTicks_54 (by decide) ?_
        refine aw_weak (L' := [some (.ref a_this), some (.int x1), some (.int x2), some (.int y10), none]) ?_ (lw_of [true, true, true, true, false] rfl)
        exact ih F x1 x2 y10 h
      · rw [if_neg c9] at h
        refine aw_aload_n (pc := 44) (i := 0) (x := a_this) hM dX5_passTicks_44 rfl rfl ?_
        refine aw_iload_n (pc := 45) (i := 3) (x := x3) hM dX5_passTicks_45 rfl rfl ?_
        refine aw_iload (pc := 46) (i := 4) (x := r8) hM dX5_passTicks_46  rfl ?_
        obtain ⟨F13, h12, h⟩ := bind_some h
        refine aw_cv1 (pc := 48) (n := 2) (As := [.int x3, .int r8]) (st := []) (b := a_this) (vo := none) (c2 := 0) (s2 := 0) hM (k_X5_attempt ha_this h12) rfl cw_X5_141 (st_ob ha_this) rfl rfl (by decide +kernel) rfl rfl ⟨(Nat.le_of_ble_eq_true rfl), (Nat.le_of_ble_eq_true rfl)⟩ (Nat.le_of_ble_eq_true rfl) ⟨(Nat.le_of_ble_eq_true rfl), (Nat.le_of_ble_eq_true rfl)⟩ dX5_passTicks_48 rfl rfl ?_
        obtain ⟨y14, e15, h⟩ := bind_some h
        have e15 := Option.some.inj e15
        refine aw_iinc (pc := 51) (v := y14) (L' := [some (.ref a_this), some (.int x1), some (.int x2), some (.int y14), some (.int r8)]) hM dX5_passTicks_51 rfl e15 (by decide) rfl ?_
        refine aw_goto (pc := 54) (tgt := 19) hM dX5_passTicks_54 (by decide) ?_
        refine aw_weak (L' := [some (.ref a_this), some (.int x1), some (.int x2), some (.int y14), none]) ?_ (lw_of [true, true, true, true, false] rfl)
        exact ih F13 x1 x2 y14 h
set_option maxRecDepth 20000 in
theorem k_X5_passTicks_b2 {C : CX} {M : MX} {G : GG} {Q : OUT → MM → GG → Prop} {a_this : Nat} {r : MM}  (ha_this : isSt a_this)(hM : MOk C RX5 cX5_passTicks 5 none rmX5_passTicks M) (hT : MNoT M) (hq : Q (.inl none) r G) : ∀ (n : Nat) (F : MM) (x1 : Int32) (x2 : Int32), s_X5_passTicks_b2 a_this n F x1 x2 = some r → AW C 5 (ZM C rmX5_passTicks Q M) M 0 0 2 [some (.ref a_this), some (.int x1), some (.int x2), none, none] [] F G := by
  intro n
  induction n with
  | zero => intro F x1 x2 h; exact nomatch h
  | succ n ih =>
    intro F x1 x2 h
    rw [s_X5_passTicks_b2] at h
    refine aw_iload_n (pc := 2) (i := 2) (x := x2) hM dX5_passTicks_2 rfl rfl ?_
    refine aw_iload_n (pc := 3) (i := 1) (x := x1) hM dX5_passTicks_3 rfl rfl ?_
    refine aw_icmp_ge (pc := 4) (tgt := 63) hM dX5_passTicks_4 (by decide) (fun c1 => ?_) (fun c1 => ?_)
    · rw [if_pos c1] at h
      obtain rfl := Option.some.inj h
      exact aw_vret (pc := 63) hM dX5_passTicks_63 (Nat.le_of_ble_eq_true rfl) (Nat.le_of_ble_eq_true rfl) hq
    · rw [if_neg c1] at h
      refine aw_aload_n (pc := 7) (i := 0) (x := a_this) hM dX5_passTicks_7 rfl rfl ?_
      refine aw_dup (pc := 8) hM dX5_passTicks_8 rfl ?_
      refine aw_getI (pc := 9) hM fd_X5_43 (st_ob ha_this) rfl dX5_passTicks_9 ?_
      refine aw_iconst (pc := 12) (v := 1) hM dX5_passTicks_12 (by decide) ?_
      refine aw_iadd (pc := 13) hM dX5_passTicks_13 ?_
      obtain ⟨F2, e3, h⟩ := bind_some h
      have e3 := Option.some.inj e3
      refine aw_put (pc := 14) (ty := .int) hM fd_X5_43 tyX5_ok nmX5 rfl (by decide +kernel) rfl rfl (st_ob ha_this) rfl dX5_passTicks_14 ?_
      refine aw_mem e3 ?_
      refine aw_iconst (pc := 17) (v := 0) hM dX5_passTicks_17 (by decide) ?_
      refine aw_istore_n (pc := 18) (i := 3) (L' := [some (.ref a_this), some (.int x1), some (.int x2), some (.int 0), none]) hM dX5_passTicks_18 rfl (by decide) rfl ?_
      exact k_X5_passTicks_b19 ha_this hM hT (fun wF w0 w1 h9 => ih wF w0 w1 h9) hq fu_ F2 x1 x2 0 h
set_option maxRecDepth 20000 in
theorem k_X5_passTicks {C : CX} {F : MM} {G : GG} {a_this : Nat} {p0 : Int32} {r : MM} (ha_this : isSt a_this) (h : s_X5_passTicks F a_this p0 = some r) : AM C yX5_passTicks cX5_passTicks 5 none rmX5_passTicks [.ref a_this, .int p0] F G (fun o F9 G9 => o = (.inl none) ∧ F9 = r ∧ G9 = G) := by
  refine am_of (L := [some (.ref a_this), some (.int p0), none, none, none]) (by decide) (Nat.le_of_ble_eq_true rfl) rfl (fun M hM hT => ?_)
  have hM : MOk C RX5 cX5_passTicks 5 none rmX5_passTicks M := hM
  obtain ⟨Q, hQ⟩ : ∃ Q : OUT → MM → GG → Prop, Q = (fun o F9 G9 => o = (.inl none) ∧ F9 = r ∧ G9 = G) := ⟨_, rfl⟩
  have hq : Q (.inl none) r G := by rw [hQ]; exact ⟨rfl, rfl, rfl⟩
  rw [← hQ]
  clear hQ
  rw [s_X5_passTicks] at h
  refine aw_iconst (pc := 0) (v := 0) hM dX5_passTicks_0 (by decide) ?_
  refine aw_istore_n (pc := 1) (i := 2) (L' := [some (.ref a_this), some (.int p0), some (.int 0), none, none]) hM dX5_passTicks_1 rfl (by decide) rfl ?_
  exact k_X5_passTicks_b2 ha_this hM hT hq fu_ F p0 0 h
def rmX1_succeeds : Room := { frames := 5, cells := 0, slots := 0, locals := 113 }
def s_X1_succeeds (F : MM) (q0 : Nat) (p1 : Int32) : Option (Int32 × MM) := (some ((p1 / 100) - (p1 / 100) / 10 * 10 : Int32)).bind (fun y1 => (some ((p1 / 10) - (p1 / 10) / 10 * 10 : Int32)).bind (fun y3 => (some (p1 - p1 / 10 * 10 : Int32)).bind (fun y5 => if (p1 / 1000) = 1 then (s_X1_setVersion F (q0 + 2) y1 y3 y5).bind (fun z10 => if z10.1 &&& 1 = z10.1 then (some (z10.1, z10.2)) else none) else if (p1 / 1000) = 2 then (s_X1_setVersion F (q0 + 1) y1 y3 y5).bind (fun z15 => if z15.1 &&& 1 = z15.1 then (some (z15.1, z15.2)) else none) else if (p1 / 1000) = 3 then (s_X1_addApproval F q0 y1 y3 y5).bind (fun z20 => if z20.1 &&& 1 = z20.1 then (some (z20.1, z20.2)) else none) else if (p1 / 1000) = 4 then if y1 = 0 then if ((10 * y3) + y5) < 1 then some (0, F) else if ((10 * y3) + y5) ≤ 50 then (s_X5_passTicks F q0 ((10 * y3) + y5)).bind (fun F27 => some (1, F27)) else some (0, F) else some (0, F) else if (p1 / 1000) = 5 then if y3 = 0 then (s_X1_giveFaults F q0 y1 y5).bind (fun z32 => if z32.1 = 0 then some (0, z32.2) else some (1, z32.2)) else some (0, F) else if (p1 / 1000) = 6 then (s_X3_has F y1 y3).bind (fun r36 => if r36 = 0 then some (0, F) else if inb y1 5 then ((s_X0_versionIn F (F (q0 + 1) (ix y1)) y3).bind (fun r40 => if r40 = y5 then some (1, F) else some (0, F))) else none) else if (p1 / 1000) = 7 then (s_X3_has F y1 y3).bind (fun r44 => if r44 = 0 then some (0, F) else (s_X5_stateOf F q0 y1 y3).bind (fun r47 => if r47 = y5 then some (1, F) else some (0, F))) else if (p1 / 1000) = 8 then if y1 = 0 then if (F q0 9) < ((10 * y3) + y5) then some (0, F) else some (1, F) else some (0, F) else some (0, F))))
set_option maxRecDepth 20000 in
theorem k_X1_succeeds {C : CX} {F : MM} {G : GG} {q0 : Nat} {p1 : Int32} {r : (Int32 × MM)} (hq0 : isSt q0) (h : s_X1_succeeds F q0 p1 = some r) : AM C yX1_succeeds cX1_succeeds 5 (some .boolean) rmX1_succeeds [.ref q0, .int p1] F G (fun o F9 G9 => o = (.inl (some (.int r.1))) ∧ F9 = r.2 ∧ G9 = G) := by
  refine am_of (L := [some (.ref q0), some (.int p1), none, none, none]) (by decide) (Nat.le_of_ble_eq_true rfl) rfl (fun M hM hT => ?_)
  have hM : MOk C RX1 cX1_succeeds 5 (some .boolean) rmX1_succeeds M := hM
  obtain ⟨Q, hQ⟩ : ∃ Q : OUT → MM → GG → Prop, Q = (fun o F9 G9 => o = (.inl (some (.int r.1))) ∧ F9 = r.2 ∧ G9 = G) := ⟨_, rfl⟩
  have hq : Q (.inl (some (.int r.1))) r.2 G := by rw [hQ]; exact ⟨rfl, rfl, rfl⟩
  rw [← hQ]
  clear hQ
  rw [s_X1_succeeds] at h
  refine aw_iload_n (pc := 0) (i := 1) (x := p1) hM dX1_succeeds_0 rfl rfl ?_
  refine aw_bipush (pc := 1) (v := 100) hM dX1_succeeds_1 (by decide) ?_
  refine aw_idiv (pc := 3) hM dX1_succeeds_3 (by decide) ?_
  refine aw_bipush (pc := 4) (v := 10) hM dX1_succeeds_4 (by decide) ?_
  refine aw_irem (pc := 6) hM dX1_succeeds_6 (by decide) ?_
  obtain ⟨y1, e2, h⟩ := bind_some h
  have e2 := Option.some.inj e2
  refine aw_topi e2 ?_
  refine aw_istore_n (pc := 7) (i := 2) (L' := [some (.ref q0), some (.int p1), some (.int y1), none, none]) hM dX1_succeeds_7 rfl (by decide) rfl ?_
  refine aw_iload_n (pc := 8) (i := 1) (x := p1) hM dX1_succeeds_8 rfl rfl ?_
  refine aw_bipush (pc := 9) (v := 10) hM dX1_succeeds_9 (by decide) ?_
  refine aw_idiv (pc := 11) hM dX1_succeeds_11 (by decide) ?_
  refine aw_bipush (pc := 12) (v := 10) hM dX1_succeeds_12 (by decide) ?_
  refine aw_irem (pc := 14) hM dX1_succeeds_14 (by decide) ?_
  obtain ⟨y3, e4, h⟩ := bind_some h
  have e4 := Option.some.inj e4
  refine aw_topi e4 ?_
  refine aw_istore_n (pc := 15) (i := 3) (L' := [some (.ref q0), some (.int p1), some (.int y1), some (.int y3), none]) hM dX1_succeeds_15 rfl (by decide) rfl ?_
  refine aw_iload_n (pc := 16) (i := 1) (x := p1) hM dX1_succeeds_16 rfl rfl ?_
  refine aw_bipush (pc := 17) (v := 10) hM dX1_succeeds_17 (by decide) ?_
  refine aw_irem (pc := 19) hM dX1_succeeds_19 (by decide) ?_
  obtain ⟨y5, e6, h⟩ := bind_some h
  have e6 := Option.some.inj e6
  refine aw_topi e6 ?_
  refine aw_istore (pc := 20) (i := 4) (L' := [some (.ref q0), some (.int p1), some (.int y1), some (.int y3), some (.int y5)]) hM dX1_succeeds_20  (by decide) rfl ?_
  refine aw_iload_n (pc := 22) (i := 1) (x := p1) hM dX1_succeeds_22 rfl rfl ?_
  refine aw_sipush (pc := 23) (v := 1000) hM dX1_succeeds_23 (by decide) ?_
  refine aw_idiv (pc := 26) hM dX1_succeeds_26 (by decide) ?_
  by_cases c7 : (p1 / 1000) = 1
  · rw [if_pos c7] at h
    refine aw_tableIn (pc := 27) (off := 45) (tgt := 72) hM dX1_succeeds_27 (by rw [c7]; decide) (by rw [c7]; decide) (by rw [c7]; rfl) (by decide) ?_
    refine aw_aload_n (pc := 72) (i := 0) (x := q0) hM dX1_succeeds_72 rfl rfl ?_
    refine aw_getNest (pc := 73) (r := 8) hM uw_X5 (st_ob hq0) rfl dX1_succeeds_73 ?_
    refine aw_aload_n (pc := 76) (i := 0) (x := q0) hM dX1_succeeds_76 rfl rfl ?_
    refine aw_getR (pc := 77) (r := (q0 + 2)) hM fd_X1_15 (st_ob hq0) rfl dX1_succeeds_77 ?_
    refine aw_iload_n (pc := 80) (i := 2) (x := y1) hM dX1_succeeds_80 rfl rfl ?_
    refine aw_iload_n (pc := 81) (i := 3) (x := y3) hM dX1_succeeds_81 rfl rfl ?_
    refine aw_iload (pc := 82) (i := 4) (x := y5) hM dX1_succeeds_82  rfl ?_
    obtain ⟨z10, h8, h⟩ := bind_some h
    refine aw_cs1 (pc := 84) (n := 5) (As := [.ref 8, .ref (q0 + 2), .int y1, .int y3, .int y5]) (st := []) (vo := (some (.int z10.1))) (c2 := 0) (s2 := 0) hM (k_X1_setVersion (ia_of (st_a2 hq0)) h8) rfl cw_X1_19 (by decide +kernel) rfl rfl ⟨(Nat.le_of_ble_eq_true rfl), (Nat.le_of_ble_eq_true rfl)⟩ (Nat.le_of_ble_eq_true rfl) ⟨(Nat.le_of_ble_eq_true rfl), (Nat.le_of_ble_eq_true rfl)⟩ dX1_succeeds_84 rfl rfl ?_
    obtain ⟨c11, h⟩ := ite_some h
    obtain rfl := Option.some.inj h
    exact aw_zret (pc := 87) hM dX1_succeeds_87 c11 (Nat.le_of_ble_eq_true rfl) (Nat.le_of_ble_eq_true rfl) hq
  rw [if_neg c7] at h
  by_cases c12 : (p1 / 1000) = 2
  · rw [if_pos c12] at h
    refine aw_tableIn (pc := 27) (off := 61) (tgt := 88) hM dX1_succeeds_27 (by rw [c12]; decide) (by rw [c12]; decide) (by rw [c12]; rfl) (by decide) ?_
    refine aw_aload_n (pc := 88) (i := 0) (x := q0) hM dX1_succeeds_88 rfl rfl ?_
    refine aw_getNest (pc := 89) (r := 8) hM uw_X5 (st_ob hq0) rfl dX1_succeeds_89 ?_
    refine aw_aload_n (pc := 92) (i := 0) (x := q0) hM dX1_succeeds_92 rfl rfl ?_
    refine aw_getR (pc := 93) (r := (q0 + 1)) hM fd_X1_25 (st_ob hq0) rfl dX1_succeeds_93 ?_
    refine aw_iload_n (pc := 96) (i := 2) (x := y1) hM dX1_succeeds_96 rfl rfl ?_
    refine aw_iload_n (pc := 97) (i := 3) (x := y3) hM dX1_succeeds_97 rfl rfl ?_
    refine aw_iload (pc := 98) (i := 4) (x := y5) hM dX1_succeeds_98  rfl ?_
    obtain ⟨z15, h13, h⟩ := bind_some h
    refine aw_cs1 (pc := 100) (n := 5) (As := [.ref 8, .ref (q0 + 1), .int y1, .int y3, .int y5]) (st := []) (vo := (some (.int z15.1))) (c2 := 0) (s2 := 0) hM (k_X1_setVersion (ia_of (st_a1 hq0)) h13) rfl cw_X1_19 (by decide +kernel) rfl rfl ⟨(Nat.le_of_ble_eq_true rfl), (Nat.le_of_ble_eq_true rfl)⟩ (Nat.le_of_ble_eq_true rfl) ⟨(Nat.le_of_ble_eq_true rfl), (Nat.le_of_ble_eq_true rfl)⟩ dX1_succeeds_100 rfl rfl ?_
    obtain ⟨c16, h⟩ := ite_some h
    obtain rfl := Option.some.inj h
    exact aw_zret (pc := 103) hM dX1_succeeds_103 c16 (Nat.le_of_ble_eq_true rfl) (Nat.le_of_ble_eq_true rfl) hq
  rw [if_neg c12] at h
  by_cases c17 : (p1 / 1000) = 3
  · rw [if_pos c17] at h
    refine aw_tableIn (pc := 27) (off := 77) (tgt := 104) hM dX1_succeeds_27 (by rw [c17]; decide) (by rw [c17]; decide) (by rw [c17]; rfl) (by decide) ?_
    refine aw_aload_n (pc := 104) (i := 0) (x := q0) hM dX1_succeeds_104 rfl rfl ?_
    refine aw_iload_n (pc := 105) (i := 2) (x := y1) hM dX1_succeeds_105 rfl rfl ?_
    refine aw_iload_n (pc := 106) (i := 3) (x := y3) hM dX1_succeeds_106 rfl rfl ?_
    refine aw_iload (pc := 107) (i := 4) (x := y5) hM dX1_succeeds_107  rfl ?_
    obtain ⟨z20, h18, h⟩ := bind_some h
    refine aw_cs1 (pc := 109) (n := 4) (As := [.ref q0, .int y1, .int y3, .int y5]) (st := []) (vo := (some (.int z20.1))) (c2 := 0) (s2 := 0) hM (k_X1_addApproval hq0 h18) rfl cw_X1_28 (by decide +kernel) rfl rfl ⟨(Nat.le_of_ble_eq_true rfl), (Nat.le_of_ble_eq_true rfl)⟩ (Nat.le_of_ble_eq_true rfl) ⟨(Nat.le_of_ble_eq_true rfl), (Nat.le_of_ble_eq_true rfl)⟩ dX1_succeeds_109 rfl rfl ?_
    obtain ⟨c21, h⟩ := ite_some h
    obtain rfl := Option.some.inj h
    exact aw_zret (pc := 112) hM dX1_succeeds_112 c21 (Nat.le_of_ble_eq_true rfl) (Nat.le_of_ble_eq_true rfl) hq
  rw [if_neg c17] at h
  by_cases c22 : (p1 / 1000) = 4
  · rw [if_pos c22] at h
    refine aw_tableIn (pc := 27) (off := 86) (tgt := 113) hM dX1_succeeds_27 (by rw [c22]; decide) (by rw [c22]; decide) (by rw [c22]; rfl) (by decide) ?_
    refine aw_iload_n (pc := 113) (i := 2) (x := y1) hM dX1_succeeds_113 rfl rfl ?_
    refine aw_if_ne (pc := 114) (tgt := 140) hM dX1_succeeds_114 (by decide) (fun c23 => ?_) (fun c23 => ?_)
    · rw [if_neg c23] at h
      refine aw_iconst (pc := 140) (v := 0) hM dX1_succeeds_140 (by decide) ?_
      obtain rfl := Option.some.inj h
      exact aw_zret (pc := 141) hM dX1_succeeds_141 (by decide) (Nat.le_of_ble_eq_true rfl) (Nat.le_of_ble_eq_true rfl) hq
    · rw [if_pos c23] at h
      refine aw_bipush (pc := 117) (v := 10) hM dX1_succeeds_117 (by decide) ?_
      refine aw_iload_n (pc := 119) (i := 3) (x := y3) hM dX1_succeeds_119 rfl rfl ?_
      refine aw_imul (pc := 120) hM dX1_succeeds_120 ?_
      refine aw_iload (pc := 121) (i := 4) (x := y5) hM dX1_succeeds_121  rfl ?_
      refine aw_iadd (pc := 123) hM dX1_succeeds_123 ?_
      refine aw_iconst (pc := 124) (v := 1) hM dX1_succeeds_124 (by decide) ?_
      refine aw_icmp_lt (pc := 125) (tgt := 140) hM dX1_succeeds_125 (by decide) (fun c24 => ?_) (fun c24 => ?_)
      · rw [if_pos c24] at h
        refine aw_iconst (pc := 140) (v := 0) hM dX1_succeeds_140 (by decide) ?_
        obtain rfl := Option.some.inj h
        exact aw_zret (pc := 141) hM dX1_succeeds_141 (by decide) (Nat.le_of_ble_eq_true rfl) (Nat.le_of_ble_eq_true rfl) hq
      · rw [if_neg c24] at h
        refine aw_bipush (pc := 128) (v := 10) hM dX1_succeeds_128 (by decide) ?_
        refine aw_iload_n (pc := 130) (i := 3) (x := y3) hM dX1_succeeds_130 rfl rfl ?_
        refine aw_imul (pc := 131) hM dX1_succeeds_131 ?_
        refine aw_iload (pc := 132) (i := 4) (x := y5) hM dX1_succeeds_132  rfl ?_
        refine aw_iadd (pc := 134) hM dX1_succeeds_134 ?_
        refine aw_bipush (pc := 135) (v := 50) hM dX1_succeeds_135 (by decide) ?_
        refine aw_icmp_le (pc := 137) (tgt := 142) hM dX1_succeeds_137 (by decide) (fun c25 => ?_) (fun c25 => ?_)
        · rw [if_pos c25] at h
          refine aw_aload_n (pc := 142) (i := 0) (x := q0) hM dX1_succeeds_142 rfl rfl ?_
          refine aw_bipush (pc := 143) (v := 10) hM dX1_succeeds_143 (by decide) ?_
          refine aw_iload_n (pc := 145) (i := 3) (x := y3) hM dX1_succeeds_145 rfl rfl ?_
          refine aw_imul (pc := 146) hM dX1_succeeds_146 ?_
          refine aw_iload (pc := 147) (i := 4) (x := y5) hM dX1_succeeds_147  rfl ?_
          refine aw_iadd (pc := 149) hM dX1_succeeds_149 ?_
          obtain ⟨F27, h26, h⟩ := bind_some h
          refine aw_cv1 (pc := 150) (n := 1) (As := [.int ((10 * y3) + y5)]) (st := []) (b := q0) (vo := none) (c2 := 0) (s2 := 0) hM (k_X5_passTicks hq0 h26) rfl cw_X1_32 (st_ob hq0) rfl rfl (by decide +kernel) rfl rfl ⟨(Nat.le_of_ble_eq_true rfl), (Nat.le_of_ble_eq_true rfl)⟩ (Nat.le_of_ble_eq_true rfl) ⟨(Nat.le_of_ble_eq_true rfl), (Nat.le_of_ble_eq_true rfl)⟩ dX1_succeeds_150 rfl rfl ?_
          refine aw_iconst (pc := 153) (v := 1) hM dX1_succeeds_153 (by decide) ?_
          obtain rfl := Option.some.inj h
          exact aw_zret (pc := 154) hM dX1_succeeds_154 (by decide) (Nat.le_of_ble_eq_true rfl) (Nat.le_of_ble_eq_true rfl) hq
        · rw [if_neg c25] at h
          refine aw_iconst (pc := 140) (v := 0) hM dX1_succeeds_140 (by decide) ?_
          obtain rfl := Option.some.inj h
          exact aw_zret (pc := 141) hM dX1_succeeds_141 (by decide) (Nat.le_of_ble_eq_true rfl) (Nat.le_of_ble_eq_true rfl) hq
  rw [if_neg c22] at h
  by_cases c28 : (p1 / 1000) = 5
  · rw [if_pos c28] at h
    refine aw_tableIn (pc := 27) (off := 128) (tgt := 155) hM dX1_succeeds_27 (by rw [c28]; decide) (by rw [c28]; decide) (by rw [c28]; rfl) (by decide) ?_
    refine aw_iload_n (pc := 155) (i := 3) (x := y3) hM dX1_succeeds_155 rfl rfl ?_
    refine aw_if_ne (pc := 156) (tgt := 173) hM dX1_succeeds_156 (by decide) (fun c29 => ?_) (fun c29 => ?_)
    · rw [if_neg c29] at h
      refine aw_iconst (pc := 173) (v := 0) hM dX1_succeeds_173 (by decide) ?_
      obtain rfl := Option.some.inj h
      exact aw_zret (pc := 174) hM dX1_succeeds_174 (by decide) (Nat.le_of_ble_eq_true rfl) (Nat.le_of_ble_eq_true rfl) hq
    · rw [if_pos c29] at h
      refine aw_aload_n (pc := 159) (i := 0) (x := q0) hM dX1_succeeds_159 rfl rfl ?_
      refine aw_iload_n (pc := 160) (i := 2) (x := y1) hM dX1_succeeds_160 rfl rfl ?_
      refine aw_iload (pc := 161) (i := 4) (x := y5) hM dX1_succeeds_161  rfl ?_
      obtain ⟨z32, h30, h⟩ := bind_some h
      refine aw_cs1 (pc := 163) (n := 3) (As := [.ref q0, .int y1, .int y5]) (st := []) (vo := (some (.int z32.1))) (c2 := 0) (s2 := 0) hM (k_X1_giveFaults hq0 h30) rfl cw_X1_36 (by decide +kernel) rfl rfl ⟨(Nat.le_of_ble_eq_true rfl), (Nat.le_of_ble_eq_true rfl)⟩ (Nat.le_of_ble_eq_true rfl) ⟨(Nat.le_of_ble_eq_true rfl), (Nat.le_of_ble_eq_true rfl)⟩ dX1_succeeds_163 rfl rfl ?_
      refine aw_if_eq (pc := 166) (tgt := 173) hM dX1_succeeds_166 (by decide) (fun c33 => ?_) (fun c33 => ?_)
      · rw [if_pos c33] at h
        refine aw_iconst (pc := 173) (v := 0) hM dX1_succeeds_173 (by decide) ?_
        obtain rfl := Option.some.inj h
        exact aw_zret (pc := 174) hM dX1_succeeds_174 (by decide) (Nat.le_of_ble_eq_true rfl) (Nat.le_of_ble_eq_true rfl) hq
      · rw [if_neg c33] at h
        refine aw_iconst (pc := 169) (v := 1) hM dX1_succeeds_169 (by decide) ?_
        refine aw_goto (pc := 170) (tgt := 174) hM dX1_succeeds_170 (by decide) ?_
        obtain rfl := Option.some.inj h
        exact aw_zret (pc := 174) hM dX1_succeeds_174 (by decide) (Nat.le_of_ble_eq_true rfl) (Nat.le_of_ble_eq_true rfl) hq
  rw [if_neg c28] at h
  by_cases c34 : (p1 / 1000) = 6
  · rw [if_pos c34] at h
    refine aw_tableIn (pc := 27) (off := 148) (tgt := 175) hM dX1_succeeds_27 (by rw [c34]; decide) (by rw [c34]; decide) (by rw [c34]; rfl) (by decide) ?_
    refine aw_aload_n (pc := 175) (i := 0) (x := q0) hM dX1_succeeds_175 rfl rfl ?_
    refine aw_getNest (pc := 176) (r := 8) hM uw_X5 (st_ob hq0) rfl dX1_succeeds_176 ?_
    refine aw_iload_n (pc := 179) (i := 2) (x := y1) hM dX1_succeeds_179 rfl rfl ?_
    refine aw_iload_n (pc := 180) (i := 3) (x := y3) hM dX1_succeeds_180 rfl rfl ?_
    obtain ⟨r36, h35, h⟩ := bind_some h
    refine aw_cv1 (pc := 181) (n := 2) (As := [.int y1, .int y3]) (st := []) (b := 8) (vo := (some (.int r36))) (c2 := 0) (s2 := 0) hM (k_X3_has h35) rfl cw_X1_40 sk_8 rfl rfl (by decide +kernel) rfl rfl ⟨(Nat.le_of_ble_eq_true rfl), (Nat.le_of_ble_eq_true rfl)⟩ (Nat.le_of_ble_eq_true rfl) ⟨(Nat.le_of_ble_eq_true rfl), (Nat.le_of_ble_eq_true rfl)⟩ dX1_succeeds_181 rfl rfl ?_
    refine aw_if_eq (pc := 184) (tgt := 206) hM dX1_succeeds_184 (by decide) (fun c37 => ?_) (fun c37 => ?_)
    · rw [if_pos c37] at h
      refine aw_iconst (pc := 206) (v := 0) hM dX1_succeeds_206 (by decide) ?_
      obtain rfl := Option.some.inj h
      exact aw_zret (pc := 207) hM dX1_succeeds_207 (by decide) (Nat.le_of_ble_eq_true rfl) (Nat.le_of_ble_eq_true rfl) hq
    · rw [if_neg c37] at h
      refine aw_aload_n (pc := 187) (i := 0) (x := q0) hM dX1_succeeds_187 rfl rfl ?_
      refine aw_getR (pc := 188) (r := (q0 + 1)) hM fd_X1_25 (st_ob hq0) rfl dX1_succeeds_188 ?_
      refine aw_iload_n (pc := 191) (i := 2) (x := y1) hM dX1_succeeds_191 rfl rfl ?_
      obtain ⟨c38, h⟩ := ite_some h
      refine aw_iald (pc := 192) hM (st_a1 hq0) c38 dX1_succeeds_192 ?_
      refine aw_iload_n (pc := 193) (i := 3) (x := y3) hM dX1_succeeds_193 rfl rfl ?_
      obtain ⟨r40, h39, h⟩ := bind_some h
      refine aw_cs1 (pc := 194) (n := 2) (As := [.int (F (q0 + 1) (ix y1)), .int y3]) (st := []) (vo := (some (.int r40))) (c2 := 0) (s2 := 0) hM (k_X0_versionIn h39) rfl cw_X1_46 (by decide +kernel) rfl rfl ⟨(Nat.le_of_ble_eq_true rfl), (Nat.le_of_ble_eq_true rfl)⟩ (Nat.le_of_ble_eq_true rfl) ⟨(Nat.le_of_ble_eq_true rfl), (Nat.le_of_ble_eq_true rfl)⟩ dX1_succeeds_194 rfl rfl ?_
      refine aw_iload (pc := 197) (i := 4) (x := y5) hM dX1_succeeds_197  rfl ?_
      refine aw_icmp_ne (pc := 199) (tgt := 206) hM dX1_succeeds_199 (by decide) (fun c41 => ?_) (fun c41 => ?_)
      · rw [if_neg c41] at h
        refine aw_iconst (pc := 206) (v := 0) hM dX1_succeeds_206 (by decide) ?_
        obtain rfl := Option.some.inj h
        exact aw_zret (pc := 207) hM dX1_succeeds_207 (by decide) (Nat.le_of_ble_eq_true rfl) (Nat.le_of_ble_eq_true rfl) hq
      · rw [if_pos c41] at h
        refine aw_iconst (pc := 202) (v := 1) hM dX1_succeeds_202 (by decide) ?_
        refine aw_goto (pc := 203) (tgt := 207) hM dX1_succeeds_203 (by decide) ?_
        obtain rfl := Option.some.inj h
        exact aw_zret (pc := 207) hM dX1_succeeds_207 (by decide) (Nat.le_of_ble_eq_true rfl) (Nat.le_of_ble_eq_true rfl) hq
  rw [if_neg c34] at h
  by_cases c42 : (p1 / 1000) = 7
  · rw [if_pos c42] at h
    refine aw_tableIn (pc := 27) (off := 181) (tgt := 208) hM dX1_succeeds_27 (by rw [c42]; decide) (by rw [c42]; decide) (by rw [c42]; rfl) (by decide) ?_
    refine aw_aload_n (pc := 208) (i := 0) (x := q0) hM dX1_succeeds_208 rfl rfl ?_
    refine aw_getNest (pc := 209) (r := 8) hM uw_X5 (st_ob hq0) rfl dX1_succeeds_209 ?_
    refine aw_iload_n (pc := 212) (i := 2) (x := y1) hM dX1_succeeds_212 rfl rfl ?_
    refine aw_iload_n (pc := 213) (i := 3) (x := y3) hM dX1_succeeds_213 rfl rfl ?_
    obtain ⟨r44, h43, h⟩ := bind_some h
    refine aw_cv1 (pc := 214) (n := 2) (As := [.int y1, .int y3]) (st := []) (b := 8) (vo := (some (.int r44))) (c2 := 0) (s2 := 0) hM (k_X3_has h43) rfl cw_X1_40 sk_8 rfl rfl (by decide +kernel) rfl rfl ⟨(Nat.le_of_ble_eq_true rfl), (Nat.le_of_ble_eq_true rfl)⟩ (Nat.le_of_ble_eq_true rfl) ⟨(Nat.le_of_ble_eq_true rfl), (Nat.le_of_ble_eq_true rfl)⟩ dX1_succeeds_214 rfl rfl ?_
    refine aw_if_eq (pc := 217) (tgt := 235) hM dX1_succeeds_217 (by decide) (fun c45 => ?_) (fun c45 => ?_)
    · rw [if_pos c45] at h
      refine aw_iconst (pc := 235) (v := 0) hM dX1_succeeds_235 (by decide) ?_
      obtain rfl := Option.some.inj h
      exact aw_zret (pc := 236) hM dX1_succeeds_236 (by decide) (Nat.le_of_ble_eq_true rfl) (Nat.le_of_ble_eq_true rfl) hq
    · rw [if_neg c45] at h
      refine aw_aload_n (pc := 220) (i := 0) (x := q0) hM dX1_succeeds_220 rfl rfl ?_
      refine aw_iload_n (pc := 221) (i := 2) (x := y1) hM dX1_succeeds_221 rfl rfl ?_
      refine aw_iload_n (pc := 222) (i := 3) (x := y3) hM dX1_succeeds_222 rfl rfl ?_
      obtain ⟨r47, h46, h⟩ := bind_some h
      refine aw_cv1 (pc := 223) (n := 2) (As := [.int y1, .int y3]) (st := []) (b := q0) (vo := (some (.int r47))) (c2 := 0) (s2 := 0) hM (k_X5_stateOf hq0 h46) rfl cw_X1_52 (st_ob hq0) rfl rfl (by decide +kernel) rfl rfl ⟨(Nat.le_of_ble_eq_true rfl), (Nat.le_of_ble_eq_true rfl)⟩ (Nat.le_of_ble_eq_true rfl) ⟨(Nat.le_of_ble_eq_true rfl), (Nat.le_of_ble_eq_true rfl)⟩ dX1_succeeds_223 rfl rfl ?_
      refine aw_iload (pc := 226) (i := 4) (x := y5) hM dX1_succeeds_226  rfl ?_
      refine aw_icmp_ne (pc := 228) (tgt := 235) hM dX1_succeeds_228 (by decide) (fun c48 => ?_) (fun c48 => ?_)
      · rw [if_neg c48] at h
        refine aw_iconst (pc := 235) (v := 0) hM dX1_succeeds_235 (by decide) ?_
        obtain rfl := Option.some.inj h
        exact aw_zret (pc := 236) hM dX1_succeeds_236 (by decide) (Nat.le_of_ble_eq_true rfl) (Nat.le_of_ble_eq_true rfl) hq
      · rw [if_pos c48] at h
        refine aw_iconst (pc := 231) (v := 1) hM dX1_succeeds_231 (by decide) ?_
        refine aw_goto (pc := 232) (tgt := 236) hM dX1_succeeds_232 (by decide) ?_
        obtain rfl := Option.some.inj h
        exact aw_zret (pc := 236) hM dX1_succeeds_236 (by decide) (Nat.le_of_ble_eq_true rfl) (Nat.le_of_ble_eq_true rfl) hq
  rw [if_neg c42] at h
  by_cases c49 : (p1 / 1000) = 8
  · rw [if_pos c49] at h
    refine aw_tableIn (pc := 27) (off := 210) (tgt := 237) hM dX1_succeeds_27 (by rw [c49]; decide) (by rw [c49]; decide) (by rw [c49]; rfl) (by decide) ?_
    refine aw_iload_n (pc := 237) (i := 2) (x := y1) hM dX1_succeeds_237 rfl rfl ?_
    refine aw_if_ne (pc := 238) (tgt := 259) hM dX1_succeeds_238 (by decide) (fun c50 => ?_) (fun c50 => ?_)
    · rw [if_neg c50] at h
      refine aw_iconst (pc := 259) (v := 0) hM dX1_succeeds_259 (by decide) ?_
      obtain rfl := Option.some.inj h
      exact aw_zret (pc := 260) hM dX1_succeeds_260 (by decide) (Nat.le_of_ble_eq_true rfl) (Nat.le_of_ble_eq_true rfl) hq
    · rw [if_pos c50] at h
      refine aw_aload_n (pc := 241) (i := 0) (x := q0) hM dX1_succeeds_241 rfl rfl ?_
      refine aw_getI (pc := 242) hM fd_X1_55 (st_ob hq0) rfl dX1_succeeds_242 ?_
      refine aw_bipush (pc := 245) (v := 10) hM dX1_succeeds_245 (by decide) ?_
      refine aw_iload_n (pc := 247) (i := 3) (x := y3) hM dX1_succeeds_247 rfl rfl ?_
      refine aw_imul (pc := 248) hM dX1_succeeds_248 ?_
      refine aw_iload (pc := 249) (i := 4) (x := y5) hM dX1_succeeds_249  rfl ?_
      refine aw_iadd (pc := 251) hM dX1_succeeds_251 ?_
      refine aw_icmp_lt (pc := 252) (tgt := 259) hM dX1_succeeds_252 (by decide) (fun c51 => ?_) (fun c51 => ?_)
      · rw [if_pos c51] at h
        refine aw_iconst (pc := 259) (v := 0) hM dX1_succeeds_259 (by decide) ?_
        obtain rfl := Option.some.inj h
        exact aw_zret (pc := 260) hM dX1_succeeds_260 (by decide) (Nat.le_of_ble_eq_true rfl) (Nat.le_of_ble_eq_true rfl) hq
      · rw [if_neg c51] at h
        refine aw_iconst (pc := 255) (v := 1) hM dX1_succeeds_255 (by decide) ?_
        refine aw_goto (pc := 256) (tgt := 260) hM dX1_succeeds_256 (by decide) ?_
        obtain rfl := Option.some.inj h
        exact aw_zret (pc := 260) hM dX1_succeeds_260 (by decide) (Nat.le_of_ble_eq_true rfl) (Nat.le_of_ble_eq_true rfl) hq
  rw [if_neg c49] at h
  refine aw_tableOut (pc := 27) (tgt := 261) hM dX1_succeeds_27 (by have := ts_ne c7 (k := 1) rfl; have := ts_ne c12 (k := 2) rfl; have := ts_ne c17 (k := 3) rfl; have := ts_ne c22 (k := 4) rfl; have := ts_ne c28 (k := 5) rfl; have := ts_ne c34 (k := 6) rfl; have := ts_ne c42 (k := 7) rfl; have := ts_ne c49 (k := 8) rfl; omega) (by decide) ?_
  refine aw_iconst (pc := 261) (v := 0) hM dX1_succeeds_261 (by decide) ?_
  obtain rfl := Option.some.inj h
  exact aw_zret (pc := 262) hM dX1_succeeds_262 (by decide) (Nat.le_of_ble_eq_true rfl) (Nat.le_of_ble_eq_true rfl) hq
def rmX2_forget : Room := { frames := 0, cells := 0, slots := 0, locals := 0 }
def s_X2_forget (F : MM) : Option MM := (some (mup F 32 2 0)).bind (fun F1 => some F1)
set_option maxRecDepth 20000 in
theorem k_X2_forget {C : CX} {F : MM} {G : GG} {r : MM} (h : s_X2_forget F = some r) : AM C yX2_forget cX2_forget 1 none rmX2_forget [.ref 32] F G (fun o F9 G9 => o = (.inl none) ∧ F9 = r ∧ G9 = G) := by
  refine am_of (L := [some (.ref 32)]) (by decide) (Nat.le_of_ble_eq_true rfl) rfl (fun M hM hT => ?_)
  have hM : MOk C RX2 cX2_forget 1 none rmX2_forget M := hM
  obtain ⟨Q, hQ⟩ : ∃ Q : OUT → MM → GG → Prop, Q = (fun o F9 G9 => o = (.inl none) ∧ F9 = r ∧ G9 = G) := ⟨_, rfl⟩
  have hq : Q (.inl none) r G := by rw [hQ]; exact ⟨rfl, rfl, rfl⟩
  rw [← hQ]
  clear hQ
  rw [s_X2_forget] at h
  refine aw_aload_n (pc := 0) (i := 0) (x := 32) hM dX2_forget_0 rfl rfl ?_
  refine aw_iconst (pc := 1) (v := 0) hM dX2_forget_1 (by decide) ?_
  obtain ⟨F1, e2, h⟩ := bind_some h
  have e2 := Option.some.inj e2
  refine aw_put (pc := 2) (ty := .int) hM fd_X2_20 tyX2_ok nmX2 rfl (by decide +kernel) rfl rfl sk_32 rfl dX2_forget_2 ?_
  refine aw_mem e2 ?_
  obtain rfl := Option.some.inj h
  exact aw_vret (pc := 5) hM dX2_forget_5 (Nat.le_of_ble_eq_true rfl) (Nat.le_of_ble_eq_true rfl) hq
def rmX5_copy : Room := { frames := 1, cells := 0, slots := 0, locals := 26 }
def s_X5_copy (F : MM) (a_this : Nat) (q0 : Nat) : Option MM := if cpok 0 0 5 5 5 then ((some (mrow F (a_this + 1) (va_cpy (F (q0 + 1)) (F (a_this + 1)) (ix 0) (ix 0) (ix 5)))).bind (fun F2 => if cpok 0 0 5 5 5 then ((some (mrow F2 (a_this + 2) (va_cpy (F2 (q0 + 2)) (F2 (a_this + 2)) (ix 0) (ix 0) (ix 5)))).bind (fun F5 => if cpok 0 0 5 5 5 then ((some (mrow F5 (a_this + 3) (va_cpy (F5 (q0 + 3)) (F5 (a_this + 3)) (ix 0) (ix 0) (ix 5)))).bind (fun F8 => if cpok 0 0 5 5 5 then ((some (mrow F8 (a_this + 4) (va_cpy (F8 (q0 + 4)) (F8 (a_this + 4)) (ix 0) (ix 0) (ix 5)))).bind (fun F11 => if cpok 0 0 5 5 5 then ((some (mrow F11 (a_this + 5) (va_cpy (F11 (q0 + 5)) (F11 (a_this + 5)) (ix 0) (ix 0) (ix 5)))).bind (fun F14 => if cpok 0 0 6 6 6 then ((some (mrow F14 (a_this + 6) (va_cpy (F14 (q0 + 6)) (F14 (a_this + 6)) (ix 0) (ix 0) (ix 6)))).bind (fun F17 => if cpok 0 0 24 24 24 then ((some (mrow F17 (a_this + 7) (va_cpy (F17 (q0 + 7)) (F17 (a_this + 7)) (ix 0) (ix 0) (ix 24)))).bind (fun F20 => (some (mup F20 a_this 8 (F20 q0 8))).bind (fun F22 => (some (mup F22 a_this 9 (F22 q0 9))).bind (fun F24 => some F24)))) else none)) else none)) else none)) else none)) else none)) else none)) else none
set_option maxRecDepth 20000 in
theorem k_X5_copy {C : CX} {F : MM} {G : GG} {a_this : Nat} {q0 : Nat} {r : MM} (ha_this : isSt a_this) (hq0 : isSt q0) (h : s_X5_copy F a_this q0 = some r) : AM C yX5_copy cX5_copy 2 none rmX5_copy [.ref a_this, .ref q0] F G (fun o F9 G9 => o = (.inl none) ∧ F9 = r ∧ G9 = G) := by
  refine am_of (L := [some (.ref a_this), some (.ref q0)]) (by decide) (Nat.le_of_ble_eq_true rfl) rfl (fun M hM hT => ?_)
  have hM : MOk C RX5 cX5_copy 2 none rmX5_copy M := hM
  obtain ⟨Q, hQ⟩ : ∃ Q : OUT → MM → GG → Prop, Q = (fun o F9 G9 => o = (.inl none) ∧ F9 = r ∧ G9 = G) := ⟨_, rfl⟩
  have hq : Q (.inl none) r G := by rw [hQ]; exact ⟨rfl, rfl, rfl⟩
  rw [← hQ]
  clear hQ
  rw [s_X5_copy] at h
  refine aw_aload_n (pc := 0) (i := 1) (x := q0) hM dX5_copy_0 rfl rfl ?_
  refine aw_getR (pc := 1) (r := (q0 + 1)) hM fd_X5_9 (st_ob hq0) rfl dX5_copy_1 ?_
  refine aw_iconst (pc := 4) (v := 0) hM dX5_copy_4 (by decide) ?_
  refine aw_aload_n (pc := 5) (i := 0) (x := a_this) hM dX5_copy_5 rfl rfl ?_
  refine aw_getR (pc := 6) (r := (a_this + 1)) hM fd_X5_9 (st_ob ha_this) rfl dX5_copy_6 ?_
  refine aw_iconst (pc := 9) (v := 0) hM dX5_copy_9 (by decide) ?_
  refine aw_iconst (pc := 10) (v := 5) hM dX5_copy_10 (by decide) ?_
  obtain ⟨c1, h⟩ := ite_some h
  have c1 := cpok_of c1
  obtain ⟨F2, e3, h⟩ := bind_some h
  have e3 := Option.some.inj e3
  refine aw_copy (pc := 11) hM gw_398 gw_400 gw_399 gw_74 (st_a1 hq0) (st_a1 ha_this) c1.1 c1.2.1 c1.2.2.1 c1.2.2.2.1 c1.2.2.2.2 (Nat.le_of_ble_eq_true rfl) (Nat.le_of_ble_eq_true rfl) dX5_copy_11 ?_
  refine aw_mem e3 ?_
  refine aw_aload_n (pc := 14) (i := 1) (x := q0) hM dX5_copy_14 rfl rfl ?_
  refine aw_getR (pc := 15) (r := (q0 + 2)) hM fd_X5_15 (st_ob hq0) rfl dX5_copy_15 ?_
  refine aw_iconst (pc := 18) (v := 0) hM dX5_copy_18 (by decide) ?_
  refine aw_aload_n (pc := 19) (i := 0) (x := a_this) hM dX5_copy_19 rfl rfl ?_
  refine aw_getR (pc := 20) (r := (a_this + 2)) hM fd_X5_15 (st_ob ha_this) rfl dX5_copy_20 ?_
  refine aw_iconst (pc := 23) (v := 0) hM dX5_copy_23 (by decide) ?_
  refine aw_iconst (pc := 24) (v := 5) hM dX5_copy_24 (by decide) ?_
  obtain ⟨c4, h⟩ := ite_some h
  have c4 := cpok_of c4
  obtain ⟨F5, e6, h⟩ := bind_some h
  have e6 := Option.some.inj e6
  refine aw_copy (pc := 25) hM gw_398 gw_400 gw_399 gw_74 (st_a2 hq0) (st_a2 ha_this) c4.1 c4.2.1 c4.2.2.1 c4.2.2.2.1 c4.2.2.2.2 (Nat.le_of_ble_eq_true rfl) (Nat.le_of_ble_eq_true rfl) dX5_copy_25 ?_
  refine aw_mem e6 ?_
  refine aw_aload_n (pc := 28) (i := 1) (x := q0) hM dX5_copy_28 rfl rfl ?_
  refine aw_getR (pc := 29) (r := (q0 + 3)) hM fd_X5_18 (st_ob hq0) rfl dX5_copy_29 ?_
  refine aw_iconst (pc := 32) (v := 0) hM dX5_copy_32 (by decide) ?_
  refine aw_aload_n (pc := 33) (i := 0) (x := a_this) hM dX5_copy_33 rfl rfl ?_
  refine aw_getR (pc := 34) (r := (a_this + 3)) hM fd_X5_18 (st_ob ha_this) rfl dX5_copy_34 ?_
  refine aw_iconst (pc := 37) (v := 0) hM dX5_copy_37 (by decide) ?_
  refine aw_iconst (pc := 38) (v := 5) hM dX5_copy_38 (by decide) ?_
  obtain ⟨c7, h⟩ := ite_some h
  have c7 := cpok_of c7
  obtain ⟨F8, e9, h⟩ := bind_some h
  have e9 := Option.some.inj e9
  refine aw_copy (pc := 39) hM gw_398 gw_400 gw_399 gw_74 (st_a3 hq0) (st_a3 ha_this) c7.1 c7.2.1 c7.2.2.1 c7.2.2.2.1 c7.2.2.2.2 (Nat.le_of_ble_eq_true rfl) (Nat.le_of_ble_eq_true rfl) dX5_copy_39 ?_
  refine aw_mem e9 ?_
  refine aw_aload_n (pc := 42) (i := 1) (x := q0) hM dX5_copy_42 rfl rfl ?_
  refine aw_getR (pc := 43) (r := (q0 + 4)) hM fd_X5_21 (st_ob hq0) rfl dX5_copy_43 ?_
  refine aw_iconst (pc := 46) (v := 0) hM dX5_copy_46 (by decide) ?_
  refine aw_aload_n (pc := 47) (i := 0) (x := a_this) hM dX5_copy_47 rfl rfl ?_
  refine aw_getR (pc := 48) (r := (a_this + 4)) hM fd_X5_21 (st_ob ha_this) rfl dX5_copy_48 ?_
  refine aw_iconst (pc := 51) (v := 0) hM dX5_copy_51 (by decide) ?_
  refine aw_iconst (pc := 52) (v := 5) hM dX5_copy_52 (by decide) ?_
  obtain ⟨c10, h⟩ := ite_some h
  have c10 := cpok_of c10
  obtain ⟨F11, e12, h⟩ := bind_some h
  have e12 := Option.some.inj e12
  refine aw_copy (pc := 53) hM gw_398 gw_400 gw_399 gw_74 (st_a4 hq0) (st_a4 ha_this) c10.1 c10.2.1 c10.2.2.1 c10.2.2.2.1 c10.2.2.2.2 (Nat.le_of_ble_eq_true rfl) (Nat.le_of_ble_eq_true rfl) dX5_copy_53 ?_
  refine aw_mem e12 ?_
  refine aw_aload_n (pc := 56) (i := 1) (x := q0) hM dX5_copy_56 rfl rfl ?_
  refine aw_getR (pc := 57) (r := (q0 + 5)) hM fd_X5_24 (st_ob hq0) rfl dX5_copy_57 ?_
  refine aw_iconst (pc := 60) (v := 0) hM dX5_copy_60 (by decide) ?_
  refine aw_aload_n (pc := 61) (i := 0) (x := a_this) hM dX5_copy_61 rfl rfl ?_
  refine aw_getR (pc := 62) (r := (a_this + 5)) hM fd_X5_24 (st_ob ha_this) rfl dX5_copy_62 ?_
  refine aw_iconst (pc := 65) (v := 0) hM dX5_copy_65 (by decide) ?_
  refine aw_iconst (pc := 66) (v := 5) hM dX5_copy_66 (by decide) ?_
  obtain ⟨c13, h⟩ := ite_some h
  have c13 := cpok_of c13
  obtain ⟨F14, e15, h⟩ := bind_some h
  have e15 := Option.some.inj e15
  refine aw_copy (pc := 67) hM gw_398 gw_400 gw_399 gw_74 (st_a5 hq0) (st_a5 ha_this) c13.1 c13.2.1 c13.2.2.1 c13.2.2.2.1 c13.2.2.2.2 (Nat.le_of_ble_eq_true rfl) (Nat.le_of_ble_eq_true rfl) dX5_copy_67 ?_
  refine aw_mem e15 ?_
  refine aw_aload_n (pc := 70) (i := 1) (x := q0) hM dX5_copy_70 rfl rfl ?_
  refine aw_getR (pc := 71) (r := (q0 + 6)) hM fd_X5_27 (st_ob hq0) rfl dX5_copy_71 ?_
  refine aw_iconst (pc := 74) (v := 0) hM dX5_copy_74 (by decide) ?_
  refine aw_aload_n (pc := 75) (i := 0) (x := a_this) hM dX5_copy_75 rfl rfl ?_
  refine aw_getR (pc := 76) (r := (a_this + 6)) hM fd_X5_27 (st_ob ha_this) rfl dX5_copy_76 ?_
  refine aw_iconst (pc := 79) (v := 0) hM dX5_copy_79 (by decide) ?_
  refine aw_bipush (pc := 80) (v := 6) hM dX5_copy_80 (by decide) ?_
  obtain ⟨c16, h⟩ := ite_some h
  have c16 := cpok_of c16
  obtain ⟨F17, e18, h⟩ := bind_some h
  have e18 := Option.some.inj e18
  refine aw_copy (pc := 82) hM gw_398 gw_400 gw_399 gw_74 (st_a6 hq0) (st_a6 ha_this) c16.1 c16.2.1 c16.2.2.1 c16.2.2.2.1 c16.2.2.2.2 (Nat.le_of_ble_eq_true rfl) (Nat.le_of_ble_eq_true rfl) dX5_copy_82 ?_
  refine aw_mem e18 ?_
  refine aw_aload_n (pc := 85) (i := 1) (x := q0) hM dX5_copy_85 rfl rfl ?_
  refine aw_getR (pc := 86) (r := (q0 + 7)) hM fd_X5_30 (st_ob hq0) rfl dX5_copy_86 ?_
  refine aw_iconst (pc := 89) (v := 0) hM dX5_copy_89 (by decide) ?_
  refine aw_aload_n (pc := 90) (i := 0) (x := a_this) hM dX5_copy_90 rfl rfl ?_
  refine aw_getR (pc := 91) (r := (a_this + 7)) hM fd_X5_30 (st_ob ha_this) rfl dX5_copy_91 ?_
  refine aw_iconst (pc := 94) (v := 0) hM dX5_copy_94 (by decide) ?_
  refine aw_bipush (pc := 95) (v := 24) hM dX5_copy_95 (by decide) ?_
  obtain ⟨c19, h⟩ := ite_some h
  have c19 := cpok_of c19
  obtain ⟨F20, e21, h⟩ := bind_some h
  have e21 := Option.some.inj e21
  refine aw_copy (pc := 97) hM gw_398 gw_400 gw_399 gw_74 (st_a7 hq0) (st_a7 ha_this) c19.1 c19.2.1 c19.2.2.1 c19.2.2.2.1 c19.2.2.2.2 (Nat.le_of_ble_eq_true rfl) (Nat.le_of_ble_eq_true rfl) dX5_copy_97 ?_
  refine aw_mem e21 ?_
  refine aw_aload_n (pc := 100) (i := 0) (x := a_this) hM dX5_copy_100 rfl rfl ?_
  refine aw_aload_n (pc := 101) (i := 1) (x := q0) hM dX5_copy_101 rfl rfl ?_
  refine aw_getI (pc := 102) hM fd_X5_43 (st_ob hq0) rfl dX5_copy_102 ?_
  obtain ⟨F22, e23, h⟩ := bind_some h
  have e23 := Option.some.inj e23
  refine aw_put (pc := 105) (ty := .int) hM fd_X5_43 tyX5_ok nmX5 rfl (by decide +kernel) rfl rfl (st_ob ha_this) rfl dX5_copy_105 ?_
  refine aw_mem e23 ?_
  refine aw_aload_n (pc := 108) (i := 0) (x := a_this) hM dX5_copy_108 rfl rfl ?_
  refine aw_aload_n (pc := 109) (i := 1) (x := q0) hM dX5_copy_109 rfl rfl ?_
  refine aw_getI (pc := 110) hM fd_X5_47 (st_ob hq0) rfl dX5_copy_110 ?_
  obtain ⟨F24, e25, h⟩ := bind_some h
  have e25 := Option.some.inj e25
  refine aw_put (pc := 113) (ty := .int) hM fd_X5_47 tyX5_ok nmX5 rfl (by decide +kernel) rfl rfl (st_ob ha_this) rfl dX5_copy_113 ?_
  refine aw_mem e25 ?_
  obtain rfl := Option.some.inj h
  exact aw_vret (pc := 116) hM dX5_copy_116 (Nat.le_of_ble_eq_true rfl) (Nat.le_of_ble_eq_true rfl) hq
def rmX2_remember : Room := { frames := 2, cells := 0, slots := 0, locals := 47 }
def s_X2_remember_b22 (q0 : Nat) (F : MM) (t0 : Int32) : Option MM := (some (mup F 32 1 t0)).bind (fun F2 => if inb (F2 32 1) 14 then ((s_X5_copy F2 (34 + 8 * ix (F2 32 1)) q0).bind (fun F6 => (some (mup F6 32 2 (if 14 < ((F6 32 2) + 1) then 14 else ((F6 32 2) + 1)))).bind (fun F7 => some F7))) else none)
def s_X2_remember (F : MM) (q0 : Nat) : Option MM := if 14 ≤ ((F 32 1) + 1) then s_X2_remember_b22 q0 F 0 else s_X2_remember_b22 q0 F ((F 32 1) + 1)
set_option maxRecDepth 20000 in
theorem k_X2_remember_b22 {C : CX} {M : MX} {G : GG} {Q : OUT → MM → GG → Prop} {q0 : Nat} {r : MM}  (hq0 : isSt q0)(hM : MOk C RX2 cX2_remember 2 none rmX2_remember M) (hT : MNoT M) (hq : Q (.inl none) r G) (F : MM) (t0 : Int32) (h : s_X2_remember_b22 q0 F t0 = some r) : AW C 2 (ZM C rmX2_remember Q M) M 0 0 22 [some (.ref 32), some (.ref q0)] [.int t0, .ref 32] F G := by
  rw [s_X2_remember_b22] at h
  obtain ⟨F2, e3, h⟩ := bind_some h
  have e3 := Option.some.inj e3
  refine aw_put (pc := 22) (ty := .int) hM fd_X2_24 tyX2_ok nmX2 rfl (by decide +kernel) rfl rfl sk_32 rfl dX2_remember_22 ?_
  refine aw_mem e3 ?_
  refine aw_aload_n (pc := 25) (i := 0) (x := 32) hM dX2_remember_25 rfl rfl ?_
  refine aw_getR (pc := 26) (r := 33) hM fd_X2_11 sk_32 rfl dX2_remember_26 ?_
  refine aw_aload_n (pc := 29) (i := 0) (x := 32) hM dX2_remember_29 rfl rfl ?_
  refine aw_getI (pc := 30) hM fd_X2_24 sk_32 rfl dX2_remember_30 ?_
  obtain ⟨c4, h⟩ := ite_some h
  refine aw_aald (pc := 33) (r := (34 + 8 * ix (F2 32 1))) hM sk_33 c4 (rs_mem c4) dX2_remember_33 ?_
  refine aw_aload_n (pc := 34) (i := 1) (x := q0) hM dX2_remember_34 rfl rfl ?_
  obtain ⟨F6, h5, h⟩ := bind_some h
  refine aw_cv1 (pc := 35) (n := 1) (As := [.ref q0]) (st := []) (b := (34 + 8 * ix (F2 32 1))) (vo := none) (c2 := 0) (s2 := 0) hM (k_X5_copy (is_mem c4) hq0 h5) rfl cw_X2_27 (st_ob (is_mem c4)) rfl rfl (by decide +kernel) rfl rfl ⟨(Nat.le_of_ble_eq_true rfl), (Nat.le_of_ble_eq_true rfl)⟩ (Nat.le_of_ble_eq_true rfl) ⟨(Nat.le_of_ble_eq_true rfl), (Nat.le_of_ble_eq_true rfl)⟩ dX2_remember_35 rfl rfl ?_
  refine aw_aload_n (pc := 38) (i := 0) (x := 32) hM dX2_remember_38 rfl rfl ?_
  refine aw_aload_n (pc := 39) (i := 0) (x := 32) hM dX2_remember_39 rfl rfl ?_
  refine aw_getI (pc := 40) hM fd_X2_20 sk_32 rfl dX2_remember_40 ?_
  refine aw_iconst (pc := 43) (v := 1) hM dX2_remember_43 (by decide) ?_
  refine aw_iadd (pc := 44) hM dX2_remember_44 ?_
  refine aw_bipush (pc := 45) (v := 14) hM dX2_remember_45 (by decide) ?_
  refine aw_mmin (pc := 47) hM gw_712 gw_350 gw_71 gw_351 (Nat.le_of_ble_eq_true rfl) (Nat.le_of_ble_eq_true rfl) (Nat.le_of_ble_eq_true rfl) (Nat.le_of_ble_eq_true rfl) dX2_remember_47 ?_
  obtain ⟨F7, e8, h⟩ := bind_some h
  have e8 := Option.some.inj e8
  refine aw_put (pc := 50) (ty := .int) hM fd_X2_20 tyX2_ok nmX2 rfl (by decide +kernel) rfl rfl sk_32 rfl dX2_remember_50 ?_
  refine aw_mem e8 ?_
  obtain rfl := Option.some.inj h
  exact aw_vret (pc := 53) hM dX2_remember_53 (Nat.le_of_ble_eq_true rfl) (Nat.le_of_ble_eq_true rfl) hq
set_option maxRecDepth 20000 in
theorem k_X2_remember {C : CX} {F : MM} {G : GG} {q0 : Nat} {r : MM} (hq0 : isSt q0) (h : s_X2_remember F q0 = some r) : AM C yX2_remember cX2_remember 2 none rmX2_remember [.ref 32, .ref q0] F G (fun o F9 G9 => o = (.inl none) ∧ F9 = r ∧ G9 = G) := by
  refine am_of (L := [some (.ref 32), some (.ref q0)]) (by decide) (Nat.le_of_ble_eq_true rfl) rfl (fun M hM hT => ?_)
  have hM : MOk C RX2 cX2_remember 2 none rmX2_remember M := hM
  obtain ⟨Q, hQ⟩ : ∃ Q : OUT → MM → GG → Prop, Q = (fun o F9 G9 => o = (.inl none) ∧ F9 = r ∧ G9 = G) := ⟨_, rfl⟩
  have hq : Q (.inl none) r G := by rw [hQ]; exact ⟨rfl, rfl, rfl⟩
  rw [← hQ]
  clear hQ
  rw [s_X2_remember] at h
  refine aw_aload_n (pc := 0) (i := 0) (x := 32) hM dX2_remember_0 rfl rfl ?_
  refine aw_aload_n (pc := 1) (i := 0) (x := 32) hM dX2_remember_1 rfl rfl ?_
  refine aw_getI (pc := 2) hM fd_X2_24 sk_32 rfl dX2_remember_2 ?_
  refine aw_iconst (pc := 5) (v := 1) hM dX2_remember_5 (by decide) ?_
  refine aw_iadd (pc := 6) hM dX2_remember_6 ?_
  refine aw_bipush (pc := 7) (v := 14) hM dX2_remember_7 (by decide) ?_
  refine aw_icmp_ge (pc := 9) (tgt := 21) hM dX2_remember_9 (by decide) (fun c1 => ?_) (fun c1 => ?_)
  · rw [if_pos c1] at h
    refine aw_iconst (pc := 21) (v := 0) hM dX2_remember_21 (by decide) ?_
    exact k_X2_remember_b22 hq0 hM hT hq F 0 h
  · rw [if_neg c1] at h
    refine aw_aload_n (pc := 12) (i := 0) (x := 32) hM dX2_remember_12 rfl rfl ?_
    refine aw_getI (pc := 13) hM fd_X2_24 sk_32 rfl dX2_remember_13 ?_
    refine aw_iconst (pc := 16) (v := 1) hM dX2_remember_16 (by decide) ?_
    refine aw_iadd (pc := 17) hM dX2_remember_17 ?_
    refine aw_goto (pc := 18) (tgt := 22) hM dX2_remember_18 (by decide) ?_
    exact k_X2_remember_b22 hq0 hM hT hq F ((F 32 1) + 1) h
def rmX2_takeBack : Room := { frames := 2, cells := 0, slots := 0, locals := 47 }
def s_X2_takeBack (F : MM) (q0 : Nat) : Option MM := if (F 32 2) = 0 then some F else if inb (F 32 1) 14 then ((s_X5_copy F q0 (34 + 8 * ix (F 32 1))).bind (fun F4 => if (F4 32 1) ≤ 0 then (some (mup F4 32 1 13)).bind (fun F6 => (some (mup F6 32 2 ((F6 32 2) - 1))).bind (fun F8 => some F8)) else (some (mup F4 32 1 ((F4 32 1) - 1))).bind (fun F10 => (some (mup F10 32 2 ((F10 32 2) - 1))).bind (fun F12 => some F12)))) else none
set_option maxRecDepth 20000 in
theorem k_X2_takeBack {C : CX} {F : MM} {G : GG} {q0 : Nat} {r : MM} (hq0 : isSt q0) (h : s_X2_takeBack F q0 = some r) : AM C yX2_takeBack cX2_takeBack 2 none rmX2_takeBack [.ref 32, .ref q0] F G (fun o F9 G9 => o = (.inl none) ∧ F9 = r ∧ G9 = G) := by
  refine am_of (L := [some (.ref 32), some (.ref q0)]) (by decide) (Nat.le_of_ble_eq_true rfl) rfl (fun M hM hT => ?_)
  have hM : MOk C RX2 cX2_takeBack 2 none rmX2_takeBack M := hM
  obtain ⟨Q, hQ⟩ : ∃ Q : OUT → MM → GG → Prop, Q = (fun o F9 G9 => o = (.inl none) ∧ F9 = r ∧ G9 = G) := ⟨_, rfl⟩
  have hq : Q (.inl none) r G := by rw [hQ]; exact ⟨rfl, rfl, rfl⟩
  rw [← hQ]
  clear hQ
  rw [s_X2_takeBack] at h
  refine aw_aload_n (pc := 0) (i := 0) (x := 32) hM dX2_takeBack_0 rfl rfl ?_
  refine aw_getI (pc := 1) hM fd_X2_20 sk_32 rfl dX2_takeBack_1 ?_
  refine aw_if_ne (pc := 4) (tgt := 8) hM dX2_takeBack_4 (by decide) (fun c1 => ?_) (fun c1 => ?_)
  · rw [if_neg c1] at h
    refine aw_aload_n (pc := 8) (i := 1) (x := q0) hM dX2_takeBack_8 rfl rfl ?_
    refine aw_aload_n (pc := 9) (i := 0) (x := 32) hM dX2_takeBack_9 rfl rfl ?_
    refine aw_getR (pc := 10) (r := 33) hM fd_X2_11 sk_32 rfl dX2_takeBack_10 ?_
    refine aw_aload_n (pc := 13) (i := 0) (x := 32) hM dX2_takeBack_13 rfl rfl ?_
    refine aw_getI (pc := 14) hM fd_X2_24 sk_32 rfl dX2_takeBack_14 ?_
    obtain ⟨c2, h⟩ := ite_some h
    refine aw_aald (pc := 17) (r := (34 + 8 * ix (F 32 1))) hM sk_33 c2 (rs_mem c2) dX2_takeBack_17 ?_
    obtain ⟨F4, h3, h⟩ := bind_some h
    refine aw_cv1 (pc := 18) (n := 1) (As := [.ref (34 + 8 * ix (F 32 1))]) (st := []) (b := q0) (vo := none) (c2 := 0) (s2 := 0) hM (k_X5_copy hq0 (is_mem c2) h3) rfl cw_X2_27 (st_ob hq0) rfl rfl (by decide +kernel) rfl rfl ⟨(Nat.le_of_ble_eq_true rfl), (Nat.le_of_ble_eq_true rfl)⟩ (Nat.le_of_ble_eq_true rfl) ⟨(Nat.le_of_ble_eq_true rfl), (Nat.le_of_ble_eq_true rfl)⟩ dX2_takeBack_18 rfl rfl ?_
    refine aw_aload_n (pc := 21) (i := 0) (x := 32) hM dX2_takeBack_21 rfl rfl ?_
    refine aw_aload_n (pc := 22) (i := 0) (x := 32) hM dX2_takeBack_22 rfl rfl ?_
    refine aw_getI (pc := 23) hM fd_X2_24 sk_32 rfl dX2_takeBack_23 ?_
    refine aw_if_le (pc := 26) (tgt := 38) hM dX2_takeBack_26 (by decide) (fun c5 => ?_) (fun c5 => ?_)
    · rw [if_pos c5] at h
      refine aw_bipush (pc := 38) (v := 13) hM dX2_takeBack_38 (by decide) ?_
      obtain ⟨F6, e7, h⟩ := bind_some h
      have e7 := Option.some.inj e7
      refine aw_put (pc := 40) (ty := .int) hM fd_X2_24 tyX2_ok nmX2 rfl (by decide +kernel) rfl rfl sk_32 rfl dX2_takeBack_40 ?_
      refine aw_mem e7 ?_
      refine aw_aload_n (pc := 43) (i := 0) (x := 32) hM dX2_takeBack_43 rfl rfl ?_
      refine aw_dup (pc := 44) hM dX2_takeBack_44 rfl ?_
      refine aw_getI (pc := 45) hM fd_X2_20 sk_32 rfl dX2_takeBack_45 ?_
      refine aw_iconst (pc := 48) (v := 1) hM dX2_takeBack_48 (by decide) ?_
      refine aw_isub (pc := 49) hM dX2_takeBack_49 ?_
      obtain ⟨F8, e9, h⟩ := bind_some h
      have e9 := Option.some.inj e9
      refine aw_put (pc := 50) (ty := .int) hM fd_X2_20 tyX2_ok nmX2 rfl (by decide +kernel) rfl rfl sk_32 rfl dX2_takeBack_50 ?_
      refine aw_mem e9 ?_
      obtain rfl := Option.some.inj h
      exact aw_vret (pc := 53) hM dX2_takeBack_53 (Nat.le_of_ble_eq_true rfl) (Nat.le_of_ble_eq_true rfl) hq
    · rw [if_neg c5] at h
      refine aw_aload_n (pc := 29) (i := 0) (x := 32) hM dX2_takeBack_29 rfl rfl ?_
      refine aw_getI (pc := 30) hM fd_X2_24 sk_32 rfl dX2_takeBack_30 ?_
      refine aw_iconst (pc := 33) (v := 1) hM dX2_takeBack_33 (by decide) ?_
      refine aw_isub (pc := 34) hM dX2_takeBack_34 ?_
      refine aw_goto (pc := 35) (tgt := 40) hM dX2_takeBack_35 (by decide) ?_
      obtain ⟨F10, e11, h⟩ := bind_some h
      have e11 := Option.some.inj e11
      refine aw_put (pc := 40) (ty := .int) hM fd_X2_24 tyX2_ok nmX2 rfl (by decide +kernel) rfl rfl sk_32 rfl dX2_takeBack_40 ?_
      refine aw_mem e11 ?_
      refine aw_aload_n (pc := 43) (i := 0) (x := 32) hM dX2_takeBack_43 rfl rfl ?_
      refine aw_dup (pc := 44) hM dX2_takeBack_44 rfl ?_
      refine aw_getI (pc := 45) hM fd_X2_20 sk_32 rfl dX2_takeBack_45 ?_
      refine aw_iconst (pc := 48) (v := 1) hM dX2_takeBack_48 (by decide) ?_
      refine aw_isub (pc := 49) hM dX2_takeBack_49 ?_
      obtain ⟨F12, e13, h⟩ := bind_some h
      have e13 := Option.some.inj e13
      refine aw_put (pc := 50) (ty := .int) hM fd_X2_20 tyX2_ok nmX2 rfl (by decide +kernel) rfl rfl sk_32 rfl dX2_takeBack_50 ?_
      refine aw_mem e13 ?_
      obtain rfl := Option.some.inj h
      exact aw_vret (pc := 53) hM dX2_takeBack_53 (Nat.le_of_ble_eq_true rfl) (Nat.le_of_ble_eq_true rfl) hq
  · rw [if_pos c1] at h
    obtain rfl := Option.some.inj h
    exact aw_vret (pc := 7) hM dX2_takeBack_7 (Nat.le_of_ble_eq_true rfl) (Nat.le_of_ble_eq_true rfl) hq
def rmX4_clear : Room := { frames := 1, cells := 0, slots := 0, locals := 23 }
def s_X4_clear (F : MM) (p0 : Int32) : Option MM := (some (mup F 10 3 0)).bind (fun F1 => (some (mup F1 10 2 (if 4096 < ((1 : Int32) <<< ((2 * p0) &&& 31)) then 4096 else ((1 : Int32) <<< ((2 * p0) &&& 31))))).bind (fun F3 => (s_J7_fill_53178 F3 12 0).bind (fun F6 => some F6)))
set_option maxRecDepth 20000 in
theorem k_X4_clear {C : CX} {F : MM} {G : GG} {p0 : Int32} {r : MM} (h : s_X4_clear F p0 = some r) : AM C yX4_clear cX4_clear 2 none rmX4_clear [.ref 10, .int p0] F G (fun o F9 G9 => o = (.inl none) ∧ F9 = r ∧ G9 = G) := by
  refine am_of (L := [some (.ref 10), some (.int p0)]) (by decide) (Nat.le_of_ble_eq_true rfl) rfl (fun M hM hT => ?_)
  have hM : MOk C RX4 cX4_clear 2 none rmX4_clear M := hM
  obtain ⟨Q, hQ⟩ : ∃ Q : OUT → MM → GG → Prop, Q = (fun o F9 G9 => o = (.inl none) ∧ F9 = r ∧ G9 = G) := ⟨_, rfl⟩
  have hq : Q (.inl none) r G := by rw [hQ]; exact ⟨rfl, rfl, rfl⟩
  rw [← hQ]
  clear hQ
  rw [s_X4_clear] at h
  refine aw_aload_n (pc := 0) (i := 0) (x := 10) hM dX4_clear_0 rfl rfl ?_
  refine aw_iconst (pc := 1) (v := 0) hM dX4_clear_1 (by decide) ?_
  obtain ⟨F1, e2, h⟩ := bind_some h
  have e2 := Option.some.inj e2
  refine aw_put (pc := 2) (ty := .int) hM fd_X4_22 tyX4_ok nmX4 rfl (by decide +kernel) rfl rfl sk_10 rfl dX4_clear_2 ?_
  refine aw_mem e2 ?_
  refine aw_aload_n (pc := 5) (i := 0) (x := 10) hM dX4_clear_5 rfl rfl ?_
  refine aw_iconst (pc := 6) (v := 1) hM dX4_clear_6 (by decide) ?_
  refine aw_iconst (pc := 7) (v := 2) hM dX4_clear_7 (by decide) ?_
  refine aw_iload_n (pc := 8) (i := 1) (x := p0) hM dX4_clear_8 rfl rfl ?_
  refine aw_imul (pc := 9) hM dX4_clear_9 ?_
  refine aw_ishl (pc := 10) hM dX4_clear_10 ?_
  refine aw_sipush (pc := 11) (v := 4096) hM dX4_clear_11 (by decide) ?_
  refine aw_mmin (pc := 14) hM gw_574 gw_350 gw_71 gw_351 (Nat.le_of_ble_eq_true rfl) (Nat.le_of_ble_eq_true rfl) (Nat.le_of_ble_eq_true rfl) (Nat.le_of_ble_eq_true rfl) dX4_clear_14 ?_
  obtain ⟨F3, e4, h⟩ := bind_some h
  have e4 := Option.some.inj e4
  refine aw_put (pc := 17) (ty := .int) hM fd_X4_18 tyX4_ok nmX4 rfl (by decide +kernel) rfl rfl sk_10 rfl dX4_clear_17 ?_
  refine aw_mem e4 ?_
  refine aw_aload_n (pc := 20) (i := 0) (x := 10) hM dX4_clear_20 rfl rfl ?_
  refine aw_getR (pc := 21) (r := 12) hM fd_X4_15 sk_10 rfl dX4_clear_21 ?_
  refine aw_iconst (pc := 24) (v := 0) hM dX4_clear_24 (by decide) ?_
  obtain ⟨F6, h5, h⟩ := bind_some h
  refine aw_cs1 (pc := 25) (n := 2) (As := [.ref 12, .int 0]) (st := []) (vo := none) (c2 := 0) (s2 := 0) hM (k_J7_fill_53178 (ia_of sk_12) h5) rfl cw_X4_31 (by decide +kernel) rfl rfl ⟨(Nat.le_of_ble_eq_true rfl), (Nat.le_of_ble_eq_true rfl)⟩ (Nat.le_of_ble_eq_true rfl) ⟨(Nat.le_of_ble_eq_true rfl), (Nat.le_of_ble_eq_true rfl)⟩ dX4_clear_25 rfl rfl ?_
  obtain rfl := Option.some.inj h
  exact aw_vret (pc := 28) hM dX4_clear_28 (Nat.le_of_ble_eq_true rfl) (Nat.le_of_ble_eq_true rfl) hq
def rmX4_isBroken : Room := { frames := 1, cells := 0, slots := 0, locals := 21 }
def s_X4_isBroken_b57 (F : MM) (x3 : Int32) (t0 : Int32) : Option Int32 := if inb x3 50 then (if (F 11 (ix x3)) = 1 then if t0 = 1 then some 1 else some 0 else if t0 = 0 then some 1 else some 0) else none
def s_X4_isBroken (F : MM) (p0 : Int32) (p1 : Int32) : Option Int32 := (some (p0 * 5 : Int32)).bind (fun y1 => if inb (y1 + 1) 50 then ((s_X0_versionIn F p1 (F 11 (ix (y1 + 1)))).bind (fun r5 => if inb (y1 + 2) 50 then (if (F 11 (ix (y1 + 2))) ≤ r5 then if inb (y1 + 3) 50 then ((s_X0_versionIn F p1 (F 11 (ix (y1 + 3)))).bind (fun r10 => if inb (y1 + 4) 50 then (if r10 < (F 11 (ix (y1 + 4))) then s_X4_isBroken_b57 F y1 0 else s_X4_isBroken_b57 F y1 1) else none)) else none else some 0) else none)) else none)
set_option maxRecDepth 20000 in
theorem k_X4_isBroken_b57 {C : CX} {M : MX} {G : GG} {Q : OUT → MM → GG → Prop} {F : MM} {r : Int32} (hM : MOk C RX4 cX4_isBroken 5 (some .boolean) rmX4_isBroken M) (hT : MNoT M) (hq : Q (.inl (some (.int r))) F G) (x3 : Int32) (t0 : Int32) (h : s_X4_isBroken_b57 F x3 t0 = some r) : AW C 5 (ZM C rmX4_isBroken Q M) M 0 0 57 [some (.ref 10), none, none, some (.int x3), none] [.int t0] F G := by
  rw [s_X4_isBroken_b57] at h
  refine aw_istore (pc := 57) (i := 4) (L' := [some (.ref 10), none, none, some (.int x3), some (.int t0)]) hM dX4_isBroken_57  (by decide) rfl ?_
  refine aw_iload (pc := 59) (i := 4) (x := t0) hM dX4_isBroken_59  rfl ?_
  refine aw_aload_n (pc := 61) (i := 0) (x := 10) hM dX4_isBroken_61 rfl rfl ?_
  refine aw_getR (pc := 62) (r := 11) hM fd_X4_11 sk_10 rfl dX4_isBroken_62 ?_
  refine aw_iload_n (pc := 65) (i := 3) (x := x3) hM dX4_isBroken_65 rfl rfl ?_
  obtain ⟨c13, h⟩ := ite_some h
  refine aw_iald (pc := 66) hM sk_11 c13 dX4_isBroken_66 ?_
  refine aw_iconst (pc := 67) (v := 1) hM dX4_isBroken_67 (by decide) ?_
  refine aw_icmp_ne (pc := 68) (tgt := 75) hM dX4_isBroken_68 (by decide) (fun c14 => ?_) (fun c14 => ?_)
  · rw [if_neg c14] at h
    refine aw_iconst (pc := 75) (v := 0) hM dX4_isBroken_75 (by decide) ?_
    refine aw_icmp_ne (pc := 76) (tgt := 83) hM dX4_isBroken_76 (by decide) (fun c15 => ?_) (fun c15 => ?_)
    · rw [if_neg c15] at h
      refine aw_iconst (pc := 83) (v := 0) hM dX4_isBroken_83 (by decide) ?_
      obtain rfl := Option.some.inj h
      exact aw_zret (pc := 84) hM dX4_isBroken_84 (by decide) (Nat.le_of_ble_eq_true rfl) (Nat.le_of_ble_eq_true rfl) hq
    · rw [if_pos c15] at h
      refine aw_iconst (pc := 79) (v := 1) hM dX4_isBroken_79 (by decide) ?_
      refine aw_goto (pc := 80) (tgt := 84) hM dX4_isBroken_80 (by decide) ?_
      obtain rfl := Option.some.inj h
      exact aw_zret (pc := 84) hM dX4_isBroken_84 (by decide) (Nat.le_of_ble_eq_true rfl) (Nat.le_of_ble_eq_true rfl) hq
  · rw [if_pos c14] at h
    refine aw_iconst (pc := 71) (v := 1) hM dX4_isBroken_71 (by decide) ?_
    refine aw_goto (pc := 72) (tgt := 76) hM dX4_isBroken_72 (by decide) ?_
    refine aw_icmp_ne (pc := 76) (tgt := 83) hM dX4_isBroken_76 (by decide) (fun c16 => ?_) (fun c16 => ?_)
    · rw [if_neg c16] at h
      refine aw_iconst (pc := 83) (v := 0) hM dX4_isBroken_83 (by decide) ?_
      obtain rfl := Option.some.inj h
      exact aw_zret (pc := 84) hM dX4_isBroken_84 (by decide) (Nat.le_of_ble_eq_true rfl) (Nat.le_of_ble_eq_true rfl) hq
    · rw [if_pos c16] at h
      refine aw_iconst (pc := 79) (v := 1) hM dX4_isBroken_79 (by decide) ?_
      refine aw_goto (pc := 80) (tgt := 84) hM dX4_isBroken_80 (by decide) ?_
      obtain rfl := Option.some.inj h
      exact aw_zret (pc := 84) hM dX4_isBroken_84 (by decide) (Nat.le_of_ble_eq_true rfl) (Nat.le_of_ble_eq_true rfl) hq
set_option maxRecDepth 20000 in
theorem k_X4_isBroken {C : CX} {F : MM} {G : GG} {p0 : Int32} {p1 : Int32} {r : Int32} (h : s_X4_isBroken F p0 p1 = some r) : AM C yX4_isBroken cX4_isBroken 5 (some .boolean) rmX4_isBroken [.ref 10, .int p0, .int p1] F G (fun o F9 G9 => o = (.inl (some (.int r))) ∧ F9 = F ∧ G9 = G) := by
  refine am_of (L := [some (.ref 10), some (.int p0), some (.int p1), none, none]) (by decide) (Nat.le_of_ble_eq_true rfl) rfl (fun M hM hT => ?_)
  have hM : MOk C RX4 cX4_isBroken 5 (some .boolean) rmX4_isBroken M := hM
  obtain ⟨Q, hQ⟩ : ∃ Q : OUT → MM → GG → Prop, Q = (fun o F9 G9 => o = (.inl (some (.int r))) ∧ F9 = F ∧ G9 = G) := ⟨_, rfl⟩
  have hq : Q (.inl (some (.int r))) F G := by rw [hQ]; exact ⟨rfl, rfl, rfl⟩
  rw [← hQ]
  clear hQ
  rw [s_X4_isBroken] at h
  refine aw_iload_n (pc := 0) (i := 1) (x := p0) hM dX4_isBroken_0 rfl rfl ?_
  refine aw_iconst (pc := 1) (v := 5) hM dX4_isBroken_1 (by decide) ?_
  refine aw_imul (pc := 2) hM dX4_isBroken_2 ?_
  obtain ⟨y1, e2, h⟩ := bind_some h
  have e2 := Option.some.inj e2
  refine aw_topi e2 ?_
  refine aw_istore_n (pc := 3) (i := 3) (L' := [some (.ref 10), some (.int p0), some (.int p1), some (.int y1), none]) hM dX4_isBroken_3 rfl (by decide) rfl ?_
  refine aw_iload_n (pc := 4) (i := 2) (x := p1) hM dX4_isBroken_4 rfl rfl ?_
  refine aw_aload_n (pc := 5) (i := 0) (x := 10) hM dX4_isBroken_5 rfl rfl ?_
  refine aw_getR (pc := 6) (r := 11) hM fd_X4_11 sk_10 rfl dX4_isBroken_6 ?_
  refine aw_iload_n (pc := 9) (i := 3) (x := y1) hM dX4_isBroken_9 rfl rfl ?_
  refine aw_iconst (pc := 10) (v := 1) hM dX4_isBroken_10 (by decide) ?_
  refine aw_iadd (pc := 11) hM dX4_isBroken_11 ?_
  obtain ⟨c3, h⟩ := ite_some h
  refine aw_iald (pc := 12) hM sk_11 c3 dX4_isBroken_12 ?_
  obtain ⟨r5, h4, h⟩ := bind_some h
  refine aw_cs1 (pc := 13) (n := 2) (As := [.int p1, .int (F 11 (ix (y1 + 1)))]) (st := []) (vo := (some (.int r5))) (c2 := 0) (s2 := 0) hM (k_X0_versionIn h4) rfl cw_X4_47 (by decide +kernel) rfl rfl ⟨(Nat.le_of_ble_eq_true rfl), (Nat.le_of_ble_eq_true rfl)⟩ (Nat.le_of_ble_eq_true rfl) ⟨(Nat.le_of_ble_eq_true rfl), (Nat.le_of_ble_eq_true rfl)⟩ dX4_isBroken_13 rfl rfl ?_
  refine aw_aload_n (pc := 16) (i := 0) (x := 10) hM dX4_isBroken_16 rfl rfl ?_
  refine aw_getR (pc := 17) (r := 11) hM fd_X4_11 sk_10 rfl dX4_isBroken_17 ?_
  refine aw_iload_n (pc := 20) (i := 3) (x := y1) hM dX4_isBroken_20 rfl rfl ?_
  refine aw_iconst (pc := 21) (v := 2) hM dX4_isBroken_21 (by decide) ?_
  refine aw_iadd (pc := 22) hM dX4_isBroken_22 ?_
  obtain ⟨c6, h⟩ := ite_some h
  refine aw_iald (pc := 23) hM sk_11 c6 dX4_isBroken_23 ?_
  refine aw_icmp_ge (pc := 24) (tgt := 29) hM dX4_isBroken_24 (by decide) (fun c7 => ?_) (fun c7 => ?_)
  · rw [if_pos c7] at h
    refine aw_iload_n (pc := 29) (i := 2) (x := p1) hM dX4_isBroken_29 rfl rfl ?_
    refine aw_aload_n (pc := 30) (i := 0) (x := 10) hM dX4_isBroken_30 rfl rfl ?_
    refine aw_getR (pc := 31) (r := 11) hM fd_X4_11 sk_10 rfl dX4_isBroken_31 ?_
    refine aw_iload_n (pc := 34) (i := 3) (x := y1) hM dX4_isBroken_34 rfl rfl ?_
    refine aw_iconst (pc := 35) (v := 3) hM dX4_isBroken_35 (by decide) ?_
    refine aw_iadd (pc := 36) hM dX4_isBroken_36 ?_
    obtain ⟨c8, h⟩ := ite_some h
    refine aw_iald (pc := 37) hM sk_11 c8 dX4_isBroken_37 ?_
    obtain ⟨r10, h9, h⟩ := bind_some h
    refine aw_cs1 (pc := 38) (n := 2) (As := [.int p1, .int (F 11 (ix (y1 + 3)))]) (st := []) (vo := (some (.int r10))) (c2 := 0) (s2 := 0) hM (k_X0_versionIn h9) rfl cw_X4_47 (by decide +kernel) rfl rfl ⟨(Nat.le_of_ble_eq_true rfl), (Nat.le_of_ble_eq_true rfl)⟩ (Nat.le_of_ble_eq_true rfl) ⟨(Nat.le_of_ble_eq_true rfl), (Nat.le_of_ble_eq_true rfl)⟩ dX4_isBroken_38 rfl rfl ?_
    refine aw_aload_n (pc := 41) (i := 0) (x := 10) hM dX4_isBroken_41 rfl rfl ?_
    refine aw_getR (pc := 42) (r := 11) hM fd_X4_11 sk_10 rfl dX4_isBroken_42 ?_
    refine aw_iload_n (pc := 45) (i := 3) (x := y1) hM dX4_isBroken_45 rfl rfl ?_
    refine aw_iconst (pc := 46) (v := 4) hM dX4_isBroken_46 (by decide) ?_
    refine aw_iadd (pc := 47) hM dX4_isBroken_47 ?_
    obtain ⟨c11, h⟩ := ite_some h
    refine aw_iald (pc := 48) hM sk_11 c11 dX4_isBroken_48 ?_
    refine aw_icmp_lt (pc := 49) (tgt := 56) hM dX4_isBroken_49 (by decide) (fun c12 => ?_) (fun c12 => ?_)
    · rw [if_pos c12] at h
      refine aw_iconst (pc := 56) (v := 0) hM dX4_isBroken_56 (by decide) ?_
      refine aw_weak (L' := [some (.ref 10), none, none, some (.int y1), none]) ?_ (lw_of [true, false, false, true, true] rfl)
      exact k_X4_isBroken_b57 hM hT hq y1 0 h
    · rw [if_neg c12] at h
      refine aw_iconst (pc := 52) (v := 1) hM dX4_isBroken_52 (by decide) ?_
      refine aw_goto (pc := 53) (tgt := 57) hM dX4_isBroken_53 (by decide) ?_
      refine aw_weak (L' := [some (.ref 10), none, none, some (.int y1), none]) ?_ (lw_of [true, false, false, true, true] rfl)
      exact k_X4_isBroken_b57 hM hT hq y1 1 h
  · rw [if_neg c7] at h
    refine aw_iconst (pc := 27) (v := 0) hM dX4_isBroken_27 (by decide) ?_
    obtain rfl := Option.some.inj h
    exact aw_zret (pc := 28) hM dX4_isBroken_28 (by decide) (Nat.le_of_ble_eq_true rfl) (Nat.le_of_ble_eq_true rfl) hq
def rmX4_add : Room := { frames := 2, cells := 0, slots := 0, locals := 45 }
def s_X4_add_b56 (q0 : Nat) : Nat → MM → Int32 → Int32 → Option MM
  | 0, _, _, _ => none
  | n + 1, F, x3, x4 => if (F 10 2) ≤ x4 then some F else (s_X4_isBroken F x3 x4).bind (fun r13 => if r13 = 0 then (some (x4 + 1 : Int32)).bind (fun y15 => s_X4_add_b56 q0 n F x3 y15) else if inb x4 4096 then (if inb x4 4096 then ((some (mup F 12 (ix x4) ((F 12 (ix x4)) ||| ((1 : Int32) <<< (x3 &&& 31))))).bind (fun F19 => (some (x4 + 1 : Int32)).bind (fun y21 => s_X4_add_b56 q0 n F19 x3 y21))) else none) else none)
def s_X4_add (F : MM) (q0 : Nat) (p1 : Int32) : Option MM := if 10 ≤ (F 10 3) then some F else if p1 < 0 then some F else if (p1 + 5) ≤ (Int32.ofNat (alen q0)) then if cpok p1 ((F 10 3) * 5) 5 (alen q0) 50 then ((some (mrow F 11 (va_cpy (F q0) (F 11) (ix p1) (ix ((F 10 3) * 5)) (ix 5)))).bind (fun F5 => (some (F5 10 3 : Int32)).bind (fun y7 => (some (mup F5 10 3 ((F5 10 3) + 1))).bind (fun F9 => s_X4_add_b56 q0 fu_ F9 y7 0)))) else none else some F
set_option maxRecDepth 20000 in
theorem k_X4_add_b56 {C : CX} {M : MX} {G : GG} {Q : OUT → MM → GG → Prop} {q0 : Nat} {r : MM}  (hq0 : isIA q0)(hM : MOk C RX4 cX4_add 5 none rmX4_add M) (hT : MNoT M) (hq : Q (.inl none) r G) : ∀ (n : Nat) (F : MM) (x3 : Int32) (x4 : Int32), s_X4_add_b56 q0 n F x3 x4 = some r → AW C 5 (ZM C rmX4_add Q M) M 0 0 56 [some (.ref 10), none, none, some (.int x3), some (.int x4)] [] F G := by
  intro n
  induction n with
  | zero => intro F x3 x4 h; exact nomatch h
  | succ n ih =>
    intro F x3 x4 h
    rw [s_X4_add_b56] at h
    refine aw_iload (pc := 56) (i := 4) (x := x4) hM dX4_add_56  rfl ?_
    refine aw_aload_n (pc := 58) (i := 0) (x := 10) hM dX4_add_58 rfl rfl ?_
    refine aw_getI (pc := 59) hM fd_X4_18 sk_10 rfl dX4_add_59 ?_
    refine aw_icmp_ge (pc := 62) (tgt := 94) hM dX4_add_62 (by decide) (fun c11 => ?_) (fun c11 => ?_)
    · rw [if_pos c11] at h
      obtain rfl := Option.some.inj h
      exact aw_vret (pc := 94) hM dX4_add_94 (Nat.le_of_ble_eq_true rfl) (Nat.le_of_ble_eq_true rfl) hq
    · rw [if_neg c11] at h
      refine aw_aload_n (pc := 65) (i := 0) (x := 10) hM dX4_add_65 rfl rfl ?_
      refine aw_iload_n (pc := 66) (i := 3) (x := x3) hM dX4_add_66 rfl rfl ?_
      refine aw_iload (pc := 67) (i := 4) (x := x4) hM dX4_add_67  rfl ?_
      obtain ⟨r13, h12, h⟩ := bind_some h
      refine aw_cv1 (pc := 69) (n := 2) (As := [.int x3, .int x4]) (st := []) (b := 10) (vo := (some (.int r13))) (c2 := 0) (s2 := 0) hM (k_X4_isBroken h12) rfl cw_X4_43 sk_10 rfl rfl (by decide +kernel) rfl rfl ⟨(Nat.le_of_ble_eq_true rfl), (Nat.le_of_ble_eq_true rfl)⟩ (Nat.le_of_ble_eq_true rfl) ⟨(Nat.le_of_ble_eq_true rfl), (Nat.le_of_ble_eq_true rfl)⟩ dX4_add_69 rfl rfl ?_
      refine aw_if_eq (pc := 72) (tgt := 88) hM dX4_add_72 (by decide) (fun c14 => ?_) (fun c14 => ?_)
      · rw [if_pos c14] at h
        obtain ⟨y15, e16, h⟩ := bind_some h
        have e16 := Option.some.inj e16
        refine aw_iinc (pc := 88) (v := y15) (L' := [some (.ref 10), none, none, some (.int x3), some (.int y15)]) hM dX4_add_88 rfl e16 (by decide) rfl ?_
        refine aw_goto (pc := 91) (tgt := 56) hM dX4_add_91 (by decide) ?_
        exact ih F x3 y15 h
      · rw [if_neg c14] at h
        refine aw_aload_n (pc := 75) (i := 0) (x := 10) hM dX4_add_75 rfl rfl ?_
        refine aw_getR (pc := 76) (r := 12) hM fd_X4_15 sk_10 rfl dX4_add_76 ?_
        refine aw_iload (pc := 79) (i := 4) (x := x4) hM dX4_add_79  rfl ?_
        refine aw_dup2 (pc := 81) hM dX4_add_81 rfl rfl ?_
        obtain ⟨c17, h⟩ := ite_some h
        refine aw_iald (pc := 82) hM sk_12 c17 dX4_add_82 ?_
        refine aw_iconst (pc := 83) (v := 1) hM dX4_add_83 (by decide) ?_
        refine aw_iload_n (pc := 84) (i := 3) (x := x3) hM dX4_add_84 rfl rfl ?_
        refine aw_ishl (pc := 85) hM dX4_add_85 ?_
        refine aw_ior (pc := 86) hM dX4_add_86 ?_
        obtain ⟨c18, h⟩ := ite_some h
        obtain ⟨F19, e20, h⟩ := bind_some h
        have e20 := Option.some.inj e20
        refine aw_iast (pc := 87) hM sk_12 c18 dX4_add_87 ?_
        refine aw_mem e20 ?_
        obtain ⟨y21, e22, h⟩ := bind_some h
        have e22 := Option.some.inj e22
        refine aw_iinc (pc := 88) (v := y21) (L' := [some (.ref 10), none, none, some (.int x3), some (.int y21)]) hM dX4_add_88 rfl e22 (by decide) rfl ?_
        refine aw_goto (pc := 91) (tgt := 56) hM dX4_add_91 (by decide) ?_
        exact ih F19 x3 y21 h
set_option maxRecDepth 20000 in
theorem k_X4_add {C : CX} {F : MM} {G : GG} {q0 : Nat} {p1 : Int32} {r : MM} (hq0 : isIA q0) (h : s_X4_add F q0 p1 = some r) : AM C yX4_add cX4_add 5 none rmX4_add [.ref 10, .ref q0, .int p1] F G (fun o F9 G9 => o = (.inl none) ∧ F9 = r ∧ G9 = G) := by
  refine am_of (L := [some (.ref 10), some (.ref q0), some (.int p1), none, none]) (by decide) (Nat.le_of_ble_eq_true rfl) rfl (fun M hM hT => ?_)
  have hM : MOk C RX4 cX4_add 5 none rmX4_add M := hM
  obtain ⟨Q, hQ⟩ : ∃ Q : OUT → MM → GG → Prop, Q = (fun o F9 G9 => o = (.inl none) ∧ F9 = r ∧ G9 = G) := ⟨_, rfl⟩
  have hq : Q (.inl none) r G := by rw [hQ]; exact ⟨rfl, rfl, rfl⟩
  rw [← hQ]
  clear hQ
  rw [s_X4_add] at h
  refine aw_aload_n (pc := 0) (i := 0) (x := 10) hM dX4_add_0 rfl rfl ?_
  refine aw_getI (pc := 1) hM fd_X4_22 sk_10 rfl dX4_add_1 ?_
  refine aw_bipush (pc := 4) (v := 10) hM dX4_add_4 (by decide) ?_
  refine aw_icmp_ge (pc := 6) (tgt := 21) hM dX4_add_6 (by decide) (fun c1 => ?_) (fun c1 => ?_)
  · rw [if_pos c1] at h
    obtain rfl := Option.some.inj h
    exact aw_vret (pc := 21) hM dX4_add_21 (Nat.le_of_ble_eq_true rfl) (Nat.le_of_ble_eq_true rfl) hq
  · rw [if_neg c1] at h
    refine aw_iload_n (pc := 9) (i := 2) (x := p1) hM dX4_add_9 rfl rfl ?_
    refine aw_if_lt (pc := 10) (tgt := 21) hM dX4_add_10 (by decide) (fun c2 => ?_) (fun c2 => ?_)
    · rw [if_pos c2] at h
      obtain rfl := Option.some.inj h
      exact aw_vret (pc := 21) hM dX4_add_21 (Nat.le_of_ble_eq_true rfl) (Nat.le_of_ble_eq_true rfl) hq
    · rw [if_neg c2] at h
      refine aw_iload_n (pc := 13) (i := 2) (x := p1) hM dX4_add_13 rfl rfl ?_
      refine aw_iconst (pc := 14) (v := 5) hM dX4_add_14 (by decide) ?_
      refine aw_iadd (pc := 15) hM dX4_add_15 ?_
      refine aw_aload_n (pc := 16) (i := 1) (x := q0) hM dX4_add_16 rfl rfl ?_
      refine aw_alen (pc := 17) (k := 0) hM hq0 dX4_add_17 ?_
      refine aw_icmp_le (pc := 18) (tgt := 22) hM dX4_add_18 (by decide) (fun c3 => ?_) (fun c3 => ?_)
      · rw [if_pos c3] at h
        refine aw_aload_n (pc := 22) (i := 1) (x := q0) hM dX4_add_22 rfl rfl ?_
        refine aw_iload_n (pc := 23) (i := 2) (x := p1) hM dX4_add_23 rfl rfl ?_
        refine aw_aload_n (pc := 24) (i := 0) (x := 10) hM dX4_add_24 rfl rfl ?_
        refine aw_getR (pc := 25) (r := 11) hM fd_X4_11 sk_10 rfl dX4_add_25 ?_
        refine aw_aload_n (pc := 28) (i := 0) (x := 10) hM dX4_add_28 rfl rfl ?_
        refine aw_getI (pc := 29) hM fd_X4_22 sk_10 rfl dX4_add_29 ?_
        refine aw_iconst (pc := 32) (v := 5) hM dX4_add_32 (by decide) ?_
        refine aw_imul (pc := 33) hM dX4_add_33 ?_
        refine aw_iconst (pc := 34) (v := 5) hM dX4_add_34 (by decide) ?_
        obtain ⟨c4, h⟩ := ite_some h
        have c4 := cpok_of c4
        obtain ⟨F5, e6, h⟩ := bind_some h
        have e6 := Option.some.inj e6
        refine aw_copy (pc := 35) hM gw_580 gw_400 gw_399 gw_74 hq0 sk_11 c4.1 c4.2.1 c4.2.2.1 c4.2.2.2.1 c4.2.2.2.2 (Nat.le_of_ble_eq_true rfl) (Nat.le_of_ble_eq_true rfl) dX4_add_35 ?_
        refine aw_mem e6 ?_
        refine aw_aload_n (pc := 38) (i := 0) (x := 10) hM dX4_add_38 rfl rfl ?_
        refine aw_getI (pc := 39) hM fd_X4_22 sk_10 rfl dX4_add_39 ?_
        obtain ⟨y7, e8, h⟩ := bind_some h
        have e8 := Option.some.inj e8
        refine aw_topi e8 ?_
        refine aw_istore_n (pc := 42) (i := 3) (L' := [some (.ref 10), some (.ref q0), some (.int p1), some (.int y7), none]) hM dX4_add_42 rfl (by decide) rfl ?_
        refine aw_aload_n (pc := 43) (i := 0) (x := 10) hM dX4_add_43 rfl rfl ?_
        refine aw_dup (pc := 44) hM dX4_add_44 rfl ?_
        refine aw_getI (pc := 45) hM fd_X4_22 sk_10 rfl dX4_add_45 ?_
        refine aw_iconst (pc := 48) (v := 1) hM dX4_add_48 (by decide) ?_
        refine aw_iadd (pc := 49) hM dX4_add_49 ?_
        obtain ⟨F9, e10, h⟩ := bind_some h
        have e10 := Option.some.inj e10
        refine aw_put (pc := 50) (ty := .int) hM fd_X4_22 tyX4_ok nmX4 rfl (by decide +kernel) rfl rfl sk_10 rfl dX4_add_50 ?_
        refine aw_mem e10 ?_
        refine aw_iconst (pc := 53) (v := 0) hM dX4_add_53 (by decide) ?_
        refine aw_istore (pc := 54) (i := 4) (L' := [some (.ref 10), some (.ref q0), some (.int p1), some (.int y7), some (.int 0)]) hM dX4_add_54  (by decide) rfl ?_
        refine aw_weak (L' := [some (.ref 10), none, none, some (.int y7), some (.int 0)]) ?_ (lw_of [true, false, false, true, true] rfl)
        exact k_X4_add_b56 hq0 hM hT hq fu_ F9 y7 0 h
      · rw [if_neg c3] at h
        obtain rfl := Option.some.inj h
        exact aw_vret (pc := 21) hM dX4_add_21 (Nat.le_of_ble_eq_true rfl) (Nat.le_of_ble_eq_true rfl) hq
def rmX3_take : Room := { frames := 3, cells := 0, slots := 0, locals := 69 }
def s_X3_take_b59 : Nat → MM → Int32 → Option MM
  | 0, _, _ => none
  | n + 1, F, x2 => if (F 2 4) ≤ x2 then some F else (s_X4_add F 5 (x2 * 5)).bind (fun F16 => (some (x2 + 1 : Int32)).bind (fun y17 => s_X3_take_b59 n F16 y17))
def s_X3_take (F : MM) : Option MM := (some (mup F 8 0 (F 2 0))).bind (fun F1 => (some (mup F1 8 1 (F1 2 1))).bind (fun F3 => (some (mup F3 8 2 (F3 2 2))).bind (fun F5 => (some (mup F5 8 3 (F5 2 3))).bind (fun F7 => if cpok 0 0 5 5 5 then ((some (mrow F7 9 (va_cpy (F7 3) (F7 9) (ix 0) (ix 0) (ix 5)))).bind (fun F10 => (s_X4_clear F10 (F10 8 1)).bind (fun F13 => s_X3_take_b59 fu_ F13 0))) else none))))
set_option maxRecDepth 20000 in
theorem k_X3_take_b59 {C : CX} {M : MX} {G : GG} {Q : OUT → MM → GG → Prop} {r : MM} (hM : MOk C RX3 cX3_take 3 none rmX3_take M) (hT : MNoT M) (hq : Q (.inl none) r G) : ∀ (n : Nat) (F : MM) (x2 : Int32), s_X3_take_b59 n F x2 = some r → AW C 3 (ZM C rmX3_take Q M) M 0 0 59 [some (.ref 8), some (.ref 2), some (.int x2)] [] F G := by
  intro n
  induction n with
  | zero => intro F x2 h; exact nomatch h
  | succ n ih =>
    intro F x2 h
    rw [s_X3_take_b59] at h
    refine aw_iload_n (pc := 59) (i := 2) (x := x2) hM dX3_take_59 rfl rfl ?_
    refine aw_aload_n (pc := 60) (i := 1) (x := 2) hM dX3_take_60 rfl rfl ?_
    refine aw_getI (pc := 61) hM fd_X3_52 sk_2 rfl dX3_take_61 ?_
    refine aw_icmp_ge (pc := 64) (tgt := 87) hM dX3_take_64 (by decide) (fun c14 => ?_) (fun c14 => ?_)
    · rw [if_pos c14] at h
      obtain rfl := Option.some.inj h
      exact aw_vret (pc := 87) hM dX3_take_87 (Nat.le_of_ble_eq_true rfl) (Nat.le_of_ble_eq_true rfl) hq
    · rw [if_neg c14] at h
      refine aw_aload_n (pc := 67) (i := 0) (x := 8) hM dX3_take_67 rfl rfl ?_
      refine aw_getR (pc := 68) (r := 10) hM fd_X3_31 sk_8 rfl dX3_take_68 ?_
      refine aw_aload_n (pc := 71) (i := 1) (x := 2) hM dX3_take_71 rfl rfl ?_
      refine aw_getR (pc := 72) (r := 5) hM fd_X3_55 sk_2 rfl dX3_take_72 ?_
      refine aw_iload_n (pc := 75) (i := 2) (x := x2) hM dX3_take_75 rfl rfl ?_
      refine aw_iconst (pc := 76) (v := 5) hM dX3_take_76 (by decide) ?_
      refine aw_imul (pc := 77) hM dX3_take_77 ?_
      obtain ⟨F16, h15, h⟩ := bind_some h
      refine aw_cv1 (pc := 78) (n := 2) (As := [.ref 5, .int (x2 * 5)]) (st := []) (b := 10) (vo := none) (c2 := 0) (s2 := 0) hM (k_X4_add (ia_of sk_5) h15) rfl cw_X3_57 sk_10 rfl rfl (by decide +kernel) rfl rfl ⟨(Nat.le_of_ble_eq_true rfl), (Nat.le_of_ble_eq_true rfl)⟩ (Nat.le_of_ble_eq_true rfl) ⟨(Nat.le_of_ble_eq_true rfl), (Nat.le_of_ble_eq_true rfl)⟩ dX3_take_78 rfl rfl ?_
      obtain ⟨y17, e18, h⟩ := bind_some h
      have e18 := Option.some.inj e18
      refine aw_iinc (pc := 81) (v := y17) (L' := [some (.ref 8), some (.ref 2), some (.int y17)]) hM dX3_take_81 rfl e18 (by decide) rfl ?_
      refine aw_goto (pc := 84) (tgt := 59) hM dX3_take_84 (by decide) ?_
      exact ih F16 y17 h
set_option maxRecDepth 20000 in
theorem k_X3_take {C : CX} {F : MM} {G : GG} {r : MM} (h : s_X3_take F = some r) : AM C yX3_take cX3_take 3 none rmX3_take [.ref 8, .ref 2] F G (fun o F9 G9 => o = (.inl none) ∧ F9 = r ∧ G9 = G) := by
  refine am_of (L := [some (.ref 8), some (.ref 2), none]) (by decide) (Nat.le_of_ble_eq_true rfl) rfl (fun M hM hT => ?_)
  have hM : MOk C RX3 cX3_take 3 none rmX3_take M := hM
  obtain ⟨Q, hQ⟩ : ∃ Q : OUT → MM → GG → Prop, Q = (fun o F9 G9 => o = (.inl none) ∧ F9 = r ∧ G9 = G) := ⟨_, rfl⟩
  have hq : Q (.inl none) r G := by rw [hQ]; exact ⟨rfl, rfl, rfl⟩
  rw [← hQ]
  clear hQ
  rw [s_X3_take] at h
  refine aw_aload_n (pc := 0) (i := 0) (x := 8) hM dX3_take_0 rfl rfl ?_
  refine aw_aload_n (pc := 1) (i := 1) (x := 2) hM dX3_take_1 rfl rfl ?_
  refine aw_getI (pc := 2) hM fd_X3_35 sk_2 rfl dX3_take_2 ?_
  obtain ⟨F1, e2, h⟩ := bind_some h
  have e2 := Option.some.inj e2
  refine aw_put (pc := 5) (ty := .int) hM fd_X3_9 tyX3_ok nmX3 rfl (by decide +kernel) rfl rfl sk_8 rfl dX3_take_5 ?_
  refine aw_mem e2 ?_
  refine aw_aload_n (pc := 8) (i := 0) (x := 8) hM dX3_take_8 rfl rfl ?_
  refine aw_aload_n (pc := 9) (i := 1) (x := 2) hM dX3_take_9 rfl rfl ?_
  refine aw_getI (pc := 10) hM fd_X3_38 sk_2 rfl dX3_take_10 ?_
  obtain ⟨F3, e4, h⟩ := bind_some h
  have e4 := Option.some.inj e4
  refine aw_put (pc := 13) (ty := .int) hM fd_X3_15 tyX3_ok nmX3 rfl (by decide +kernel) rfl rfl sk_8 rfl dX3_take_13 ?_
  refine aw_mem e4 ?_
  refine aw_aload_n (pc := 16) (i := 0) (x := 8) hM dX3_take_16 rfl rfl ?_
  refine aw_aload_n (pc := 17) (i := 1) (x := 2) hM dX3_take_17 rfl rfl ?_
  refine aw_getI (pc := 18) hM fd_X3_39 sk_2 rfl dX3_take_18 ?_
  obtain ⟨F5, e6, h⟩ := bind_some h
  have e6 := Option.some.inj e6
  refine aw_put (pc := 21) (ty := .int) hM fd_X3_18 tyX3_ok nmX3 rfl (by decide +kernel) rfl rfl sk_8 rfl dX3_take_21 ?_
  refine aw_mem e6 ?_
  refine aw_aload_n (pc := 24) (i := 0) (x := 8) hM dX3_take_24 rfl rfl ?_
  refine aw_aload_n (pc := 25) (i := 1) (x := 2) hM dX3_take_25 rfl rfl ?_
  refine aw_getI (pc := 26) hM fd_X3_40 sk_2 rfl dX3_take_26 ?_
  obtain ⟨F7, e8, h⟩ := bind_some h
  have e8 := Option.some.inj e8
  refine aw_put (pc := 29) (ty := .int) hM fd_X3_21 tyX3_ok nmX3 rfl (by decide +kernel) rfl rfl sk_8 rfl dX3_take_29 ?_
  refine aw_mem e8 ?_
  refine aw_aload_n (pc := 32) (i := 1) (x := 2) hM dX3_take_32 rfl rfl ?_
  refine aw_getR (pc := 33) (r := 3) hM fd_X3_41 sk_2 rfl dX3_take_33 ?_
  refine aw_iconst (pc := 36) (v := 0) hM dX3_take_36 (by decide) ?_
  refine aw_aload_n (pc := 37) (i := 0) (x := 8) hM dX3_take_37 rfl rfl ?_
  refine aw_getR (pc := 38) (r := 9) hM fd_X3_24 sk_8 rfl dX3_take_38 ?_
  refine aw_iconst (pc := 41) (v := 0) hM dX3_take_41 (by decide) ?_
  refine aw_iconst (pc := 42) (v := 5) hM dX3_take_42 (by decide) ?_
  obtain ⟨c9, h⟩ := ite_some h
  have c9 := cpok_of c9
  obtain ⟨F10, e11, h⟩ := bind_some h
  have e11 := Option.some.inj e11
  refine aw_copy (pc := 43) hM gw_569 gw_400 gw_399 gw_74 sk_3 sk_9 c9.1 c9.2.1 c9.2.2.1 c9.2.2.2.1 c9.2.2.2.2 (Nat.le_of_ble_eq_true rfl) (Nat.le_of_ble_eq_true rfl) dX3_take_43 ?_
  refine aw_mem e11 ?_
  refine aw_aload_n (pc := 46) (i := 0) (x := 8) hM dX3_take_46 rfl rfl ?_
  refine aw_getR (pc := 47) (r := 10) hM fd_X3_31 sk_8 rfl dX3_take_47 ?_
  refine aw_aload_n (pc := 50) (i := 0) (x := 8) hM dX3_take_50 rfl rfl ?_
  refine aw_getI (pc := 51) hM fd_X3_15 sk_8 rfl dX3_take_51 ?_
  obtain ⟨F13, h12, h⟩ := bind_some h
  refine aw_cv1 (pc := 54) (n := 1) (As := [.int (F10 8 1)]) (st := []) (b := 10) (vo := none) (c2 := 0) (s2 := 0) hM (k_X4_clear h12) rfl cw_X3_48 sk_10 rfl rfl (by decide +kernel) rfl rfl ⟨(Nat.le_of_ble_eq_true rfl), (Nat.le_of_ble_eq_true rfl)⟩ (Nat.le_of_ble_eq_true rfl) ⟨(Nat.le_of_ble_eq_true rfl), (Nat.le_of_ble_eq_true rfl)⟩ dX3_take_54 rfl rfl ?_
  refine aw_iconst (pc := 57) (v := 0) hM dX3_take_57 (by decide) ?_
  refine aw_istore_n (pc := 58) (i := 2) (L' := [some (.ref 8), some (.ref 2), some (.int 0)]) hM dX3_take_58 rfl (by decide) rfl ?_
  exact k_X3_take_b59 hM hT hq fu_ F13 0 h
def rmX4_allow : Room := { frames := 1, cells := 0, slots := 0, locals := 21 }
def s_X4_allow_b2 (F : MM) : Nat → Int32 → Int32 → Int32 → Option Int32
  | 0, _, _, _ => none
  | n + 1, x1, x2, x3 => if (F 10 2) ≤ x3 then some 0 else if inb x3 4096 then (if (F 12 (ix x3)) = 0 then (s_X0_versionIn F x3 x1).bind (fun r7 => if r7 < x2 then (some (x3 + 1 : Int32)).bind (fun y9 => s_X4_allow_b2 F n x1 x2 y9) else some 1) else (some (x3 + 1 : Int32)).bind (fun y4 => s_X4_allow_b2 F n x1 x2 y4)) else none
def s_X4_allow (F : MM) (p0 : Int32) (p1 : Int32) : Option Int32 := s_X4_allow_b2 F fu_ p0 p1 0
set_option maxRecDepth 20000 in
theorem k_X4_allow_b2 {C : CX} {M : MX} {G : GG} {Q : OUT → MM → GG → Prop} {F : MM} {r : Int32} (hM : MOk C RX4 cX4_allow 4 (some .boolean) rmX4_allow M) (hT : MNoT M) (hq : Q (.inl (some (.int r))) F G) : ∀ (n : Nat) (x1 : Int32) (x2 : Int32) (x3 : Int32), s_X4_allow_b2 F n x1 x2 x3 = some r → AW C 4 (ZM C rmX4_allow Q M) M 0 0 2 [some (.ref 10), some (.int x1), some (.int x2), some (.int x3)] [] F G := by
  intro n
  induction n with
  | zero => intro x1 x2 x3 h; exact nomatch h
  | succ n ih =>
    intro x1 x2 x3 h
    rw [s_X4_allow_b2] at h
    refine aw_iload_n (pc := 2) (i := 3) (x := x3) hM dX4_allow_2 rfl rfl ?_
    refine aw_aload_n (pc := 3) (i := 0) (x := 10) hM dX4_allow_3 rfl rfl ?_
    refine aw_getI (pc := 4) hM fd_X4_18 sk_10 rfl dX4_allow_4 ?_
    refine aw_icmp_ge (pc := 7) (tgt := 36) hM dX4_allow_7 (by decide) (fun c1 => ?_) (fun c1 => ?_)
    · rw [if_pos c1] at h
      refine aw_iconst (pc := 36) (v := 0) hM dX4_allow_36 (by decide) ?_
      obtain rfl := Option.some.inj h
      exact aw_zret (pc := 37) hM dX4_allow_37 (by decide) (Nat.le_of_ble_eq_true rfl) (Nat.le_of_ble_eq_true rfl) hq
    · rw [if_neg c1] at h
      refine aw_aload_n (pc := 10) (i := 0) (x := 10) hM dX4_allow_10 rfl rfl ?_
      refine aw_getR (pc := 11) (r := 12) hM fd_X4_15 sk_10 rfl dX4_allow_11 ?_
      refine aw_iload_n (pc := 14) (i := 3) (x := x3) hM dX4_allow_14 rfl rfl ?_
      obtain ⟨c2, h⟩ := ite_some h
      refine aw_iald (pc := 15) hM sk_12 c2 dX4_allow_15 ?_
      refine aw_if_ne (pc := 16) (tgt := 30) hM dX4_allow_16 (by decide) (fun c3 => ?_) (fun c3 => ?_)
      · rw [if_neg c3] at h
        obtain ⟨y4, e5, h⟩ := bind_some h
        have e5 := Option.some.inj e5
        refine aw_iinc (pc := 30) (v := y4) (L' := [some (.ref 10), some (.int x1), some (.int x2), some (.int y4)]) hM dX4_allow_30 rfl e5 (by decide) rfl ?_
        refine aw_goto (pc := 33) (tgt := 2) hM dX4_allow_33 (by decide) ?_
        exact ih x1 x2 y4 h
      · rw [if_pos c3] at h
        refine aw_iload_n (pc := 19) (i := 3) (x := x3) hM dX4_allow_19 rfl rfl ?_
        refine aw_iload_n (pc := 20) (i := 1) (x := x1) hM dX4_allow_20 rfl rfl ?_
        obtain ⟨r7, h6, h⟩ := bind_some h
        refine aw_cs1 (pc := 21) (n := 2) (As := [.int x3, .int x1]) (st := []) (vo := (some (.int r7))) (c2 := 0) (s2 := 0) hM (k_X0_versionIn h6) rfl cw_X4_47 (by decide +kernel) rfl rfl ⟨(Nat.le_of_ble_eq_true rfl), (Nat.le_of_ble_eq_true rfl)⟩ (Nat.le_of_ble_eq_true rfl) ⟨(Nat.le_of_ble_eq_true rfl), (Nat.le_of_ble_eq_true rfl)⟩ dX4_allow_21 rfl rfl ?_
        refine aw_iload_n (pc := 24) (i := 2) (x := x2) hM dX4_allow_24 rfl rfl ?_
        refine aw_icmp_lt (pc := 25) (tgt := 30) hM dX4_allow_25 (by decide) (fun c8 => ?_) (fun c8 => ?_)
        · rw [if_pos c8] at h
          obtain ⟨y9, e10, h⟩ := bind_some h
          have e10 := Option.some.inj e10
          refine aw_iinc (pc := 30) (v := y9) (L' := [some (.ref 10), some (.int x1), some (.int x2), some (.int y9)]) hM dX4_allow_30 rfl e10 (by decide) rfl ?_
          refine aw_goto (pc := 33) (tgt := 2) hM dX4_allow_33 (by decide) ?_
          exact ih x1 x2 y9 h
        · rw [if_neg c8] at h
          refine aw_iconst (pc := 28) (v := 1) hM dX4_allow_28 (by decide) ?_
          obtain rfl := Option.some.inj h
          exact aw_zret (pc := 29) hM dX4_allow_29 (by decide) (Nat.le_of_ble_eq_true rfl) (Nat.le_of_ble_eq_true rfl) hq
set_option maxRecDepth 20000 in
theorem k_X4_allow {C : CX} {F : MM} {G : GG} {p0 : Int32} {p1 : Int32} {r : Int32} (h : s_X4_allow F p0 p1 = some r) : AM C yX4_allow cX4_allow 4 (some .boolean) rmX4_allow [.ref 10, .int p0, .int p1] F G (fun o F9 G9 => o = (.inl (some (.int r))) ∧ F9 = F ∧ G9 = G) := by
  refine am_of (L := [some (.ref 10), some (.int p0), some (.int p1), none]) (by decide) (Nat.le_of_ble_eq_true rfl) rfl (fun M hM hT => ?_)
  have hM : MOk C RX4 cX4_allow 4 (some .boolean) rmX4_allow M := hM
  obtain ⟨Q, hQ⟩ : ∃ Q : OUT → MM → GG → Prop, Q = (fun o F9 G9 => o = (.inl (some (.int r))) ∧ F9 = F ∧ G9 = G) := ⟨_, rfl⟩
  have hq : Q (.inl (some (.int r))) F G := by rw [hQ]; exact ⟨rfl, rfl, rfl⟩
  rw [← hQ]
  clear hQ
  rw [s_X4_allow] at h
  refine aw_iconst (pc := 0) (v := 0) hM dX4_allow_0 (by decide) ?_
  refine aw_istore_n (pc := 1) (i := 3) (L' := [some (.ref 10), some (.int p0), some (.int p1), some (.int 0)]) hM dX4_allow_1 rfl (by decide) rfl ?_
  exact k_X4_allow_b2 hM hT hq fu_ p0 p1 0 h
def rmX4_brokenOn : Room := { frames := 0, cells := 0, slots := 0, locals := 0 }
def s_X4_brokenOn (F : MM) (p0 : Int32) : Option Int32 := if inb (p0 &&& 4095) 4096 then (some (F 12 (ix (p0 &&& 4095)))) else none
set_option maxRecDepth 20000 in
theorem k_X4_brokenOn {C : CX} {F : MM} {G : GG} {p0 : Int32} {r : Int32} (h : s_X4_brokenOn F p0 = some r) : AM C yX4_brokenOn cX4_brokenOn 2 (some .int) rmX4_brokenOn [.ref 10, .int p0] F G (fun o F9 G9 => o = (.inl (some (.int r))) ∧ F9 = F ∧ G9 = G) := by
  refine am_of (L := [some (.ref 10), some (.int p0)]) (by decide) (Nat.le_of_ble_eq_true rfl) rfl (fun M hM hT => ?_)
  have hM : MOk C RX4 cX4_brokenOn 2 (some .int) rmX4_brokenOn M := hM
  obtain ⟨Q, hQ⟩ : ∃ Q : OUT → MM → GG → Prop, Q = (fun o F9 G9 => o = (.inl (some (.int r))) ∧ F9 = F ∧ G9 = G) := ⟨_, rfl⟩
  have hq : Q (.inl (some (.int r))) F G := by rw [hQ]; exact ⟨rfl, rfl, rfl⟩
  rw [← hQ]
  clear hQ
  rw [s_X4_brokenOn] at h
  refine aw_aload_n (pc := 0) (i := 0) (x := 10) hM dX4_brokenOn_0 rfl rfl ?_
  refine aw_getR (pc := 1) (r := 12) hM fd_X4_15 sk_10 rfl dX4_brokenOn_1 ?_
  refine aw_iload_n (pc := 4) (i := 1) (x := p0) hM dX4_brokenOn_4 rfl rfl ?_
  refine aw_sipush (pc := 5) (v := 4095) hM dX4_brokenOn_5 (by decide) ?_
  refine aw_iand (pc := 8) hM dX4_brokenOn_8 ?_
  obtain ⟨c1, h⟩ := ite_some h
  refine aw_iald (pc := 9) hM sk_12 c1 dX4_brokenOn_9 ?_
  obtain rfl := Option.some.inj h
  exact aw_iret (pc := 10) hM dX4_brokenOn_10 (Nat.le_of_ble_eq_true rfl) (Nat.le_of_ble_eq_true rfl) hq
def rmX4_part : Room := { frames := 0, cells := 0, slots := 0, locals := 0 }
def s_X4_part (F : MM) (p0 : Int32) (p1 : Int32) : Option Int32 := if inb ((p0 * 5) + p1) 50 then (some (F 11 (ix ((p0 * 5) + p1)))) else none
set_option maxRecDepth 20000 in
theorem k_X4_part {C : CX} {F : MM} {G : GG} {p0 : Int32} {p1 : Int32} {r : Int32} (h : s_X4_part F p0 p1 = some r) : AM C yX4_part cX4_part 3 (some .int) rmX4_part [.ref 10, .int p0, .int p1] F G (fun o F9 G9 => o = (.inl (some (.int r))) ∧ F9 = F ∧ G9 = G) := by
  refine am_of (L := [some (.ref 10), some (.int p0), some (.int p1)]) (by decide) (Nat.le_of_ble_eq_true rfl) rfl (fun M hM hT => ?_)
  have hM : MOk C RX4 cX4_part 3 (some .int) rmX4_part M := hM
  obtain ⟨Q, hQ⟩ : ∃ Q : OUT → MM → GG → Prop, Q = (fun o F9 G9 => o = (.inl (some (.int r))) ∧ F9 = F ∧ G9 = G) := ⟨_, rfl⟩
  have hq : Q (.inl (some (.int r))) F G := by rw [hQ]; exact ⟨rfl, rfl, rfl⟩
  rw [← hQ]
  clear hQ
  rw [s_X4_part] at h
  refine aw_aload_n (pc := 0) (i := 0) (x := 10) hM dX4_part_0 rfl rfl ?_
  refine aw_getR (pc := 1) (r := 11) hM fd_X4_11 sk_10 rfl dX4_part_1 ?_
  refine aw_iload_n (pc := 4) (i := 1) (x := p0) hM dX4_part_4 rfl rfl ?_
  refine aw_iconst (pc := 5) (v := 5) hM dX4_part_5 (by decide) ?_
  refine aw_imul (pc := 6) hM dX4_part_6 ?_
  refine aw_iload_n (pc := 7) (i := 2) (x := p1) hM dX4_part_7 rfl rfl ?_
  refine aw_iadd (pc := 8) hM dX4_part_8 ?_
  obtain ⟨c1, h⟩ := ite_some h
  refine aw_iald (pc := 9) hM sk_11 c1 dX4_part_9 ?_
  obtain rfl := Option.some.inj h
  exact aw_iret (pc := 10) hM dX4_part_10 (Nat.le_of_ble_eq_true rfl) (Nat.le_of_ble_eq_true rfl) hq
def rmX4_raisedByNeeds : Room := { frames := 2, cells := 0, slots := 0, locals := 45 }
def s_X4_raisedByNeeds_b4 (F : MM) : Nat → Int32 → Int32 → Option Int32
  | 0, _, _ => none
  | n + 1, x2, x3 => if (F 10 3) ≤ x3 then some x2 else (s_X4_part F x3 0).bind (fun r3 => if r3 = 0 then (s_X4_isBroken F x3 x2).bind (fun r8 => if r8 = 0 then (some (x3 + 1 : Int32)).bind (fun y10 => s_X4_raisedByNeeds_b4 F n x2 y10) else (s_X4_part F x3 3).bind (fun r13 => (s_X4_part F x3 4).bind (fun r15 => (s_X0_with F x2 r13 r15).bind (fun r17 => (some (x3 + 1 : Int32)).bind (fun y18 => s_X4_raisedByNeeds_b4 F n r17 y18))))) else (some (x3 + 1 : Int32)).bind (fun y5 => s_X4_raisedByNeeds_b4 F n x2 y5))
def s_X4_raisedByNeeds (F : MM) (p0 : Int32) : Option Int32 := s_X4_raisedByNeeds_b4 F fu_ p0 0
set_option maxRecDepth 20000 in
theorem k_X4_raisedByNeeds_b4 {C : CX} {M : MX} {G : GG} {Q : OUT → MM → GG → Prop} {F : MM} {r : Int32} (hM : MOk C RX4 cX4_raisedByNeeds 4 (some .int) rmX4_raisedByNeeds M) (hT : MNoT M) (hq : Q (.inl (some (.int r))) F G) : ∀ (n : Nat) (x2 : Int32) (x3 : Int32), s_X4_raisedByNeeds_b4 F n x2 x3 = some r → AW C 4 (ZM C rmX4_raisedByNeeds Q M) M 0 0 4 [some (.ref 10), none, some (.int x2), some (.int x3)] [] F G := by
  intro n
  induction n with
  | zero => intro x2 x3 h; exact nomatch h
  | succ n ih =>
    intro x2 x3 h
    rw [s_X4_raisedByNeeds_b4] at h
    refine aw_iload_n (pc := 4) (i := 3) (x := x3) hM dX4_raisedByNeeds_4 rfl rfl ?_
    refine aw_aload_n (pc := 5) (i := 0) (x := 10) hM dX4_raisedByNeeds_5 rfl rfl ?_
    refine aw_getI (pc := 6) hM fd_X4_22 sk_10 rfl dX4_raisedByNeeds_6 ?_
    refine aw_icmp_ge (pc := 9) (tgt := 53) hM dX4_raisedByNeeds_9 (by decide) (fun c1 => ?_) (fun c1 => ?_)
    · rw [if_pos c1] at h
      refine aw_iload_n (pc := 53) (i := 2) (x := x2) hM dX4_raisedByNeeds_53 rfl rfl ?_
      obtain rfl := Option.some.inj h
      exact aw_iret (pc := 54) hM dX4_raisedByNeeds_54 (Nat.le_of_ble_eq_true rfl) (Nat.le_of_ble_eq_true rfl) hq
    · rw [if_neg c1] at h
      refine aw_aload_n (pc := 12) (i := 0) (x := 10) hM dX4_raisedByNeeds_12 rfl rfl ?_
      refine aw_iload_n (pc := 13) (i := 3) (x := x3) hM dX4_raisedByNeeds_13 rfl rfl ?_
      refine aw_iconst (pc := 14) (v := 0) hM dX4_raisedByNeeds_14 (by decide) ?_
      obtain ⟨r3, h2, h⟩ := bind_some h
      refine aw_cv1 (pc := 15) (n := 2) (As := [.int x3, .int 0]) (st := []) (b := 10) (vo := (some (.int r3))) (c2 := 0) (s2 := 0) hM (k_X4_part h2) rfl cw_X4_56 sk_10 rfl rfl (by decide +kernel) rfl rfl ⟨(Nat.le_of_ble_eq_true rfl), (Nat.le_of_ble_eq_true rfl)⟩ (Nat.le_of_ble_eq_true rfl) ⟨(Nat.le_of_ble_eq_true rfl), (Nat.le_of_ble_eq_true rfl)⟩ dX4_raisedByNeeds_15 rfl rfl ?_
      refine aw_if_ne (pc := 18) (tgt := 47) hM dX4_raisedByNeeds_18 (by decide) (fun c4 => ?_) (fun c4 => ?_)
      · rw [if_neg c4] at h
        obtain ⟨y5, e6, h⟩ := bind_some h
        have e6 := Option.some.inj e6
        refine aw_iinc (pc := 47) (v := y5) (L' := [some (.ref 10), none, some (.int x2), some (.int y5)]) hM dX4_raisedByNeeds_47 rfl e6 (by decide) rfl ?_
        refine aw_goto (pc := 50) (tgt := 4) hM dX4_raisedByNeeds_50 (by decide) ?_
        exact ih x2 y5 h
      · rw [if_pos c4] at h
        refine aw_aload_n (pc := 21) (i := 0) (x := 10) hM dX4_raisedByNeeds_21 rfl rfl ?_
        refine aw_iload_n (pc := 22) (i := 3) (x := x3) hM dX4_raisedByNeeds_22 rfl rfl ?_
        refine aw_iload_n (pc := 23) (i := 2) (x := x2) hM dX4_raisedByNeeds_23 rfl rfl ?_
        obtain ⟨r8, h7, h⟩ := bind_some h
        refine aw_cv1 (pc := 24) (n := 2) (As := [.int x3, .int x2]) (st := []) (b := 10) (vo := (some (.int r8))) (c2 := 0) (s2 := 0) hM (k_X4_isBroken h7) rfl cw_X4_43 sk_10 rfl rfl (by decide +kernel) rfl rfl ⟨(Nat.le_of_ble_eq_true rfl), (Nat.le_of_ble_eq_true rfl)⟩ (Nat.le_of_ble_eq_true rfl) ⟨(Nat.le_of_ble_eq_true rfl), (Nat.le_of_ble_eq_true rfl)⟩ dX4_raisedByNeeds_24 rfl rfl ?_
        refine aw_if_eq (pc := 27) (tgt := 47) hM dX4_raisedByNeeds_27 (by decide) (fun c9 => ?_) (fun c9 => ?_)
        · rw [if_pos c9] at h
          obtain ⟨y10, e11, h⟩ := bind_some h
          have e11 := Option.some.inj e11
          refine aw_iinc (pc := 47) (v := y10) (L' := [some (.ref 10), none, some (.int x2), some (.int y10)]) hM dX4_raisedByNeeds_47 rfl e11 (by decide) rfl ?_
          refine aw_goto (pc := 50) (tgt := 4) hM dX4_raisedByNeeds_50 (by decide) ?_
          exact ih x2 y10 h
        · rw [if_neg c9] at h
          refine aw_iload_n (pc := 30) (i := 2) (x := x2) hM dX4_raisedByNeeds_30 rfl rfl ?_
          refine aw_aload_n (pc := 31) (i := 0) (x := 10) hM dX4_raisedByNeeds_31 rfl rfl ?_
          refine aw_iload_n (pc := 32) (i := 3) (x := x3) hM dX4_raisedByNeeds_32 rfl rfl ?_
          refine aw_iconst (pc := 33) (v := 3) hM dX4_raisedByNeeds_33 (by decide) ?_
          obtain ⟨r13, h12, h⟩ := bind_some h
          refine aw_cv1 (pc := 34) (n := 2) (As := [.int x3, .int 3]) (st := [.int x2]) (b := 10) (vo := (some (.int r13))) (c2 := 0) (s2 := 0) hM (k_X4_part h12) rfl cw_X4_56 sk_10 rfl rfl (by decide +kernel) rfl rfl ⟨(Nat.le_of_ble_eq_true rfl), (Nat.le_of_ble_eq_true rfl)⟩ (Nat.le_of_ble_eq_true rfl) ⟨(Nat.le_of_ble_eq_true rfl), (Nat.le_of_ble_eq_true rfl)⟩ dX4_raisedByNeeds_34 rfl rfl ?_
          refine aw_aload_n (pc := 37) (i := 0) (x := 10) hM dX4_raisedByNeeds_37 rfl rfl ?_
          refine aw_iload_n (pc := 38) (i := 3) (x := x3) hM dX4_raisedByNeeds_38 rfl rfl ?_
          refine aw_iconst (pc := 39) (v := 4) hM dX4_raisedByNeeds_39 (by decide) ?_
          obtain ⟨r15, h14, h⟩ := bind_some h
          refine aw_cv1 (pc := 40) (n := 2) (As := [.int x3, .int 4]) (st := [.int r13, .int x2]) (b := 10) (vo := (some (.int r15))) (c2 := 0) (s2 := 0) hM (k_X4_part h14) rfl cw_X4_56 sk_10 rfl rfl (by decide +kernel) rfl rfl ⟨(Nat.le_of_ble_eq_true rfl), (Nat.le_of_ble_eq_true rfl)⟩ (Nat.le_of_ble_eq_true rfl) ⟨(Nat.le_of_ble_eq_true rfl), (Nat.le_of_ble_eq_true rfl)⟩ dX4_raisedByNeeds_40 rfl rfl ?_
          obtain ⟨r17, h16, h⟩ := bind_some h
          refine aw_cs1 (pc := 43) (n := 3) (As := [.int x2, .int r13, .int r15]) (st := []) (vo := (some (.int r17))) (c2 := 0) (s2 := 0) hM (k_X0_with h16) rfl cw_X4_59 (by decide +kernel) rfl rfl ⟨(Nat.le_of_ble_eq_true rfl), (Nat.le_of_ble_eq_true rfl)⟩ (Nat.le_of_ble_eq_true rfl) ⟨(Nat.le_of_ble_eq_true rfl), (Nat.le_of_ble_eq_true rfl)⟩ dX4_raisedByNeeds_43 rfl rfl ?_
          refine aw_istore_n (pc := 46) (i := 2) (L' := [some (.ref 10), none, some (.int r17), some (.int x3)]) hM dX4_raisedByNeeds_46 rfl (by decide) rfl ?_
          obtain ⟨y18, e19, h⟩ := bind_some h
          have e19 := Option.some.inj e19
          refine aw_iinc (pc := 47) (v := y18) (L' := [some (.ref 10), none, some (.int r17), some (.int y18)]) hM dX4_raisedByNeeds_47 rfl e19 (by decide) rfl ?_
          refine aw_goto (pc := 50) (tgt := 4) hM dX4_raisedByNeeds_50 (by decide) ?_
          exact ih r17 y18 h
set_option maxRecDepth 20000 in
theorem k_X4_raisedByNeeds {C : CX} {F : MM} {G : GG} {p0 : Int32} {r : Int32} (h : s_X4_raisedByNeeds F p0 = some r) : AM C yX4_raisedByNeeds cX4_raisedByNeeds 4 (some .int) rmX4_raisedByNeeds [.ref 10, .int p0] F G (fun o F9 G9 => o = (.inl (some (.int r))) ∧ F9 = F ∧ G9 = G) := by
  refine am_of (L := [some (.ref 10), some (.int p0), none, none]) (by decide) (Nat.le_of_ble_eq_true rfl) rfl (fun M hM hT => ?_)
  have hM : MOk C RX4 cX4_raisedByNeeds 4 (some .int) rmX4_raisedByNeeds M := hM
  obtain ⟨Q, hQ⟩ : ∃ Q : OUT → MM → GG → Prop, Q = (fun o F9 G9 => o = (.inl (some (.int r))) ∧ F9 = F ∧ G9 = G) := ⟨_, rfl⟩
  have hq : Q (.inl (some (.int r))) F G := by rw [hQ]; exact ⟨rfl, rfl, rfl⟩
  rw [← hQ]
  clear hQ
  rw [s_X4_raisedByNeeds] at h
  refine aw_iload_n (pc := 0) (i := 1) (x := p0) hM dX4_raisedByNeeds_0 rfl rfl ?_
  refine aw_istore_n (pc := 1) (i := 2) (L' := [some (.ref 10), some (.int p0), some (.int p0), none]) hM dX4_raisedByNeeds_1 rfl (by decide) rfl ?_
  refine aw_iconst (pc := 2) (v := 0) hM dX4_raisedByNeeds_2 (by decide) ?_
  refine aw_istore_n (pc := 3) (i := 3) (L' := [some (.ref 10), some (.int p0), some (.int p0), some (.int 0)]) hM dX4_raisedByNeeds_3 rfl (by decide) rfl ?_
  refine aw_weak (L' := [some (.ref 10), none, some (.int p0), some (.int 0)]) ?_ (lw_of [true, false, true, true] rfl)
  exact k_X4_raisedByNeeds_b4 hM hT hq fu_ p0 0 h
def rmX4_leastWithNeeds : Room := { frames := 3, cells := 0, slots := 0, locals := 68 }
def s_X4_leastWithNeeds_b4 (F : MM) : Nat → Int32 → Int32 → Option Int32
  | 0, _, _ => none
  | n + 1, x2, x3 => if 18 < x3 then some x2 else (s_X4_raisedByNeeds F x2).bind (fun r3 => if r3 = x2 then some x2 else (some (x3 + 1 : Int32)).bind (fun y5 => s_X4_leastWithNeeds_b4 F n r3 y5))
def s_X4_leastWithNeeds (F : MM) (p0 : Int32) : Option Int32 := s_X4_leastWithNeeds_b4 F fu_ p0 0
set_option maxRecDepth 20000 in
theorem k_X4_leastWithNeeds_b4 {C : CX} {M : MX} {G : GG} {Q : OUT → MM → GG → Prop} {F : MM} {r : Int32} (hM : MOk C RX4 cX4_leastWithNeeds 5 (some .int) rmX4_leastWithNeeds M) (hT : MNoT M) (hq : Q (.inl (some (.int r))) F G) : ∀ (n : Nat) (x2 : Int32) (x3 : Int32), s_X4_leastWithNeeds_b4 F n x2 x3 = some r → AW C 5 (ZM C rmX4_leastWithNeeds Q M) M 0 0 4 [some (.ref 10), none, some (.int x2), some (.int x3), none] [] F G := by
  intro n
  induction n with
  | zero => intro x2 x3 h; exact nomatch h
  | succ n ih =>
    intro x2 x3 h
    rw [s_X4_leastWithNeeds_b4] at h
    refine aw_iload_n (pc := 4) (i := 3) (x := x3) hM dX4_leastWithNeeds_4 rfl rfl ?_
    refine aw_bipush (pc := 5) (v := 18) hM dX4_leastWithNeeds_5 (by decide) ?_
    refine aw_icmp_gt (pc := 7) (tgt := 34) hM dX4_leastWithNeeds_7 (by decide) (fun c1 => ?_) (fun c1 => ?_)
    · rw [if_pos c1] at h
      refine aw_iload_n (pc := 34) (i := 2) (x := x2) hM dX4_leastWithNeeds_34 rfl rfl ?_
      obtain rfl := Option.some.inj h
      exact aw_iret (pc := 35) hM dX4_leastWithNeeds_35 (Nat.le_of_ble_eq_true rfl) (Nat.le_of_ble_eq_true rfl) hq
    · rw [if_neg c1] at h
      refine aw_aload_n (pc := 10) (i := 0) (x := 10) hM dX4_leastWithNeeds_10 rfl rfl ?_
      refine aw_iload_n (pc := 11) (i := 2) (x := x2) hM dX4_leastWithNeeds_11 rfl rfl ?_
      obtain ⟨r3, h2, h⟩ := bind_some h
      refine aw_cv1 (pc := 12) (n := 1) (As := [.int x2]) (st := []) (b := 10) (vo := (some (.int r3))) (c2 := 0) (s2 := 0) hM (k_X4_raisedByNeeds h2) rfl cw_X4_52 sk_10 rfl rfl (by decide +kernel) rfl rfl ⟨(Nat.le_of_ble_eq_true rfl), (Nat.le_of_ble_eq_true rfl)⟩ (Nat.le_of_ble_eq_true rfl) ⟨(Nat.le_of_ble_eq_true rfl), (Nat.le_of_ble_eq_true rfl)⟩ dX4_leastWithNeeds_12 rfl rfl ?_
      refine aw_istore (pc := 15) (i := 4) (L' := [some (.ref 10), none, some (.int x2), some (.int x3), some (.int r3)]) hM dX4_leastWithNeeds_15  (by decide) rfl ?_
      refine aw_iload (pc := 17) (i := 4) (x := r3) hM dX4_leastWithNeeds_17  rfl ?_
      refine aw_iload_n (pc := 19) (i := 2) (x := x2) hM dX4_leastWithNeeds_19 rfl rfl ?_
      refine aw_icmp_ne (pc := 20) (tgt := 25) hM dX4_leastWithNeeds_20 (by decide) (fun c4 => ?_) (fun c4 => ?_)
      · rw [if_neg c4] at h
        refine aw_iload (pc := 25) (i := 4) (x := r3) hM dX4_leastWithNeeds_25  rfl ?_
        refine aw_istore_n (pc := 27) (i := 2) (L' := [some (.ref 10), none, some (.int r3), some (.int x3), some (.int r3)]) hM dX4_leastWithNeeds_27 rfl (by decide) rfl ?_
        obtain ⟨y5, e6, h⟩ := bind_some h
        have e6 := Option.some.inj e6
        refine aw_iinc (pc := 28) (v := y5) (L' := [some (.ref 10), none, some (.int r3), some (.int y5), some (.int r3)]) hM dX4_leastWithNeeds_28 rfl e6 (by decide) rfl ?_
        refine aw_goto (pc := 31) (tgt := 4) hM dX4_leastWithNeeds_31 (by decide) ?_
        refine aw_weak (L' := [some (.ref 10), none, some (.int r3), some (.int y5), none]) ?_ (lw_of [true, true, true, true, false] rfl)
        exact ih r3 y5 h
      · rw [if_pos c4] at h
        refine aw_iload_n (pc := 23) (i := 2) (x := x2) hM dX4_leastWithNeeds_23 rfl rfl ?_
        obtain rfl := Option.some.inj h
        exact aw_iret (pc := 24) hM dX4_leastWithNeeds_24 (Nat.le_of_ble_eq_true rfl) (Nat.le_of_ble_eq_true rfl) hq
set_option maxRecDepth 20000 in
theorem k_X4_leastWithNeeds {C : CX} {F : MM} {G : GG} {p0 : Int32} {r : Int32} (h : s_X4_leastWithNeeds F p0 = some r) : AM C yX4_leastWithNeeds cX4_leastWithNeeds 5 (some .int) rmX4_leastWithNeeds [.ref 10, .int p0] F G (fun o F9 G9 => o = (.inl (some (.int r))) ∧ F9 = F ∧ G9 = G) := by
  refine am_of (L := [some (.ref 10), some (.int p0), none, none, none]) (by decide) (Nat.le_of_ble_eq_true rfl) rfl (fun M hM hT => ?_)
  have hM : MOk C RX4 cX4_leastWithNeeds 5 (some .int) rmX4_leastWithNeeds M := hM
  obtain ⟨Q, hQ⟩ : ∃ Q : OUT → MM → GG → Prop, Q = (fun o F9 G9 => o = (.inl (some (.int r))) ∧ F9 = F ∧ G9 = G) := ⟨_, rfl⟩
  have hq : Q (.inl (some (.int r))) F G := by rw [hQ]; exact ⟨rfl, rfl, rfl⟩
  rw [← hQ]
  clear hQ
  rw [s_X4_leastWithNeeds] at h
  refine aw_iload_n (pc := 0) (i := 1) (x := p0) hM dX4_leastWithNeeds_0 rfl rfl ?_
  refine aw_istore_n (pc := 1) (i := 2) (L' := [some (.ref 10), some (.int p0), some (.int p0), none, none]) hM dX4_leastWithNeeds_1 rfl (by decide) rfl ?_
  refine aw_iconst (pc := 2) (v := 0) hM dX4_leastWithNeeds_2 (by decide) ?_
  refine aw_istore_n (pc := 3) (i := 3) (L' := [some (.ref 10), some (.int p0), some (.int p0), some (.int 0), none]) hM dX4_leastWithNeeds_3 rfl (by decide) rfl ?_
  refine aw_weak (L' := [some (.ref 10), none, some (.int p0), some (.int 0), none]) ?_ (lw_of [true, false, true, true, true] rfl)
  exact k_X4_leastWithNeeds_b4 hM hT hq fu_ p0 0 h
def rmX5_driftedNodes : Room := { frames := 0, cells := 0, slots := 0, locals := 0 }
def s_X5_driftedNodes_b4 (F : MM) (a_this : Nat) : Nat → Int32 → Int32 → Option Int32
  | 0, _, _ => none
  | n + 1, x1, x2 => if (F 8 0) ≤ x2 then some x1 else if inb x2 5 then (if inb x2 5 then (if (F (a_this + 1) (ix x2)) = (F (a_this + 2) (ix x2)) then (some (x2 + 1 : Int32)).bind (fun y5 => s_X5_driftedNodes_b4 F a_this n x1 y5) else (some (x1 ||| ((1 : Int32) <<< (x2 &&& 31)) : Int32)).bind (fun y7 => (some (x2 + 1 : Int32)).bind (fun y9 => s_X5_driftedNodes_b4 F a_this n y7 y9))) else none) else none
def s_X5_driftedNodes (F : MM) (a_this : Nat) : Option Int32 := s_X5_driftedNodes_b4 F a_this fu_ 0 0
set_option maxRecDepth 20000 in
theorem k_X5_driftedNodes_b4 {C : CX} {M : MX} {G : GG} {Q : OUT → MM → GG → Prop} {F : MM} {a_this : Nat} {r : Int32}  (ha_this : isSt a_this)(hM : MOk C RX5 cX5_driftedNodes 3 (some .int) rmX5_driftedNodes M) (hT : MNoT M) (hq : Q (.inl (some (.int r))) F G) : ∀ (n : Nat) (x1 : Int32) (x2 : Int32), s_X5_driftedNodes_b4 F a_this n x1 x2 = some r → AW C 3 (ZM C rmX5_driftedNodes Q M) M 0 0 4 [some (.ref a_this), some (.int x1), some (.int x2)] [] F G := by
  intro n
  induction n with
  | zero => intro x1 x2 h; exact nomatch h
  | succ n ih =>
    intro x1 x2 h
    rw [s_X5_driftedNodes_b4] at h
    refine aw_iload_n (pc := 4) (i := 2) (x := x2) hM dX5_driftedNodes_4 rfl rfl ?_
    refine aw_aload_n (pc := 5) (i := 0) (x := a_this) hM dX5_driftedNodes_5 rfl rfl ?_
    refine aw_getR (pc := 6) (r := 8) hM fd_X5_33 (st_ob ha_this) rfl dX5_driftedNodes_6 ?_
    refine aw_getI (pc := 9) hM fd_X5_70 sk_8 rfl dX5_driftedNodes_9 ?_
    refine aw_icmp_ge (pc := 12) (tgt := 42) hM dX5_driftedNodes_12 (by decide) (fun c1 => ?_) (fun c1 => ?_)
    · rw [if_pos c1] at h
      refine aw_iload_n (pc := 42) (i := 1) (x := x1) hM dX5_driftedNodes_42 rfl rfl ?_
      obtain rfl := Option.some.inj h
      exact aw_iret (pc := 43) hM dX5_driftedNodes_43 (Nat.le_of_ble_eq_true rfl) (Nat.le_of_ble_eq_true rfl) hq
    · rw [if_neg c1] at h
      refine aw_aload_n (pc := 15) (i := 0) (x := a_this) hM dX5_driftedNodes_15 rfl rfl ?_
      refine aw_getR (pc := 16) (r := (a_this + 1)) hM fd_X5_9 (st_ob ha_this) rfl dX5_driftedNodes_16 ?_
      refine aw_iload_n (pc := 19) (i := 2) (x := x2) hM dX5_driftedNodes_19 rfl rfl ?_
      obtain ⟨c2, h⟩ := ite_some h
      refine aw_iald (pc := 20) hM (st_a1 ha_this) c2 dX5_driftedNodes_20 ?_
      refine aw_aload_n (pc := 21) (i := 0) (x := a_this) hM dX5_driftedNodes_21 rfl rfl ?_
      refine aw_getR (pc := 22) (r := (a_this + 2)) hM fd_X5_15 (st_ob ha_this) rfl dX5_driftedNodes_22 ?_
      refine aw_iload_n (pc := 25) (i := 2) (x := x2) hM dX5_driftedNodes_25 rfl rfl ?_
      obtain ⟨c3, h⟩ := ite_some h
      refine aw_iald (pc := 26) hM (st_a2 ha_this) c3 dX5_driftedNodes_26 ?_
      refine aw_icmp_eq (pc := 27) (tgt := 36) hM dX5_driftedNodes_27 (by decide) (fun c4 => ?_) (fun c4 => ?_)
      · rw [if_pos c4] at h
        obtain ⟨y5, e6, h⟩ := bind_some h
        have e6 := Option.some.inj e6
        refine aw_iinc (pc := 36) (v := y5) (L' := [some (.ref a_this), some (.int x1), some (.int y5)]) hM dX5_driftedNodes_36 rfl e6 (by decide) rfl ?_
        refine aw_goto (pc := 39) (tgt := 4) hM dX5_driftedNodes_39 (by decide) ?_
        exact ih x1 y5 h
      · rw [if_neg c4] at h
        refine aw_iload_n (pc := 30) (i := 1) (x := x1) hM dX5_driftedNodes_30 rfl rfl ?_
        refine aw_iconst (pc := 31) (v := 1) hM dX5_driftedNodes_31 (by decide) ?_
        refine aw_iload_n (pc := 32) (i := 2) (x := x2) hM dX5_driftedNodes_32 rfl rfl ?_
        refine aw_ishl (pc := 33) hM dX5_driftedNodes_33 ?_
        refine aw_ior (pc := 34) hM dX5_driftedNodes_34 ?_
        obtain ⟨y7, e8, h⟩ := bind_some h
        have e8 := Option.some.inj e8
        refine aw_topi e8 ?_
        refine aw_istore_n (pc := 35) (i := 1) (L' := [some (.ref a_this), some (.int y7), some (.int x2)]) hM dX5_driftedNodes_35 rfl (by decide) rfl ?_
        obtain ⟨y9, e10, h⟩ := bind_some h
        have e10 := Option.some.inj e10
        refine aw_iinc (pc := 36) (v := y9) (L' := [some (.ref a_this), some (.int y7), some (.int y9)]) hM dX5_driftedNodes_36 rfl e10 (by decide) rfl ?_
        refine aw_goto (pc := 39) (tgt := 4) hM dX5_driftedNodes_39 (by decide) ?_
        exact ih y7 y9 h
set_option maxRecDepth 20000 in
theorem k_X5_driftedNodes {C : CX} {F : MM} {G : GG} {a_this : Nat} {r : Int32} (ha_this : isSt a_this) (h : s_X5_driftedNodes F a_this = some r) : AM C yX5_driftedNodes cX5_driftedNodes 3 (some .int) rmX5_driftedNodes [.ref a_this] F G (fun o F9 G9 => o = (.inl (some (.int r))) ∧ F9 = F ∧ G9 = G) := by
  refine am_of (L := [some (.ref a_this), none, none]) (by decide) (Nat.le_of_ble_eq_true rfl) rfl (fun M hM hT => ?_)
  have hM : MOk C RX5 cX5_driftedNodes 3 (some .int) rmX5_driftedNodes M := hM
  obtain ⟨Q, hQ⟩ : ∃ Q : OUT → MM → GG → Prop, Q = (fun o F9 G9 => o = (.inl (some (.int r))) ∧ F9 = F ∧ G9 = G) := ⟨_, rfl⟩
  have hq : Q (.inl (some (.int r))) F G := by rw [hQ]; exact ⟨rfl, rfl, rfl⟩
  rw [← hQ]
  clear hQ
  rw [s_X5_driftedNodes] at h
  refine aw_iconst (pc := 0) (v := 0) hM dX5_driftedNodes_0 (by decide) ?_
  refine aw_istore_n (pc := 1) (i := 1) (L' := [some (.ref a_this), some (.int 0), none]) hM dX5_driftedNodes_1 rfl (by decide) rfl ?_
  refine aw_iconst (pc := 2) (v := 0) hM dX5_driftedNodes_2 (by decide) ?_
  refine aw_istore_n (pc := 3) (i := 2) (L' := [some (.ref a_this), some (.int 0), some (.int 0)]) hM dX5_driftedNodes_3 rfl (by decide) rfl ?_
  exact k_X5_driftedNodes_b4 ha_this hM hT hq fu_ 0 0 h
def rmX5_calmNodes : Room := { frames := 1, cells := 0, slots := 0, locals := 22 }
def s_X5_calmNodes (F : MM) (a_this : Nat) : Option Int32 := (s_X5_driftedNodes F a_this).bind (fun r2 => some ((((1 : Int32) <<< ((F 8 0) &&& 31)) - 1) &&& (r2 ^^^ (-1))))
set_option maxRecDepth 20000 in
theorem k_X5_calmNodes {C : CX} {F : MM} {G : GG} {a_this : Nat} {r : Int32} (ha_this : isSt a_this) (h : s_X5_calmNodes F a_this = some r) : AM C yX5_calmNodes cX5_calmNodes 1 (some .int) rmX5_calmNodes [.ref a_this] F G (fun o F9 G9 => o = (.inl (some (.int r))) ∧ F9 = F ∧ G9 = G) := by
  refine am_of (L := [some (.ref a_this)]) (by decide) (Nat.le_of_ble_eq_true rfl) rfl (fun M hM hT => ?_)
  have hM : MOk C RX5 cX5_calmNodes 1 (some .int) rmX5_calmNodes M := hM
  obtain ⟨Q, hQ⟩ : ∃ Q : OUT → MM → GG → Prop, Q = (fun o F9 G9 => o = (.inl (some (.int r))) ∧ F9 = F ∧ G9 = G) := ⟨_, rfl⟩
  have hq : Q (.inl (some (.int r))) F G := by rw [hQ]; exact ⟨rfl, rfl, rfl⟩
  rw [← hQ]
  clear hQ
  rw [s_X5_calmNodes] at h
  refine aw_iconst (pc := 0) (v := 1) hM dX5_calmNodes_0 (by decide) ?_
  refine aw_aload_n (pc := 1) (i := 0) (x := a_this) hM dX5_calmNodes_1 rfl rfl ?_
  refine aw_getR (pc := 2) (r := 8) hM fd_X5_33 (st_ob ha_this) rfl dX5_calmNodes_2 ?_
  refine aw_getI (pc := 5) hM fd_X5_70 sk_8 rfl dX5_calmNodes_5 ?_
  refine aw_ishl (pc := 8) hM dX5_calmNodes_8 ?_
  refine aw_iconst (pc := 9) (v := 1) hM dX5_calmNodes_9 (by decide) ?_
  refine aw_isub (pc := 10) hM dX5_calmNodes_10 ?_
  refine aw_aload_n (pc := 11) (i := 0) (x := a_this) hM dX5_calmNodes_11 rfl rfl ?_
  obtain ⟨r2, h1, h⟩ := bind_some h
  refine aw_cv1 (pc := 12) (n := 0) (As := []) (st := [.int (((1 : Int32) <<< ((F 8 0) &&& 31)) - 1)]) (b := a_this) (vo := (some (.int r2))) (c2 := 0) (s2 := 0) hM (k_X5_driftedNodes ha_this h1) rfl cw_X5_73 (st_ob ha_this) rfl rfl (by decide +kernel) rfl rfl ⟨(Nat.le_of_ble_eq_true rfl), (Nat.le_of_ble_eq_true rfl)⟩ (Nat.le_of_ble_eq_true rfl) ⟨(Nat.le_of_ble_eq_true rfl), (Nat.le_of_ble_eq_true rfl)⟩ dX5_calmNodes_12 rfl rfl ?_
  refine aw_iconst (pc := 15) (v := (-1)) hM dX5_calmNodes_15 (by decide) ?_
  refine aw_ixor (pc := 16) hM dX5_calmNodes_16 ?_
  refine aw_iand (pc := 17) hM dX5_calmNodes_17 ?_
  obtain rfl := Option.some.inj h
  exact aw_iret (pc := 18) hM dX5_calmNodes_18 (Nat.le_of_ble_eq_true rfl) (Nat.le_of_ble_eq_true rfl) hq
def rmX5_digestOf : Room := { frames := 1, cells := 0, slots := 0, locals := 21 }
def s_X5_digestOf_b4 (F : MM) (a_this : Nat) : Nat → Int32 → Int32 → Int32 → Option Int32
  | 0, _, _, _ => none
  | n + 1, x1, x2, x3 => if (F 8 1) ≤ x3 then some x2 else if inb x1 5 then ((s_X0_versionIn F (F (a_this + 1) (ix x1)) x3).bind (fun r4 => (some (x2 + ((x3 + 1) * r4) : Int32)).bind (fun y5 => (some (x3 + 1 : Int32)).bind (fun y7 => s_X5_digestOf_b4 F a_this n x1 y5 y7)))) else none
def s_X5_digestOf (F : MM) (a_this : Nat) (p0 : Int32) : Option Int32 := s_X5_digestOf_b4 F a_this fu_ p0 0 0
set_option maxRecDepth 20000 in
theorem k_X5_digestOf_b4 {C : CX} {M : MX} {G : GG} {Q : OUT → MM → GG → Prop} {F : MM} {a_this : Nat} {r : Int32}  (ha_this : isSt a_this)(hM : MOk C RX5 cX5_digestOf 4 (some .int) rmX5_digestOf M) (hT : MNoT M) (hq : Q (.inl (some (.int r))) F G) : ∀ (n : Nat) (x1 : Int32) (x2 : Int32) (x3 : Int32), s_X5_digestOf_b4 F a_this n x1 x2 x3 = some r → AW C 4 (ZM C rmX5_digestOf Q M) M 0 0 4 [some (.ref a_this), some (.int x1), some (.int x2), some (.int x3)] [] F G := by
  intro n
  induction n with
  | zero => intro x1 x2 x3 h; exact nomatch h
  | succ n ih =>
    intro x1 x2 x3 h
    rw [s_X5_digestOf_b4] at h
    refine aw_iload_n (pc := 4) (i := 3) (x := x3) hM dX5_digestOf_4 rfl rfl ?_
    refine aw_aload_n (pc := 5) (i := 0) (x := a_this) hM dX5_digestOf_5 rfl rfl ?_
    refine aw_getR (pc := 6) (r := 8) hM fd_X5_33 (st_ob ha_this) rfl dX5_digestOf_6 ?_
    refine aw_getI (pc := 9) hM fd_X5_61 sk_8 rfl dX5_digestOf_9 ?_
    refine aw_icmp_ge (pc := 12) (tgt := 38) hM dX5_digestOf_12 (by decide) (fun c1 => ?_) (fun c1 => ?_)
    · rw [if_pos c1] at h
      refine aw_iload_n (pc := 38) (i := 2) (x := x2) hM dX5_digestOf_38 rfl rfl ?_
      obtain rfl := Option.some.inj h
      exact aw_iret (pc := 39) hM dX5_digestOf_39 (Nat.le_of_ble_eq_true rfl) (Nat.le_of_ble_eq_true rfl) hq
    · rw [if_neg c1] at h
      refine aw_iload_n (pc := 15) (i := 2) (x := x2) hM dX5_digestOf_15 rfl rfl ?_
      refine aw_iload_n (pc := 16) (i := 3) (x := x3) hM dX5_digestOf_16 rfl rfl ?_
      refine aw_iconst (pc := 17) (v := 1) hM dX5_digestOf_17 (by decide) ?_
      refine aw_iadd (pc := 18) hM dX5_digestOf_18 ?_
      refine aw_aload_n (pc := 19) (i := 0) (x := a_this) hM dX5_digestOf_19 rfl rfl ?_
      refine aw_getR (pc := 20) (r := (a_this + 1)) hM fd_X5_9 (st_ob ha_this) rfl dX5_digestOf_20 ?_
      refine aw_iload_n (pc := 23) (i := 1) (x := x1) hM dX5_digestOf_23 rfl rfl ?_
      obtain ⟨c2, h⟩ := ite_some h
      refine aw_iald (pc := 24) hM (st_a1 ha_this) c2 dX5_digestOf_24 ?_
      refine aw_iload_n (pc := 25) (i := 3) (x := x3) hM dX5_digestOf_25 rfl rfl ?_
      obtain ⟨r4, h3, h⟩ := bind_some h
      refine aw_cs1 (pc := 26) (n := 2) (As := [.int (F (a_this + 1) (ix x1)), .int x3]) (st := [.int (x3 + 1), .int x2]) (vo := (some (.int r4))) (c2 := 0) (s2 := 0) hM (k_X0_versionIn h3) rfl cw_X5_77 (by decide +kernel) rfl rfl ⟨(Nat.le_of_ble_eq_true rfl), (Nat.le_of_ble_eq_true rfl)⟩ (Nat.le_of_ble_eq_true rfl) ⟨(Nat.le_of_ble_eq_true rfl), (Nat.le_of_ble_eq_true rfl)⟩ dX5_digestOf_26 rfl rfl ?_
      refine aw_imul (pc := 29) hM dX5_digestOf_29 ?_
      refine aw_iadd (pc := 30) hM dX5_digestOf_30 ?_
      obtain ⟨y5, e6, h⟩ := bind_some h
      have e6 := Option.some.inj e6
      refine aw_topi e6 ?_
      refine aw_istore_n (pc := 31) (i := 2) (L' := [some (.ref a_this), some (.int x1), some (.int y5), some (.int x3)]) hM dX5_digestOf_31 rfl (by decide) rfl ?_
      obtain ⟨y7, e8, h⟩ := bind_some h
      have e8 := Option.some.inj e8
      refine aw_iinc (pc := 32) (v := y7) (L' := [some (.ref a_this), some (.int x1), some (.int y5), some (.int y7)]) hM dX5_digestOf_32 rfl e8 (by decide) rfl ?_
      refine aw_goto (pc := 35) (tgt := 4) hM dX5_digestOf_35 (by decide) ?_
      exact ih x1 y5 y7 h
set_option maxRecDepth 20000 in
theorem k_X5_digestOf {C : CX} {F : MM} {G : GG} {a_this : Nat} {p0 : Int32} {r : Int32} (ha_this : isSt a_this) (h : s_X5_digestOf F a_this p0 = some r) : AM C yX5_digestOf cX5_digestOf 4 (some .int) rmX5_digestOf [.ref a_this, .int p0] F G (fun o F9 G9 => o = (.inl (some (.int r))) ∧ F9 = F ∧ G9 = G) := by
  refine am_of (L := [some (.ref a_this), some (.int p0), none, none]) (by decide) (Nat.le_of_ble_eq_true rfl) rfl (fun M hM hT => ?_)
  have hM : MOk C RX5 cX5_digestOf 4 (some .int) rmX5_digestOf M := hM
  obtain ⟨Q, hQ⟩ : ∃ Q : OUT → MM → GG → Prop, Q = (fun o F9 G9 => o = (.inl (some (.int r))) ∧ F9 = F ∧ G9 = G) := ⟨_, rfl⟩
  have hq : Q (.inl (some (.int r))) F G := by rw [hQ]; exact ⟨rfl, rfl, rfl⟩
  rw [← hQ]
  clear hQ
  rw [s_X5_digestOf] at h
  refine aw_iconst (pc := 0) (v := 0) hM dX5_digestOf_0 (by decide) ?_
  refine aw_istore_n (pc := 1) (i := 2) (L' := [some (.ref a_this), some (.int p0), some (.int 0), none]) hM dX5_digestOf_1 rfl (by decide) rfl ?_
  refine aw_iconst (pc := 2) (v := 0) hM dX5_digestOf_2 (by decide) ?_
  refine aw_istore_n (pc := 3) (i := 3) (L' := [some (.ref a_this), some (.int p0), some (.int 0), some (.int 0)]) hM dX5_digestOf_3 rfl (by decide) rfl ?_
  exact k_X5_digestOf_b4 ha_this hM hT hq fu_ p0 0 0 h
def rmX5_changesTo : Room := { frames := 2, cells := 0, slots := 0, locals := 44 }
def s_X5_changesTo_b42 (F : MM) (a_this : Nat) (k14 : Int32 → Int32 → Int32 → Int32 → Option Int32) : Nat → Int32 → Int32 → Int32 → Int32 → Int32 → Int32 → Option Int32
  | 0, _, _, _, _, _, _ => none
  | n + 1, x1, x3, x4, x5, x6, x7 => if 4 ≤ x7 then (some (x5 + 1 : Int32)).bind (fun y10 => k14 x1 x3 x4 y10) else if x7 = x6 then (some (x7 + 1 : Int32)).bind (fun y13 => s_X5_changesTo_b42 F a_this k14 n x1 x3 x4 x5 x6 y13) else if ((x5 + 1) * (x7 - x6)) = x3 then (s_X0_change F x5 x7).bind (fun r19 => (some (x4 ||| ((1 : Int32) <<< (r19 &&& 31)) : Int32)).bind (fun y20 => (some (x7 + 1 : Int32)).bind (fun y22 => s_X5_changesTo_b42 F a_this k14 n x1 x3 y20 x5 x6 y22))) else (some (x7 + 1 : Int32)).bind (fun y16 => s_X5_changesTo_b42 F a_this k14 n x1 x3 x4 x5 x6 y16)
def s_X5_changesTo_b14 (F : MM) (a_this : Nat) : Nat → Int32 → Int32 → Int32 → Int32 → Option Int32
  | 0, _, _, _, _ => none
  | n + 1, x1, x3, x4, x5 => if (F 8 1) ≤ x5 then some x4 else if inb x1 5 then ((s_X0_versionIn F (F (a_this + 1) (ix x1)) x5).bind (fun r8 => s_X5_changesTo_b42 F a_this (s_X5_changesTo_b14 F a_this n) fu_ x1 x3 x4 x5 r8 0)) else none
def s_X5_changesTo (F : MM) (a_this : Nat) (p0 : Int32) (p1 : Int32) : Option Int32 := (s_X5_digestOf F a_this p0).bind (fun r2 => (some (p1 - r2 : Int32)).bind (fun y3 => s_X5_changesTo_b14 F a_this fu_ p0 y3 0 0))
set_option maxRecDepth 20000 in
theorem k_X5_changesTo_b42 {C : CX} {M : MX} {G : GG} {Q : OUT → MM → GG → Prop} {F : MM} {a_this : Nat} {k14 : Int32 → Int32 → Int32 → Int32 → Option Int32} {r : Int32}  (ha_this : isSt a_this)(hM : MOk C RX5 cX5_changesTo 8 (some .int) rmX5_changesTo M) (hT : MNoT M) (hk14 : ∀ (w0 : Int32) (w1 : Int32) (w2 : Int32) (w3 : Int32), k14 w0 w1 w2 w3 = some r → AW C 8 (ZM C rmX5_changesTo Q M) M 0 0 14 [some (.ref a_this), some (.int w0), none, some (.int w1), some (.int w2), some (.int w3), none, none] [] F G) (hq : Q (.inl (some (.int r))) F G) : ∀ (n : Nat) (x1 : Int32) (x3 : Int32) (x4 : Int32) (x5 : Int32) (x6 : Int32) (x7 : Int32), s_X5_changesTo_b42 F a_this k14 n x1 x3 x4 x5 x6 x7 = some r → AW C 8 (ZM C rmX5_changesTo Q M) M 0 0 42 [some (.ref a_this), some (.int x1), none, some (.int x3), some (.int x4), some (.int x5), some (.int x6), some (.int x7)] [] F G := by
  intro n
  induction n with
  | zero => intro x1 x3 x4 x5 x6 x7 h; exact nomatch h
  | succ n ih =>
    intro x1 x3 x4 x5 x6 x7 h
    rw [s_X5_changesTo_b42] at h
    refine aw_iload (pc := 42) (i := 7) (x := x7) hM dX5_changesTo_42  rfl ?_
    refine aw_iconst (pc := 44) (v := 4) hM dX5_changesTo_44 (by decide) ?_
    refine aw_icmp_ge (pc := 45) (tgt := 89) hM dX5_changesTo_45 (by decide) (fun c9 => ?_) (fun c9 => ?_)
    · rw [if_pos c9] at h
      obtain ⟨y10, e11, h⟩ := bind_some h
      have e11 := Option.some.inj e11
      refine aw_iinc (pc := 89) (v := y10) (L' := [some (.ref a_this), some (.int x1), none, some (.int x3), some (.int x4), some (.int y10), some (.int x6), some (.int x7)]) hM dX5_changesTo_89 rfl e11 (by decide) rfl ?_
      refine aw_goto (pc := 92) (tgt := 14) hM dX5_changesTo_92 (by decide) ?_
      refine aw_weak (L' := [some (.ref a_this), some (.int x1), none, some (.int x3), some (.int x4), some (.int y10), none, none]) ?_ (lw_of [true, true, true, true, true, true, false, false] rfl)
      exact hk14 x1 x3 x4 y10 h
    · rw [if_neg c9] at h
      refine aw_iload (pc := 48) (i := 7) (x := x7) hM dX5_changesTo_48  rfl ?_
      refine aw_iload (pc := 50) (i := 6) (x := x6) hM dX5_changesTo_50  rfl ?_
      refine aw_icmp_eq (pc := 52) (tgt := 83) hM dX5_changesTo_52 (by decide) (fun c12 => ?_) (fun c12 => ?_)
      · rw [if_pos c12] at h
        obtain ⟨y13, e14, h⟩ := bind_some h
        have e14 := Option.some.inj e14
        refine aw_iinc (pc := 83) (v := y13) (L' := [some (.ref a_this), some (.int x1), none, some (.int x3), some (.int x4), some (.int x5), some (.int x6), some (.int y13)]) hM dX5_changesTo_83 rfl e14 (by decide) rfl ?_
        refine aw_goto (pc := 86) (tgt := 42) hM dX5_changesTo_86 (by decide) ?_
        exact ih x1 x3 x4 x5 x6 y13 h
      · rw [if_neg c12] at h
        refine aw_iload (pc := 55) (i := 5) (x := x5) hM dX5_changesTo_55  rfl ?_
        refine aw_iconst (pc := 57) (v := 1) hM dX5_changesTo_57 (by decide) ?_
        refine aw_iadd (pc := 58) hM dX5_changesTo_58 ?_
        refine aw_iload (pc := 59) (i := 7) (x := x7) hM dX5_changesTo_59  rfl ?_
        refine aw_iload (pc := 61) (i := 6) (x := x6) hM dX5_changesTo_61  rfl ?_
        refine aw_isub (pc := 63) hM dX5_changesTo_63 ?_
        refine aw_imul (pc := 64) hM dX5_changesTo_64 ?_
        refine aw_iload_n (pc := 65) (i := 3) (x := x3) hM dX5_changesTo_65 rfl rfl ?_
        refine aw_icmp_ne (pc := 66) (tgt := 83) hM dX5_changesTo_66 (by decide) (fun c15 => ?_) (fun c15 => ?_)
        · rw [if_neg c15] at h
          obtain ⟨y16, e17, h⟩ := bind_some h
          have e17 := Option.some.inj e17
          refine aw_iinc (pc := 83) (v := y16) (L' := [some (.ref a_this), some (.int x1), none, some (.int x3), some (.int x4), some (.int x5), some (.int x6), some (.int y16)]) hM dX5_changesTo_83 rfl e17 (by decide) rfl ?_
          refine aw_goto (pc := 86) (tgt := 42) hM dX5_changesTo_86 (by decide) ?_
          exact ih x1 x3 x4 x5 x6 y16 h
        · rw [if_pos c15] at h
          refine aw_iload (pc := 69) (i := 4) (x := x4) hM dX5_changesTo_69  rfl ?_
          refine aw_iconst (pc := 71) (v := 1) hM dX5_changesTo_71 (by decide) ?_
          refine aw_iload (pc := 72) (i := 5) (x := x5) hM dX5_changesTo_72  rfl ?_
          refine aw_iload (pc := 74) (i := 7) (x := x7) hM dX5_changesTo_74  rfl ?_
          obtain ⟨r19, h18, h⟩ := bind_some h
          refine aw_cs1 (pc := 76) (n := 2) (As := [.int x5, .int x7]) (st := [.int 1, .int x4]) (vo := (some (.int r19))) (c2 := 0) (s2 := 0) hM (k_X0_change h18) rfl cw_X5_115 (by decide +kernel) rfl rfl ⟨(Nat.le_of_ble_eq_true rfl), (Nat.le_of_ble_eq_true rfl)⟩ (Nat.le_of_ble_eq_true rfl) ⟨(Nat.le_of_ble_eq_true rfl), (Nat.le_of_ble_eq_true rfl)⟩ dX5_changesTo_76 rfl rfl ?_
          refine aw_ishl (pc := 79) hM dX5_changesTo_79 ?_
          refine aw_ior (pc := 80) hM dX5_changesTo_80 ?_
          obtain ⟨y20, e21, h⟩ := bind_some h
          have e21 := Option.some.inj e21
          refine aw_topi e21 ?_
          refine aw_istore (pc := 81) (i := 4) (L' := [some (.ref a_this), some (.int x1), none, some (.int x3), some (.int y20), some (.int x5), some (.int x6), some (.int x7)]) hM dX5_changesTo_81  (by decide) rfl ?_
          obtain ⟨y22, e23, h⟩ := bind_some h
          have e23 := Option.some.inj e23
          refine aw_iinc (pc := 83) (v := y22) (L' := [some (.ref a_this), some (.int x1), none, some (.int x3), some (.int y20), some (.int x5), some (.int x6), some (.int y22)]) hM dX5_changesTo_83 rfl e23 (by decide) rfl ?_
          refine aw_goto (pc := 86) (tgt := 42) hM dX5_changesTo_86 (by decide) ?_
          exact ih x1 x3 y20 x5 x6 y22 h
set_option maxRecDepth 20000 in
theorem k_X5_changesTo_b14 {C : CX} {M : MX} {G : GG} {Q : OUT → MM → GG → Prop} {F : MM} {a_this : Nat} {r : Int32}  (ha_this : isSt a_this)(hM : MOk C RX5 cX5_changesTo 8 (some .int) rmX5_changesTo M) (hT : MNoT M) (hq : Q (.inl (some (.int r))) F G) : ∀ (n : Nat) (x1 : Int32) (x3 : Int32) (x4 : Int32) (x5 : Int32), s_X5_changesTo_b14 F a_this n x1 x3 x4 x5 = some r → AW C 8 (ZM C rmX5_changesTo Q M) M 0 0 14 [some (.ref a_this), some (.int x1), none, some (.int x3), some (.int x4), some (.int x5), none, none] [] F G := by
  intro n
  induction n with
  | zero => intro x1 x3 x4 x5 h; exact nomatch h
  | succ n ih =>
    intro x1 x3 x4 x5 h
    rw [s_X5_changesTo_b14] at h
    refine aw_iload (pc := 14) (i := 5) (x := x5) hM dX5_changesTo_14  rfl ?_
    refine aw_aload_n (pc := 16) (i := 0) (x := a_this) hM dX5_changesTo_16 rfl rfl ?_
    refine aw_getR (pc := 17) (r := 8) hM fd_X5_33 (st_ob ha_this) rfl dX5_changesTo_17 ?_
    refine aw_getI (pc := 20) hM fd_X5_61 sk_8 rfl dX5_changesTo_20 ?_
    refine aw_icmp_ge (pc := 23) (tgt := 95) hM dX5_changesTo_23 (by decide) (fun c5 => ?_) (fun c5 => ?_)
    · rw [if_pos c5] at h
      refine aw_iload (pc := 95) (i := 4) (x := x4) hM dX5_changesTo_95  rfl ?_
      obtain rfl := Option.some.inj h
      exact aw_iret (pc := 97) hM dX5_changesTo_97 (Nat.le_of_ble_eq_true rfl) (Nat.le_of_ble_eq_true rfl) hq
    · rw [if_neg c5] at h
      refine aw_aload_n (pc := 26) (i := 0) (x := a_this) hM dX5_changesTo_26 rfl rfl ?_
      refine aw_getR (pc := 27) (r := (a_this + 1)) hM fd_X5_9 (st_ob ha_this) rfl dX5_changesTo_27 ?_
      refine aw_iload_n (pc := 30) (i := 1) (x := x1) hM dX5_changesTo_30 rfl rfl ?_
      obtain ⟨c6, h⟩ := ite_some h
      refine aw_iald (pc := 31) hM (st_a1 ha_this) c6 dX5_changesTo_31 ?_
      refine aw_iload (pc := 32) (i := 5) (x := x5) hM dX5_changesTo_32  rfl ?_
      obtain ⟨r8, h7, h⟩ := bind_some h
      refine aw_cs1 (pc := 34) (n := 2) (As := [.int (F (a_this + 1) (ix x1)), .int x5]) (st := []) (vo := (some (.int r8))) (c2 := 0) (s2 := 0) hM (k_X0_versionIn h7) rfl cw_X5_77 (by decide +kernel) rfl rfl ⟨(Nat.le_of_ble_eq_true rfl), (Nat.le_of_ble_eq_true rfl)⟩ (Nat.le_of_ble_eq_true rfl) ⟨(Nat.le_of_ble_eq_true rfl), (Nat.le_of_ble_eq_true rfl)⟩ dX5_changesTo_34 rfl rfl ?_
      refine aw_istore (pc := 37) (i := 6) (L' := [some (.ref a_this), some (.int x1), none, some (.int x3), some (.int x4), some (.int x5), some (.int r8), none]) hM dX5_changesTo_37  (by decide) rfl ?_
      refine aw_iconst (pc := 39) (v := 0) hM dX5_changesTo_39 (by decide) ?_
      refine aw_istore (pc := 40) (i := 7) (L' := [some (.ref a_this), some (.int x1), none, some (.int x3), some (.int x4), some (.int x5), some (.int r8), some (.int 0)]) hM dX5_changesTo_40  (by decide) rfl ?_
      exact k_X5_changesTo_b42 ha_this hM hT (fun w0 w1 w2 w3 h9 => ih w0 w1 w2 w3 h9) hq fu_ x1 x3 x4 x5 r8 0 h
set_option maxRecDepth 20000 in
theorem k_X5_changesTo {C : CX} {F : MM} {G : GG} {a_this : Nat} {p0 : Int32} {p1 : Int32} {r : Int32} (ha_this : isSt a_this) (h : s_X5_changesTo F a_this p0 p1 = some r) : AM C yX5_changesTo cX5_changesTo 8 (some .int) rmX5_changesTo [.ref a_this, .int p0, .int p1] F G (fun o F9 G9 => o = (.inl (some (.int r))) ∧ F9 = F ∧ G9 = G) := by
  refine am_of (L := [some (.ref a_this), some (.int p0), some (.int p1), none, none, none, none, none]) (by decide) (Nat.le_of_ble_eq_true rfl) rfl (fun M hM hT => ?_)
  have hM : MOk C RX5 cX5_changesTo 8 (some .int) rmX5_changesTo M := hM
  obtain ⟨Q, hQ⟩ : ∃ Q : OUT → MM → GG → Prop, Q = (fun o F9 G9 => o = (.inl (some (.int r))) ∧ F9 = F ∧ G9 = G) := ⟨_, rfl⟩
  have hq : Q (.inl (some (.int r))) F G := by rw [hQ]; exact ⟨rfl, rfl, rfl⟩
  rw [← hQ]
  clear hQ
  rw [s_X5_changesTo] at h
  refine aw_iload_n (pc := 0) (i := 2) (x := p1) hM dX5_changesTo_0 rfl rfl ?_
  refine aw_aload_n (pc := 1) (i := 0) (x := a_this) hM dX5_changesTo_1 rfl rfl ?_
  refine aw_iload_n (pc := 2) (i := 1) (x := p0) hM dX5_changesTo_2 rfl rfl ?_
  obtain ⟨r2, h1, h⟩ := bind_some h
  refine aw_cv1 (pc := 3) (n := 1) (As := [.int p0]) (st := [.int p1]) (b := a_this) (vo := (some (.int r2))) (c2 := 0) (s2 := 0) hM (k_X5_digestOf ha_this h1) rfl cw_X5_103 (st_ob ha_this) rfl rfl (by decide +kernel) rfl rfl ⟨(Nat.le_of_ble_eq_true rfl), (Nat.le_of_ble_eq_true rfl)⟩ (Nat.le_of_ble_eq_true rfl) ⟨(Nat.le_of_ble_eq_true rfl), (Nat.le_of_ble_eq_true rfl)⟩ dX5_changesTo_3 rfl rfl ?_
  refine aw_isub (pc := 6) hM dX5_changesTo_6 ?_
  obtain ⟨y3, e4, h⟩ := bind_some h
  have e4 := Option.some.inj e4
  refine aw_topi e4 ?_
  refine aw_istore_n (pc := 7) (i := 3) (L' := [some (.ref a_this), some (.int p0), some (.int p1), some (.int y3), none, none, none, none]) hM dX5_changesTo_7 rfl (by decide) rfl ?_
  refine aw_iconst (pc := 8) (v := 0) hM dX5_changesTo_8 (by decide) ?_
  refine aw_istore (pc := 9) (i := 4) (L' := [some (.ref a_this), some (.int p0), some (.int p1), some (.int y3), some (.int 0), none, none, none]) hM dX5_changesTo_9  (by decide) rfl ?_
  refine aw_iconst (pc := 11) (v := 0) hM dX5_changesTo_11 (by decide) ?_
  refine aw_istore (pc := 12) (i := 5) (L' := [some (.ref a_this), some (.int p0), some (.int p1), some (.int y3), some (.int 0), some (.int 0), none, none]) hM dX5_changesTo_12  (by decide) rfl ?_
  refine aw_weak (L' := [some (.ref a_this), some (.int p0), none, some (.int y3), some (.int 0), some (.int 0), none, none]) ?_ (lw_of [true, true, false, true, true, true, true, true] rfl)
  exact k_X5_changesTo_b14 ha_this hM hT hq fu_ p0 y3 0 0 h
def rmX5_disturb : Room := { frames := 1, cells := 0, slots := 0, locals := 22 }
def s_X5_disturb (F : MM) (a_this : Nat) (p0 : Int32) : Option MM := if (F 8 0) ≤ 0 then some F else if 0 < (F 8 1) then if ¬ (F 8 0) = 0 then ((some ((p0 / 64) - (p0 / 64) / (F 8 0) * (F 8 0) : Int32)).bind (fun y4 => if ¬ (F 8 1) = 0 then ((some ((p0 / 4) - (p0 / 4) / (F 8 1) * (F 8 1) : Int32)).bind (fun y7 => if (p0 - p0 / 3 * 3) = 0 then if inb y4 5 then ((s_X0_with F (F (a_this + 1) (ix y4)) y7 ((p0 / 1024) - (p0 / 1024) / 4 * 4)).bind (fun r16 => if inb y4 5 then ((some (mup F (a_this + 1) (ix y4) r16)).bind (fun F18 => some F18)) else none)) else none else if (p0 - p0 / 3 * 3) = 1 then if inb y4 5 then ((some (mup F (a_this + 3) (ix y4) ((p0 / 4096) - (p0 / 4096) / 4 * 4))).bind (fun F12 => some F12)) else none else some F)) else none)) else none else some F
set_option maxRecDepth 20000 in
theorem k_X5_disturb {C : CX} {F : MM} {G : GG} {a_this : Nat} {p0 : Int32} {r : MM} (ha_this : isSt a_this) (h : s_X5_disturb F a_this p0 = some r) : AM C yX5_disturb cX5_disturb 4 none rmX5_disturb [.ref a_this, .int p0] F G (fun o F9 G9 => o = (.inl none) ∧ F9 = r ∧ G9 = G) := by
  refine am_of (L := [some (.ref a_this), some (.int p0), none, none]) (by decide) (Nat.le_of_ble_eq_true rfl) rfl (fun M hM hT => ?_)
  have hM : MOk C RX5 cX5_disturb 4 none rmX5_disturb M := hM
  obtain ⟨Q, hQ⟩ : ∃ Q : OUT → MM → GG → Prop, Q = (fun o F9 G9 => o = (.inl none) ∧ F9 = r ∧ G9 = G) := ⟨_, rfl⟩
  have hq : Q (.inl none) r G := by rw [hQ]; exact ⟨rfl, rfl, rfl⟩
  rw [← hQ]
  clear hQ
  rw [s_X5_disturb] at h
  refine aw_aload_n (pc := 0) (i := 0) (x := a_this) hM dX5_disturb_0 rfl rfl ?_
  refine aw_getR (pc := 1) (r := 8) hM fd_X5_33 (st_ob ha_this) rfl dX5_disturb_1 ?_
  refine aw_getI (pc := 4) hM fd_X5_70 sk_8 rfl dX5_disturb_4 ?_
  refine aw_if_le (pc := 7) (tgt := 20) hM dX5_disturb_7 (by decide) (fun c1 => ?_) (fun c1 => ?_)
  · rw [if_pos c1] at h
    obtain rfl := Option.some.inj h
    exact aw_vret (pc := 20) hM dX5_disturb_20 (Nat.le_of_ble_eq_true rfl) (Nat.le_of_ble_eq_true rfl) hq
  · rw [if_neg c1] at h
    refine aw_aload_n (pc := 10) (i := 0) (x := a_this) hM dX5_disturb_10 rfl rfl ?_
    refine aw_getR (pc := 11) (r := 8) hM fd_X5_33 (st_ob ha_this) rfl dX5_disturb_11 ?_
    refine aw_getI (pc := 14) hM fd_X5_61 sk_8 rfl dX5_disturb_14 ?_
    refine aw_if_gt (pc := 17) (tgt := 21) hM dX5_disturb_17 (by decide) (fun c2 => ?_) (fun c2 => ?_)
    · rw [if_pos c2] at h
      refine aw_iload_n (pc := 21) (i := 1) (x := p0) hM dX5_disturb_21 rfl rfl ?_
      refine aw_bipush (pc := 22) (v := 64) hM dX5_disturb_22 (by decide) ?_
      refine aw_idiv (pc := 24) hM dX5_disturb_24 (by decide) ?_
      refine aw_aload_n (pc := 25) (i := 0) (x := a_this) hM dX5_disturb_25 rfl rfl ?_
      refine aw_getR (pc := 26) (r := 8) hM fd_X5_33 (st_ob ha_this) rfl dX5_disturb_26 ?_
      refine aw_getI (pc := 29) hM fd_X5_70 sk_8 rfl dX5_disturb_29 ?_
      obtain ⟨c3, h⟩ := ite_some h
      refine aw_irem (pc := 32) hM dX5_disturb_32 c3 ?_
      obtain ⟨y4, e5, h⟩ := bind_some h
      have e5 := Option.some.inj e5
      refine aw_topi e5 ?_
      refine aw_istore_n (pc := 33) (i := 2) (L' := [some (.ref a_this), some (.int p0), some (.int y4), none]) hM dX5_disturb_33 rfl (by decide) rfl ?_
      refine aw_iload_n (pc := 34) (i := 1) (x := p0) hM dX5_disturb_34 rfl rfl ?_
      refine aw_iconst (pc := 35) (v := 4) hM dX5_disturb_35 (by decide) ?_
      refine aw_idiv (pc := 36) hM dX5_disturb_36 (by decide) ?_
      refine aw_aload_n (pc := 37) (i := 0) (x := a_this) hM dX5_disturb_37 rfl rfl ?_
      refine aw_getR (pc := 38) (r := 8) hM fd_X5_33 (st_ob ha_this) rfl dX5_disturb_38 ?_
      refine aw_getI (pc := 41) hM fd_X5_61 sk_8 rfl dX5_disturb_41 ?_
      obtain ⟨c6, h⟩ := ite_some h
      refine aw_irem (pc := 44) hM dX5_disturb_44 c6 ?_
      obtain ⟨y7, e8, h⟩ := bind_some h
      have e8 := Option.some.inj e8
      refine aw_topi e8 ?_
      refine aw_istore_n (pc := 45) (i := 3) (L' := [some (.ref a_this), some (.int p0), some (.int y4), some (.int y7)]) hM dX5_disturb_45 rfl (by decide) rfl ?_
      refine aw_iload_n (pc := 46) (i := 1) (x := p0) hM dX5_disturb_46 rfl rfl ?_
      refine aw_iconst (pc := 47) (v := 3) hM dX5_disturb_47 (by decide) ?_
      refine aw_irem (pc := 48) hM dX5_disturb_48 (by decide) ?_
      refine aw_if_ne (pc := 49) (tgt := 78) hM dX5_disturb_49 (by decide) (fun c9 => ?_) (fun c9 => ?_)
      · rw [if_neg c9] at h
        refine aw_iload_n (pc := 78) (i := 1) (x := p0) hM dX5_disturb_78 rfl rfl ?_
        refine aw_iconst (pc := 79) (v := 3) hM dX5_disturb_79 (by decide) ?_
        refine aw_irem (pc := 80) hM dX5_disturb_80 (by decide) ?_
        refine aw_iconst (pc := 81) (v := 1) hM dX5_disturb_81 (by decide) ?_
        refine aw_icmp_ne (pc := 82) (tgt := 98) hM dX5_disturb_82 (by decide) (fun c10 => ?_) (fun c10 => ?_)
        · rw [if_neg c10] at h
          obtain rfl := Option.some.inj h
          exact aw_vret (pc := 98) hM dX5_disturb_98 (Nat.le_of_ble_eq_true rfl) (Nat.le_of_ble_eq_true rfl) hq
        · rw [if_pos c10] at h
          refine aw_aload_n (pc := 85) (i := 0) (x := a_this) hM dX5_disturb_85 rfl rfl ?_
          refine aw_getR (pc := 86) (r := (a_this + 3)) hM fd_X5_18 (st_ob ha_this) rfl dX5_disturb_86 ?_
          refine aw_iload_n (pc := 89) (i := 2) (x := y4) hM dX5_disturb_89 rfl rfl ?_
          refine aw_iload_n (pc := 90) (i := 1) (x := p0) hM dX5_disturb_90 rfl rfl ?_
          refine aw_sipush (pc := 91) (v := 4096) hM dX5_disturb_91 (by decide) ?_
          refine aw_idiv (pc := 94) hM dX5_disturb_94 (by decide) ?_
          refine aw_iconst (pc := 95) (v := 4) hM dX5_disturb_95 (by decide) ?_
          refine aw_irem (pc := 96) hM dX5_disturb_96 (by decide) ?_
          obtain ⟨c11, h⟩ := ite_some h
          obtain ⟨F12, e13, h⟩ := bind_some h
          have e13 := Option.some.inj e13
          refine aw_iast (pc := 97) hM (st_a3 ha_this) c11 dX5_disturb_97 ?_
          refine aw_mem e13 ?_
          obtain rfl := Option.some.inj h
          exact aw_vret (pc := 98) hM dX5_disturb_98 (Nat.le_of_ble_eq_true rfl) (Nat.le_of_ble_eq_true rfl) hq
      · rw [if_pos c9] at h
        refine aw_aload_n (pc := 52) (i := 0) (x := a_this) hM dX5_disturb_52 rfl rfl ?_
        refine aw_getR (pc := 53) (r := (a_this + 1)) hM fd_X5_9 (st_ob ha_this) rfl dX5_disturb_53 ?_
        refine aw_iload_n (pc := 56) (i := 2) (x := y4) hM dX5_disturb_56 rfl rfl ?_
        refine aw_aload_n (pc := 57) (i := 0) (x := a_this) hM dX5_disturb_57 rfl rfl ?_
        refine aw_getR (pc := 58) (r := (a_this + 1)) hM fd_X5_9 (st_ob ha_this) rfl dX5_disturb_58 ?_
        refine aw_iload_n (pc := 61) (i := 2) (x := y4) hM dX5_disturb_61 rfl rfl ?_
        obtain ⟨c14, h⟩ := ite_some h
        refine aw_iald (pc := 62) hM (st_a1 ha_this) c14 dX5_disturb_62 ?_
        refine aw_iload_n (pc := 63) (i := 3) (x := y7) hM dX5_disturb_63 rfl rfl ?_
        refine aw_iload_n (pc := 64) (i := 1) (x := p0) hM dX5_disturb_64 rfl rfl ?_
        refine aw_sipush (pc := 65) (v := 1024) hM dX5_disturb_65 (by decide) ?_
        refine aw_idiv (pc := 68) hM dX5_disturb_68 (by decide) ?_
        refine aw_iconst (pc := 69) (v := 4) hM dX5_disturb_69 (by decide) ?_
        refine aw_irem (pc := 70) hM dX5_disturb_70 (by decide) ?_
        obtain ⟨r16, h15, h⟩ := bind_some h
        refine aw_cs1 (pc := 71) (n := 3) (As := [.int (F (a_this + 1) (ix y4)), .int y7, .int ((p0 / 1024) - (p0 / 1024) / 4 * 4)]) (st := [.int y4, .ref (a_this + 1)]) (vo := (some (.int r16))) (c2 := 0) (s2 := 0) hM (k_X0_with h15) rfl cw_X5_128 (by decide +kernel) rfl rfl ⟨(Nat.le_of_ble_eq_true rfl), (Nat.le_of_ble_eq_true rfl)⟩ (Nat.le_of_ble_eq_true rfl) ⟨(Nat.le_of_ble_eq_true rfl), (Nat.le_of_ble_eq_true rfl)⟩ dX5_disturb_71 rfl rfl ?_
        obtain ⟨c17, h⟩ := ite_some h
        obtain ⟨F18, e19, h⟩ := bind_some h
        have e19 := Option.some.inj e19
        refine aw_iast (pc := 74) hM (st_a1 ha_this) c17 dX5_disturb_74 ?_
        refine aw_mem e19 ?_
        refine aw_goto (pc := 75) (tgt := 98) hM dX5_disturb_75 (by decide) ?_
        obtain rfl := Option.some.inj h
        exact aw_vret (pc := 98) hM dX5_disturb_98 (Nat.le_of_ble_eq_true rfl) (Nat.le_of_ble_eq_true rfl) hq
    · rw [if_neg c2] at h
      obtain rfl := Option.some.inj h
      exact aw_vret (pc := 20) hM dX5_disturb_20 (Nat.le_of_ble_eq_true rfl) (Nat.le_of_ble_eq_true rfl) hq
def rmX5_driftedOn : Room := { frames := 1, cells := 0, slots := 0, locals := 22 }
def s_X5_driftedOn_b4 (F : MM) (a_this : Nat) : Nat → Int32 → Int32 → Int32 → Option Int32
  | 0, _, _, _ => none
  | n + 1, x1, x2, x3 => if (F 8 1) ≤ x3 then some x2 else (s_X5_isDrifted F a_this x1 x3).bind (fun r3 => if r3 = 0 then (some (x3 + 1 : Int32)).bind (fun y5 => s_X5_driftedOn_b4 F a_this n x1 x2 y5) else (some (x2 ||| ((1 : Int32) <<< (x3 &&& 31)) : Int32)).bind (fun y7 => (some (x3 + 1 : Int32)).bind (fun y9 => s_X5_driftedOn_b4 F a_this n x1 y7 y9)))
def s_X5_driftedOn (F : MM) (a_this : Nat) (p0 : Int32) : Option Int32 := s_X5_driftedOn_b4 F a_this fu_ p0 0 0
set_option maxRecDepth 20000 in
theorem k_X5_driftedOn_b4 {C : CX} {M : MX} {G : GG} {Q : OUT → MM → GG → Prop} {F : MM} {a_this : Nat} {r : Int32}  (ha_this : isSt a_this)(hM : MOk C RX5 cX5_driftedOn 4 (some .int) rmX5_driftedOn M) (hT : MNoT M) (hq : Q (.inl (some (.int r))) F G) : ∀ (n : Nat) (x1 : Int32) (x2 : Int32) (x3 : Int32), s_X5_driftedOn_b4 F a_this n x1 x2 x3 = some r → AW C 4 (ZM C rmX5_driftedOn Q M) M 0 0 4 [some (.ref a_this), some (.int x1), some (.int x2), some (.int x3)] [] F G := by
  intro n
  induction n with
  | zero => intro x1 x2 x3 h; exact nomatch h
  | succ n ih =>
    intro x1 x2 x3 h
    rw [s_X5_driftedOn_b4] at h
    refine aw_iload_n (pc := 4) (i := 3) (x := x3) hM dX5_driftedOn_4 rfl rfl ?_
    refine aw_aload_n (pc := 5) (i := 0) (x := a_this) hM dX5_driftedOn_5 rfl rfl ?_
    refine aw_getR (pc := 6) (r := 8) hM fd_X5_33 (st_ob ha_this) rfl dX5_driftedOn_6 ?_
    refine aw_getI (pc := 9) hM fd_X5_61 sk_8 rfl dX5_driftedOn_9 ?_
    refine aw_icmp_ge (pc := 12) (tgt := 36) hM dX5_driftedOn_12 (by decide) (fun c1 => ?_) (fun c1 => ?_)
    · rw [if_pos c1] at h
      refine aw_iload_n (pc := 36) (i := 2) (x := x2) hM dX5_driftedOn_36 rfl rfl ?_
      obtain rfl := Option.some.inj h
      exact aw_iret (pc := 37) hM dX5_driftedOn_37 (Nat.le_of_ble_eq_true rfl) (Nat.le_of_ble_eq_true rfl) hq
    · rw [if_neg c1] at h
      refine aw_aload_n (pc := 15) (i := 0) (x := a_this) hM dX5_driftedOn_15 rfl rfl ?_
      refine aw_iload_n (pc := 16) (i := 1) (x := x1) hM dX5_driftedOn_16 rfl rfl ?_
      refine aw_iload_n (pc := 17) (i := 3) (x := x3) hM dX5_driftedOn_17 rfl rfl ?_
      obtain ⟨r3, h2, h⟩ := bind_some h
      refine aw_cv1 (pc := 18) (n := 2) (As := [.int x1, .int x3]) (st := []) (b := a_this) (vo := (some (.int r3))) (c2 := 0) (s2 := 0) hM (k_X5_isDrifted ha_this h2) rfl cw_X5_66 (st_ob ha_this) rfl rfl (by decide +kernel) rfl rfl ⟨(Nat.le_of_ble_eq_true rfl), (Nat.le_of_ble_eq_true rfl)⟩ (Nat.le_of_ble_eq_true rfl) ⟨(Nat.le_of_ble_eq_true rfl), (Nat.le_of_ble_eq_true rfl)⟩ dX5_driftedOn_18 rfl rfl ?_
      refine aw_if_eq (pc := 21) (tgt := 30) hM dX5_driftedOn_21 (by decide) (fun c4 => ?_) (fun c4 => ?_)
      · rw [if_pos c4] at h
        obtain ⟨y5, e6, h⟩ := bind_some h
        have e6 := Option.some.inj e6
        refine aw_iinc (pc := 30) (v := y5) (L' := [some (.ref a_this), some (.int x1), some (.int x2), some (.int y5)]) hM dX5_driftedOn_30 rfl e6 (by decide) rfl ?_
        refine aw_goto (pc := 33) (tgt := 4) hM dX5_driftedOn_33 (by decide) ?_
        exact ih x1 x2 y5 h
      · rw [if_neg c4] at h
        refine aw_iload_n (pc := 24) (i := 2) (x := x2) hM dX5_driftedOn_24 rfl rfl ?_
        refine aw_iconst (pc := 25) (v := 1) hM dX5_driftedOn_25 (by decide) ?_
        refine aw_iload_n (pc := 26) (i := 3) (x := x3) hM dX5_driftedOn_26 rfl rfl ?_
        refine aw_ishl (pc := 27) hM dX5_driftedOn_27 ?_
        refine aw_ior (pc := 28) hM dX5_driftedOn_28 ?_
        obtain ⟨y7, e8, h⟩ := bind_some h
        have e8 := Option.some.inj e8
        refine aw_topi e8 ?_
        refine aw_istore_n (pc := 29) (i := 2) (L' := [some (.ref a_this), some (.int x1), some (.int y7), some (.int x3)]) hM dX5_driftedOn_29 rfl (by decide) rfl ?_
        obtain ⟨y9, e10, h⟩ := bind_some h
        have e10 := Option.some.inj e10
        refine aw_iinc (pc := 30) (v := y9) (L' := [some (.ref a_this), some (.int x1), some (.int y7), some (.int y9)]) hM dX5_driftedOn_30 rfl e10 (by decide) rfl ?_
        refine aw_goto (pc := 33) (tgt := 4) hM dX5_driftedOn_33 (by decide) ?_
        exact ih x1 y7 y9 h
set_option maxRecDepth 20000 in
theorem k_X5_driftedOn {C : CX} {F : MM} {G : GG} {a_this : Nat} {p0 : Int32} {r : Int32} (ha_this : isSt a_this) (h : s_X5_driftedOn F a_this p0 = some r) : AM C yX5_driftedOn cX5_driftedOn 4 (some .int) rmX5_driftedOn [.ref a_this, .int p0] F G (fun o F9 G9 => o = (.inl (some (.int r))) ∧ F9 = F ∧ G9 = G) := by
  refine am_of (L := [some (.ref a_this), some (.int p0), none, none]) (by decide) (Nat.le_of_ble_eq_true rfl) rfl (fun M hM hT => ?_)
  have hM : MOk C RX5 cX5_driftedOn 4 (some .int) rmX5_driftedOn M := hM
  obtain ⟨Q, hQ⟩ : ∃ Q : OUT → MM → GG → Prop, Q = (fun o F9 G9 => o = (.inl (some (.int r))) ∧ F9 = F ∧ G9 = G) := ⟨_, rfl⟩
  have hq : Q (.inl (some (.int r))) F G := by rw [hQ]; exact ⟨rfl, rfl, rfl⟩
  rw [← hQ]
  clear hQ
  rw [s_X5_driftedOn] at h
  refine aw_iconst (pc := 0) (v := 0) hM dX5_driftedOn_0 (by decide) ?_
  refine aw_istore_n (pc := 1) (i := 2) (L' := [some (.ref a_this), some (.int p0), some (.int 0), none]) hM dX5_driftedOn_1 rfl (by decide) rfl ?_
  refine aw_iconst (pc := 2) (v := 0) hM dX5_driftedOn_2 (by decide) ?_
  refine aw_istore_n (pc := 3) (i := 3) (L' := [some (.ref a_this), some (.int p0), some (.int 0), some (.int 0)]) hM dX5_driftedOn_3 rfl (by decide) rfl ?_
  exact k_X5_driftedOn_b4 ha_this hM hT hq fu_ p0 0 0 h
def rmX5_isAwaited : Room := { frames := 1, cells := 0, slots := 0, locals := 22 }
def s_X5_isAwaited_b2 (F : MM) (a_this : Nat) : Nat → Int32 → Int32 → Int32 → Option Int32
  | 0, _, _, _ => none
  | n + 1, x1, x2, x3 => if (F 8 0) ≤ x3 then some 0 else (s_X5_isDrifted F a_this x3 x1).bind (fun r3 => if r3 = 0 then (some (x3 + 1 : Int32)).bind (fun y5 => s_X5_isAwaited_b2 F a_this n x1 x2 y5) else if inb x3 5 then ((s_X0_versionIn F (F (a_this + 2) (ix x3)) x1).bind (fun r9 => if r9 = x2 then some 1 else (some (x3 + 1 : Int32)).bind (fun y11 => s_X5_isAwaited_b2 F a_this n x1 x2 y11))) else none)
def s_X5_isAwaited (F : MM) (a_this : Nat) (p0 : Int32) (p1 : Int32) : Option Int32 := s_X5_isAwaited_b2 F a_this fu_ p0 p1 0
set_option maxRecDepth 20000 in
theorem k_X5_isAwaited_b2 {C : CX} {M : MX} {G : GG} {Q : OUT → MM → GG → Prop} {F : MM} {a_this : Nat} {r : Int32}  (ha_this : isSt a_this)(hM : MOk C RX5 cX5_isAwaited 4 (some .boolean) rmX5_isAwaited M) (hT : MNoT M) (hq : Q (.inl (some (.int r))) F G) : ∀ (n : Nat) (x1 : Int32) (x2 : Int32) (x3 : Int32), s_X5_isAwaited_b2 F a_this n x1 x2 x3 = some r → AW C 4 (ZM C rmX5_isAwaited Q M) M 0 0 2 [some (.ref a_this), some (.int x1), some (.int x2), some (.int x3)] [] F G := by
  intro n
  induction n with
  | zero => intro x1 x2 x3 h; exact nomatch h
  | succ n ih =>
    intro x1 x2 x3 h
    rw [s_X5_isAwaited_b2] at h
    refine aw_iload_n (pc := 2) (i := 3) (x := x3) hM dX5_isAwaited_2 rfl rfl ?_
    refine aw_aload_n (pc := 3) (i := 0) (x := a_this) hM dX5_isAwaited_3 rfl rfl ?_
    refine aw_getR (pc := 4) (r := 8) hM fd_X5_33 (st_ob ha_this) rfl dX5_isAwaited_4 ?_
    refine aw_getI (pc := 7) hM fd_X5_70 sk_8 rfl dX5_isAwaited_7 ?_
    refine aw_icmp_ge (pc := 10) (tgt := 44) hM dX5_isAwaited_10 (by decide) (fun c1 => ?_) (fun c1 => ?_)
    · rw [if_pos c1] at h
      refine aw_iconst (pc := 44) (v := 0) hM dX5_isAwaited_44 (by decide) ?_
      obtain rfl := Option.some.inj h
      exact aw_zret (pc := 45) hM dX5_isAwaited_45 (by decide) (Nat.le_of_ble_eq_true rfl) (Nat.le_of_ble_eq_true rfl) hq
    · rw [if_neg c1] at h
      refine aw_aload_n (pc := 13) (i := 0) (x := a_this) hM dX5_isAwaited_13 rfl rfl ?_
      refine aw_iload_n (pc := 14) (i := 3) (x := x3) hM dX5_isAwaited_14 rfl rfl ?_
      refine aw_iload_n (pc := 15) (i := 1) (x := x1) hM dX5_isAwaited_15 rfl rfl ?_
      obtain ⟨r3, h2, h⟩ := bind_some h
      refine aw_cv1 (pc := 16) (n := 2) (As := [.int x3, .int x1]) (st := []) (b := a_this) (vo := (some (.int r3))) (c2 := 0) (s2 := 0) hM (k_X5_isDrifted ha_this h2) rfl cw_X5_66 (st_ob ha_this) rfl rfl (by decide +kernel) rfl rfl ⟨(Nat.le_of_ble_eq_true rfl), (Nat.le_of_ble_eq_true rfl)⟩ (Nat.le_of_ble_eq_true rfl) ⟨(Nat.le_of_ble_eq_true rfl), (Nat.le_of_ble_eq_true rfl)⟩ dX5_isAwaited_16 rfl rfl ?_
      refine aw_if_eq (pc := 19) (tgt := 38) hM dX5_isAwaited_19 (by decide) (fun c4 => ?_) (fun c4 => ?_)
      · rw [if_pos c4] at h
        obtain ⟨y5, e6, h⟩ := bind_some h
        have e6 := Option.some.inj e6
        refine aw_iinc (pc := 38) (v := y5) (L' := [some (.ref a_this), some (.int x1), some (.int x2), some (.int y5)]) hM dX5_isAwaited_38 rfl e6 (by decide) rfl ?_
        refine aw_goto (pc := 41) (tgt := 2) hM dX5_isAwaited_41 (by decide) ?_
        exact ih x1 x2 y5 h
      · rw [if_neg c4] at h
        refine aw_aload_n (pc := 22) (i := 0) (x := a_this) hM dX5_isAwaited_22 rfl rfl ?_
        refine aw_getR (pc := 23) (r := (a_this + 2)) hM fd_X5_15 (st_ob ha_this) rfl dX5_isAwaited_23 ?_
        refine aw_iload_n (pc := 26) (i := 3) (x := x3) hM dX5_isAwaited_26 rfl rfl ?_
        obtain ⟨c7, h⟩ := ite_some h
        refine aw_iald (pc := 27) hM (st_a2 ha_this) c7 dX5_isAwaited_27 ?_
        refine aw_iload_n (pc := 28) (i := 1) (x := x1) hM dX5_isAwaited_28 rfl rfl ?_
        obtain ⟨r9, h8, h⟩ := bind_some h
        refine aw_cs1 (pc := 29) (n := 2) (As := [.int (F (a_this + 2) (ix x3)), .int x1]) (st := []) (vo := (some (.int r9))) (c2 := 0) (s2 := 0) hM (k_X0_versionIn h8) rfl cw_X5_77 (by decide +kernel) rfl rfl ⟨(Nat.le_of_ble_eq_true rfl), (Nat.le_of_ble_eq_true rfl)⟩ (Nat.le_of_ble_eq_true rfl) ⟨(Nat.le_of_ble_eq_true rfl), (Nat.le_of_ble_eq_true rfl)⟩ dX5_isAwaited_29 rfl rfl ?_
        refine aw_iload_n (pc := 32) (i := 2) (x := x2) hM dX5_isAwaited_32 rfl rfl ?_
        refine aw_icmp_ne (pc := 33) (tgt := 38) hM dX5_isAwaited_33 (by decide) (fun c10 => ?_) (fun c10 => ?_)
        · rw [if_neg c10] at h
          obtain ⟨y11, e12, h⟩ := bind_some h
          have e12 := Option.some.inj e12
          refine aw_iinc (pc := 38) (v := y11) (L' := [some (.ref a_this), some (.int x1), some (.int x2), some (.int y11)]) hM dX5_isAwaited_38 rfl e12 (by decide) rfl ?_
          refine aw_goto (pc := 41) (tgt := 2) hM dX5_isAwaited_41 (by decide) ?_
          exact ih x1 x2 y11 h
        · rw [if_pos c10] at h
          refine aw_iconst (pc := 36) (v := 1) hM dX5_isAwaited_36 (by decide) ?_
          obtain rfl := Option.some.inj h
          exact aw_zret (pc := 37) hM dX5_isAwaited_37 (by decide) (Nat.le_of_ble_eq_true rfl) (Nat.le_of_ble_eq_true rfl) hq
set_option maxRecDepth 20000 in
theorem k_X5_isAwaited {C : CX} {F : MM} {G : GG} {a_this : Nat} {p0 : Int32} {p1 : Int32} {r : Int32} (ha_this : isSt a_this) (h : s_X5_isAwaited F a_this p0 p1 = some r) : AM C yX5_isAwaited cX5_isAwaited 4 (some .boolean) rmX5_isAwaited [.ref a_this, .int p0, .int p1] F G (fun o F9 G9 => o = (.inl (some (.int r))) ∧ F9 = F ∧ G9 = G) := by
  refine am_of (L := [some (.ref a_this), some (.int p0), some (.int p1), none]) (by decide) (Nat.le_of_ble_eq_true rfl) rfl (fun M hM hT => ?_)
  have hM : MOk C RX5 cX5_isAwaited 4 (some .boolean) rmX5_isAwaited M := hM
  obtain ⟨Q, hQ⟩ : ∃ Q : OUT → MM → GG → Prop, Q = (fun o F9 G9 => o = (.inl (some (.int r))) ∧ F9 = F ∧ G9 = G) := ⟨_, rfl⟩
  have hq : Q (.inl (some (.int r))) F G := by rw [hQ]; exact ⟨rfl, rfl, rfl⟩
  rw [← hQ]
  clear hQ
  rw [s_X5_isAwaited] at h
  refine aw_iconst (pc := 0) (v := 0) hM dX5_isAwaited_0 (by decide) ?_
  refine aw_istore_n (pc := 1) (i := 3) (L' := [some (.ref a_this), some (.int p0), some (.int p1), some (.int 0)]) hM dX5_isAwaited_1 rfl (by decide) rfl ?_
  exact k_X5_isAwaited_b2 ha_this hM hT hq fu_ p0 p1 0 h
def rmX5_isFarther : Room := { frames := 2, cells := 0, slots := 0, locals := 45 }
def s_X5_isFarther (F : MM) (a_this : Nat) (p0 : Int32) (p1 : Int32) : Option Int32 := (s_X5_driftedOn F a_this p0).bind (fun r2 => (s_J6_bitCount_0f7a4 F r2).bind (fun r4 => (s_X5_driftedOn F a_this p1).bind (fun r6 => (s_J6_bitCount_0f7a4 F r6).bind (fun r8 => (some (r4 - r8 : Int32)).bind (fun y9 => if y9 = 0 then if inb p0 5 then ((s_X4_brokenOn F (F (a_this + 1) (ix p0))).bind (fun r14 => (s_J6_bitCount_0f7a4 F r14).bind (fun r16 => if inb p1 5 then ((s_X4_brokenOn F (F (a_this + 1) (ix p1))).bind (fun r19 => (s_J6_bitCount_0f7a4 F r19).bind (fun r21 => (some (r16 - r21 : Int32)).bind (fun y22 => if y22 = 0 then if p1 ≤ p0 then some 0 else some 1 else if y22 ≤ 0 then some 0 else some 1)))) else none))) else none else if y9 ≤ 0 then some 0 else some 1)))))
set_option maxRecDepth 20000 in
theorem k_X5_isFarther {C : CX} {F : MM} {G : GG} {a_this : Nat} {p0 : Int32} {p1 : Int32} {r : Int32} (ha_this : isSt a_this) (h : s_X5_isFarther F a_this p0 p1 = some r) : AM C yX5_isFarther cX5_isFarther 5 (some .boolean) rmX5_isFarther [.ref a_this, .int p0, .int p1] F G (fun o F9 G9 => o = (.inl (some (.int r))) ∧ F9 = F ∧ G9 = G) := by
  refine am_of (L := [some (.ref a_this), some (.int p0), some (.int p1), none, none]) (by decide) (Nat.le_of_ble_eq_true rfl) rfl (fun M hM hT => ?_)
  have hM : MOk C RX5 cX5_isFarther 5 (some .boolean) rmX5_isFarther M := hM
  obtain ⟨Q, hQ⟩ : ∃ Q : OUT → MM → GG → Prop, Q = (fun o F9 G9 => o = (.inl (some (.int r))) ∧ F9 = F ∧ G9 = G) := ⟨_, rfl⟩
  have hq : Q (.inl (some (.int r))) F G := by rw [hQ]; exact ⟨rfl, rfl, rfl⟩
  rw [← hQ]
  clear hQ
  rw [s_X5_isFarther] at h
  refine aw_aload_n (pc := 0) (i := 0) (x := a_this) hM dX5_isFarther_0 rfl rfl ?_
  refine aw_iload_n (pc := 1) (i := 1) (x := p0) hM dX5_isFarther_1 rfl rfl ?_
  obtain ⟨r2, h1, h⟩ := bind_some h
  refine aw_cv1 (pc := 2) (n := 1) (As := [.int p0]) (st := []) (b := a_this) (vo := (some (.int r2))) (c2 := 0) (s2 := 0) hM (k_X5_driftedOn ha_this h1) rfl cw_X5_90 (st_ob ha_this) rfl rfl (by decide +kernel) rfl rfl ⟨(Nat.le_of_ble_eq_true rfl), (Nat.le_of_ble_eq_true rfl)⟩ (Nat.le_of_ble_eq_true rfl) ⟨(Nat.le_of_ble_eq_true rfl), (Nat.le_of_ble_eq_true rfl)⟩ dX5_isFarther_2 rfl rfl ?_
  obtain ⟨r4, h3, h⟩ := bind_some h
  refine aw_cs1 (pc := 5) (n := 1) (As := [.int r2]) (st := []) (vo := (some (.int r4))) (c2 := 0) (s2 := 0) hM (k_J6_bitCount_0f7a4 h3) rfl cw_X5_118 (by decide +kernel) rfl rfl ⟨(Nat.le_of_ble_eq_true rfl), (Nat.le_of_ble_eq_true rfl)⟩ (Nat.le_of_ble_eq_true rfl) ⟨(Nat.le_of_ble_eq_true rfl), (Nat.le_of_ble_eq_true rfl)⟩ dX5_isFarther_5 rfl rfl ?_
  refine aw_aload_n (pc := 8) (i := 0) (x := a_this) hM dX5_isFarther_8 rfl rfl ?_
  refine aw_iload_n (pc := 9) (i := 2) (x := p1) hM dX5_isFarther_9 rfl rfl ?_
  obtain ⟨r6, h5, h⟩ := bind_some h
  refine aw_cv1 (pc := 10) (n := 1) (As := [.int p1]) (st := [.int r4]) (b := a_this) (vo := (some (.int r6))) (c2 := 0) (s2 := 0) hM (k_X5_driftedOn ha_this h5) rfl cw_X5_90 (st_ob ha_this) rfl rfl (by decide +kernel) rfl rfl ⟨(Nat.le_of_ble_eq_true rfl), (Nat.le_of_ble_eq_true rfl)⟩ (Nat.le_of_ble_eq_true rfl) ⟨(Nat.le_of_ble_eq_true rfl), (Nat.le_of_ble_eq_true rfl)⟩ dX5_isFarther_10 rfl rfl ?_
  obtain ⟨r8, h7, h⟩ := bind_some h
  refine aw_cs1 (pc := 13) (n := 1) (As := [.int r6]) (st := [.int r4]) (vo := (some (.int r8))) (c2 := 0) (s2 := 0) hM (k_J6_bitCount_0f7a4 h7) rfl cw_X5_118 (by decide +kernel) rfl rfl ⟨(Nat.le_of_ble_eq_true rfl), (Nat.le_of_ble_eq_true rfl)⟩ (Nat.le_of_ble_eq_true rfl) ⟨(Nat.le_of_ble_eq_true rfl), (Nat.le_of_ble_eq_true rfl)⟩ dX5_isFarther_13 rfl rfl ?_
  refine aw_isub (pc := 16) hM dX5_isFarther_16 ?_
  obtain ⟨y9, e10, h⟩ := bind_some h
  have e10 := Option.some.inj e10
  refine aw_topi e10 ?_
  refine aw_istore_n (pc := 17) (i := 3) (L' := [some (.ref a_this), some (.int p0), some (.int p1), some (.int y9), none]) hM dX5_isFarther_17 rfl (by decide) rfl ?_
  refine aw_iload_n (pc := 18) (i := 3) (x := y9) hM dX5_isFarther_18 rfl rfl ?_
  refine aw_if_eq (pc := 19) (tgt := 32) hM dX5_isFarther_19 (by decide) (fun c11 => ?_) (fun c11 => ?_)
  · rw [if_pos c11] at h
    refine aw_aload_n (pc := 32) (i := 0) (x := a_this) hM dX5_isFarther_32 rfl rfl ?_
    refine aw_getR (pc := 33) (r := 8) hM fd_X5_33 (st_ob ha_this) rfl dX5_isFarther_33 ?_
    refine aw_getR (pc := 36) (r := 10) hM fd_X5_94 sk_8 rfl dX5_isFarther_36 ?_
    refine aw_aload_n (pc := 39) (i := 0) (x := a_this) hM dX5_isFarther_39 rfl rfl ?_
    refine aw_getR (pc := 40) (r := (a_this + 1)) hM fd_X5_9 (st_ob ha_this) rfl dX5_isFarther_40 ?_
    refine aw_iload_n (pc := 43) (i := 1) (x := p0) hM dX5_isFarther_43 rfl rfl ?_
    obtain ⟨c12, h⟩ := ite_some h
    refine aw_iald (pc := 44) hM (st_a1 ha_this) c12 dX5_isFarther_44 ?_
    obtain ⟨r14, h13, h⟩ := bind_some h
    refine aw_cv1 (pc := 45) (n := 1) (As := [.int (F (a_this + 1) (ix p0))]) (st := []) (b := 10) (vo := (some (.int r14))) (c2 := 0) (s2 := 0) hM (k_X4_brokenOn h13) rfl cw_X5_98 sk_10 rfl rfl (by decide +kernel) rfl rfl ⟨(Nat.le_of_ble_eq_true rfl), (Nat.le_of_ble_eq_true rfl)⟩ (Nat.le_of_ble_eq_true rfl) ⟨(Nat.le_of_ble_eq_true rfl), (Nat.le_of_ble_eq_true rfl)⟩ dX5_isFarther_45 rfl rfl ?_
    obtain ⟨r16, h15, h⟩ := bind_some h
    refine aw_cs1 (pc := 48) (n := 1) (As := [.int r14]) (st := []) (vo := (some (.int r16))) (c2 := 0) (s2 := 0) hM (k_J6_bitCount_0f7a4 h15) rfl cw_X5_118 (by decide +kernel) rfl rfl ⟨(Nat.le_of_ble_eq_true rfl), (Nat.le_of_ble_eq_true rfl)⟩ (Nat.le_of_ble_eq_true rfl) ⟨(Nat.le_of_ble_eq_true rfl), (Nat.le_of_ble_eq_true rfl)⟩ dX5_isFarther_48 rfl rfl ?_
    refine aw_aload_n (pc := 51) (i := 0) (x := a_this) hM dX5_isFarther_51 rfl rfl ?_
    refine aw_getR (pc := 52) (r := 8) hM fd_X5_33 (st_ob ha_this) rfl dX5_isFarther_52 ?_
    refine aw_getR (pc := 55) (r := 10) hM fd_X5_94 sk_8 rfl dX5_isFarther_55 ?_
    refine aw_aload_n (pc := 58) (i := 0) (x := a_this) hM dX5_isFarther_58 rfl rfl ?_
    refine aw_getR (pc := 59) (r := (a_this + 1)) hM fd_X5_9 (st_ob ha_this) rfl dX5_isFarther_59 ?_
    refine aw_iload_n (pc := 62) (i := 2) (x := p1) hM dX5_isFarther_62 rfl rfl ?_
    obtain ⟨c17, h⟩ := ite_some h
    refine aw_iald (pc := 63) hM (st_a1 ha_this) c17 dX5_isFarther_63 ?_
    obtain ⟨r19, h18, h⟩ := bind_some h
    refine aw_cv1 (pc := 64) (n := 1) (As := [.int (F (a_this + 1) (ix p1))]) (st := [.int r16]) (b := 10) (vo := (some (.int r19))) (c2 := 0) (s2 := 0) hM (k_X4_brokenOn h18) rfl cw_X5_98 sk_10 rfl rfl (by decide +kernel) rfl rfl ⟨(Nat.le_of_ble_eq_true rfl), (Nat.le_of_ble_eq_true rfl)⟩ (Nat.le_of_ble_eq_true rfl) ⟨(Nat.le_of_ble_eq_true rfl), (Nat.le_of_ble_eq_true rfl)⟩ dX5_isFarther_64 rfl rfl ?_
    obtain ⟨r21, h20, h⟩ := bind_some h
    refine aw_cs1 (pc := 67) (n := 1) (As := [.int r19]) (st := [.int r16]) (vo := (some (.int r21))) (c2 := 0) (s2 := 0) hM (k_J6_bitCount_0f7a4 h20) rfl cw_X5_118 (by decide +kernel) rfl rfl ⟨(Nat.le_of_ble_eq_true rfl), (Nat.le_of_ble_eq_true rfl)⟩ (Nat.le_of_ble_eq_true rfl) ⟨(Nat.le_of_ble_eq_true rfl), (Nat.le_of_ble_eq_true rfl)⟩ dX5_isFarther_67 rfl rfl ?_
    refine aw_isub (pc := 70) hM dX5_isFarther_70 ?_
    obtain ⟨y22, e23, h⟩ := bind_some h
    have e23 := Option.some.inj e23
    refine aw_topi e23 ?_
    refine aw_istore (pc := 71) (i := 4) (L' := [some (.ref a_this), some (.int p0), some (.int p1), some (.int y9), some (.int y22)]) hM dX5_isFarther_71  (by decide) rfl ?_
    refine aw_iload (pc := 73) (i := 4) (x := y22) hM dX5_isFarther_73  rfl ?_
    refine aw_if_eq (pc := 75) (tgt := 91) hM dX5_isFarther_75 (by decide) (fun c24 => ?_) (fun c24 => ?_)
    · rw [if_pos c24] at h
      refine aw_iload_n (pc := 91) (i := 1) (x := p0) hM dX5_isFarther_91 rfl rfl ?_
      refine aw_iload_n (pc := 92) (i := 2) (x := p1) hM dX5_isFarther_92 rfl rfl ?_
      refine aw_icmp_ge (pc := 93) (tgt := 100) hM dX5_isFarther_93 (by decide) (fun c25 => ?_) (fun c25 => ?_)
      · rw [if_pos c25] at h
        refine aw_iconst (pc := 100) (v := 0) hM dX5_isFarther_100 (by decide) ?_
        obtain rfl := Option.some.inj h
        exact aw_zret (pc := 101) hM dX5_isFarther_101 (by decide) (Nat.le_of_ble_eq_true rfl) (Nat.le_of_ble_eq_true rfl) hq
      · rw [if_neg c25] at h
        refine aw_iconst (pc := 96) (v := 1) hM dX5_isFarther_96 (by decide) ?_
        refine aw_goto (pc := 97) (tgt := 101) hM dX5_isFarther_97 (by decide) ?_
        obtain rfl := Option.some.inj h
        exact aw_zret (pc := 101) hM dX5_isFarther_101 (by decide) (Nat.le_of_ble_eq_true rfl) (Nat.le_of_ble_eq_true rfl) hq
    · rw [if_neg c24] at h
      refine aw_iload (pc := 78) (i := 4) (x := y22) hM dX5_isFarther_78  rfl ?_
      refine aw_if_le (pc := 80) (tgt := 87) hM dX5_isFarther_80 (by decide) (fun c26 => ?_) (fun c26 => ?_)
      · rw [if_pos c26] at h
        refine aw_iconst (pc := 87) (v := 0) hM dX5_isFarther_87 (by decide) ?_
        refine aw_goto (pc := 88) (tgt := 101) hM dX5_isFarther_88 (by decide) ?_
        obtain rfl := Option.some.inj h
        exact aw_zret (pc := 101) hM dX5_isFarther_101 (by decide) (Nat.le_of_ble_eq_true rfl) (Nat.le_of_ble_eq_true rfl) hq
      · rw [if_neg c26] at h
        refine aw_iconst (pc := 83) (v := 1) hM dX5_isFarther_83 (by decide) ?_
        refine aw_goto (pc := 84) (tgt := 101) hM dX5_isFarther_84 (by decide) ?_
        obtain rfl := Option.some.inj h
        exact aw_zret (pc := 101) hM dX5_isFarther_101 (by decide) (Nat.le_of_ble_eq_true rfl) (Nat.le_of_ble_eq_true rfl) hq
  · rw [if_neg c11] at h
    refine aw_iload_n (pc := 22) (i := 3) (x := y9) hM dX5_isFarther_22 rfl rfl ?_
    refine aw_if_le (pc := 23) (tgt := 30) hM dX5_isFarther_23 (by decide) (fun c27 => ?_) (fun c27 => ?_)
    · rw [if_pos c27] at h
      refine aw_iconst (pc := 30) (v := 0) hM dX5_isFarther_30 (by decide) ?_
      obtain rfl := Option.some.inj h
      exact aw_zret (pc := 31) hM dX5_isFarther_31 (by decide) (Nat.le_of_ble_eq_true rfl) (Nat.le_of_ble_eq_true rfl) hq
    · rw [if_neg c27] at h
      refine aw_iconst (pc := 26) (v := 1) hM dX5_isFarther_26 (by decide) ?_
      refine aw_goto (pc := 27) (tgt := 31) hM dX5_isFarther_27 (by decide) ?_
      obtain rfl := Option.some.inj h
      exact aw_zret (pc := 31) hM dX5_isFarther_31 (by decide) (Nat.le_of_ble_eq_true rfl) (Nat.le_of_ble_eq_true rfl) hq
def rmX5_missingApprovals : Room := { frames := 2, cells := 0, slots := 0, locals := 45 }
def s_X5_missingApprovals_b4 (F : MM) (a_this : Nat) : Nat → Int32 → Int32 → Int32 → Option Int32
  | 0, _, _, _ => none
  | n + 1, x1, x2, x3 => if 4 ≤ x3 then some x2 else (s_X5_isAwaited F a_this x1 x3).bind (fun r3 => if r3 = 0 then (some (x3 + 1 : Int32)).bind (fun y5 => s_X5_missingApprovals_b4 F a_this n x1 x2 y5) else (s_X5_missingTo F a_this x1 x3).bind (fun r8 => (some (x2 + r8 : Int32)).bind (fun y9 => (some (x3 + 1 : Int32)).bind (fun y11 => s_X5_missingApprovals_b4 F a_this n x1 y9 y11))))
def s_X5_missingApprovals (F : MM) (a_this : Nat) (p0 : Int32) : Option Int32 := s_X5_missingApprovals_b4 F a_this fu_ p0 0 0
set_option maxRecDepth 20000 in
theorem k_X5_missingApprovals_b4 {C : CX} {M : MX} {G : GG} {Q : OUT → MM → GG → Prop} {F : MM} {a_this : Nat} {r : Int32}  (ha_this : isSt a_this)(hM : MOk C RX5 cX5_missingApprovals 4 (some .int) rmX5_missingApprovals M) (hT : MNoT M) (hq : Q (.inl (some (.int r))) F G) : ∀ (n : Nat) (x1 : Int32) (x2 : Int32) (x3 : Int32), s_X5_missingApprovals_b4 F a_this n x1 x2 x3 = some r → AW C 4 (ZM C rmX5_missingApprovals Q M) M 0 0 4 [some (.ref a_this), some (.int x1), some (.int x2), some (.int x3)] [] F G := by
  intro n
  induction n with
  | zero => intro x1 x2 x3 h; exact nomatch h
  | succ n ih =>
    intro x1 x2 x3 h
    rw [s_X5_missingApprovals_b4] at h
    refine aw_iload_n (pc := 4) (i := 3) (x := x3) hM dX5_missingApprovals_4 rfl rfl ?_
    refine aw_iconst (pc := 5) (v := 4) hM dX5_missingApprovals_5 (by decide) ?_
    refine aw_icmp_ge (pc := 6) (tgt := 33) hM dX5_missingApprovals_6 (by decide) (fun c1 => ?_) (fun c1 => ?_)
    · rw [if_pos c1] at h
      refine aw_iload_n (pc := 33) (i := 2) (x := x2) hM dX5_missingApprovals_33 rfl rfl ?_
      obtain rfl := Option.some.inj h
      exact aw_iret (pc := 34) hM dX5_missingApprovals_34 (Nat.le_of_ble_eq_true rfl) (Nat.le_of_ble_eq_true rfl) hq
    · rw [if_neg c1] at h
      refine aw_aload_n (pc := 9) (i := 0) (x := a_this) hM dX5_missingApprovals_9 rfl rfl ?_
      refine aw_iload_n (pc := 10) (i := 1) (x := x1) hM dX5_missingApprovals_10 rfl rfl ?_
      refine aw_iload_n (pc := 11) (i := 3) (x := x3) hM dX5_missingApprovals_11 rfl rfl ?_
      obtain ⟨r3, h2, h⟩ := bind_some h
      refine aw_cv1 (pc := 12) (n := 2) (As := [.int x1, .int x3]) (st := []) (b := a_this) (vo := (some (.int r3))) (c2 := 0) (s2 := 0) hM (k_X5_isAwaited ha_this h2) rfl cw_X5_151 (st_ob ha_this) rfl rfl (by decide +kernel) rfl rfl ⟨(Nat.le_of_ble_eq_true rfl), (Nat.le_of_ble_eq_true rfl)⟩ (Nat.le_of_ble_eq_true rfl) ⟨(Nat.le_of_ble_eq_true rfl), (Nat.le_of_ble_eq_true rfl)⟩ dX5_missingApprovals_12 rfl rfl ?_
      refine aw_if_eq (pc := 15) (tgt := 27) hM dX5_missingApprovals_15 (by decide) (fun c4 => ?_) (fun c4 => ?_)
      · rw [if_pos c4] at h
        obtain ⟨y5, e6, h⟩ := bind_some h
        have e6 := Option.some.inj e6
        refine aw_iinc (pc := 27) (v := y5) (L' := [some (.ref a_this), some (.int x1), some (.int x2), some (.int y5)]) hM dX5_missingApprovals_27 rfl e6 (by decide) rfl ?_
        refine aw_goto (pc := 30) (tgt := 4) hM dX5_missingApprovals_30 (by decide) ?_
        exact ih x1 x2 y5 h
      · rw [if_neg c4] at h
        refine aw_iload_n (pc := 18) (i := 2) (x := x2) hM dX5_missingApprovals_18 rfl rfl ?_
        refine aw_aload_n (pc := 19) (i := 0) (x := a_this) hM dX5_missingApprovals_19 rfl rfl ?_
        refine aw_iload_n (pc := 20) (i := 1) (x := x1) hM dX5_missingApprovals_20 rfl rfl ?_
        refine aw_iload_n (pc := 21) (i := 3) (x := x3) hM dX5_missingApprovals_21 rfl rfl ?_
        obtain ⟨r8, h7, h⟩ := bind_some h
        refine aw_cv1 (pc := 22) (n := 2) (As := [.int x1, .int x3]) (st := [.int x2]) (b := a_this) (vo := (some (.int r8))) (c2 := 0) (s2 := 0) hM (k_X5_missingTo ha_this h7) rfl cw_X5_106 (st_ob ha_this) rfl rfl (by decide +kernel) rfl rfl ⟨(Nat.le_of_ble_eq_true rfl), (Nat.le_of_ble_eq_true rfl)⟩ (Nat.le_of_ble_eq_true rfl) ⟨(Nat.le_of_ble_eq_true rfl), (Nat.le_of_ble_eq_true rfl)⟩ dX5_missingApprovals_22 rfl rfl ?_
        refine aw_iadd (pc := 25) hM dX5_missingApprovals_25 ?_
        obtain ⟨y9, e10, h⟩ := bind_some h
        have e10 := Option.some.inj e10
        refine aw_topi e10 ?_
        refine aw_istore_n (pc := 26) (i := 2) (L' := [some (.ref a_this), some (.int x1), some (.int y9), some (.int x3)]) hM dX5_missingApprovals_26 rfl (by decide) rfl ?_
        obtain ⟨y11, e12, h⟩ := bind_some h
        have e12 := Option.some.inj e12
        refine aw_iinc (pc := 27) (v := y11) (L' := [some (.ref a_this), some (.int x1), some (.int y9), some (.int y11)]) hM dX5_missingApprovals_27 rfl e12 (by decide) rfl ?_
        refine aw_goto (pc := 30) (tgt := 4) hM dX5_missingApprovals_30 (by decide) ?_
        exact ih x1 y9 y11 h
set_option maxRecDepth 20000 in
theorem k_X5_missingApprovals {C : CX} {F : MM} {G : GG} {a_this : Nat} {p0 : Int32} {r : Int32} (ha_this : isSt a_this) (h : s_X5_missingApprovals F a_this p0 = some r) : AM C yX5_missingApprovals cX5_missingApprovals 4 (some .int) rmX5_missingApprovals [.ref a_this, .int p0] F G (fun o F9 G9 => o = (.inl (some (.int r))) ∧ F9 = F ∧ G9 = G) := by
  refine am_of (L := [some (.ref a_this), some (.int p0), none, none]) (by decide) (Nat.le_of_ble_eq_true rfl) rfl (fun M hM hT => ?_)
  have hM : MOk C RX5 cX5_missingApprovals 4 (some .int) rmX5_missingApprovals M := hM
  obtain ⟨Q, hQ⟩ : ∃ Q : OUT → MM → GG → Prop, Q = (fun o F9 G9 => o = (.inl (some (.int r))) ∧ F9 = F ∧ G9 = G) := ⟨_, rfl⟩
  have hq : Q (.inl (some (.int r))) F G := by rw [hQ]; exact ⟨rfl, rfl, rfl⟩
  rw [← hQ]
  clear hQ
  rw [s_X5_missingApprovals] at h
  refine aw_iconst (pc := 0) (v := 0) hM dX5_missingApprovals_0 (by decide) ?_
  refine aw_istore_n (pc := 1) (i := 2) (L' := [some (.ref a_this), some (.int p0), some (.int 0), none]) hM dX5_missingApprovals_1 rfl (by decide) rfl ?_
  refine aw_iconst (pc := 2) (v := 0) hM dX5_missingApprovals_2 (by decide) ?_
  refine aw_istore_n (pc := 3) (i := 3) (L' := [some (.ref a_this), some (.int p0), some (.int 0), some (.int 0)]) hM dX5_missingApprovals_3 rfl (by decide) rfl ?_
  exact k_X5_missingApprovals_b4 ha_this hM hT hq fu_ p0 0 0 h
def rmX5_numberOf : Room := { frames := 2, cells := 0, slots := 0, locals := 45 }
def s_X5_numberOf (F : MM) (a_this : Nat) (p0 : Int32) (p1 : Int32) : Option Int32 := if p1 = 0 then if inb p0 5 then (some (F 9 (ix p0))) else none else if p1 = 1 then if inb p0 5 then (some (F (a_this + 3) (ix p0))) else none else if p1 = 2 then if inb p0 5 then (some (F (a_this + 4) (ix p0))) else none else if p1 = 3 then (s_X5_isQuarantined F a_this p0).bind (fun r9 => if r9 = 0 then some (-9) else if inb p0 5 then (some (F (a_this + 5) (ix p0))) else none) else if p1 = 4 then (s_X5_driftedOn F a_this p0).bind (fun r14 => some r14) else if p1 = 5 then if inb p0 5 then ((s_X4_brokenOn F (F (a_this + 1) (ix p0))).bind (fun r18 => some r18)) else none else (s_X5_digestOf F a_this p0).bind (fun r20 => some r20)
set_option maxRecDepth 20000 in
theorem k_X5_numberOf {C : CX} {F : MM} {G : GG} {a_this : Nat} {p0 : Int32} {p1 : Int32} {r : Int32} (ha_this : isSt a_this) (h : s_X5_numberOf F a_this p0 p1 = some r) : AM C yX5_numberOf cX5_numberOf 3 (some .int) rmX5_numberOf [.ref a_this, .int p0, .int p1] F G (fun o F9 G9 => o = (.inl (some (.int r))) ∧ F9 = F ∧ G9 = G) := by
  refine am_of (L := [some (.ref a_this), some (.int p0), some (.int p1)]) (by decide) (Nat.le_of_ble_eq_true rfl) rfl (fun M hM hT => ?_)
  have hM : MOk C RX5 cX5_numberOf 3 (some .int) rmX5_numberOf M := hM
  obtain ⟨Q, hQ⟩ : ∃ Q : OUT → MM → GG → Prop, Q = (fun o F9 G9 => o = (.inl (some (.int r))) ∧ F9 = F ∧ G9 = G) := ⟨_, rfl⟩
  have hq : Q (.inl (some (.int r))) F G := by rw [hQ]; exact ⟨rfl, rfl, rfl⟩
  rw [← hQ]
  clear hQ
  rw [s_X5_numberOf] at h
  refine aw_iload_n (pc := 0) (i := 2) (x := p1) hM dX5_numberOf_0 rfl rfl ?_
  by_cases c1 : p1 = 0
  · rw [if_pos c1] at h
    refine aw_tableIn (pc := 1) (off := 39) (tgt := 40) hM dX5_numberOf_1 (by rw [c1]; decide) (by rw [c1]; decide) (by rw [c1]; rfl) (by decide) ?_
    refine aw_aload_n (pc := 40) (i := 0) (x := a_this) hM dX5_numberOf_40 rfl rfl ?_
    refine aw_getR (pc := 41) (r := 8) hM fd_X5_33 (st_ob ha_this) rfl dX5_numberOf_41 ?_
    refine aw_getR (pc := 44) (r := 9) hM fd_X5_83 sk_8 rfl dX5_numberOf_44 ?_
    refine aw_iload_n (pc := 47) (i := 1) (x := p0) hM dX5_numberOf_47 rfl rfl ?_
    obtain ⟨c2, h⟩ := ite_some h
    refine aw_iald (pc := 48) hM sk_9 c2 dX5_numberOf_48 ?_
    obtain rfl := Option.some.inj h
    exact aw_iret (pc := 49) hM dX5_numberOf_49 (Nat.le_of_ble_eq_true rfl) (Nat.le_of_ble_eq_true rfl) hq
  rw [if_neg c1] at h
  by_cases c3 : p1 = 1
  · rw [if_pos c3] at h
    refine aw_tableIn (pc := 1) (off := 49) (tgt := 50) hM dX5_numberOf_1 (by rw [c3]; decide) (by rw [c3]; decide) (by rw [c3]; rfl) (by decide) ?_
    refine aw_aload_n (pc := 50) (i := 0) (x := a_this) hM dX5_numberOf_50 rfl rfl ?_
    refine aw_getR (pc := 51) (r := (a_this + 3)) hM fd_X5_18 (st_ob ha_this) rfl dX5_numberOf_51 ?_
    refine aw_iload_n (pc := 54) (i := 1) (x := p0) hM dX5_numberOf_54 rfl rfl ?_
    obtain ⟨c4, h⟩ := ite_some h
    refine aw_iald (pc := 55) hM (st_a3 ha_this) c4 dX5_numberOf_55 ?_
    obtain rfl := Option.some.inj h
    exact aw_iret (pc := 56) hM dX5_numberOf_56 (Nat.le_of_ble_eq_true rfl) (Nat.le_of_ble_eq_true rfl) hq
  rw [if_neg c3] at h
  by_cases c5 : p1 = 2
  · rw [if_pos c5] at h
    refine aw_tableIn (pc := 1) (off := 56) (tgt := 57) hM dX5_numberOf_1 (by rw [c5]; decide) (by rw [c5]; decide) (by rw [c5]; rfl) (by decide) ?_
    refine aw_aload_n (pc := 57) (i := 0) (x := a_this) hM dX5_numberOf_57 rfl rfl ?_
    refine aw_getR (pc := 58) (r := (a_this + 4)) hM fd_X5_21 (st_ob ha_this) rfl dX5_numberOf_58 ?_
    refine aw_iload_n (pc := 61) (i := 1) (x := p0) hM dX5_numberOf_61 rfl rfl ?_
    obtain ⟨c6, h⟩ := ite_some h
    refine aw_iald (pc := 62) hM (st_a4 ha_this) c6 dX5_numberOf_62 ?_
    obtain rfl := Option.some.inj h
    exact aw_iret (pc := 63) hM dX5_numberOf_63 (Nat.le_of_ble_eq_true rfl) (Nat.le_of_ble_eq_true rfl) hq
  rw [if_neg c5] at h
  by_cases c7 : p1 = 3
  · rw [if_pos c7] at h
    refine aw_tableIn (pc := 1) (off := 63) (tgt := 64) hM dX5_numberOf_1 (by rw [c7]; decide) (by rw [c7]; decide) (by rw [c7]; rfl) (by decide) ?_
    refine aw_aload_n (pc := 64) (i := 0) (x := a_this) hM dX5_numberOf_64 rfl rfl ?_
    refine aw_iload_n (pc := 65) (i := 1) (x := p0) hM dX5_numberOf_65 rfl rfl ?_
    obtain ⟨r9, h8, h⟩ := bind_some h
    refine aw_cv1 (pc := 66) (n := 1) (As := [.int p0]) (st := []) (b := a_this) (vo := (some (.int r9))) (c2 := 0) (s2 := 0) hM (k_X5_isQuarantined ha_this h8) rfl cw_X5_86 (st_ob ha_this) rfl rfl (by decide +kernel) rfl rfl ⟨(Nat.le_of_ble_eq_true rfl), (Nat.le_of_ble_eq_true rfl)⟩ (Nat.le_of_ble_eq_true rfl) ⟨(Nat.le_of_ble_eq_true rfl), (Nat.le_of_ble_eq_true rfl)⟩ dX5_numberOf_66 rfl rfl ?_
    refine aw_if_eq (pc := 69) (tgt := 81) hM dX5_numberOf_69 (by decide) (fun c10 => ?_) (fun c10 => ?_)
    · rw [if_pos c10] at h
      refine aw_bipush (pc := 81) (v := (-9)) hM dX5_numberOf_81 (by decide) ?_
      obtain rfl := Option.some.inj h
      exact aw_iret (pc := 83) hM dX5_numberOf_83 (Nat.le_of_ble_eq_true rfl) (Nat.le_of_ble_eq_true rfl) hq
    · rw [if_neg c10] at h
      refine aw_aload_n (pc := 72) (i := 0) (x := a_this) hM dX5_numberOf_72 rfl rfl ?_
      refine aw_getR (pc := 73) (r := (a_this + 5)) hM fd_X5_24 (st_ob ha_this) rfl dX5_numberOf_73 ?_
      refine aw_iload_n (pc := 76) (i := 1) (x := p0) hM dX5_numberOf_76 rfl rfl ?_
      obtain ⟨c11, h⟩ := ite_some h
      refine aw_iald (pc := 77) hM (st_a5 ha_this) c11 dX5_numberOf_77 ?_
      refine aw_goto (pc := 78) (tgt := 83) hM dX5_numberOf_78 (by decide) ?_
      obtain rfl := Option.some.inj h
      exact aw_iret (pc := 83) hM dX5_numberOf_83 (Nat.le_of_ble_eq_true rfl) (Nat.le_of_ble_eq_true rfl) hq
  rw [if_neg c7] at h
  by_cases c12 : p1 = 4
  · rw [if_pos c12] at h
    refine aw_tableIn (pc := 1) (off := 83) (tgt := 84) hM dX5_numberOf_1 (by rw [c12]; decide) (by rw [c12]; decide) (by rw [c12]; rfl) (by decide) ?_
    refine aw_aload_n (pc := 84) (i := 0) (x := a_this) hM dX5_numberOf_84 rfl rfl ?_
    refine aw_iload_n (pc := 85) (i := 1) (x := p0) hM dX5_numberOf_85 rfl rfl ?_
    obtain ⟨r14, h13, h⟩ := bind_some h
    refine aw_cv1 (pc := 86) (n := 1) (As := [.int p0]) (st := []) (b := a_this) (vo := (some (.int r14))) (c2 := 0) (s2 := 0) hM (k_X5_driftedOn ha_this h13) rfl cw_X5_90 (st_ob ha_this) rfl rfl (by decide +kernel) rfl rfl ⟨(Nat.le_of_ble_eq_true rfl), (Nat.le_of_ble_eq_true rfl)⟩ (Nat.le_of_ble_eq_true rfl) ⟨(Nat.le_of_ble_eq_true rfl), (Nat.le_of_ble_eq_true rfl)⟩ dX5_numberOf_86 rfl rfl ?_
    obtain rfl := Option.some.inj h
    exact aw_iret (pc := 89) hM dX5_numberOf_89 (Nat.le_of_ble_eq_true rfl) (Nat.le_of_ble_eq_true rfl) hq
  rw [if_neg c12] at h
  by_cases c15 : p1 = 5
  · rw [if_pos c15] at h
    refine aw_tableIn (pc := 1) (off := 89) (tgt := 90) hM dX5_numberOf_1 (by rw [c15]; decide) (by rw [c15]; decide) (by rw [c15]; rfl) (by decide) ?_
    refine aw_aload_n (pc := 90) (i := 0) (x := a_this) hM dX5_numberOf_90 rfl rfl ?_
    refine aw_getR (pc := 91) (r := 8) hM fd_X5_33 (st_ob ha_this) rfl dX5_numberOf_91 ?_
    refine aw_getR (pc := 94) (r := 10) hM fd_X5_94 sk_8 rfl dX5_numberOf_94 ?_
    refine aw_aload_n (pc := 97) (i := 0) (x := a_this) hM dX5_numberOf_97 rfl rfl ?_
    refine aw_getR (pc := 98) (r := (a_this + 1)) hM fd_X5_9 (st_ob ha_this) rfl dX5_numberOf_98 ?_
    refine aw_iload_n (pc := 101) (i := 1) (x := p0) hM dX5_numberOf_101 rfl rfl ?_
    obtain ⟨c16, h⟩ := ite_some h
    refine aw_iald (pc := 102) hM (st_a1 ha_this) c16 dX5_numberOf_102 ?_
    obtain ⟨r18, h17, h⟩ := bind_some h
    refine aw_cv1 (pc := 103) (n := 1) (As := [.int (F (a_this + 1) (ix p0))]) (st := []) (b := 10) (vo := (some (.int r18))) (c2 := 0) (s2 := 0) hM (k_X4_brokenOn h17) rfl cw_X5_98 sk_10 rfl rfl (by decide +kernel) rfl rfl ⟨(Nat.le_of_ble_eq_true rfl), (Nat.le_of_ble_eq_true rfl)⟩ (Nat.le_of_ble_eq_true rfl) ⟨(Nat.le_of_ble_eq_true rfl), (Nat.le_of_ble_eq_true rfl)⟩ dX5_numberOf_103 rfl rfl ?_
    obtain rfl := Option.some.inj h
    exact aw_iret (pc := 106) hM dX5_numberOf_106 (Nat.le_of_ble_eq_true rfl) (Nat.le_of_ble_eq_true rfl) hq
  rw [if_neg c15] at h
  refine aw_tableOut (pc := 1) (tgt := 107) hM dX5_numberOf_1 (by have := ts_ne c1 (k := 0) rfl; have := ts_ne c3 (k := 1) rfl; have := ts_ne c5 (k := 2) rfl; have := ts_ne c7 (k := 3) rfl; have := ts_ne c12 (k := 4) rfl; have := ts_ne c15 (k := 5) rfl; omega) (by decide) ?_
  refine aw_aload_n (pc := 107) (i := 0) (x := a_this) hM dX5_numberOf_107 rfl rfl ?_
  refine aw_iload_n (pc := 108) (i := 1) (x := p0) hM dX5_numberOf_108 rfl rfl ?_
  obtain ⟨r20, h19, h⟩ := bind_some h
  refine aw_cv1 (pc := 109) (n := 1) (As := [.int p0]) (st := []) (b := a_this) (vo := (some (.int r20))) (c2 := 0) (s2 := 0) hM (k_X5_digestOf ha_this h19) rfl cw_X5_103 (st_ob ha_this) rfl rfl (by decide +kernel) rfl rfl ⟨(Nat.le_of_ble_eq_true rfl), (Nat.le_of_ble_eq_true rfl)⟩ (Nat.le_of_ble_eq_true rfl) ⟨(Nat.le_of_ble_eq_true rfl), (Nat.le_of_ble_eq_true rfl)⟩ dX5_numberOf_109 rfl rfl ?_
  obtain rfl := Option.some.inj h
  exact aw_iret (pc := 112) hM dX5_numberOf_112 (Nat.le_of_ble_eq_true rfl) (Nat.le_of_ble_eq_true rfl) hq
def rmX5_pairsHeldUpBy : Room := { frames := 3, cells := 0, slots := 0, locals := 67 }
def s_X5_pairsHeldUpBy_b18 (F : MM) (a_this : Nat) (k4 : Int32 → Int32 → Int32 → Option Int32) : Nat → Int32 → Int32 → Int32 → Int32 → Option Int32
  | 0, _, _, _, _ => none
  | n + 1, x1, x2, x3, x4 => if (F 8 1) ≤ x4 then (some (x3 + 1 : Int32)).bind (fun y3 => k4 x1 x2 y3) else (s_X5_stateOf F a_this x3 x4).bind (fun r6 => if r6 = 5 then (s_X5_brokenByWish F a_this x3 x4).bind (fun r11 => if r11 = ((1 : Int32) <<< (x1 &&& 31)) then (some (x2 + 1 : Int32)).bind (fun y15 => (some (x4 + 1 : Int32)).bind (fun y17 => s_X5_pairsHeldUpBy_b18 F a_this k4 n x1 y15 x3 y17)) else (some (x4 + 1 : Int32)).bind (fun y13 => s_X5_pairsHeldUpBy_b18 F a_this k4 n x1 x2 x3 y13)) else (some (x4 + 1 : Int32)).bind (fun y8 => s_X5_pairsHeldUpBy_b18 F a_this k4 n x1 x2 x3 y8))
def s_X5_pairsHeldUpBy_b4 (F : MM) (a_this : Nat) : Nat → Int32 → Int32 → Int32 → Option Int32
  | 0, _, _, _ => none
  | n + 1, x1, x2, x3 => if (F 8 0) ≤ x3 then some x2 else s_X5_pairsHeldUpBy_b18 F a_this (s_X5_pairsHeldUpBy_b4 F a_this n) fu_ x1 x2 x3 0
def s_X5_pairsHeldUpBy (F : MM) (a_this : Nat) (p0 : Int32) : Option Int32 := s_X5_pairsHeldUpBy_b4 F a_this fu_ p0 0 0
set_option maxRecDepth 20000 in
theorem k_X5_pairsHeldUpBy_b18 {C : CX} {M : MX} {G : GG} {Q : OUT → MM → GG → Prop} {F : MM} {a_this : Nat} {k4 : Int32 → Int32 → Int32 → Option Int32} {r : Int32}  (ha_this : isSt a_this)(hM : MOk C RX5 cX5_pairsHeldUpBy 5 (some .int) rmX5_pairsHeldUpBy M) (hT : MNoT M) (hk4 : ∀ (w0 : Int32) (w1 : Int32) (w2 : Int32), k4 w0 w1 w2 = some r → AW C 5 (ZM C rmX5_pairsHeldUpBy Q M) M 0 0 4 [some (.ref a_this), some (.int w0), some (.int w1), some (.int w2), none] [] F G) (hq : Q (.inl (some (.int r))) F G) : ∀ (n : Nat) (x1 : Int32) (x2 : Int32) (x3 : Int32) (x4 : Int32), s_X5_pairsHeldUpBy_b18 F a_this k4 n x1 x2 x3 x4 = some r → AW C 5 (ZM C rmX5_pairsHeldUpBy Q M) M 0 0 18 [some (.ref a_this), some (.int x1), some (.int x2), some (.int x3), some (.int x4)] [] F G := by
  intro n
  induction n with
  | zero => intro x1 x2 x3 x4 h; exact nomatch h
  | succ n ih =>
    intro x1 x2 x3 x4 h
    rw [s_X5_pairsHeldUpBy_b18] at h
    refine aw_iload (pc := 18) (i := 4) (x := x4) hM dX5_pairsHeldUpBy_18  rfl ?_
    refine aw_aload_n (pc := 20) (i := 0) (x := a_this) hM dX5_pairsHeldUpBy_20 rfl rfl ?_
    refine aw_getR (pc := 21) (r := 8) hM fd_X5_33 (st_ob ha_this) rfl dX5_pairsHeldUpBy_21 ?_
    refine aw_getI (pc := 24) hM fd_X5_61 sk_8 rfl dX5_pairsHeldUpBy_24 ?_
    refine aw_icmp_ge (pc := 27) (tgt := 63) hM dX5_pairsHeldUpBy_27 (by decide) (fun c2 => ?_) (fun c2 => ?_)
    · rw [if_pos c2] at h
      obtain ⟨y3, e4, h⟩ := bind_some h
      have e4 := Option.some.inj e4
      refine aw_iinc (pc := 63) (v := y3) (L' := [some (.ref a_this), some (.int x1), some (.int x2), some (.int y3), some (.int x4)]) hM dX5_pairsHeldUpBy_63 rfl e4 (by decide) rfl ?_
      refine aw_goto (pc := 66) (tgt := 4) hM dX5_pairsHeldUpBy_66 (by decide) ?_
      refine aw_weak (L' := [some (.ref a_this), some (.int x1), some (.int x2), some (.int y3), none]) ?_ (lw_of [true, true, true, true, false] rfl)
      exact hk4 x1 x2 y3 h
    · rw [if_neg c2] at h
      refine aw_aload_n (pc := 30) (i := 0) (x := a_this) hM dX5_pairsHeldUpBy_30 rfl rfl ?_
      refine aw_iload_n (pc := 31) (i := 3) (x := x3) hM dX5_pairsHeldUpBy_31 rfl rfl ?_
      refine aw_iload (pc := 32) (i := 4) (x := x4) hM dX5_pairsHeldUpBy_32  rfl ?_
      obtain ⟨r6, h5, h⟩ := bind_some h
      refine aw_cv1 (pc := 34) (n := 2) (As := [.int x3, .int x4]) (st := []) (b := a_this) (vo := (some (.int r6))) (c2 := 0) (s2 := 0) hM (k_X5_stateOf ha_this h5) rfl cw_X5_135 (st_ob ha_this) rfl rfl (by decide +kernel) rfl rfl ⟨(Nat.le_of_ble_eq_true rfl), (Nat.le_of_ble_eq_true rfl)⟩ (Nat.le_of_ble_eq_true rfl) ⟨(Nat.le_of_ble_eq_true rfl), (Nat.le_of_ble_eq_true rfl)⟩ dX5_pairsHeldUpBy_34 rfl rfl ?_
      refine aw_iconst (pc := 37) (v := 5) hM dX5_pairsHeldUpBy_37 (by decide) ?_
      refine aw_icmp_ne (pc := 38) (tgt := 57) hM dX5_pairsHeldUpBy_38 (by decide) (fun c7 => ?_) (fun c7 => ?_)
      · rw [if_neg c7] at h
        obtain ⟨y8, e9, h⟩ := bind_some h
        have e9 := Option.some.inj e9
        refine aw_iinc (pc := 57) (v := y8) (L' := [some (.ref a_this), some (.int x1), some (.int x2), some (.int x3), some (.int y8)]) hM dX5_pairsHeldUpBy_57 rfl e9 (by decide) rfl ?_
        refine aw_goto (pc := 60) (tgt := 18) hM dX5_pairsHeldUpBy_60 (by decide) ?_
        exact ih x1 x2 x3 y8 h
      · rw [if_pos c7] at h
        refine aw_aload_n (pc := 41) (i := 0) (x := a_this) hM dX5_pairsHeldUpBy_41 rfl rfl ?_
        refine aw_iload_n (pc := 42) (i := 3) (x := x3) hM dX5_pairsHeldUpBy_42 rfl rfl ?_
        refine aw_iload (pc := 43) (i := 4) (x := x4) hM dX5_pairsHeldUpBy_43  rfl ?_
        obtain ⟨r11, h10, h⟩ := bind_some h
        refine aw_cv1 (pc := 45) (n := 2) (As := [.int x3, .int x4]) (st := []) (b := a_this) (vo := (some (.int r11))) (c2 := 0) (s2 := 0) hM (k_X5_brokenByWish ha_this h10) rfl cw_X5_112 (st_ob ha_this) rfl rfl (by decide +kernel) rfl rfl ⟨(Nat.le_of_ble_eq_true rfl), (Nat.le_of_ble_eq_true rfl)⟩ (Nat.le_of_ble_eq_true rfl) ⟨(Nat.le_of_ble_eq_true rfl), (Nat.le_of_ble_eq_true rfl)⟩ dX5_pairsHeldUpBy_45 rfl rfl ?_
        refine aw_iconst (pc := 48) (v := 1) hM dX5_pairsHeldUpBy_48 (by decide) ?_
        refine aw_iload_n (pc := 49) (i := 1) (x := x1) hM dX5_pairsHeldUpBy_49 rfl rfl ?_
        refine aw_ishl (pc := 50) hM dX5_pairsHeldUpBy_50 ?_
        refine aw_icmp_ne (pc := 51) (tgt := 57) hM dX5_pairsHeldUpBy_51 (by decide) (fun c12 => ?_) (fun c12 => ?_)
        · rw [if_neg c12] at h
          obtain ⟨y13, e14, h⟩ := bind_some h
          have e14 := Option.some.inj e14
          refine aw_iinc (pc := 57) (v := y13) (L' := [some (.ref a_this), some (.int x1), some (.int x2), some (.int x3), some (.int y13)]) hM dX5_pairsHeldUpBy_57 rfl e14 (by decide) rfl ?_
          refine aw_goto (pc := 60) (tgt := 18) hM dX5_pairsHeldUpBy_60 (by decide) ?_
          exact ih x1 x2 x3 y13 h
        · rw [if_pos c12] at h
          obtain ⟨y15, e16, h⟩ := bind_some h
          have e16 := Option.some.inj e16
          refine aw_iinc (pc := 54) (v := y15) (L' := [some (.ref a_this), some (.int x1), some (.int y15), some (.int x3), some (.int x4)]) hM dX5_pairsHeldUpBy_54 rfl e16 (by decide) rfl ?_
          obtain ⟨y17, e18, h⟩ := bind_some h
          have e18 := Option.some.inj e18
          refine aw_iinc (pc := 57) (v := y17) (L' := [some (.ref a_this), some (.int x1), some (.int y15), some (.int x3), some (.int y17)]) hM dX5_pairsHeldUpBy_57 rfl e18 (by decide) rfl ?_
          refine aw_goto (pc := 60) (tgt := 18) hM dX5_pairsHeldUpBy_60 (by decide) ?_
          exact ih x1 y15 x3 y17 h
set_option maxRecDepth 20000 in
theorem k_X5_pairsHeldUpBy_b4 {C : CX} {M : MX} {G : GG} {Q : OUT → MM → GG → Prop} {F : MM} {a_this : Nat} {r : Int32}  (ha_this : isSt a_this)(hM : MOk C RX5 cX5_pairsHeldUpBy 5 (some .int) rmX5_pairsHeldUpBy M) (hT : MNoT M) (hq : Q (.inl (some (.int r))) F G) : ∀ (n : Nat) (x1 : Int32) (x2 : Int32) (x3 : Int32), s_X5_pairsHeldUpBy_b4 F a_this n x1 x2 x3 = some r → AW C 5 (ZM C rmX5_pairsHeldUpBy Q M) M 0 0 4 [some (.ref a_this), some (.int x1), some (.int x2), some (.int x3), none] [] F G := by
  intro n
  induction n with
  | zero => intro x1 x2 x3 h; exact nomatch h
  | succ n ih =>
    intro x1 x2 x3 h
    rw [s_X5_pairsHeldUpBy_b4] at h
    refine aw_iload_n (pc := 4) (i := 3) (x := x3) hM dX5_pairsHeldUpBy_4 rfl rfl ?_
    refine aw_aload_n (pc := 5) (i := 0) (x := a_this) hM dX5_pairsHeldUpBy_5 rfl rfl ?_
    refine aw_getR (pc := 6) (r := 8) hM fd_X5_33 (st_ob ha_this) rfl dX5_pairsHeldUpBy_6 ?_
    refine aw_getI (pc := 9) hM fd_X5_70 sk_8 rfl dX5_pairsHeldUpBy_9 ?_
    refine aw_icmp_ge (pc := 12) (tgt := 69) hM dX5_pairsHeldUpBy_12 (by decide) (fun c1 => ?_) (fun c1 => ?_)
    · rw [if_pos c1] at h
      refine aw_iload_n (pc := 69) (i := 2) (x := x2) hM dX5_pairsHeldUpBy_69 rfl rfl ?_
      obtain rfl := Option.some.inj h
      exact aw_iret (pc := 70) hM dX5_pairsHeldUpBy_70 (Nat.le_of_ble_eq_true rfl) (Nat.le_of_ble_eq_true rfl) hq
    · rw [if_neg c1] at h
      refine aw_iconst (pc := 15) (v := 0) hM dX5_pairsHeldUpBy_15 (by decide) ?_
      refine aw_istore (pc := 16) (i := 4) (L' := [some (.ref a_this), some (.int x1), some (.int x2), some (.int x3), some (.int 0)]) hM dX5_pairsHeldUpBy_16  (by decide) rfl ?_
      exact k_X5_pairsHeldUpBy_b18 ha_this hM hT (fun w0 w1 w2 h9 => ih w0 w1 w2 h9) hq fu_ x1 x2 x3 0 h
set_option maxRecDepth 20000 in
theorem k_X5_pairsHeldUpBy {C : CX} {F : MM} {G : GG} {a_this : Nat} {p0 : Int32} {r : Int32} (ha_this : isSt a_this) (h : s_X5_pairsHeldUpBy F a_this p0 = some r) : AM C yX5_pairsHeldUpBy cX5_pairsHeldUpBy 5 (some .int) rmX5_pairsHeldUpBy [.ref a_this, .int p0] F G (fun o F9 G9 => o = (.inl (some (.int r))) ∧ F9 = F ∧ G9 = G) := by
  refine am_of (L := [some (.ref a_this), some (.int p0), none, none, none]) (by decide) (Nat.le_of_ble_eq_true rfl) rfl (fun M hM hT => ?_)
  have hM : MOk C RX5 cX5_pairsHeldUpBy 5 (some .int) rmX5_pairsHeldUpBy M := hM
  obtain ⟨Q, hQ⟩ : ∃ Q : OUT → MM → GG → Prop, Q = (fun o F9 G9 => o = (.inl (some (.int r))) ∧ F9 = F ∧ G9 = G) := ⟨_, rfl⟩
  have hq : Q (.inl (some (.int r))) F G := by rw [hQ]; exact ⟨rfl, rfl, rfl⟩
  rw [← hQ]
  clear hQ
  rw [s_X5_pairsHeldUpBy] at h
  refine aw_iconst (pc := 0) (v := 0) hM dX5_pairsHeldUpBy_0 (by decide) ?_
  refine aw_istore_n (pc := 1) (i := 2) (L' := [some (.ref a_this), some (.int p0), some (.int 0), none, none]) hM dX5_pairsHeldUpBy_1 rfl (by decide) rfl ?_
  refine aw_iconst (pc := 2) (v := 0) hM dX5_pairsHeldUpBy_2 (by decide) ?_
  refine aw_istore_n (pc := 3) (i := 3) (L' := [some (.ref a_this), some (.int p0), some (.int 0), some (.int 0), none]) hM dX5_pairsHeldUpBy_3 rfl (by decide) rfl ?_
  exact k_X5_pairsHeldUpBy_b4 ha_this hM hT hq fu_ p0 0 0 h
def rmX5_rankOf : Room := { frames := 3, cells := 0, slots := 0, locals := 69 }
def s_X5_rankOf_b4 (F : MM) (a_this : Nat) : Nat → Int32 → Int32 → Int32 → Option Int32
  | 0, _, _, _ => none
  | n + 1, x1, x2, x3 => if (F 8 0) ≤ x3 then some x2 else (s_X5_isFarther F a_this x3 x1).bind (fun r3 => if r3 = 0 then (some (x3 + 1 : Int32)).bind (fun y5 => s_X5_rankOf_b4 F a_this n x1 x2 y5) else (some (x2 + 1 : Int32)).bind (fun y7 => (some (x3 + 1 : Int32)).bind (fun y9 => s_X5_rankOf_b4 F a_this n x1 y7 y9)))
def s_X5_rankOf (F : MM) (a_this : Nat) (p0 : Int32) : Option Int32 := s_X5_rankOf_b4 F a_this fu_ p0 0 0
set_option maxRecDepth 20000 in
theorem k_X5_rankOf_b4 {C : CX} {M : MX} {G : GG} {Q : OUT → MM → GG → Prop} {F : MM} {a_this : Nat} {r : Int32}  (ha_this : isSt a_this)(hM : MOk C RX5 cX5_rankOf 4 (some .int) rmX5_rankOf M) (hT : MNoT M) (hq : Q (.inl (some (.int r))) F G) : ∀ (n : Nat) (x1 : Int32) (x2 : Int32) (x3 : Int32), s_X5_rankOf_b4 F a_this n x1 x2 x3 = some r → AW C 4 (ZM C rmX5_rankOf Q M) M 0 0 4 [some (.ref a_this), some (.int x1), some (.int x2), some (.int x3)] [] F G := by
  intro n
  induction n with
  | zero => intro x1 x2 x3 h; exact nomatch h
  | succ n ih =>
    intro x1 x2 x3 h
    rw [s_X5_rankOf_b4] at h
    refine aw_iload_n (pc := 4) (i := 3) (x := x3) hM dX5_rankOf_4 rfl rfl ?_
    refine aw_aload_n (pc := 5) (i := 0) (x := a_this) hM dX5_rankOf_5 rfl rfl ?_
    refine aw_getR (pc := 6) (r := 8) hM fd_X5_33 (st_ob ha_this) rfl dX5_rankOf_6 ?_
    refine aw_getI (pc := 9) hM fd_X5_70 sk_8 rfl dX5_rankOf_9 ?_
    refine aw_icmp_ge (pc := 12) (tgt := 33) hM dX5_rankOf_12 (by decide) (fun c1 => ?_) (fun c1 => ?_)
    · rw [if_pos c1] at h
      refine aw_iload_n (pc := 33) (i := 2) (x := x2) hM dX5_rankOf_33 rfl rfl ?_
      obtain rfl := Option.some.inj h
      exact aw_iret (pc := 34) hM dX5_rankOf_34 (Nat.le_of_ble_eq_true rfl) (Nat.le_of_ble_eq_true rfl) hq
    · rw [if_neg c1] at h
      refine aw_aload_n (pc := 15) (i := 0) (x := a_this) hM dX5_rankOf_15 rfl rfl ?_
      refine aw_iload_n (pc := 16) (i := 3) (x := x3) hM dX5_rankOf_16 rfl rfl ?_
      refine aw_iload_n (pc := 17) (i := 1) (x := x1) hM dX5_rankOf_17 rfl rfl ?_
      obtain ⟨r3, h2, h⟩ := bind_some h
      refine aw_cv1 (pc := 18) (n := 2) (As := [.int x3, .int x1]) (st := []) (b := a_this) (vo := (some (.int r3))) (c2 := 0) (s2 := 0) hM (k_X5_isFarther ha_this h2) rfl cw_X5_154 (st_ob ha_this) rfl rfl (by decide +kernel) rfl rfl ⟨(Nat.le_of_ble_eq_true rfl), (Nat.le_of_ble_eq_true rfl)⟩ (Nat.le_of_ble_eq_true rfl) ⟨(Nat.le_of_ble_eq_true rfl), (Nat.le_of_ble_eq_true rfl)⟩ dX5_rankOf_18 rfl rfl ?_
      refine aw_if_eq (pc := 21) (tgt := 27) hM dX5_rankOf_21 (by decide) (fun c4 => ?_) (fun c4 => ?_)
      · rw [if_pos c4] at h
        obtain ⟨y5, e6, h⟩ := bind_some h
        have e6 := Option.some.inj e6
        refine aw_iinc (pc := 27) (v := y5) (L' := [some (.ref a_this), some (.int x1), some (.int x2), some (.int y5)]) hM dX5_rankOf_27 rfl e6 (by decide) rfl ?_
        refine aw_goto (pc := 30) (tgt := 4) hM dX5_rankOf_30 (by decide) ?_
        exact ih x1 x2 y5 h
      · rw [if_neg c4] at h
        obtain ⟨y7, e8, h⟩ := bind_some h
        have e8 := Option.some.inj e8
        refine aw_iinc (pc := 24) (v := y7) (L' := [some (.ref a_this), some (.int x1), some (.int y7), some (.int x3)]) hM dX5_rankOf_24 rfl e8 (by decide) rfl ?_
        obtain ⟨y9, e10, h⟩ := bind_some h
        have e10 := Option.some.inj e10
        refine aw_iinc (pc := 27) (v := y9) (L' := [some (.ref a_this), some (.int x1), some (.int y7), some (.int y9)]) hM dX5_rankOf_27 rfl e10 (by decide) rfl ?_
        refine aw_goto (pc := 30) (tgt := 4) hM dX5_rankOf_30 (by decide) ?_
        exact ih x1 y7 y9 h
set_option maxRecDepth 20000 in
theorem k_X5_rankOf {C : CX} {F : MM} {G : GG} {a_this : Nat} {p0 : Int32} {r : Int32} (ha_this : isSt a_this) (h : s_X5_rankOf F a_this p0 = some r) : AM C yX5_rankOf cX5_rankOf 4 (some .int) rmX5_rankOf [.ref a_this, .int p0] F G (fun o F9 G9 => o = (.inl (some (.int r))) ∧ F9 = F ∧ G9 = G) := by
  refine am_of (L := [some (.ref a_this), some (.int p0), none, none]) (by decide) (Nat.le_of_ble_eq_true rfl) rfl (fun M hM hT => ?_)
  have hM : MOk C RX5 cX5_rankOf 4 (some .int) rmX5_rankOf M := hM
  obtain ⟨Q, hQ⟩ : ∃ Q : OUT → MM → GG → Prop, Q = (fun o F9 G9 => o = (.inl (some (.int r))) ∧ F9 = F ∧ G9 = G) := ⟨_, rfl⟩
  have hq : Q (.inl (some (.int r))) F G := by rw [hQ]; exact ⟨rfl, rfl, rfl⟩
  rw [← hQ]
  clear hQ
  rw [s_X5_rankOf] at h
  refine aw_iconst (pc := 0) (v := 0) hM dX5_rankOf_0 (by decide) ?_
  refine aw_istore_n (pc := 1) (i := 2) (L' := [some (.ref a_this), some (.int p0), some (.int 0), none]) hM dX5_rankOf_1 rfl (by decide) rfl ?_
  refine aw_iconst (pc := 2) (v := 0) hM dX5_rankOf_2 (by decide) ?_
  refine aw_istore_n (pc := 3) (i := 3) (L' := [some (.ref a_this), some (.int p0), some (.int 0), some (.int 0)]) hM dX5_rankOf_3 rfl (by decide) rfl ?_
  exact k_X5_rankOf_b4 ha_this hM hT hq fu_ p0 0 0 h
def rmX5_take : Room := { frames := 1, cells := 0, slots := 0, locals := 26 }
def s_X5_take (F : MM) (a_this : Nat) : Option MM := if cpok 0 0 5 5 5 then ((some (mrow F (a_this + 1) (va_cpy (F 6) (F (a_this + 1)) (ix 0) (ix 0) (ix 5)))).bind (fun F2 => if cpok 0 0 5 5 5 then ((some (mrow F2 (a_this + 2) (va_cpy (F2 7) (F2 (a_this + 2)) (ix 0) (ix 0) (ix 5)))).bind (fun F5 => if cpok 0 0 6 6 6 then ((some (mrow F5 (a_this + 6) (va_cpy (F5 4) (F5 (a_this + 6)) (ix 0) (ix 0) (ix 6)))).bind (fun F8 => (s_J7_fill_53178 F8 (a_this + 3) 0).bind (fun F11 => (s_J7_fill_53178 F11 (a_this + 4) 0).bind (fun F13 => (s_J7_fill_53178 F13 (a_this + 5) 0).bind (fun F15 => (s_J7_fill_53178 F15 (a_this + 7) 0).bind (fun F17 => (some (mup F17 a_this 8 0)).bind (fun F18 => (some (mup F18 a_this 9 0)).bind (fun F20 => some F20)))))))) else none)) else none)) else none
set_option maxRecDepth 20000 in
theorem k_X5_take {C : CX} {F : MM} {G : GG} {a_this : Nat} {r : MM} (ha_this : isSt a_this) (h : s_X5_take F a_this = some r) : AM C yX5_take cX5_take 2 none rmX5_take [.ref a_this, .ref 2] F G (fun o F9 G9 => o = (.inl none) ∧ F9 = r ∧ G9 = G) := by
  refine am_of (L := [some (.ref a_this), some (.ref 2)]) (by decide) (Nat.le_of_ble_eq_true rfl) rfl (fun M hM hT => ?_)
  have hM : MOk C RX5 cX5_take 2 none rmX5_take M := hM
  obtain ⟨Q, hQ⟩ : ∃ Q : OUT → MM → GG → Prop, Q = (fun o F9 G9 => o = (.inl none) ∧ F9 = r ∧ G9 = G) := ⟨_, rfl⟩
  have hq : Q (.inl none) r G := by rw [hQ]; exact ⟨rfl, rfl, rfl⟩
  rw [← hQ]
  clear hQ
  rw [s_X5_take] at h
  refine aw_aload_n (pc := 0) (i := 1) (x := 2) hM dX5_take_0 rfl rfl ?_
  refine aw_getR (pc := 1) (r := 6) hM fd_X5_50 sk_2 rfl dX5_take_1 ?_
  refine aw_iconst (pc := 4) (v := 0) hM dX5_take_4 (by decide) ?_
  refine aw_aload_n (pc := 5) (i := 0) (x := a_this) hM dX5_take_5 rfl rfl ?_
  refine aw_getR (pc := 6) (r := (a_this + 1)) hM fd_X5_9 (st_ob ha_this) rfl dX5_take_6 ?_
  refine aw_iconst (pc := 9) (v := 0) hM dX5_take_9 (by decide) ?_
  refine aw_iconst (pc := 10) (v := 5) hM dX5_take_10 (by decide) ?_
  obtain ⟨c1, h⟩ := ite_some h
  have c1 := cpok_of c1
  obtain ⟨F2, e3, h⟩ := bind_some h
  have e3 := Option.some.inj e3
  refine aw_copy (pc := 11) hM gw_398 gw_400 gw_399 gw_74 sk_6 (st_a1 ha_this) c1.1 c1.2.1 c1.2.2.1 c1.2.2.2.1 c1.2.2.2.2 (Nat.le_of_ble_eq_true rfl) (Nat.le_of_ble_eq_true rfl) dX5_take_11 ?_
  refine aw_mem e3 ?_
  refine aw_aload_n (pc := 14) (i := 1) (x := 2) hM dX5_take_14 rfl rfl ?_
  refine aw_getR (pc := 15) (r := 7) hM fd_X5_53 sk_2 rfl dX5_take_15 ?_
  refine aw_iconst (pc := 18) (v := 0) hM dX5_take_18 (by decide) ?_
  refine aw_aload_n (pc := 19) (i := 0) (x := a_this) hM dX5_take_19 rfl rfl ?_
  refine aw_getR (pc := 20) (r := (a_this + 2)) hM fd_X5_15 (st_ob ha_this) rfl dX5_take_20 ?_
  refine aw_iconst (pc := 23) (v := 0) hM dX5_take_23 (by decide) ?_
  refine aw_iconst (pc := 24) (v := 5) hM dX5_take_24 (by decide) ?_
  obtain ⟨c4, h⟩ := ite_some h
  have c4 := cpok_of c4
  obtain ⟨F5, e6, h⟩ := bind_some h
  have e6 := Option.some.inj e6
  refine aw_copy (pc := 25) hM gw_398 gw_400 gw_399 gw_74 sk_7 (st_a2 ha_this) c4.1 c4.2.1 c4.2.2.1 c4.2.2.2.1 c4.2.2.2.2 (Nat.le_of_ble_eq_true rfl) (Nat.le_of_ble_eq_true rfl) dX5_take_25 ?_
  refine aw_mem e6 ?_
  refine aw_aload_n (pc := 28) (i := 1) (x := 2) hM dX5_take_28 rfl rfl ?_
  refine aw_getR (pc := 29) (r := 4) hM fd_X5_54 sk_2 rfl dX5_take_29 ?_
  refine aw_iconst (pc := 32) (v := 0) hM dX5_take_32 (by decide) ?_
  refine aw_aload_n (pc := 33) (i := 0) (x := a_this) hM dX5_take_33 rfl rfl ?_
  refine aw_getR (pc := 34) (r := (a_this + 6)) hM fd_X5_27 (st_ob ha_this) rfl dX5_take_34 ?_
  refine aw_iconst (pc := 37) (v := 0) hM dX5_take_37 (by decide) ?_
  refine aw_bipush (pc := 38) (v := 6) hM dX5_take_38 (by decide) ?_
  obtain ⟨c7, h⟩ := ite_some h
  have c7 := cpok_of c7
  obtain ⟨F8, e9, h⟩ := bind_some h
  have e9 := Option.some.inj e9
  refine aw_copy (pc := 40) hM gw_398 gw_400 gw_399 gw_74 sk_4 (st_a6 ha_this) c7.1 c7.2.1 c7.2.2.1 c7.2.2.2.1 c7.2.2.2.2 (Nat.le_of_ble_eq_true rfl) (Nat.le_of_ble_eq_true rfl) dX5_take_40 ?_
  refine aw_mem e9 ?_
  refine aw_aload_n (pc := 43) (i := 0) (x := a_this) hM dX5_take_43 rfl rfl ?_
  refine aw_getR (pc := 44) (r := (a_this + 3)) hM fd_X5_18 (st_ob ha_this) rfl dX5_take_44 ?_
  refine aw_iconst (pc := 47) (v := 0) hM dX5_take_47 (by decide) ?_
  obtain ⟨F11, h10, h⟩ := bind_some h
  refine aw_cs1 (pc := 48) (n := 2) (As := [.ref (a_this + 3), .int 0]) (st := []) (vo := none) (c2 := 0) (s2 := 0) hM (k_J7_fill_53178 (ia_of (st_a3 ha_this)) h10) rfl cw_X5_55 (by decide +kernel) rfl rfl ⟨(Nat.le_of_ble_eq_true rfl), (Nat.le_of_ble_eq_true rfl)⟩ (Nat.le_of_ble_eq_true rfl) ⟨(Nat.le_of_ble_eq_true rfl), (Nat.le_of_ble_eq_true rfl)⟩ dX5_take_48 rfl rfl ?_
  refine aw_aload_n (pc := 51) (i := 0) (x := a_this) hM dX5_take_51 rfl rfl ?_
  refine aw_getR (pc := 52) (r := (a_this + 4)) hM fd_X5_21 (st_ob ha_this) rfl dX5_take_52 ?_
  refine aw_iconst (pc := 55) (v := 0) hM dX5_take_55 (by decide) ?_
  obtain ⟨F13, h12, h⟩ := bind_some h
  refine aw_cs1 (pc := 56) (n := 2) (As := [.ref (a_this + 4), .int 0]) (st := []) (vo := none) (c2 := 0) (s2 := 0) hM (k_J7_fill_53178 (ia_of (st_a4 ha_this)) h12) rfl cw_X5_55 (by decide +kernel) rfl rfl ⟨(Nat.le_of_ble_eq_true rfl), (Nat.le_of_ble_eq_true rfl)⟩ (Nat.le_of_ble_eq_true rfl) ⟨(Nat.le_of_ble_eq_true rfl), (Nat.le_of_ble_eq_true rfl)⟩ dX5_take_56 rfl rfl ?_
  refine aw_aload_n (pc := 59) (i := 0) (x := a_this) hM dX5_take_59 rfl rfl ?_
  refine aw_getR (pc := 60) (r := (a_this + 5)) hM fd_X5_24 (st_ob ha_this) rfl dX5_take_60 ?_
  refine aw_iconst (pc := 63) (v := 0) hM dX5_take_63 (by decide) ?_
  obtain ⟨F15, h14, h⟩ := bind_some h
  refine aw_cs1 (pc := 64) (n := 2) (As := [.ref (a_this + 5), .int 0]) (st := []) (vo := none) (c2 := 0) (s2 := 0) hM (k_J7_fill_53178 (ia_of (st_a5 ha_this)) h14) rfl cw_X5_55 (by decide +kernel) rfl rfl ⟨(Nat.le_of_ble_eq_true rfl), (Nat.le_of_ble_eq_true rfl)⟩ (Nat.le_of_ble_eq_true rfl) ⟨(Nat.le_of_ble_eq_true rfl), (Nat.le_of_ble_eq_true rfl)⟩ dX5_take_64 rfl rfl ?_
  refine aw_aload_n (pc := 67) (i := 0) (x := a_this) hM dX5_take_67 rfl rfl ?_
  refine aw_getR (pc := 68) (r := (a_this + 7)) hM fd_X5_30 (st_ob ha_this) rfl dX5_take_68 ?_
  refine aw_iconst (pc := 71) (v := 0) hM dX5_take_71 (by decide) ?_
  obtain ⟨F17, h16, h⟩ := bind_some h
  refine aw_cs1 (pc := 72) (n := 2) (As := [.ref (a_this + 7), .int 0]) (st := []) (vo := none) (c2 := 0) (s2 := 0) hM (k_J7_fill_53178 (ia_of (st_a7 ha_this)) h16) rfl cw_X5_55 (by decide +kernel) rfl rfl ⟨(Nat.le_of_ble_eq_true rfl), (Nat.le_of_ble_eq_true rfl)⟩ (Nat.le_of_ble_eq_true rfl) ⟨(Nat.le_of_ble_eq_true rfl), (Nat.le_of_ble_eq_true rfl)⟩ dX5_take_72 rfl rfl ?_
  refine aw_aload_n (pc := 75) (i := 0) (x := a_this) hM dX5_take_75 rfl rfl ?_
  refine aw_iconst (pc := 76) (v := 0) hM dX5_take_76 (by decide) ?_
  obtain ⟨F18, e19, h⟩ := bind_some h
  have e19 := Option.some.inj e19
  refine aw_put (pc := 77) (ty := .int) hM fd_X5_43 tyX5_ok nmX5 rfl (by decide +kernel) rfl rfl (st_ob ha_this) rfl dX5_take_77 ?_
  refine aw_mem e19 ?_
  refine aw_aload_n (pc := 80) (i := 0) (x := a_this) hM dX5_take_80 rfl rfl ?_
  refine aw_iconst (pc := 81) (v := 0) hM dX5_take_81 (by decide) ?_
  obtain ⟨F20, e21, h⟩ := bind_some h
  have e21 := Option.some.inj e21
  refine aw_put (pc := 82) (ty := .int) hM fd_X5_47 tyX5_ok nmX5 rfl (by decide +kernel) rfl rfl (st_ob ha_this) rfl dX5_take_82 ?_
  refine aw_mem e21 ?_
  obtain rfl := Option.some.inj h
  exact aw_vret (pc := 85) hM dX5_take_85 (Nat.le_of_ble_eq_true rfl) (Nat.le_of_ble_eq_true rfl) hq
