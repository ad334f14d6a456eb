def rmX6_readLetter : Room := { frames := 0, cells := 0, slots := 0, locals := 0 }
def s_X6_readLetter (F : MM) (p0 : Int32) : Option MM := if (F 2 11) ≤ (F 2 12) then (some (mup F 2 13 1)).bind (fun F2 => some F2) else if inb (F 2 12) 160 then (if (F 1 (ix (F 2 12))) = p0 then (some (mup F 2 12 ((F 2 12) + 1))).bind (fun F8 => some F8) else (some (mup F 2 13 1)).bind (fun F6 => some F6)) else none
set_option maxRecDepth 20000 in
theorem k_X6_readLetter {C : CX} {F : MM} {G : GG} {p0 : Int32} {r : MM} (h : s_X6_readLetter F p0 = some r) : AM C yX6_readLetter cX6_readLetter 2 none rmX6_readLetter [.ref 2, .int p0] F G (fun o F9 G9 => o = (.inl none) ∧ F9 = r ∧ G9 = G) := by
  refine am_of (L := [some (.ref 2), some (.int p0)]) (by decide) (Nat.le_of_ble_eq_true rfl) rfl (fun M hM hT => ?_)
  have hM : MOk C RX6 cX6_readLetter 2 none rmX6_readLetter M := hM
  obtain ⟨Q, hQ⟩ : ∃ Q : OUT → MM → GG → Prop, Q = (fun o F9 G9 => o = (.inl none) ∧ F9 = r ∧ G9 = G) := ⟨_, rfl⟩
  have hq : Q (.inl none) r G := by rw [hQ]; exact ⟨rfl, rfl, rfl⟩
  rw [← hQ]
  clear hQ
  rw [s_X6_readLetter] at h
  refine aw_aload_n (pc := 0) (i := 0) (x := 2) hM dX6_readLetter_0 rfl rfl ?_
  refine aw_getI (pc := 1) hM fd_X6_43 sk_2 rfl dX6_readLetter_1 ?_
  refine aw_aload_n (pc := 4) (i := 0) (x := 2) hM dX6_readLetter_4 rfl rfl ?_
  refine aw_getI (pc := 5) hM fd_X6_39 sk_2 rfl dX6_readLetter_5 ?_
  refine aw_icmp_ge (pc := 8) (tgt := 37) hM dX6_readLetter_8 (by decide) (fun c1 => ?_) (fun c1 => ?_)
  · rw [if_pos c1] at h
    refine aw_aload_n (pc := 37) (i := 0) (x := 2) hM dX6_readLetter_37 rfl rfl ?_
    refine aw_iconst (pc := 38) (v := 1) hM dX6_readLetter_38 (by decide) ?_
    obtain ⟨F2, e3, h⟩ := bind_some h
    have e3 := Option.some.inj e3
    refine aw_put (pc := 39) (ty := .boolean) hM fd_X6_46 tyX6_ok nmX6 rfl (by decide +kernel) (nz_ (by decide)) (fz_ (by decide)) sk_2 rfl dX6_readLetter_39 ?_
    refine aw_mem e3 ?_
    obtain rfl := Option.some.inj h
    exact aw_vret (pc := 42) hM dX6_readLetter_42 (Nat.le_of_ble_eq_true rfl) (Nat.le_of_ble_eq_true rfl) hq
  · rw [if_neg c1] at h
    refine aw_aload_n (pc := 11) (i := 0) (x := 2) hM dX6_readLetter_11 rfl rfl ?_
    refine aw_getR (pc := 12) (r := 1) hM fd_X6_29 sk_2 rfl dX6_readLetter_12 ?_
    refine aw_aload_n (pc := 15) (i := 0) (x := 2) hM dX6_readLetter_15 rfl rfl ?_
    refine aw_getI (pc := 16) hM fd_X6_43 sk_2 rfl dX6_readLetter_16 ?_
    obtain ⟨c4, h⟩ := ite_some h
    refine aw_cald (pc := 19) hM sk_1 c4 dX6_readLetter_19 ?_
    refine aw_iload_n (pc := 20) (i := 1) (x := p0) hM dX6_readLetter_20 rfl rfl ?_
    refine aw_icmp_ne (pc := 21) (tgt := 37) hM dX6_readLetter_21 (by decide) (fun c5 => ?_) (fun c5 => ?_)
    · rw [if_neg c5] at h
      refine aw_aload_n (pc := 37) (i := 0) (x := 2) hM dX6_readLetter_37 rfl rfl ?_
      refine aw_iconst (pc := 38) (v := 1) hM dX6_readLetter_38 (by decide) ?_
      obtain ⟨F6, e7, h⟩ := bind_some h
      have e7 := Option.some.inj e7
      refine aw_put (pc := 39) (ty := .boolean) hM fd_X6_46 tyX6_ok nmX6 rfl (by decide +kernel) (nz_ (by decide)) (fz_ (by decide)) sk_2 rfl dX6_readLetter_39 ?_
      refine aw_mem e7 ?_
      obtain rfl := Option.some.inj h
      exact aw_vret (pc := 42) hM dX6_readLetter_42 (Nat.le_of_ble_eq_true rfl) (Nat.le_of_ble_eq_true rfl) hq
    · rw [if_pos c5] at h
      refine aw_aload_n (pc := 24) (i := 0) (x := 2) hM dX6_readLetter_24 rfl rfl ?_
      refine aw_dup (pc := 25) hM dX6_readLetter_25 rfl ?_
      refine aw_getI (pc := 26) hM fd_X6_43 sk_2 rfl dX6_readLetter_26 ?_
      refine aw_iconst (pc := 29) (v := 1) hM dX6_readLetter_29 (by decide) ?_
      refine aw_iadd (pc := 30) hM dX6_readLetter_30 ?_
      obtain ⟨F8, e9, h⟩ := bind_some h
      have e9 := Option.some.inj e9
      refine aw_put (pc := 31) (ty := .int) hM fd_X6_43 tyX6_ok nmX6 rfl (by decide +kernel) rfl rfl sk_2 rfl dX6_readLetter_31 ?_
      refine aw_mem e9 ?_
      refine aw_goto (pc := 34) (tgt := 42) hM dX6_readLetter_34 (by decide) ?_
      obtain rfl := Option.some.inj h
      exact aw_vret (pc := 42) hM dX6_readLetter_42 (Nat.le_of_ble_eq_true rfl) (Nat.le_of_ble_eq_true rfl) hq
def rmX6_readDigit : Room := { frames := 0, cells := 0, slots := 0, locals := 0 }
def s_X6_readDigit (F : MM) (p0 : Int32) (p1 : Int32) : Option (Int32 × MM) := if (F 2 13) = 0 then if (F 2 11) ≤ (F 2 12) then (some (mup F 2 13 1)).bind (fun F5 => some (p0, F5)) else if inb (F 2 12) 160 then ((some ((F 1 (ix (F 2 12))) - 48 : Int32)).bind (fun y8 => if y8 < p0 then (some (mup F 2 13 1)).bind (fun F11 => some (p0, F11)) else if p1 < y8 then (some (mup F 2 13 1)).bind (fun F14 => some (p0, F14)) else (some (mup F 2 12 ((F 2 12) + 1))).bind (fun F16 => some (y8, F16)))) else none else (some (mup F 2 13 1)).bind (fun F2 => some (p0, F2))
set_option maxRecDepth 20000 in
theorem k_X6_readDigit {C : CX} {F : MM} {G : GG} {p0 : Int32} {p1 : Int32} {r : (Int32 × MM)} (h : s_X6_readDigit F p0 p1 = some r) : AM C yX6_readDigit cX6_readDigit 4 (some .int) rmX6_readDigit [.ref 2, .int p0, .int p1] F G (fun o F9 G9 => o = (.inl (some (.int r.1))) ∧ F9 = r.2 ∧ G9 = G) := by
  refine am_of (L := [some (.ref 2), some (.int p0), some (.int p1), none]) (by decide) (Nat.le_of_ble_eq_true rfl) rfl (fun M hM hT => ?_)
  have hM : MOk C RX6 cX6_readDigit 4 (some .int) rmX6_readDigit M := hM
  obtain ⟨Q, hQ⟩ : ∃ Q : OUT → MM → GG → Prop, Q = (fun o F9 G9 => o = (.inl (some (.int r.1))) ∧ F9 = r.2 ∧ G9 = G) := ⟨_, rfl⟩
  have hq : Q (.inl (some (.int r.1))) r.2 G := by rw [hQ]; exact ⟨rfl, rfl, rfl⟩
  rw [← hQ]
  clear hQ
  rw [s_X6_readDigit] at h
  refine aw_aload_n (pc := 0) (i := 0) (x := 2) hM dX6_readDigit_0 rfl rfl ?_
  refine aw_getI (pc := 1) hM fd_X6_46 sk_2 rfl dX6_readDigit_1 ?_
  refine aw_if_ne (pc := 4) (tgt := 53) hM dX6_readDigit_4 (by decide) (fun c1 => ?_) (fun c1 => ?_)
  · rw [if_neg c1] at h
    refine aw_aload_n (pc := 53) (i := 0) (x := 2) hM dX6_readDigit_53 rfl rfl ?_
    refine aw_iconst (pc := 54) (v := 1) hM dX6_readDigit_54 (by decide) ?_
    obtain ⟨F2, e3, h⟩ := bind_some h
    have e3 := Option.some.inj e3
    refine aw_put (pc := 55) (ty := .boolean) hM fd_X6_46 tyX6_ok nmX6 rfl (by decide +kernel) (nz_ (by decide)) (fz_ (by decide)) sk_2 rfl dX6_readDigit_55 ?_
    refine aw_mem e3 ?_
    refine aw_iload_n (pc := 58) (i := 1) (x := p0) hM dX6_readDigit_58 rfl rfl ?_
    obtain rfl := Option.some.inj h
    exact aw_iret (pc := 59) hM dX6_readDigit_59 (Nat.le_of_ble_eq_true rfl) (Nat.le_of_ble_eq_true rfl) hq
  · rw [if_pos c1] at h
    refine aw_aload_n (pc := 7) (i := 0) (x := 2) hM dX6_readDigit_7 rfl rfl ?_
    refine aw_getI (pc := 8) hM fd_X6_43 sk_2 rfl dX6_readDigit_8 ?_
    refine aw_aload_n (pc := 11) (i := 0) (x := 2) hM dX6_readDigit_11 rfl rfl ?_
    refine aw_getI (pc := 12) hM fd_X6_39 sk_2 rfl dX6_readDigit_12 ?_
    refine aw_icmp_ge (pc := 15) (tgt := 53) hM dX6_readDigit_15 (by decide) (fun c4 => ?_) (fun c4 => ?_)
    · rw [if_pos c4] at h
      refine aw_aload_n (pc := 53) (i := 0) (x := 2) hM dX6_readDigit_53 rfl rfl ?_
      refine aw_iconst (pc := 54) (v := 1) hM dX6_readDigit_54 (by decide) ?_
      obtain ⟨F5, e6, h⟩ := bind_some h
      have e6 := Option.some.inj e6
      refine aw_put (pc := 55) (ty := .boolean) hM fd_X6_46 tyX6_ok nmX6 rfl (by decide +kernel) (nz_ (by decide)) (fz_ (by decide)) sk_2 rfl dX6_readDigit_55 ?_
      refine aw_mem e6 ?_
      refine aw_iload_n (pc := 58) (i := 1) (x := p0) hM dX6_readDigit_58 rfl rfl ?_
      obtain rfl := Option.some.inj h
      exact aw_iret (pc := 59) hM dX6_readDigit_59 (Nat.le_of_ble_eq_true rfl) (Nat.le_of_ble_eq_true rfl) hq
    · rw [if_neg c4] at h
      refine aw_aload_n (pc := 18) (i := 0) (x := 2) hM dX6_readDigit_18 rfl rfl ?_
      refine aw_getR (pc := 19) (r := 1) hM fd_X6_29 sk_2 rfl dX6_readDigit_19 ?_
      refine aw_aload_n (pc := 22) (i := 0) (x := 2) hM dX6_readDigit_22 rfl rfl ?_
      refine aw_getI (pc := 23) hM fd_X6_43 sk_2 rfl dX6_readDigit_23 ?_
      obtain ⟨c7, h⟩ := ite_some h
      refine aw_cald (pc := 26) hM sk_1 c7 dX6_readDigit_26 ?_
      refine aw_bipush (pc := 27) (v := 48) hM dX6_readDigit_27 (by decide) ?_
      refine aw_isub (pc := 29) hM dX6_readDigit_29 ?_
      obtain ⟨y8, e9, h⟩ := bind_some h
      have e9 := Option.some.inj e9
      refine aw_topi e9 ?_
      refine aw_istore_n (pc := 30) (i := 3) (L' := [some (.ref 2), some (.int p0), some (.int p1), some (.int y8)]) hM dX6_readDigit_30 rfl (by decide) rfl ?_
      refine aw_iload_n (pc := 31) (i := 3) (x := y8) hM dX6_readDigit_31 rfl rfl ?_
      refine aw_iload_n (pc := 32) (i := 1) (x := p0) hM dX6_readDigit_32 rfl rfl ?_
      refine aw_icmp_lt (pc := 33) (tgt := 53) hM dX6_readDigit_33 (by decide) (fun c10 => ?_) (fun c10 => ?_)
      · rw [if_pos c10] at h
        refine aw_aload_n (pc := 53) (i := 0) (x := 2) hM dX6_readDigit_53 rfl rfl ?_
        refine aw_iconst (pc := 54) (v := 1) hM dX6_readDigit_54 (by decide) ?_
        obtain ⟨F11, e12, h⟩ := bind_some h
        have e12 := Option.some.inj e12
        refine aw_put (pc := 55) (ty := .boolean) hM fd_X6_46 tyX6_ok nmX6 rfl (by decide +kernel) (nz_ (by decide)) (fz_ (by decide)) sk_2 rfl dX6_readDigit_55 ?_
        refine aw_mem e12 ?_
        refine aw_iload_n (pc := 58) (i := 1) (x := p0) hM dX6_readDigit_58 rfl rfl ?_
        obtain rfl := Option.some.inj h
        exact aw_iret (pc := 59) hM dX6_readDigit_59 (Nat.le_of_ble_eq_true rfl) (Nat.le_of_ble_eq_true rfl) hq
      · rw [if_neg c10] at h
        refine aw_iload_n (pc := 36) (i := 3) (x := y8) hM dX6_readDigit_36 rfl rfl ?_
        refine aw_iload_n (pc := 37) (i := 2) (x := p1) hM dX6_readDigit_37 rfl rfl ?_
        refine aw_icmp_gt (pc := 38) (tgt := 53) hM dX6_readDigit_38 (by decide) (fun c13 => ?_) (fun c13 => ?_)
        · rw [if_pos c13] at h
          refine aw_aload_n (pc := 53) (i := 0) (x := 2) hM dX6_readDigit_53 rfl rfl ?_
          refine aw_iconst (pc := 54) (v := 1) hM dX6_readDigit_54 (by decide) ?_
          obtain ⟨F14, e15, h⟩ := bind_some h
          have e15 := Option.some.inj e15
          refine aw_put (pc := 55) (ty := .boolean) hM fd_X6_46 tyX6_ok nmX6 rfl (by decide +kernel) (nz_ (by decide)) (fz_ (by decide)) sk_2 rfl dX6_readDigit_55 ?_
          refine aw_mem e15 ?_
          refine aw_iload_n (pc := 58) (i := 1) (x := p0) hM dX6_readDigit_58 rfl rfl ?_
          obtain rfl := Option.some.inj h
          exact aw_iret (pc := 59) hM dX6_readDigit_59 (Nat.le_of_ble_eq_true rfl) (Nat.le_of_ble_eq_true rfl) hq
        · rw [if_neg c13] at h
          refine aw_aload_n (pc := 41) (i := 0) (x := 2) hM dX6_readDigit_41 rfl rfl ?_
          refine aw_dup (pc := 42) hM dX6_readDigit_42 rfl ?_
          refine aw_getI (pc := 43) hM fd_X6_43 sk_2 rfl dX6_readDigit_43 ?_
          refine aw_iconst (pc := 46) (v := 1) hM dX6_readDigit_46 (by decide) ?_
          refine aw_iadd (pc := 47) hM dX6_readDigit_47 ?_
          obtain ⟨F16, e17, h⟩ := bind_some h
          have e17 := Option.some.inj e17
          refine aw_put (pc := 48) (ty := .int) hM fd_X6_43 tyX6_ok nmX6 rfl (by decide +kernel) rfl rfl sk_2 rfl dX6_readDigit_48 ?_
          refine aw_mem e17 ?_
          refine aw_iload_n (pc := 51) (i := 3) (x := y8) hM dX6_readDigit_51 rfl rfl ?_
          obtain rfl := Option.some.inj h
          exact aw_iret (pc := 52) hM dX6_readDigit_52 (Nat.le_of_ble_eq_true rfl) (Nat.le_of_ble_eq_true rfl) hq
def rmX6_readHead : Room := { frames := 1, cells := 0, slots := 0, locals := 23 }
def s_X6_readHead_b108 : Nat → MM → Int32 → Option MM
  | 0, _, _ => none
  | n + 1, F, x2 => if (F 2 1) ≤ x2 then some F else (s_X6_readDigit F 0 5).bind (fun z45 => if inb x2 6 then ((some (mup z45.2 4 (ix x2) z45.1)).bind (fun F47 => (some (x2 + 1 : Int32)).bind (fun y49 => s_X6_readHead_b108 n F47 y49))) else none)
def s_X6_readHead_b80 : Nat → MM → Int32 → Option MM
  | 0, _, _ => none
  | n + 1, F, x2 => if (F 2 0) ≤ x2 then s_X6_readHead_b108 fu_ F 0 else (s_X6_readDigit F 0 2).bind (fun z36 => if inb x2 5 then ((some (mup z36.2 3 (ix x2) z36.1)).bind (fun F38 => (some (x2 + 1 : Int32)).bind (fun y40 => s_X6_readHead_b80 n F38 y40))) else none)
def s_X6_readHead_b60 (F : MM) (x1 : Int32) (t0 : Int32) (t2 : Int32) : Option MM := if x1 = 5 then (s_X6_readDigit F t0 0).bind (fun z30 => (some (mup z30.2 2 3 (t2 + z30.1))).bind (fun F31 => s_X6_readHead_b80 fu_ F31 0)) else (s_X6_readDigit F t0 9).bind (fun z25 => (some (mup z25.2 2 3 (t2 + z25.1))).bind (fun F26 => s_X6_readHead_b80 fu_ F26 0))
def s_X6_readHead (F : MM) : Option MM := (s_X6_readLetter F 68).bind (fun F2 => (s_X6_readDigit F2 1 5).bind (fun z5 => (some (mup z5.2 2 0 z5.1)).bind (fun F6 => (s_X6_readDigit F6 1 6).bind (fun z10 => (some (mup z10.2 2 1 z10.1)).bind (fun F11 => (s_X6_readDigit F11 1 9).bind (fun z15 => (some (mup z15.2 2 2 z15.1)).bind (fun F16 => (s_X6_readDigit F16 0 5).bind (fun z20 => if z20.1 = 0 then s_X6_readHead_b60 z20.2 z20.1 1 (10 * z20.1) else s_X6_readHead_b60 z20.2 z20.1 0 (10 * z20.1)))))))))
set_option maxRecDepth 20000 in
theorem k_X6_readHead_b108 {C : CX} {M : MX} {G : GG} {Q : OUT → MM → GG → Prop} {r : MM} (hM : MOk C RX6 cX6_readHead 3 none rmX6_readHead M) (hT : MNoT M) (hq : Q (.inl none) r G) : ∀ (n : Nat) (F : MM) (x2 : Int32), s_X6_readHead_b108 n F x2 = some r → AW C 3 (ZM C rmX6_readHead Q M) M 0 0 108 [some (.ref 2), none, some (.int x2)] [] F G := by
  intro n
  induction n with
  | zero => intro F x2 h; exact nomatch h
  | succ n ih =>
    intro F x2 h
    rw [s_X6_readHead_b108] at h
    refine aw_iload_n (pc := 108) (i := 2) (x := x2) hM dX6_readHead_108 rfl rfl ?_
    refine aw_aload_n (pc := 109) (i := 0) (x := 2) hM dX6_readHead_109 rfl rfl ?_
    refine aw_getI (pc := 110) hM fd_X6_66 sk_2 rfl dX6_readHead_110 ?_
    refine aw_icmp_ge (pc := 113) (tgt := 134) hM dX6_readHead_113 (by decide) (fun c42 => ?_) (fun c42 => ?_)
    · rw [if_pos c42] at h
      obtain rfl := Option.some.inj h
      exact aw_vret (pc := 134) hM dX6_readHead_134 (Nat.le_of_ble_eq_true rfl) (Nat.le_of_ble_eq_true rfl) hq
    · rw [if_neg c42] at h
      refine aw_aload_n (pc := 116) (i := 0) (x := 2) hM dX6_readHead_116 rfl rfl ?_
      refine aw_getR (pc := 117) (r := 4) hM fd_X6_15 sk_2 rfl dX6_readHead_117 ?_
      refine aw_iload_n (pc := 120) (i := 2) (x := x2) hM dX6_readHead_120 rfl rfl ?_
      refine aw_aload_n (pc := 121) (i := 0) (x := 2) hM dX6_readHead_121 rfl rfl ?_
      refine aw_iconst (pc := 122) (v := 0) hM dX6_readHead_122 (by decide) ?_
      refine aw_iconst (pc := 123) (v := 5) hM dX6_readHead_123 (by decide) ?_
      obtain ⟨z45, h43, h⟩ := bind_some h
      refine aw_cv1 (pc := 124) (n := 2) (As := [.int 0, .int 5]) (st := [.int x2, .ref 4]) (b := 2) (vo := (some (.int z45.1))) (c2 := 0) (s2 := 0) hM (k_X6_readDigit h43) rfl cw_X6_60 sk_2 rfl rfl (by decide +kernel) rfl rfl ⟨(Nat.le_of_ble_eq_true rfl), (Nat.le_of_ble_eq_true rfl)⟩ (Nat.le_of_ble_eq_true rfl) ⟨(Nat.le_of_ble_eq_true rfl), (Nat.le_of_ble_eq_true rfl)⟩ dX6_readHead_124 rfl rfl ?_
      obtain ⟨c46, h⟩ := ite_some h
      obtain ⟨F47, e48, h⟩ := bind_some h
      have e48 := Option.some.inj e48
      refine aw_iast (pc := 127) hM sk_4 c46 dX6_readHead_127 ?_
      refine aw_mem e48 ?_
      obtain ⟨y49, e50, h⟩ := bind_some h
      have e50 := Option.some.inj e50
      refine aw_iinc (pc := 128) (v := y49) (L' := [some (.ref 2), none, some (.int y49)]) hM dX6_readHead_128 rfl e50 (by decide) rfl ?_
      refine aw_goto (pc := 131) (tgt := 108) hM dX6_readHead_131 (by decide) ?_
      exact ih F47 y49 h
set_option maxRecDepth 20000 in
theorem k_X6_readHead_b80 {C : CX} {M : MX} {G : GG} {Q : OUT → MM → GG → Prop} {r : MM} (hM : MOk C RX6 cX6_readHead 3 none rmX6_readHead M) (hT : MNoT M) (hq : Q (.inl none) r G) : ∀ (n : Nat) (F : MM) (x2 : Int32), s_X6_readHead_b80 n F x2 = some r → AW C 3 (ZM C rmX6_readHead Q M) M 0 0 80 [some (.ref 2), none, some (.int x2)] [] F G := by
  intro n
  induction n with
  | zero => intro F x2 h; exact nomatch h
  | succ n ih =>
    intro F x2 h
    rw [s_X6_readHead_b80] at h
    refine aw_iload_n (pc := 80) (i := 2) (x := x2) hM dX6_readHead_80 rfl rfl ?_
    refine aw_aload_n (pc := 81) (i := 0) (x := 2) hM dX6_readHead_81 rfl rfl ?_
    refine aw_getI (pc := 82) hM fd_X6_63 sk_2 rfl dX6_readHead_82 ?_
    refine aw_icmp_ge (pc := 85) (tgt := 106) hM dX6_readHead_85 (by decide) (fun c33 => ?_) (fun c33 => ?_)
    · rw [if_pos c33] at h
      refine aw_iconst (pc := 106) (v := 0) hM dX6_readHead_106 (by decide) ?_
      refine aw_istore_n (pc := 107) (i := 2) (L' := [some (.ref 2), none, some (.int 0)]) hM dX6_readHead_107 rfl (by decide) rfl ?_
      exact k_X6_readHead_b108 hM hT hq fu_ F 0 h
    · rw [if_neg c33] at h
      refine aw_aload_n (pc := 88) (i := 0) (x := 2) hM dX6_readHead_88 rfl rfl ?_
      refine aw_getR (pc := 89) (r := 3) hM fd_X6_9 sk_2 rfl dX6_readHead_89 ?_
      refine aw_iload_n (pc := 92) (i := 2) (x := x2) hM dX6_readHead_92 rfl rfl ?_
      refine aw_aload_n (pc := 93) (i := 0) (x := 2) hM dX6_readHead_93 rfl rfl ?_
      refine aw_iconst (pc := 94) (v := 0) hM dX6_readHead_94 (by decide) ?_
      refine aw_iconst (pc := 95) (v := 2) hM dX6_readHead_95 (by decide) ?_
      obtain ⟨z36, h34, h⟩ := bind_some h
      refine aw_cv1 (pc := 96) (n := 2) (As := [.int 0, .int 2]) (st := [.int x2, .ref 3]) (b := 2) (vo := (some (.int z36.1))) (c2 := 0) (s2 := 0) hM (k_X6_readDigit h34) rfl cw_X6_60 sk_2 rfl rfl (by decide +kernel) rfl rfl ⟨(Nat.le_of_ble_eq_true rfl), (Nat.le_of_ble_eq_true rfl)⟩ (Nat.le_of_ble_eq_true rfl) ⟨(Nat.le_of_ble_eq_true rfl), (Nat.le_of_ble_eq_true rfl)⟩ dX6_readHead_96 rfl rfl ?_
      obtain ⟨c37, h⟩ := ite_some h
      obtain ⟨F38, e39, h⟩ := bind_some h
      have e39 := Option.some.inj e39
      refine aw_iast (pc := 99) hM sk_3 c37 dX6_readHead_99 ?_
      refine aw_mem e39 ?_
      obtain ⟨y40, e41, h⟩ := bind_some h
      have e41 := Option.some.inj e41
      refine aw_iinc (pc := 100) (v := y40) (L' := [some (.ref 2), none, some (.int y40)]) hM dX6_readHead_100 rfl e41 (by decide) rfl ?_
      refine aw_goto (pc := 103) (tgt := 80) hM dX6_readHead_103 (by decide) ?_
      exact ih F38 y40 h
set_option maxRecDepth 20000 in
theorem k_X6_readHead_b60 {C : CX} {M : MX} {G : GG} {Q : OUT → MM → GG → Prop} {r : MM} (hM : MOk C RX6 cX6_readHead 3 none rmX6_readHead M) (hT : MNoT M) (hq : Q (.inl none) r G) (F : MM) (x1 : Int32) (t0 : Int32) (t2 : Int32) (h : s_X6_readHead_b60 F x1 t0 t2 = some r) : AW C 3 (ZM C rmX6_readHead Q M) M 0 0 60 [some (.ref 2), some (.int x1), none] [.int t0, .ref 2, .int t2, .ref 2] F G := by
  rw [s_X6_readHead_b60] at h
  refine aw_iload_n (pc := 60) (i := 1) (x := x1) hM dX6_readHead_60 rfl rfl ?_
  refine aw_iconst (pc := 61) (v := 5) hM dX6_readHead_61 (by decide) ?_
  refine aw_icmp_ne (pc := 62) (tgt := 69) hM dX6_readHead_62 (by decide) (fun c22 => ?_) (fun c22 => ?_)
  · rw [if_neg c22] at h
    refine aw_bipush (pc := 69) (v := 9) hM dX6_readHead_69 (by decide) ?_
    obtain ⟨z25, h23, h⟩ := bind_some h
    refine aw_cv1 (pc := 71) (n := 2) (As := [.int t0, .int 9]) (st := [.int t2, .ref 2]) (b := 2) (vo := (some (.int z25.1))) (c2 := 0) (s2 := 0) hM (k_X6_readDigit h23) rfl cw_X6_60 sk_2 rfl rfl (by decide +kernel) rfl rfl ⟨(Nat.le_of_ble_eq_true rfl), (Nat.le_of_ble_eq_true rfl)⟩ (Nat.le_of_ble_eq_true rfl) ⟨(Nat.le_of_ble_eq_true rfl), (Nat.le_of_ble_eq_true rfl)⟩ dX6_readHead_71 rfl rfl ?_
    refine aw_iadd (pc := 74) hM dX6_readHead_74 ?_
    obtain ⟨F26, e27, h⟩ := bind_some h
    have e27 := Option.some.inj e27
    refine aw_put (pc := 75) (ty := .int) hM fd_X6_72 tyX6_ok nmX6 rfl (by decide +kernel) rfl rfl sk_2 rfl dX6_readHead_75 ?_
    refine aw_mem e27 ?_
    refine aw_iconst (pc := 78) (v := 0) hM dX6_readHead_78 (by decide) ?_
    refine aw_istore_n (pc := 79) (i := 2) (L' := [some (.ref 2), some (.int x1), some (.int 0)]) hM dX6_readHead_79 rfl (by decide) rfl ?_
    refine aw_weak (L' := [some (.ref 2), none, some (.int 0)]) ?_ (lw_of [true, false, true] rfl)
    exact k_X6_readHead_b80 hM hT hq fu_ F26 0 h
  · rw [if_pos c22] at h
    refine aw_iconst (pc := 65) (v := 0) hM dX6_readHead_65 (by decide) ?_
    refine aw_goto (pc := 66) (tgt := 71) hM dX6_readHead_66 (by decide) ?_
    obtain ⟨z30, h28, h⟩ := bind_some h
    refine aw_cv1 (pc := 71) (n := 2) (As := [.int t0, .int 0]) (st := [.int t2, .ref 2]) (b := 2) (vo := (some (.int z30.1))) (c2 := 0) (s2 := 0) hM (k_X6_readDigit h28) rfl cw_X6_60 sk_2 rfl rfl (by decide +kernel) rfl rfl ⟨(Nat.le_of_ble_eq_true rfl), (Nat.le_of_ble_eq_true rfl)⟩ (Nat.le_of_ble_eq_true rfl) ⟨(Nat.le_of_ble_eq_true rfl), (Nat.le_of_ble_eq_true rfl)⟩ dX6_readHead_71 rfl rfl ?_
    refine aw_iadd (pc := 74) hM dX6_readHead_74 ?_
    obtain ⟨F31, e32, h⟩ := bind_some h
    have e32 := Option.some.inj e32
    refine aw_put (pc := 75) (ty := .int) hM fd_X6_72 tyX6_ok nmX6 rfl (by decide +kernel) rfl rfl sk_2 rfl dX6_readHead_75 ?_
    refine aw_mem e32 ?_
    refine aw_iconst (pc := 78) (v := 0) hM dX6_readHead_78 (by decide) ?_
    refine aw_istore_n (pc := 79) (i := 2) (L' := [some (.ref 2), some (.int x1), some (.int 0)]) hM dX6_readHead_79 rfl (by decide) rfl ?_
    refine aw_weak (L' := [some (.ref 2), none, some (.int 0)]) ?_ (lw_of [true, false, true] rfl)
    exact k_X6_readHead_b80 hM hT hq fu_ F31 0 h
set_option maxRecDepth 20000 in
theorem k_X6_readHead {C : CX} {F : MM} {G : GG} {r : MM} (h : s_X6_readHead F = some r) : AM C yX6_readHead cX6_readHead 3 none rmX6_readHead [.ref 2] F G (fun o F9 G9 => o = (.inl none) ∧ F9 = r ∧ G9 = G) := by
  refine am_of (L := [some (.ref 2), none, none]) (by decide) (Nat.le_of_ble_eq_true rfl) rfl (fun M hM hT => ?_)
  have hM : MOk C RX6 cX6_readHead 3 none rmX6_readHead M := hM
  obtain ⟨Q, hQ⟩ : ∃ Q : OUT → MM → GG → Prop, Q = (fun o F9 G9 => o = (.inl none) ∧ F9 = r ∧ G9 = G) := ⟨_, rfl⟩
  have hq : Q (.inl none) r G := by rw [hQ]; exact ⟨rfl, rfl, rfl⟩
  rw [← hQ]
  clear hQ
  rw [s_X6_readHead] at h
  refine aw_aload_n (pc := 0) (i := 0) (x := 2) hM dX6_readHead_0 rfl rfl ?_
  refine aw_bipush (pc := 1) (v := 68) hM dX6_readHead_1 (by decide) ?_
  obtain ⟨F2, h1, h⟩ := bind_some h
  refine aw_cv1 (pc := 3) (n := 1) (As := [.int 68]) (st := []) (b := 2) (vo := none) (c2 := 0) (s2 := 0) hM (k_X6_readLetter h1) rfl cw_X6_56 sk_2 rfl rfl (by decide +kernel) rfl rfl ⟨(Nat.le_of_ble_eq_true rfl), (Nat.le_of_ble_eq_true rfl)⟩ (Nat.le_of_ble_eq_true rfl) ⟨(Nat.le_of_ble_eq_true rfl), (Nat.le_of_ble_eq_true rfl)⟩ dX6_readHead_3 rfl rfl ?_
  refine aw_aload_n (pc := 6) (i := 0) (x := 2) hM dX6_readHead_6 rfl rfl ?_
  refine aw_aload_n (pc := 7) (i := 0) (x := 2) hM dX6_readHead_7 rfl rfl ?_
  refine aw_iconst (pc := 8) (v := 1) hM dX6_readHead_8 (by decide) ?_
  refine aw_iconst (pc := 9) (v := 5) hM dX6_readHead_9 (by decide) ?_
  obtain ⟨z5, h3, h⟩ := bind_some h
  refine aw_cv1 (pc := 10) (n := 2) (As := [.int 1, .int 5]) (st := [.ref 2]) (b := 2) (vo := (some (.int z5.1))) (c2 := 0) (s2 := 0) hM (k_X6_readDigit h3) rfl cw_X6_60 sk_2 rfl rfl (by decide +kernel) rfl rfl ⟨(Nat.le_of_ble_eq_true rfl), (Nat.le_of_ble_eq_true rfl)⟩ (Nat.le_of_ble_eq_true rfl) ⟨(Nat.le_of_ble_eq_true rfl), (Nat.le_of_ble_eq_true rfl)⟩ dX6_readHead_10 rfl rfl ?_
  obtain ⟨F6, e7, h⟩ := bind_some h
  have e7 := Option.some.inj e7
  refine aw_put (pc := 13) (ty := .int) hM fd_X6_63 tyX6_ok nmX6 rfl (by decide +kernel) rfl rfl sk_2 rfl dX6_readHead_13 ?_
  refine aw_mem e7 ?_
  refine aw_aload_n (pc := 16) (i := 0) (x := 2) hM dX6_readHead_16 rfl rfl ?_
  refine aw_aload_n (pc := 17) (i := 0) (x := 2) hM dX6_readHead_17 rfl rfl ?_
  refine aw_iconst (pc := 18) (v := 1) hM dX6_readHead_18 (by decide) ?_
  refine aw_bipush (pc := 19) (v := 6) hM dX6_readHead_19 (by decide) ?_
  obtain ⟨z10, h8, h⟩ := bind_some h
  refine aw_cv1 (pc := 21) (n := 2) (As := [.int 1, .int 6]) (st := [.ref 2]) (b := 2) (vo := (some (.int z10.1))) (c2 := 0) (s2 := 0) hM (k_X6_readDigit h8) rfl cw_X6_60 sk_2 rfl rfl (by decide +kernel) rfl rfl ⟨(Nat.le_of_ble_eq_true rfl), (Nat.le_of_ble_eq_true rfl)⟩ (Nat.le_of_ble_eq_true rfl) ⟨(Nat.le_of_ble_eq_true rfl), (Nat.le_of_ble_eq_true rfl)⟩ dX6_readHead_21 rfl rfl ?_
  obtain ⟨F11, e12, h⟩ := bind_some h
  have e12 := Option.some.inj e12
  refine aw_put (pc := 24) (ty := .int) hM fd_X6_66 tyX6_ok nmX6 rfl (by decide +kernel) rfl rfl sk_2 rfl dX6_readHead_24 ?_
  refine aw_mem e12 ?_
  refine aw_aload_n (pc := 27) (i := 0) (x := 2) hM dX6_readHead_27 rfl rfl ?_
  refine aw_aload_n (pc := 28) (i := 0) (x := 2) hM dX6_readHead_28 rfl rfl ?_
  refine aw_iconst (pc := 29) (v := 1) hM dX6_readHead_29 (by decide) ?_
  refine aw_bipush (pc := 30) (v := 9) hM dX6_readHead_30 (by decide) ?_
  obtain ⟨z15, h13, h⟩ := bind_some h
  refine aw_cv1 (pc := 32) (n := 2) (As := [.int 1, .int 9]) (st := [.ref 2]) (b := 2) (vo := (some (.int z15.1))) (c2 := 0) (s2 := 0) hM (k_X6_readDigit h13) rfl cw_X6_60 sk_2 rfl rfl (by decide +kernel) rfl rfl ⟨(Nat.le_of_ble_eq_true rfl), (Nat.le_of_ble_eq_true rfl)⟩ (Nat.le_of_ble_eq_true rfl) ⟨(Nat.le_of_ble_eq_true rfl), (Nat.le_of_ble_eq_true rfl)⟩ dX6_readHead_32 rfl rfl ?_
  obtain ⟨F16, e17, h⟩ := bind_some h
  have e17 := Option.some.inj e17
  refine aw_put (pc := 35) (ty := .int) hM fd_X6_69 tyX6_ok nmX6 rfl (by decide +kernel) rfl rfl sk_2 rfl dX6_readHead_35 ?_
  refine aw_mem e17 ?_
  refine aw_aload_n (pc := 38) (i := 0) (x := 2) hM dX6_readHead_38 rfl rfl ?_
  refine aw_iconst (pc := 39) (v := 0) hM dX6_readHead_39 (by decide) ?_
  refine aw_iconst (pc := 40) (v := 5) hM dX6_readHead_40 (by decide) ?_
  obtain ⟨z20, h18, h⟩ := bind_some h
  refine aw_cv1 (pc := 41) (n := 2) (As := [.int 0, .int 5]) (st := []) (b := 2) (vo := (some (.int z20.1))) (c2 := 0) (s2 := 0) hM (k_X6_readDigit h18) rfl cw_X6_60 sk_2 rfl rfl (by decide +kernel) rfl rfl ⟨(Nat.le_of_ble_eq_true rfl), (Nat.le_of_ble_eq_true rfl)⟩ (Nat.le_of_ble_eq_true rfl) ⟨(Nat.le_of_ble_eq_true rfl), (Nat.le_of_ble_eq_true rfl)⟩ dX6_readHead_41 rfl rfl ?_
  refine aw_istore_n (pc := 44) (i := 1) (L' := [some (.ref 2), some (.int z20.1), none]) hM dX6_readHead_44 rfl (by decide) rfl ?_
  refine aw_aload_n (pc := 45) (i := 0) (x := 2) hM dX6_readHead_45 rfl rfl ?_
  refine aw_bipush (pc := 46) (v := 10) hM dX6_readHead_46 (by decide) ?_
  refine aw_iload_n (pc := 48) (i := 1) (x := z20.1) hM dX6_readHead_48 rfl rfl ?_
  refine aw_imul (pc := 49) hM dX6_readHead_49 ?_
  refine aw_aload_n (pc := 50) (i := 0) (x := 2) hM dX6_readHead_50 rfl rfl ?_
  refine aw_iload_n (pc := 51) (i := 1) (x := z20.1) hM dX6_readHead_51 rfl rfl ?_
  refine aw_if_ne (pc := 52) (tgt := 59) hM dX6_readHead_52 (by decide) (fun c21 => ?_) (fun c21 => ?_)
  · rw [if_neg c21] at h
    refine aw_iconst (pc := 59) (v := 0) hM dX6_readHead_59 (by decide) ?_
    exact k_X6_readHead_b60 hM hT hq z20.2 z20.1 0 (10 * z20.1) h
  · rw [if_pos c21] at h
    refine aw_iconst (pc := 55) (v := 1) hM dX6_readHead_55 (by decide) ?_
    refine aw_goto (pc := 56) (tgt := 60) hM dX6_readHead_56 (by decide) ?_
    exact k_X6_readHead_b60 hM hT hq z20.2 z20.1 1 (10 * z20.1) h
def rmX6_readDigitBut : Room := { frames := 1, cells := 0, slots := 0, locals := 23 }
def s_X6_readDigitBut (F : MM) (p0 : Int32) (p1 : Int32) : Option (Int32 × MM) := if (F 2 11) ≤ (F 2 12) then (s_X6_readDigit F 0 p1).bind (fun z4 => some (z4.1, z4.2)) else if inb (F 2 12) 160 then (if ((F 1 (ix (F 2 12))) - 48) = p0 then (some (mup F 2 13 1)).bind (fun F10 => (s_X6_readDigit F10 0 p1).bind (fun z14 => some (z14.1, z14.2))) else (s_X6_readDigit F 0 p1).bind (fun z9 => some (z9.1, z9.2))) else none
set_option maxRecDepth 20000 in
theorem k_X6_readDigitBut {C : CX} {F : MM} {G : GG} {p0 : Int32} {p1 : Int32} {r : (Int32 × MM)} (h : s_X6_readDigitBut F p0 p1 = some r) : AM C yX6_readDigitBut cX6_readDigitBut 3 (some .int) rmX6_readDigitBut [.ref 2, .int p0, .int p1] F G (fun o F9 G9 => o = (.inl (some (.int r.1))) ∧ F9 = r.2 ∧ G9 = G) := by
  refine am_of (L := [some (.ref 2), some (.int p0), some (.int p1)]) (by decide) (Nat.le_of_ble_eq_true rfl) rfl (fun M hM hT => ?_)
  have hM : MOk C RX6 cX6_readDigitBut 3 (some .int) rmX6_readDigitBut M := hM
  obtain ⟨Q, hQ⟩ : ∃ Q : OUT → MM → GG → Prop, Q = (fun o F9 G9 => o = (.inl (some (.int r.1))) ∧ F9 = r.2 ∧ G9 = G) := ⟨_, rfl⟩
  have hq : Q (.inl (some (.int r.1))) r.2 G := by rw [hQ]; exact ⟨rfl, rfl, rfl⟩
  rw [← hQ]
  clear hQ
  rw [s_X6_readDigitBut] at h
  refine aw_aload_n (pc := 0) (i := 0) (x := 2) hM dX6_readDigitBut_0 rfl rfl ?_
  refine aw_getI (pc := 1) hM fd_X6_43 sk_2 rfl dX6_readDigitBut_1 ?_
  refine aw_aload_n (pc := 4) (i := 0) (x := 2) hM dX6_readDigitBut_4 rfl rfl ?_
  refine aw_getI (pc := 5) hM fd_X6_39 sk_2 rfl dX6_readDigitBut_5 ?_
  refine aw_icmp_ge (pc := 8) (tgt := 32) hM dX6_readDigitBut_8 (by decide) (fun c1 => ?_) (fun c1 => ?_)
  · rw [if_pos c1] at h
    refine aw_aload_n (pc := 32) (i := 0) (x := 2) hM dX6_readDigitBut_32 rfl rfl ?_
    refine aw_iconst (pc := 33) (v := 0) hM dX6_readDigitBut_33 (by decide) ?_
    refine aw_iload_n (pc := 34) (i := 2) (x := p1) hM dX6_readDigitBut_34 rfl rfl ?_
    obtain ⟨z4, h2, h⟩ := bind_some h
    refine aw_cv1 (pc := 35) (n := 2) (As := [.int 0, .int p1]) (st := []) (b := 2) (vo := (some (.int z4.1))) (c2 := 0) (s2 := 0) hM (k_X6_readDigit h2) rfl cw_X6_60 sk_2 rfl rfl (by decide +kernel) rfl rfl ⟨(Nat.le_of_ble_eq_true rfl), (Nat.le_of_ble_eq_true rfl)⟩ (Nat.le_of_ble_eq_true rfl) ⟨(Nat.le_of_ble_eq_true rfl), (Nat.le_of_ble_eq_true rfl)⟩ dX6_readDigitBut_35 rfl rfl ?_
    obtain rfl := Option.some.inj h
    exact aw_iret (pc := 38) hM dX6_readDigitBut_38 (Nat.le_of_ble_eq_true rfl) (Nat.le_of_ble_eq_true rfl) hq
  · rw [if_neg c1] at h
    refine aw_aload_n (pc := 11) (i := 0) (x := 2) hM dX6_readDigitBut_11 rfl rfl ?_
    refine aw_getR (pc := 12) (r := 1) hM fd_X6_29 sk_2 rfl dX6_readDigitBut_12 ?_
    refine aw_aload_n (pc := 15) (i := 0) (x := 2) hM dX6_readDigitBut_15 rfl rfl ?_
    refine aw_getI (pc := 16) hM fd_X6_43 sk_2 rfl dX6_readDigitBut_16 ?_
    obtain ⟨c5, h⟩ := ite_some h
    refine aw_cald (pc := 19) hM sk_1 c5 dX6_readDigitBut_19 ?_
    refine aw_bipush (pc := 20) (v := 48) hM dX6_readDigitBut_20 (by decide) ?_
    refine aw_isub (pc := 22) hM dX6_readDigitBut_22 ?_
    refine aw_iload_n (pc := 23) (i := 1) (x := p0) hM dX6_readDigitBut_23 rfl rfl ?_
    refine aw_icmp_ne (pc := 24) (tgt := 32) hM dX6_readDigitBut_24 (by decide) (fun c6 => ?_) (fun c6 => ?_)
    · rw [if_neg c6] at h
      refine aw_aload_n (pc := 32) (i := 0) (x := 2) hM dX6_readDigitBut_32 rfl rfl ?_
      refine aw_iconst (pc := 33) (v := 0) hM dX6_readDigitBut_33 (by decide) ?_
      refine aw_iload_n (pc := 34) (i := 2) (x := p1) hM dX6_readDigitBut_34 rfl rfl ?_
      obtain ⟨z9, h7, h⟩ := bind_some h
      refine aw_cv1 (pc := 35) (n := 2) (As := [.int 0, .int p1]) (st := []) (b := 2) (vo := (some (.int z9.1))) (c2 := 0) (s2 := 0) hM (k_X6_readDigit h7) rfl cw_X6_60 sk_2 rfl rfl (by decide +kernel) rfl rfl ⟨(Nat.le_of_ble_eq_true rfl), (Nat.le_of_ble_eq_true rfl)⟩ (Nat.le_of_ble_eq_true rfl) ⟨(Nat.le_of_ble_eq_true rfl), (Nat.le_of_ble_eq_true rfl)⟩ dX6_readDigitBut_35 rfl rfl ?_
      obtain rfl := Option.some.inj h
      exact aw_iret (pc := 38) hM dX6_readDigitBut_38 (Nat.le_of_ble_eq_true rfl) (Nat.le_of_ble_eq_true rfl) hq
    · rw [if_pos c6] at h
      refine aw_aload_n (pc := 27) (i := 0) (x := 2) hM dX6_readDigitBut_27 rfl rfl ?_
      refine aw_iconst (pc := 28) (v := 1) hM dX6_readDigitBut_28 (by decide) ?_
      obtain ⟨F10, e11, h⟩ := bind_some h
      have e11 := Option.some.inj e11
      refine aw_put (pc := 29) (ty := .boolean) hM fd_X6_46 tyX6_ok nmX6 rfl (by decide +kernel) (nz_ (by decide)) (fz_ (by decide)) sk_2 rfl dX6_readDigitBut_29 ?_
      refine aw_mem e11 ?_
      refine aw_aload_n (pc := 32) (i := 0) (x := 2) hM dX6_readDigitBut_32 rfl rfl ?_
      refine aw_iconst (pc := 33) (v := 0) hM dX6_readDigitBut_33 (by decide) ?_
      refine aw_iload_n (pc := 34) (i := 2) (x := p1) hM dX6_readDigitBut_34 rfl rfl ?_
      obtain ⟨z14, h12, h⟩ := bind_some h
      refine aw_cv1 (pc := 35) (n := 2) (As := [.int 0, .int p1]) (st := []) (b := 2) (vo := (some (.int z14.1))) (c2 := 0) (s2 := 0) hM (k_X6_readDigit h12) rfl cw_X6_60 sk_2 rfl rfl (by decide +kernel) rfl rfl ⟨(Nat.le_of_ble_eq_true rfl), (Nat.le_of_ble_eq_true rfl)⟩ (Nat.le_of_ble_eq_true rfl) ⟨(Nat.le_of_ble_eq_true rfl), (Nat.le_of_ble_eq_true rfl)⟩ dX6_readDigitBut_35 rfl rfl ?_
      obtain rfl := Option.some.inj h
      exact aw_iret (pc := 38) hM dX6_readDigitBut_38 (Nat.le_of_ble_eq_true rfl) (Nat.le_of_ble_eq_true rfl) hq
def rmX6_readRule : Room := { frames := 2, cells := 0, slots := 0, locals := 45 }
def s_X6_readRule (F : MM) (p0 : Int32) : Option MM := (some ((F 2 4) * 5 : Int32)).bind (fun y1 => if inb y1 50 then ((some (mup F 5 (ix y1) p0)).bind (fun F4 => (s_X6_readDigit F4 0 ((F4 2 1) - 1)).bind (fun z8 => if inb (y1 + 1) 50 then ((some (mup z8.2 5 (ix (y1 + 1)) z8.1)).bind (fun F10 => (s_X6_readDigit F10 1 3).bind (fun z14 => if inb (y1 + 2) 50 then ((some (mup z14.2 5 (ix (y1 + 2)) z14.1)).bind (fun F16 => if inb (y1 + 1) 50 then ((s_X6_readDigitBut F16 (F16 5 (ix (y1 + 1))) ((F16 2 1) - 1)).bind (fun z21 => if inb (y1 + 3) 50 then ((some (mup z21.2 5 (ix (y1 + 3)) z21.1)).bind (fun F23 => (s_X6_readDigit F23 1 3).bind (fun z27 => if inb (y1 + 4) 50 then ((some (mup z27.2 5 (ix (y1 + 4)) z27.1)).bind (fun F29 => (some (mup F29 2 4 ((F29 2 4) + 1))).bind (fun F31 => some F31))) else none))) else none)) else none)) else none))) else none))) else none)
set_option maxRecDepth 20000 in
theorem k_X6_readRule {C : CX} {F : MM} {G : GG} {p0 : Int32} {r : MM} (h : s_X6_readRule F p0 = some r) : AM C yX6_readRule cX6_readRule 3 none rmX6_readRule [.ref 2, .int p0] F G (fun o F9 G9 => o = (.inl none) ∧ F9 = r ∧ G9 = G) := by
  refine am_of (L := [some (.ref 2), some (.int p0), none]) (by decide) (Nat.le_of_ble_eq_true rfl) rfl (fun M hM hT => ?_)
  have hM : MOk C RX6 cX6_readRule 3 none rmX6_readRule M := hM
  obtain ⟨Q, hQ⟩ : ∃ Q : OUT → MM → GG → Prop, Q = (fun o F9 G9 => o = (.inl none) ∧ F9 = r ∧ G9 = G) := ⟨_, rfl⟩
  have hq : Q (.inl none) r G := by rw [hQ]; exact ⟨rfl, rfl, rfl⟩
  rw [← hQ]
  clear hQ
  rw [s_X6_readRule] at h
  refine aw_aload_n (pc := 0) (i := 0) (x := 2) hM dX6_readRule_0 rfl rfl ?_
  refine aw_getI (pc := 1) hM fd_X6_75 sk_2 rfl dX6_readRule_1 ?_
  refine aw_iconst (pc := 4) (v := 5) hM dX6_readRule_4 (by decide) ?_
  refine aw_imul (pc := 5) hM dX6_readRule_5 ?_
  obtain ⟨y1, e2, h⟩ := bind_some h
  have e2 := Option.some.inj e2
  refine aw_topi e2 ?_
  refine aw_istore_n (pc := 6) (i := 2) (L' := [some (.ref 2), some (.int p0), some (.int y1)]) hM dX6_readRule_6 rfl (by decide) rfl ?_
  refine aw_aload_n (pc := 7) (i := 0) (x := 2) hM dX6_readRule_7 rfl rfl ?_
  refine aw_getR (pc := 8) (r := 5) hM fd_X6_20 sk_2 rfl dX6_readRule_8 ?_
  refine aw_iload_n (pc := 11) (i := 2) (x := y1) hM dX6_readRule_11 rfl rfl ?_
  refine aw_iload_n (pc := 12) (i := 1) (x := p0) hM dX6_readRule_12 rfl rfl ?_
  obtain ⟨c3, h⟩ := ite_some h
  obtain ⟨F4, e5, h⟩ := bind_some h
  have e5 := Option.some.inj e5
  refine aw_iast (pc := 13) hM sk_5 c3 dX6_readRule_13 ?_
  refine aw_mem e5 ?_
  refine aw_aload_n (pc := 14) (i := 0) (x := 2) hM dX6_readRule_14 rfl rfl ?_
  refine aw_getR (pc := 15) (r := 5) hM fd_X6_20 sk_2 rfl dX6_readRule_15 ?_
  refine aw_iload_n (pc := 18) (i := 2) (x := y1) hM dX6_readRule_18 rfl rfl ?_
  refine aw_iconst (pc := 19) (v := 1) hM dX6_readRule_19 (by decide) ?_
  refine aw_iadd (pc := 20) hM dX6_readRule_20 ?_
  refine aw_aload_n (pc := 21) (i := 0) (x := 2) hM dX6_readRule_21 rfl rfl ?_
  refine aw_iconst (pc := 22) (v := 0) hM dX6_readRule_22 (by decide) ?_
  refine aw_aload_n (pc := 23) (i := 0) (x := 2) hM dX6_readRule_23 rfl rfl ?_
  refine aw_getI (pc := 24) hM fd_X6_66 sk_2 rfl dX6_readRule_24 ?_
  refine aw_iconst (pc := 27) (v := 1) hM dX6_readRule_27 (by decide) ?_
  refine aw_isub (pc := 28) hM dX6_readRule_28 ?_
  obtain ⟨z8, h6, h⟩ := bind_some h
  refine aw_cv1 (pc := 29) (n := 2) (As := [.int 0, .int ((F4 2 1) - 1)]) (st := [.int (y1 + 1), .ref 5]) (b := 2) (vo := (some (.int z8.1))) (c2 := 0) (s2 := 0) hM (k_X6_readDigit h6) rfl cw_X6_60 sk_2 rfl rfl (by decide +kernel) rfl rfl ⟨(Nat.le_of_ble_eq_true rfl), (Nat.le_of_ble_eq_true rfl)⟩ (Nat.le_of_ble_eq_true rfl) ⟨(Nat.le_of_ble_eq_true rfl), (Nat.le_of_ble_eq_true rfl)⟩ dX6_readRule_29 rfl rfl ?_
  obtain ⟨c9, h⟩ := ite_some h
  obtain ⟨F10, e11, h⟩ := bind_some h
  have e11 := Option.some.inj e11
  refine aw_iast (pc := 32) hM sk_5 c9 dX6_readRule_32 ?_
  refine aw_mem e11 ?_
  refine aw_aload_n (pc := 33) (i := 0) (x := 2) hM dX6_readRule_33 rfl rfl ?_
  refine aw_getR (pc := 34) (r := 5) hM fd_X6_20 sk_2 rfl dX6_readRule_34 ?_
  refine aw_iload_n (pc := 37) (i := 2) (x := y1) hM dX6_readRule_37 rfl rfl ?_
  refine aw_iconst (pc := 38) (v := 2) hM dX6_readRule_38 (by decide) ?_
  refine aw_iadd (pc := 39) hM dX6_readRule_39 ?_
  refine aw_aload_n (pc := 40) (i := 0) (x := 2) hM dX6_readRule_40 rfl rfl ?_
  refine aw_iconst (pc := 41) (v := 1) hM dX6_readRule_41 (by decide) ?_
  refine aw_iconst (pc := 42) (v := 3) hM dX6_readRule_42 (by decide) ?_
  obtain ⟨z14, h12, h⟩ := bind_some h
  refine aw_cv1 (pc := 43) (n := 2) (As := [.int 1, .int 3]) (st := [.int (y1 + 2), .ref 5]) (b := 2) (vo := (some (.int z14.1))) (c2 := 0) (s2 := 0) hM (k_X6_readDigit h12) rfl cw_X6_60 sk_2 rfl rfl (by decide +kernel) rfl rfl ⟨(Nat.le_of_ble_eq_true rfl), (Nat.le_of_ble_eq_true rfl)⟩ (Nat.le_of_ble_eq_true rfl) ⟨(Nat.le_of_ble_eq_true rfl), (Nat.le_of_ble_eq_true rfl)⟩ dX6_readRule_43 rfl rfl ?_
  obtain ⟨c15, h⟩ := ite_some h
  obtain ⟨F16, e17, h⟩ := bind_some h
  have e17 := Option.some.inj e17
  refine aw_iast (pc := 46) hM sk_5 c15 dX6_readRule_46 ?_
  refine aw_mem e17 ?_
  refine aw_aload_n (pc := 47) (i := 0) (x := 2) hM dX6_readRule_47 rfl rfl ?_
  refine aw_getR (pc := 48) (r := 5) hM fd_X6_20 sk_2 rfl dX6_readRule_48 ?_
  refine aw_iload_n (pc := 51) (i := 2) (x := y1) hM dX6_readRule_51 rfl rfl ?_
  refine aw_iconst (pc := 52) (v := 3) hM dX6_readRule_52 (by decide) ?_
  refine aw_iadd (pc := 53) hM dX6_readRule_53 ?_
  refine aw_aload_n (pc := 54) (i := 0) (x := 2) hM dX6_readRule_54 rfl rfl ?_
  refine aw_aload_n (pc := 55) (i := 0) (x := 2) hM dX6_readRule_55 rfl rfl ?_
  refine aw_getR (pc := 56) (r := 5) hM fd_X6_20 sk_2 rfl dX6_readRule_56 ?_
  refine aw_iload_n (pc := 59) (i := 2) (x := y1) hM dX6_readRule_59 rfl rfl ?_
  refine aw_iconst (pc := 60) (v := 1) hM dX6_readRule_60 (by decide) ?_
  refine aw_iadd (pc := 61) hM dX6_readRule_61 ?_
  obtain ⟨c18, h⟩ := ite_some h
  refine aw_iald (pc := 62) hM sk_5 c18 dX6_readRule_62 ?_
  refine aw_aload_n (pc := 63) (i := 0) (x := 2) hM dX6_readRule_63 rfl rfl ?_
  refine aw_getI (pc := 64) hM fd_X6_66 sk_2 rfl dX6_readRule_64 ?_
  refine aw_iconst (pc := 67) (v := 1) hM dX6_readRule_67 (by decide) ?_
  refine aw_isub (pc := 68) hM dX6_readRule_68 ?_
  obtain ⟨z21, h19, h⟩ := bind_some h
  refine aw_cv1 (pc := 69) (n := 2) (As := [.int (F16 5 (ix (y1 + 1))), .int ((F16 2 1) - 1)]) (st := [.int (y1 + 3), .ref 5]) (b := 2) (vo := (some (.int z21.1))) (c2 := 0) (s2 := 0) hM (k_X6_readDigitBut h19) rfl cw_X6_95 sk_2 rfl rfl (by decide +kernel) rfl rfl ⟨(Nat.le_of_ble_eq_true rfl), (Nat.le_of_ble_eq_true rfl)⟩ (Nat.le_of_ble_eq_true rfl) ⟨(Nat.le_of_ble_eq_true rfl), (Nat.le_of_ble_eq_true rfl)⟩ dX6_readRule_69 rfl rfl ?_
  obtain ⟨c22, h⟩ := ite_some h
  obtain ⟨F23, e24, h⟩ := bind_some h
  have e24 := Option.some.inj e24
  refine aw_iast (pc := 72) hM sk_5 c22 dX6_readRule_72 ?_
  refine aw_mem e24 ?_
  refine aw_aload_n (pc := 73) (i := 0) (x := 2) hM dX6_readRule_73 rfl rfl ?_
  refine aw_getR (pc := 74) (r := 5) hM fd_X6_20 sk_2 rfl dX6_readRule_74 ?_
  refine aw_iload_n (pc := 77) (i := 2) (x := y1) hM dX6_readRule_77 rfl rfl ?_
  refine aw_iconst (pc := 78) (v := 4) hM dX6_readRule_78 (by decide) ?_
  refine aw_iadd (pc := 79) hM dX6_readRule_79 ?_
  refine aw_aload_n (pc := 80) (i := 0) (x := 2) hM dX6_readRule_80 rfl rfl ?_
  refine aw_iconst (pc := 81) (v := 1) hM dX6_readRule_81 (by decide) ?_
  refine aw_iconst (pc := 82) (v := 3) hM dX6_readRule_82 (by decide) ?_
  obtain ⟨z27, h25, h⟩ := bind_some h
  refine aw_cv1 (pc := 83) (n := 2) (As := [.int 1, .int 3]) (st := [.int (y1 + 4), .ref 5]) (b := 2) (vo := (some (.int z27.1))) (c2 := 0) (s2 := 0) hM (k_X6_readDigit h25) rfl cw_X6_60 sk_2 rfl rfl (by decide +kernel) rfl rfl ⟨(Nat.le_of_ble_eq_true rfl), (Nat.le_of_ble_eq_true rfl)⟩ (Nat.le_of_ble_eq_true rfl) ⟨(Nat.le_of_ble_eq_true rfl), (Nat.le_of_ble_eq_true rfl)⟩ dX6_readRule_83 rfl rfl ?_
  obtain ⟨c28, h⟩ := ite_some h
  obtain ⟨F29, e30, h⟩ := bind_some h
  have e30 := Option.some.inj e30
  refine aw_iast (pc := 86) hM sk_5 c28 dX6_readRule_86 ?_
  refine aw_mem e30 ?_
  refine aw_aload_n (pc := 87) (i := 0) (x := 2) hM dX6_readRule_87 rfl rfl ?_
  refine aw_dup (pc := 88) hM dX6_readRule_88 rfl ?_
  refine aw_getI (pc := 89) hM fd_X6_75 sk_2 rfl dX6_readRule_89 ?_
  refine aw_iconst (pc := 92) (v := 1) hM dX6_readRule_92 (by decide) ?_
  refine aw_iadd (pc := 93) hM dX6_readRule_93 ?_
  obtain ⟨F31, e32, h⟩ := bind_some h
  have e32 := Option.some.inj e32
  refine aw_put (pc := 94) (ty := .int) hM fd_X6_75 tyX6_ok nmX6 rfl (by decide +kernel) rfl rfl sk_2 rfl dX6_readRule_94 ?_
  refine aw_mem e32 ?_
  obtain rfl := Option.some.inj h
  exact aw_vret (pc := 97) hM dX6_readRule_97 (Nat.le_of_ble_eq_true rfl) (Nat.le_of_ble_eq_true rfl) hq
def rmX6_readVersion : Room := { frames := 1, cells := 0, slots := 0, locals := 23 }
def s_X6_readVersion (F : MM) (q0 : Nat) : Option MM := (s_X6_readDigit F 0 ((F 2 0) - 1)).bind (fun z3 => (s_X6_readDigit z3.2 0 ((z3.2 2 1) - 1)).bind (fun z6 => (s_X6_readDigit z6.2 0 3).bind (fun z9 => if inb z3.1 (alen q0) then ((s_X0_with z9.2 (z9.2 q0 (ix z3.1)) z6.1 z9.1).bind (fun r12 => if inb z3.1 (alen q0) then ((some (mup z9.2 q0 (ix z3.1) r12)).bind (fun F14 => some F14)) else none)) else none)))
set_option maxRecDepth 20000 in
theorem k_X6_readVersion {C : CX} {F : MM} {G : GG} {q0 : Nat} {r : MM} (hq0 : isIA q0) (h : s_X6_readVersion F q0 = some r) : AM C yX6_readVersion cX6_readVersion 5 none rmX6_readVersion [.ref 2, .ref q0] F G (fun o F9 G9 => o = (.inl none) ∧ F9 = r ∧ G9 = G) := by
  refine am_of (L := [some (.ref 2), some (.ref q0), none, none, none]) (by decide) (Nat.le_of_ble_eq_true rfl) rfl (fun M hM hT => ?_)
  have hM : MOk C RX6 cX6_readVersion 5 none rmX6_readVersion M := hM
  obtain ⟨Q, hQ⟩ : ∃ Q : OUT → MM → GG → Prop, Q = (fun o F9 G9 => o = (.inl none) ∧ F9 = r ∧ G9 = G) := ⟨_, rfl⟩
  have hq : Q (.inl none) r G := by rw [hQ]; exact ⟨rfl, rfl, rfl⟩
  rw [← hQ]
  clear hQ
  rw [s_X6_readVersion] at h
  refine aw_aload_n (pc := 0) (i := 0) (x := 2) hM dX6_readVersion_0 rfl rfl ?_
  refine aw_iconst (pc := 1) (v := 0) hM dX6_readVersion_1 (by decide) ?_
  refine aw_aload_n (pc := 2) (i := 0) (x := 2) hM dX6_readVersion_2 rfl rfl ?_
  refine aw_getI (pc := 3) hM fd_X6_63 sk_2 rfl dX6_readVersion_3 ?_
  refine aw_iconst (pc := 6) (v := 1) hM dX6_readVersion_6 (by decide) ?_
  refine aw_isub (pc := 7) hM dX6_readVersion_7 ?_
  obtain ⟨z3, h1, h⟩ := bind_some h
  refine aw_cv1 (pc := 8) (n := 2) (As := [.int 0, .int ((F 2 0) - 1)]) (st := []) (b := 2) (vo := (some (.int z3.1))) (c2 := 0) (s2 := 0) hM (k_X6_readDigit h1) rfl cw_X6_60 sk_2 rfl rfl (by decide +kernel) rfl rfl ⟨(Nat.le_of_ble_eq_true rfl), (Nat.le_of_ble_eq_true rfl)⟩ (Nat.le_of_ble_eq_true rfl) ⟨(Nat.le_of_ble_eq_true rfl), (Nat.le_of_ble_eq_true rfl)⟩ dX6_readVersion_8 rfl rfl ?_
  refine aw_istore_n (pc := 11) (i := 2) (L' := [some (.ref 2), some (.ref q0), some (.int z3.1), none, none]) hM dX6_readVersion_11 rfl (by decide) rfl ?_
  refine aw_aload_n (pc := 12) (i := 0) (x := 2) hM dX6_readVersion_12 rfl rfl ?_
  refine aw_iconst (pc := 13) (v := 0) hM dX6_readVersion_13 (by decide) ?_
  refine aw_aload_n (pc := 14) (i := 0) (x := 2) hM dX6_readVersion_14 rfl rfl ?_
  refine aw_getI (pc := 15) hM fd_X6_66 sk_2 rfl dX6_readVersion_15 ?_
  refine aw_iconst (pc := 18) (v := 1) hM dX6_readVersion_18 (by decide) ?_
  refine aw_isub (pc := 19) hM dX6_readVersion_19 ?_
  obtain ⟨z6, h4, h⟩ := bind_some h
  refine aw_cv1 (pc := 20) (n := 2) (As := [.int 0, .int ((z3.2 2 1) - 1)]) (st := []) (b := 2) (vo := (some (.int z6.1))) (c2 := 0) (s2 := 0) hM (k_X6_readDigit h4) rfl cw_X6_60 sk_2 rfl rfl (by decide +kernel) rfl rfl ⟨(Nat.le_of_ble_eq_true rfl), (Nat.le_of_ble_eq_true rfl)⟩ (Nat.le_of_ble_eq_true rfl) ⟨(Nat.le_of_ble_eq_true rfl), (Nat.le_of_ble_eq_true rfl)⟩ dX6_readVersion_20 rfl rfl ?_
  refine aw_istore_n (pc := 23) (i := 3) (L' := [some (.ref 2), some (.ref q0), some (.int z3.1), some (.int z6.1), none]) hM dX6_readVersion_23 rfl (by decide) rfl ?_
  refine aw_aload_n (pc := 24) (i := 0) (x := 2) hM dX6_readVersion_24 rfl rfl ?_
  refine aw_iconst (pc := 25) (v := 0) hM dX6_readVersion_25 (by decide) ?_
  refine aw_iconst (pc := 26) (v := 3) hM dX6_readVersion_26 (by decide) ?_
  obtain ⟨z9, h7, h⟩ := bind_some h
  refine aw_cv1 (pc := 27) (n := 2) (As := [.int 0, .int 3]) (st := []) (b := 2) (vo := (some (.int z9.1))) (c2 := 0) (s2 := 0) hM (k_X6_readDigit h7) rfl cw_X6_60 sk_2 rfl rfl (by decide +kernel) rfl rfl ⟨(Nat.le_of_ble_eq_true rfl), (Nat.le_of_ble_eq_true rfl)⟩ (Nat.le_of_ble_eq_true rfl) ⟨(Nat.le_of_ble_eq_true rfl), (Nat.le_of_ble_eq_true rfl)⟩ dX6_readVersion_27 rfl rfl ?_
  refine aw_istore (pc := 30) (i := 4) (L' := [some (.ref 2), some (.ref q0), some (.int z3.1), some (.int z6.1), some (.int z9.1)]) hM dX6_readVersion_30  (by decide) rfl ?_
  refine aw_aload_n (pc := 32) (i := 1) (x := q0) hM dX6_readVersion_32 rfl rfl ?_
  refine aw_iload_n (pc := 33) (i := 2) (x := z3.1) hM dX6_readVersion_33 rfl rfl ?_
  refine aw_aload_n (pc := 34) (i := 1) (x := q0) hM dX6_readVersion_34 rfl rfl ?_
  refine aw_iload_n (pc := 35) (i := 2) (x := z3.1) hM dX6_readVersion_35 rfl rfl ?_
  obtain ⟨c10, h⟩ := ite_some h
  refine aw_iald (pc := 36) hM hq0 c10 dX6_readVersion_36 ?_
  refine aw_iload_n (pc := 37) (i := 3) (x := z6.1) hM dX6_readVersion_37 rfl rfl ?_
  refine aw_iload (pc := 38) (i := 4) (x := z9.1) hM dX6_readVersion_38  rfl ?_
  obtain ⟨r12, h11, h⟩ := bind_some h
  refine aw_cs1 (pc := 40) (n := 3) (As := [.int (z9.2 q0 (ix z3.1)), .int z6.1, .int z9.1]) (st := [.int z3.1, .ref q0]) (vo := (some (.int r12))) (c2 := 0) (s2 := 0) hM (k_X0_with h11) rfl cw_X6_98 (by decide +kernel) rfl rfl ⟨(Nat.le_of_ble_eq_true rfl), (Nat.le_of_ble_eq_true rfl)⟩ (Nat.le_of_ble_eq_true rfl) ⟨(Nat.le_of_ble_eq_true rfl), (Nat.le_of_ble_eq_true rfl)⟩ dX6_readVersion_40 rfl rfl ?_
  obtain ⟨c13, h⟩ := ite_some h
  obtain ⟨F14, e15, h⟩ := bind_some h
  have e15 := Option.some.inj e15
  refine aw_iast (pc := 43) hM hq0 c13 dX6_readVersion_43 ?_
  refine aw_mem e15 ?_
  obtain rfl := Option.some.inj h
  exact aw_vret (pc := 44) hM dX6_readVersion_44 (Nat.le_of_ble_eq_true rfl) (Nat.le_of_ble_eq_true rfl) hq
def rmX6_readItem : Room := { frames := 3, cells := 0, slots := 0, locals := 67 }
def s_X6_readItem_b79 (F : MM) (x1 : Int32) : Option MM := if x1 = 119 then (some (mup F 2 12 ((F 2 12) + 1))).bind (fun F23 => (s_X6_readVersion F23 7).bind (fun F26 => some F26)) else if x1 = 118 then (some (mup F 2 12 ((F 2 12) + 1))).bind (fun F19 => (s_X6_readVersion F19 6).bind (fun F22 => some F22)) else (some (mup F 2 13 1)).bind (fun F17 => some F17)
def s_X6_readItem_b51 (F : MM) (x1 : Int32) (x2 : Int32) : Option MM := if x1 = 120 then if x2 = 0 then s_X6_readItem_b79 F x1 else (some (mup F 2 12 ((F 2 12) + 1))).bind (fun F11 => (s_X6_readRule F11 1).bind (fun F14 => some F14)) else s_X6_readItem_b79 F x1
def s_X6_readItem_b22 (F : MM) (x1 : Int32) (t0 : Int32) : Option MM := if x1 = 110 then if t0 = 0 then s_X6_readItem_b51 F x1 t0 else (some (mup F 2 12 ((F 2 12) + 1))).bind (fun F5 => (s_X6_readRule F5 0).bind (fun F8 => some F8)) else s_X6_readItem_b51 F x1 t0
def s_X6_readItem (F : MM) (p0 : Int32) : Option MM := if (F 2 1) ≤ 1 then s_X6_readItem_b22 F p0 0 else if 10 ≤ (F 2 4) then s_X6_readItem_b22 F p0 0 else s_X6_readItem_b22 F p0 1
set_option maxRecDepth 20000 in
theorem k_X6_readItem_b79 {C : CX} {M : MX} {G : GG} {Q : OUT → MM → GG → Prop} {r : MM} (hM : MOk C RX6 cX6_readItem 3 none rmX6_readItem M) (hT : MNoT M) (hq : Q (.inl none) r G) (F : MM) (x1 : Int32) (h : s_X6_readItem_b79 F x1 = some r) : AW C 3 (ZM C rmX6_readItem Q M) M 0 0 79 [some (.ref 2), some (.int x1), none] [] F G := by
  rw [s_X6_readItem_b79] at h
  refine aw_iload_n (pc := 79) (i := 1) (x := x1) hM dX6_readItem_79 rfl rfl ?_
  refine aw_bipush (pc := 80) (v := 119) hM dX6_readItem_80 (by decide) ?_
  refine aw_icmp_ne (pc := 82) (tgt := 106) hM dX6_readItem_82 (by decide) (fun c15 => ?_) (fun c15 => ?_)
  · rw [if_neg c15] at h
    refine aw_iload_n (pc := 106) (i := 1) (x := x1) hM dX6_readItem_106 rfl rfl ?_
    refine aw_bipush (pc := 107) (v := 118) hM dX6_readItem_107 (by decide) ?_
    refine aw_icmp_ne (pc := 109) (tgt := 133) hM dX6_readItem_109 (by decide) (fun c16 => ?_) (fun c16 => ?_)
    · rw [if_neg c16] at h
      refine aw_aload_n (pc := 133) (i := 0) (x := 2) hM dX6_readItem_133 rfl rfl ?_
      refine aw_iconst (pc := 134) (v := 1) hM dX6_readItem_134 (by decide) ?_
      obtain ⟨F17, e18, h⟩ := bind_some h
      have e18 := Option.some.inj e18
      refine aw_put (pc := 135) (ty := .boolean) hM fd_X6_46 tyX6_ok nmX6 rfl (by decide +kernel) (nz_ (by decide)) (fz_ (by decide)) sk_2 rfl dX6_readItem_135 ?_
      refine aw_mem e18 ?_
      obtain rfl := Option.some.inj h
      exact aw_vret (pc := 138) hM dX6_readItem_138 (Nat.le_of_ble_eq_true rfl) (Nat.le_of_ble_eq_true rfl) hq
    · rw [if_pos c16] at h
      refine aw_aload_n (pc := 112) (i := 0) (x := 2) hM dX6_readItem_112 rfl rfl ?_
      refine aw_dup (pc := 113) hM dX6_readItem_113 rfl ?_
      refine aw_getI (pc := 114) hM fd_X6_43 sk_2 rfl dX6_readItem_114 ?_
      refine aw_iconst (pc := 117) (v := 1) hM dX6_readItem_117 (by decide) ?_
      refine aw_iadd (pc := 118) hM dX6_readItem_118 ?_
      obtain ⟨F19, e20, h⟩ := bind_some h
      have e20 := Option.some.inj e20
      refine aw_put (pc := 119) (ty := .int) hM fd_X6_43 tyX6_ok nmX6 rfl (by decide +kernel) rfl rfl sk_2 rfl dX6_readItem_119 ?_
      refine aw_mem e20 ?_
      refine aw_aload_n (pc := 122) (i := 0) (x := 2) hM dX6_readItem_122 rfl rfl ?_
      refine aw_aload_n (pc := 123) (i := 0) (x := 2) hM dX6_readItem_123 rfl rfl ?_
      refine aw_getR (pc := 124) (r := 6) hM fd_X6_23 sk_2 rfl dX6_readItem_124 ?_
      obtain ⟨F22, h21, h⟩ := bind_some h
      refine aw_cv1 (pc := 127) (n := 1) (As := [.ref 6]) (st := []) (b := 2) (vo := none) (c2 := 0) (s2 := 0) hM (k_X6_readVersion (ia_of sk_6) h21) rfl cw_X6_91 sk_2 rfl rfl (by decide +kernel) rfl rfl ⟨(Nat.le_of_ble_eq_true rfl), (Nat.le_of_ble_eq_true rfl)⟩ (Nat.le_of_ble_eq_true rfl) ⟨(Nat.le_of_ble_eq_true rfl), (Nat.le_of_ble_eq_true rfl)⟩ dX6_readItem_127 rfl rfl ?_
      refine aw_goto (pc := 130) (tgt := 138) hM dX6_readItem_130 (by decide) ?_
      obtain rfl := Option.some.inj h
      exact aw_vret (pc := 138) hM dX6_readItem_138 (Nat.le_of_ble_eq_true rfl) (Nat.le_of_ble_eq_true rfl) hq
  · rw [if_pos c15] at h
    refine aw_aload_n (pc := 85) (i := 0) (x := 2) hM dX6_readItem_85 rfl rfl ?_
    refine aw_dup (pc := 86) hM dX6_readItem_86 rfl ?_
    refine aw_getI (pc := 87) hM fd_X6_43 sk_2 rfl dX6_readItem_87 ?_
    refine aw_iconst (pc := 90) (v := 1) hM dX6_readItem_90 (by decide) ?_
    refine aw_iadd (pc := 91) hM dX6_readItem_91 ?_
    obtain ⟨F23, e24, h⟩ := bind_some h
    have e24 := Option.some.inj e24
    refine aw_put (pc := 92) (ty := .int) hM fd_X6_43 tyX6_ok nmX6 rfl (by decide +kernel) rfl rfl sk_2 rfl dX6_readItem_92 ?_
    refine aw_mem e24 ?_
    refine aw_aload_n (pc := 95) (i := 0) (x := 2) hM dX6_readItem_95 rfl rfl ?_
    refine aw_aload_n (pc := 96) (i := 0) (x := 2) hM dX6_readItem_96 rfl rfl ?_
    refine aw_getR (pc := 97) (r := 7) hM fd_X6_26 sk_2 rfl dX6_readItem_97 ?_
    obtain ⟨F26, h25, h⟩ := bind_some h
    refine aw_cv1 (pc := 100) (n := 1) (As := [.ref 7]) (st := []) (b := 2) (vo := none) (c2 := 0) (s2 := 0) hM (k_X6_readVersion (ia_of sk_7) h25) rfl cw_X6_91 sk_2 rfl rfl (by decide +kernel) rfl rfl ⟨(Nat.le_of_ble_eq_true rfl), (Nat.le_of_ble_eq_true rfl)⟩ (Nat.le_of_ble_eq_true rfl) ⟨(Nat.le_of_ble_eq_true rfl), (Nat.le_of_ble_eq_true rfl)⟩ dX6_readItem_100 rfl rfl ?_
    refine aw_goto (pc := 103) (tgt := 138) hM dX6_readItem_103 (by decide) ?_
    obtain rfl := Option.some.inj h
    exact aw_vret (pc := 138) hM dX6_readItem_138 (Nat.le_of_ble_eq_true rfl) (Nat.le_of_ble_eq_true rfl) hq
set_option maxRecDepth 20000 in
theorem k_X6_readItem_b51 {C : CX} {M : MX} {G : GG} {Q : OUT → MM → GG → Prop} {r : MM} (hM : MOk C RX6 cX6_readItem 3 none rmX6_readItem M) (hT : MNoT M) (hq : Q (.inl none) r G) (F : MM) (x1 : Int32) (x2 : Int32) (h : s_X6_readItem_b51 F x1 x2 = some r) : AW C 3 (ZM C rmX6_readItem Q M) M 0 0 51 [some (.ref 2), some (.int x1), some (.int x2)] [] F G := by
  rw [s_X6_readItem_b51] at h
  refine aw_iload_n (pc := 51) (i := 1) (x := x1) hM dX6_readItem_51 rfl rfl ?_
  refine aw_bipush (pc := 52) (v := 120) hM dX6_readItem_52 (by decide) ?_
  refine aw_icmp_ne (pc := 54) (tgt := 79) hM dX6_readItem_54 (by decide) (fun c9 => ?_) (fun c9 => ?_)
  · rw [if_neg c9] at h
    refine aw_weak (L' := [some (.ref 2), some (.int x1), none]) ?_ (lw_of [true, true, false] rfl)
    exact k_X6_readItem_b79 hM hT hq F x1 h
  · rw [if_pos c9] at h
    refine aw_iload_n (pc := 57) (i := 2) (x := x2) hM dX6_readItem_57 rfl rfl ?_
    refine aw_if_eq (pc := 58) (tgt := 79) hM dX6_readItem_58 (by decide) (fun c10 => ?_) (fun c10 => ?_)
    · rw [if_pos c10] at h
      refine aw_weak (L' := [some (.ref 2), some (.int x1), none]) ?_ (lw_of [true, true, false] rfl)
      exact k_X6_readItem_b79 hM hT hq F x1 h
    · rw [if_neg c10] at h
      refine aw_aload_n (pc := 61) (i := 0) (x := 2) hM dX6_readItem_61 rfl rfl ?_
      refine aw_dup (pc := 62) hM dX6_readItem_62 rfl ?_
      refine aw_getI (pc := 63) hM fd_X6_43 sk_2 rfl dX6_readItem_63 ?_
      refine aw_iconst (pc := 66) (v := 1) hM dX6_readItem_66 (by decide) ?_
      refine aw_iadd (pc := 67) hM dX6_readItem_67 ?_
      obtain ⟨F11, e12, h⟩ := bind_some h
      have e12 := Option.some.inj e12
      refine aw_put (pc := 68) (ty := .int) hM fd_X6_43 tyX6_ok nmX6 rfl (by decide +kernel) rfl rfl sk_2 rfl dX6_readItem_68 ?_
      refine aw_mem e12 ?_
      refine aw_aload_n (pc := 71) (i := 0) (x := 2) hM dX6_readItem_71 rfl rfl ?_
      refine aw_iconst (pc := 72) (v := 1) hM dX6_readItem_72 (by decide) ?_
      obtain ⟨F14, h13, h⟩ := bind_some h
      refine aw_cv1 (pc := 73) (n := 1) (As := [.int 1]) (st := []) (b := 2) (vo := none) (c2 := 0) (s2 := 0) hM (k_X6_readRule h13) rfl cw_X6_87 sk_2 rfl rfl (by decide +kernel) rfl rfl ⟨(Nat.le_of_ble_eq_true rfl), (Nat.le_of_ble_eq_true rfl)⟩ (Nat.le_of_ble_eq_true rfl) ⟨(Nat.le_of_ble_eq_true rfl), (Nat.le_of_ble_eq_true rfl)⟩ dX6_readItem_73 rfl rfl ?_
      refine aw_goto (pc := 76) (tgt := 138) hM dX6_readItem_76 (by decide) ?_
      obtain rfl := Option.some.inj h
      exact aw_vret (pc := 138) hM dX6_readItem_138 (Nat.le_of_ble_eq_true rfl) (Nat.le_of_ble_eq_true rfl) hq
set_option maxRecDepth 20000 in
theorem k_X6_readItem_b22 {C : CX} {M : MX} {G : GG} {Q : OUT → MM → GG → Prop} {r : MM} (hM : MOk C RX6 cX6_readItem 3 none rmX6_readItem M) (hT : MNoT M) (hq : Q (.inl none) r G) (F : MM) (x1 : Int32) (t0 : Int32) (h : s_X6_readItem_b22 F x1 t0 = some r) : AW C 3 (ZM C rmX6_readItem Q M) M 0 0 22 [some (.ref 2), some (.int x1), none] [.int t0] F G := by
  rw [s_X6_readItem_b22] at h
  refine aw_istore_n (pc := 22) (i := 2) (L' := [some (.ref 2), some (.int x1), some (.int t0)]) hM dX6_readItem_22 rfl (by decide) rfl ?_
  refine aw_iload_n (pc := 23) (i := 1) (x := x1) hM dX6_readItem_23 rfl rfl ?_
  refine aw_bipush (pc := 24) (v := 110) hM dX6_readItem_24 (by decide) ?_
  refine aw_icmp_ne (pc := 26) (tgt := 51) hM dX6_readItem_26 (by decide) (fun c3 => ?_) (fun c3 => ?_)
  · rw [if_neg c3] at h
    exact k_X6_readItem_b51 hM hT hq F x1 t0 h
  · rw [if_pos c3] at h
    refine aw_iload_n (pc := 29) (i := 2) (x := t0) hM dX6_readItem_29 rfl rfl ?_
    refine aw_if_eq (pc := 30) (tgt := 51) hM dX6_readItem_30 (by decide) (fun c4 => ?_) (fun c4 => ?_)
    · rw [if_pos c4] at h
      exact k_X6_readItem_b51 hM hT hq F x1 t0 h
    · rw [if_neg c4] at h
      refine aw_aload_n (pc := 33) (i := 0) (x := 2) hM dX6_readItem_33 rfl rfl ?_
      refine aw_dup (pc := 34) hM dX6_readItem_34 rfl ?_
      refine aw_getI (pc := 35) hM fd_X6_43 sk_2 rfl dX6_readItem_35 ?_
      refine aw_iconst (pc := 38) (v := 1) hM dX6_readItem_38 (by decide) ?_
      refine aw_iadd (pc := 39) hM dX6_readItem_39 ?_
      obtain ⟨F5, e6, h⟩ := bind_some h
      have e6 := Option.some.inj e6
      refine aw_put (pc := 40) (ty := .int) hM fd_X6_43 tyX6_ok nmX6 rfl (by decide +kernel) rfl rfl sk_2 rfl dX6_readItem_40 ?_
      refine aw_mem e6 ?_
      refine aw_aload_n (pc := 43) (i := 0) (x := 2) hM dX6_readItem_43 rfl rfl ?_
      refine aw_iconst (pc := 44) (v := 0) hM dX6_readItem_44 (by decide) ?_
      obtain ⟨F8, h7, h⟩ := bind_some h
      refine aw_cv1 (pc := 45) (n := 1) (As := [.int 0]) (st := []) (b := 2) (vo := none) (c2 := 0) (s2 := 0) hM (k_X6_readRule h7) rfl cw_X6_87 sk_2 rfl rfl (by decide +kernel) rfl rfl ⟨(Nat.le_of_ble_eq_true rfl), (Nat.le_of_ble_eq_true rfl)⟩ (Nat.le_of_ble_eq_true rfl) ⟨(Nat.le_of_ble_eq_true rfl), (Nat.le_of_ble_eq_true rfl)⟩ dX6_readItem_45 rfl rfl ?_
      refine aw_goto (pc := 48) (tgt := 138) hM dX6_readItem_48 (by decide) ?_
      obtain rfl := Option.some.inj h
      exact aw_vret (pc := 138) hM dX6_readItem_138 (Nat.le_of_ble_eq_true rfl) (Nat.le_of_ble_eq_true rfl) hq
set_option maxRecDepth 20000 in
theorem k_X6_readItem {C : CX} {F : MM} {G : GG} {p0 : Int32} {r : MM} (h : s_X6_readItem F p0 = some r) : AM C yX6_readItem cX6_readItem 3 none rmX6_readItem [.ref 2, .int p0] F G (fun o F9 G9 => o = (.inl none) ∧ F9 = r ∧ G9 = G) := by
  refine am_of (L := [some (.ref 2), some (.int p0), none]) (by decide) (Nat.le_of_ble_eq_true rfl) rfl (fun M hM hT => ?_)
  have hM : MOk C RX6 cX6_readItem 3 none rmX6_readItem M := hM
  obtain ⟨Q, hQ⟩ : ∃ Q : OUT → MM → GG → Prop, Q = (fun o F9 G9 => o = (.inl none) ∧ F9 = r ∧ G9 = G) := ⟨_, rfl⟩
  have hq : Q (.inl none) r G := by rw [hQ]; exact ⟨rfl, rfl, rfl⟩
  rw [← hQ]
  clear hQ
  rw [s_X6_readItem] at h
  refine aw_aload_n (pc := 0) (i := 0) (x := 2) hM dX6_readItem_0 rfl rfl ?_
  refine aw_getI (pc := 1) hM fd_X6_66 sk_2 rfl dX6_readItem_1 ?_
  refine aw_iconst (pc := 4) (v := 1) hM dX6_readItem_4 (by decide) ?_
  refine aw_icmp_le (pc := 5) (tgt := 21) hM dX6_readItem_5 (by decide) (fun c1 => ?_) (fun c1 => ?_)
  · rw [if_pos c1] at h
    refine aw_iconst (pc := 21) (v := 0) hM dX6_readItem_21 (by decide) ?_
    exact k_X6_readItem_b22 hM hT hq F p0 0 h
  · rw [if_neg c1] at h
    refine aw_aload_n (pc := 8) (i := 0) (x := 2) hM dX6_readItem_8 rfl rfl ?_
    refine aw_getI (pc := 9) hM fd_X6_75 sk_2 rfl dX6_readItem_9 ?_
    refine aw_bipush (pc := 12) (v := 10) hM dX6_readItem_12 (by decide) ?_
    refine aw_icmp_ge (pc := 14) (tgt := 21) hM dX6_readItem_14 (by decide) (fun c2 => ?_) (fun c2 => ?_)
    · rw [if_pos c2] at h
      refine aw_iconst (pc := 21) (v := 0) hM dX6_readItem_21 (by decide) ?_
      exact k_X6_readItem_b22 hM hT hq F p0 0 h
    · rw [if_neg c2] at h
      refine aw_iconst (pc := 17) (v := 1) hM dX6_readItem_17 (by decide) ?_
      refine aw_goto (pc := 18) (tgt := 22) hM dX6_readItem_18 (by decide) ?_
      exact k_X6_readItem_b22 hM hT hq F p0 1 h
def rmX6_readItems : Room := { frames := 4, cells := 0, slots := 0, locals := 89 }
def s_X6_readItems_b23 : Nat → MM → Int32 → Option MM
  | 0, _, _ => none
  | n + 1, F, x1 => if 160 ≤ x1 then some F else if (F 2 13) = 0 then if (F 2 11) ≤ (F 2 12) then some F else if inb (F 2 12) 160 then ((s_X6_readItem F (F 1 (ix (F 2 12)))).bind (fun F12 => (some (x1 + 1 : Int32)).bind (fun y13 => s_X6_readItems_b23 n F12 y13))) else none else some F
def s_X6_readItems (F : MM) : Option MM := (some (mup F 2 4 0)).bind (fun F1 => (s_J7_fill_53178 F1 6 0).bind (fun F4 => (s_J7_fill_53178 F4 7 0).bind (fun F6 => s_X6_readItems_b23 fu_ F6 0)))
set_option maxRecDepth 20000 in
theorem k_X6_readItems_b23 {C : CX} {M : MX} {G : GG} {Q : OUT → MM → GG → Prop} {r : MM} (hM : MOk C RX6 cX6_readItems 2 none rmX6_readItems M) (hT : MNoT M) (hq : Q (.inl none) r G) : ∀ (n : Nat) (F : MM) (x1 : Int32), s_X6_readItems_b23 n F x1 = some r → AW C 2 (ZM C rmX6_readItems Q M) M 0 0 23 [some (.ref 2), some (.int x1)] [] F G := by
  intro n
  induction n with
  | zero => intro F x1 h; exact nomatch h
  | succ n ih =>
    intro F x1 h
    rw [s_X6_readItems_b23] at h
    refine aw_iload_n (pc := 23) (i := 1) (x := x1) hM dX6_readItems_23 rfl rfl ?_
    refine aw_sipush (pc := 24) (v := 160) hM dX6_readItems_24 (by decide) ?_
    refine aw_icmp_ge (pc := 27) (tgt := 67) hM dX6_readItems_27 (by decide) (fun c7 => ?_) (fun c7 => ?_)
    · rw [if_pos c7] at h
      obtain rfl := Option.some.inj h
      exact aw_vret (pc := 67) hM dX6_readItems_67 (Nat.le_of_ble_eq_true rfl) (Nat.le_of_ble_eq_true rfl) hq
    · rw [if_neg c7] at h
      refine aw_aload_n (pc := 30) (i := 0) (x := 2) hM dX6_readItems_30 rfl rfl ?_
      refine aw_getI (pc := 31) hM fd_X6_46 sk_2 rfl dX6_readItems_31 ?_
      refine aw_if_ne (pc := 34) (tgt := 67) hM dX6_readItems_34 (by decide) (fun c8 => ?_) (fun c8 => ?_)
      · rw [if_neg c8] at h
        obtain rfl := Option.some.inj h
        exact aw_vret (pc := 67) hM dX6_readItems_67 (Nat.le_of_ble_eq_true rfl) (Nat.le_of_ble_eq_true rfl) hq
      · rw [if_pos c8] at h
        refine aw_aload_n (pc := 37) (i := 0) (x := 2) hM dX6_readItems_37 rfl rfl ?_
        refine aw_getI (pc := 38) hM fd_X6_43 sk_2 rfl dX6_readItems_38 ?_
        refine aw_aload_n (pc := 41) (i := 0) (x := 2) hM dX6_readItems_41 rfl rfl ?_
        refine aw_getI (pc := 42) hM fd_X6_39 sk_2 rfl dX6_readItems_42 ?_
        refine aw_icmp_ge (pc := 45) (tgt := 67) hM dX6_readItems_45 (by decide) (fun c9 => ?_) (fun c9 => ?_)
        · rw [if_pos c9] at h
          obtain rfl := Option.some.inj h
          exact aw_vret (pc := 67) hM dX6_readItems_67 (Nat.le_of_ble_eq_true rfl) (Nat.le_of_ble_eq_true rfl) hq
        · rw [if_neg c9] at h
          refine aw_aload_n (pc := 48) (i := 0) (x := 2) hM dX6_readItems_48 rfl rfl ?_
          refine aw_aload_n (pc := 49) (i := 0) (x := 2) hM dX6_readItems_49 rfl rfl ?_
          refine aw_getR (pc := 50) (r := 1) hM fd_X6_29 sk_2 rfl dX6_readItems_50 ?_
          refine aw_aload_n (pc := 53) (i := 0) (x := 2) hM dX6_readItems_53 rfl rfl ?_
          refine aw_getI (pc := 54) hM fd_X6_43 sk_2 rfl dX6_readItems_54 ?_
          obtain ⟨c10, h⟩ := ite_some h
          refine aw_cald (pc := 57) hM sk_1 c10 dX6_readItems_57 ?_
          obtain ⟨F12, h11, h⟩ := bind_some h
          refine aw_cv1 (pc := 58) (n := 1) (As := [.int (F 1 (ix (F 2 12)))]) (st := []) (b := 2) (vo := none) (c2 := 0) (s2 := 0) hM (k_X6_readItem h11) rfl cw_X6_84 sk_2 rfl rfl (by decide +kernel) rfl rfl ⟨(Nat.le_of_ble_eq_true rfl), (Nat.le_of_ble_eq_true rfl)⟩ (Nat.le_of_ble_eq_true rfl) ⟨(Nat.le_of_ble_eq_true rfl), (Nat.le_of_ble_eq_true rfl)⟩ dX6_readItems_58 rfl rfl ?_
          obtain ⟨y13, e14, h⟩ := bind_some h
          have e14 := Option.some.inj e14
          refine aw_iinc (pc := 61) (v := y13) (L' := [some (.ref 2), some (.int y13)]) hM dX6_readItems_61 rfl e14 (by decide) rfl ?_
          refine aw_goto (pc := 64) (tgt := 23) hM dX6_readItems_64 (by decide) ?_
          exact ih F12 y13 h
set_option maxRecDepth 20000 in
theorem k_X6_readItems {C : CX} {F : MM} {G : GG} {r : MM} (h : s_X6_readItems F = some r) : AM C yX6_readItems cX6_readItems 2 none rmX6_readItems [.ref 2] F G (fun o F9 G9 => o = (.inl none) ∧ F9 = r ∧ G9 = G) := by
  refine am_of (L := [some (.ref 2), none]) (by decide) (Nat.le_of_ble_eq_true rfl) rfl (fun M hM hT => ?_)
  have hM : MOk C RX6 cX6_readItems 2 none rmX6_readItems M := hM
  obtain ⟨Q, hQ⟩ : ∃ Q : OUT → MM → GG → Prop, Q = (fun o F9 G9 => o = (.inl none) ∧ F9 = r ∧ G9 = G) := ⟨_, rfl⟩
  have hq : Q (.inl none) r G := by rw [hQ]; exact ⟨rfl, rfl, rfl⟩
  rw [← hQ]
  clear hQ
  rw [s_X6_readItems] at h
  refine aw_aload_n (pc := 0) (i := 0) (x := 2) hM dX6_readItems_0 rfl rfl ?_
  refine aw_iconst (pc := 1) (v := 0) hM dX6_readItems_1 (by decide) ?_
  obtain ⟨F1, e2, h⟩ := bind_some h
  have e2 := Option.some.inj e2
  refine aw_put (pc := 2) (ty := .int) hM fd_X6_75 tyX6_ok nmX6 rfl (by decide +kernel) rfl rfl sk_2 rfl dX6_readItems_2 ?_
  refine aw_mem e2 ?_
  refine aw_aload_n (pc := 5) (i := 0) (x := 2) hM dX6_readItems_5 rfl rfl ?_
  refine aw_getR (pc := 6) (r := 6) hM fd_X6_23 sk_2 rfl dX6_readItems_6 ?_
  refine aw_iconst (pc := 9) (v := 0) hM dX6_readItems_9 (by decide) ?_
  obtain ⟨F4, h3, h⟩ := bind_some h
  refine aw_cs1 (pc := 10) (n := 2) (As := [.ref 6, .int 0]) (st := []) (vo := none) (c2 := 0) (s2 := 0) hM (k_J7_fill_53178 (ia_of sk_6) h3) rfl cw_X6_78 (by decide +kernel) rfl rfl ⟨(Nat.le_of_ble_eq_true rfl), (Nat.le_of_ble_eq_true rfl)⟩ (Nat.le_of_ble_eq_true rfl) ⟨(Nat.le_of_ble_eq_true rfl), (Nat.le_of_ble_eq_true rfl)⟩ dX6_readItems_10 rfl rfl ?_
  refine aw_aload_n (pc := 13) (i := 0) (x := 2) hM dX6_readItems_13 rfl rfl ?_
  refine aw_getR (pc := 14) (r := 7) hM fd_X6_26 sk_2 rfl dX6_readItems_14 ?_
  refine aw_iconst (pc := 17) (v := 0) hM dX6_readItems_17 (by decide) ?_
  obtain ⟨F6, h5, h⟩ := bind_some h
  refine aw_cs1 (pc := 18) (n := 2) (As := [.ref 7, .int 0]) (st := []) (vo := none) (c2 := 0) (s2 := 0) hM (k_J7_fill_53178 (ia_of sk_7) h5) rfl cw_X6_78 (by decide +kernel) rfl rfl ⟨(Nat.le_of_ble_eq_true rfl), (Nat.le_of_ble_eq_true rfl)⟩ (Nat.le_of_ble_eq_true rfl) ⟨(Nat.le_of_ble_eq_true rfl), (Nat.le_of_ble_eq_true rfl)⟩ dX6_readItems_18 rfl rfl ?_
  refine aw_iconst (pc := 21) (v := 0) hM dX6_readItems_21 (by decide) ?_
  refine aw_istore_n (pc := 22) (i := 1) (L' := [some (.ref 2), some (.int 0)]) hM dX6_readItems_22 rfl (by decide) rfl ?_
  exact k_X6_readItems_b23 hM hT hq fu_ F6 0 h
def rmX6_read : Room := { frames := 5, cells := 0, slots := 0, locals := 110 }
def s_X6_read (F : MM) (p0 : Int32) : Option (Int32 × MM) := (some (mup F 2 11 (if (Int32.ofNat 160) < p0 then (Int32.ofNat 160) else p0))).bind (fun F1 => (some (mup F1 2 12 0)).bind (fun F3 => (some (mup F3 2 13 0)).bind (fun F5 => (s_X6_readHead F5).bind (fun F8 => (s_X6_readItems F8).bind (fun F10 => if (F10 2 13) = 0 then some ((-9), F10) else some (F10 2 12, F10))))))
set_option maxRecDepth 20000 in
theorem k_X6_read {C : CX} {F : MM} {G : GG} {p0 : Int32} {r : (Int32 × MM)} (h : s_X6_read F p0 = some r) : AM C yX6_read cX6_read 2 (some .int) rmX6_read [.ref 2, .int p0] F G (fun o F9 G9 => o = (.inl (some (.int r.1))) ∧ F9 = r.2 ∧ G9 = G) := by
  refine am_of (L := [some (.ref 2), some (.int p0)]) (by decide) (Nat.le_of_ble_eq_true rfl) rfl (fun M hM hT => ?_)
  have hM : MOk C RX6 cX6_read 2 (some .int) rmX6_read M := hM
  obtain ⟨Q, hQ⟩ : ∃ Q : OUT → MM → GG → Prop, Q = (fun o F9 G9 => o = (.inl (some (.int r.1))) ∧ F9 = r.2 ∧ G9 = G) := ⟨_, rfl⟩
  have hq : Q (.inl (some (.int r.1))) r.2 G := by rw [hQ]; exact ⟨rfl, rfl, rfl⟩
  rw [← hQ]
  clear hQ
  rw [s_X6_read] at h
  refine aw_aload_n (pc := 0) (i := 0) (x := 2) hM dX6_read_0 rfl rfl ?_
  refine aw_iload_n (pc := 1) (i := 1) (x := p0) hM dX6_read_1 rfl rfl ?_
  refine aw_aload_n (pc := 2) (i := 0) (x := 2) hM dX6_read_2 rfl rfl ?_
  refine aw_getR (pc := 3) (r := 1) hM fd_X6_29 sk_2 rfl dX6_read_3 ?_
  refine aw_alenC (pc := 6) (k := 0) hM sk_1 dX6_read_6 ?_
  refine aw_mmin (pc := 7) hM gw_349 gw_350 gw_71 gw_351 (Nat.le_of_ble_eq_true rfl) (Nat.le_of_ble_eq_true rfl) (Nat.le_of_ble_eq_true rfl) (Nat.le_of_ble_eq_true rfl) dX6_read_7 ?_
  obtain ⟨F1, e2, h⟩ := bind_some h
  have e2 := Option.some.inj e2
  refine aw_put (pc := 10) (ty := .int) hM fd_X6_39 tyX6_ok nmX6 rfl (by decide +kernel) rfl rfl sk_2 rfl dX6_read_10 ?_
  refine aw_mem e2 ?_
  refine aw_aload_n (pc := 13) (i := 0) (x := 2) hM dX6_read_13 rfl rfl ?_
  refine aw_iconst (pc := 14) (v := 0) hM dX6_read_14 (by decide) ?_
  obtain ⟨F3, e4, h⟩ := bind_some h
  have e4 := Option.some.inj e4
  refine aw_put (pc := 15) (ty := .int) hM fd_X6_43 tyX6_ok nmX6 rfl (by decide +kernel) rfl rfl sk_2 rfl dX6_read_15 ?_
  refine aw_mem e4 ?_
  refine aw_aload_n (pc := 18) (i := 0) (x := 2) hM dX6_read_18 rfl rfl ?_
  refine aw_iconst (pc := 19) (v := 0) hM dX6_read_19 (by decide) ?_
  obtain ⟨F5, e6, h⟩ := bind_some h
  have e6 := Option.some.inj e6
  refine aw_put (pc := 20) (ty := .boolean) hM fd_X6_46 tyX6_ok nmX6 rfl (by decide +kernel) (nz_ (by decide)) (fz_ (by decide)) sk_2 rfl dX6_read_20 ?_
  refine aw_mem e6 ?_
  refine aw_aload_n (pc := 23) (i := 0) (x := 2) hM dX6_read_23 rfl rfl ?_
  obtain ⟨F8, h7, h⟩ := bind_some h
  refine aw_cv1 (pc := 24) (n := 0) (As := []) (st := []) (b := 2) (vo := none) (c2 := 0) (s2 := 0) hM (k_X6_readHead h7) rfl cw_X6_50 sk_2 rfl rfl (by decide +kernel) rfl rfl ⟨(Nat.le_of_ble_eq_true rfl), (Nat.le_of_ble_eq_true rfl)⟩ (Nat.le_of_ble_eq_true rfl) ⟨(Nat.le_of_ble_eq_true rfl), (Nat.le_of_ble_eq_true rfl)⟩ dX6_read_24 rfl rfl ?_
  refine aw_aload_n (pc := 27) (i := 0) (x := 2) hM dX6_read_27 rfl rfl ?_
  obtain ⟨F10, h9, h⟩ := bind_some h
  refine aw_cv1 (pc := 28) (n := 0) (As := []) (st := []) (b := 2) (vo := none) (c2 := 0) (s2 := 0) hM (k_X6_readItems h9) rfl cw_X6_53 sk_2 rfl rfl (by decide +kernel) rfl rfl ⟨(Nat.le_of_ble_eq_true rfl), (Nat.le_of_ble_eq_true rfl)⟩ (Nat.le_of_ble_eq_true rfl) ⟨(Nat.le_of_ble_eq_true rfl), (Nat.le_of_ble_eq_true rfl)⟩ dX6_read_28 rfl rfl ?_
  refine aw_aload_n (pc := 31) (i := 0) (x := 2) hM dX6_read_31 rfl rfl ?_
  refine aw_getI (pc := 32) hM fd_X6_46 sk_2 rfl dX6_read_32 ?_
  refine aw_if_eq (pc := 35) (tgt := 45) hM dX6_read_35 (by decide) (fun c11 => ?_) (fun c11 => ?_)
  · rw [if_pos c11] at h
    refine aw_bipush (pc := 45) (v := (-9)) hM dX6_read_45 (by decide) ?_
    obtain rfl := Option.some.inj h
    exact aw_iret (pc := 47) hM dX6_read_47 (Nat.le_of_ble_eq_true rfl) (Nat.le_of_ble_eq_true rfl) hq
  · rw [if_neg c11] at h
    refine aw_aload_n (pc := 38) (i := 0) (x := 2) hM dX6_read_38 rfl rfl ?_
    refine aw_getI (pc := 39) hM fd_X6_43 sk_2 rfl dX6_read_39 ?_
    refine aw_goto (pc := 42) (tgt := 47) hM dX6_read_42 (by decide) ?_
    obtain rfl := Option.some.inj h
    exact aw_iret (pc := 47) hM dX6_read_47 (Nat.le_of_ble_eq_true rfl) (Nat.le_of_ble_eq_true rfl) hq
def rmX7_afterChange : Room := { frames := 1, cells := 0, slots := 0, locals := 22 }
def s_X7_afterChange (F : MM) (p0 : Int32) (p1 : Int32) : Option Int32 := (s_X0_with F p0 (p1 >>> (2 &&& 31)) (p1 &&& 3)).bind (fun r2 => some r2)
set_option maxRecDepth 20000 in
theorem k_X7_afterChange {C : CX} {F : MM} {G : GG} {p0 : Int32} {p1 : Int32} {r : Int32} (h : s_X7_afterChange F p0 p1 = some r) : AM C yX7_afterChange cX7_afterChange 2 (some .int) rmX7_afterChange [.int p0, .int p1] F G (fun o F9 G9 => o = (.inl (some (.int r))) ∧ F9 = F ∧ G9 = G) := by
  refine am_of (L := [some (.int p0), some (.int p1)]) (by decide) (Nat.le_of_ble_eq_true rfl) rfl (fun M hM hT => ?_)
  have hM : MOk C RX7 cX7_afterChange 2 (some .int) rmX7_afterChange M := hM
  obtain ⟨Q, hQ⟩ : ∃ Q : OUT → MM → GG → Prop, Q = (fun o F9 G9 => o = (.inl (some (.int r))) ∧ F9 = F ∧ G9 = G) := ⟨_, rfl⟩
  have hq : Q (.inl (some (.int r))) F G := by rw [hQ]; exact ⟨rfl, rfl, rfl⟩
  rw [← hQ]
  clear hQ
  rw [s_X7_afterChange] at h
  refine aw_iload_n (pc := 0) (i := 0) (x := p0) hM dX7_afterChange_0 rfl rfl ?_
  refine aw_iload_n (pc := 1) (i := 1) (x := p1) hM dX7_afterChange_1 rfl rfl ?_
  refine aw_iconst (pc := 2) (v := 2) hM dX7_afterChange_2 (by decide) ?_
  refine aw_ishr (pc := 3) hM dX7_afterChange_3 ?_
  refine aw_iload_n (pc := 4) (i := 1) (x := p1) hM dX7_afterChange_4 rfl rfl ?_
  refine aw_iconst (pc := 5) (v := 3) hM dX7_afterChange_5 (by decide) ?_
  refine aw_iand (pc := 6) hM dX7_afterChange_6 ?_
  obtain ⟨r2, h1, h⟩ := bind_some h
  refine aw_cs1 (pc := 7) (n := 3) (As := [.int p0, .int (p1 >>> (2 &&& 31)), .int (p1 &&& 3)]) (st := []) (vo := (some (.int r2))) (c2 := 0) (s2 := 0) hM (k_X0_with h1) rfl cw_X7_77 (by decide +kernel) rfl rfl ⟨(Nat.le_of_ble_eq_true rfl), (Nat.le_of_ble_eq_true rfl)⟩ (Nat.le_of_ble_eq_true rfl) ⟨(Nat.le_of_ble_eq_true rfl), (Nat.le_of_ble_eq_true rfl)⟩ dX7_afterChange_7 rfl rfl ?_
  obtain rfl := Option.some.inj h
  exact aw_iret (pc := 10) hM dX7_afterChange_10 (Nat.le_of_ble_eq_true rfl) (Nat.le_of_ble_eq_true rfl) hq
def rmX7_enqueue : Room := { frames := 0, cells := 0, slots := 0, locals := 0 }
def s_X7_enqueue (F : MM) (p0 : Int32) (p1 : Int32) : Option MM := if 4096 ≤ (F 13 5) then some F else if inb (p0 &&& 4095) 4096 then ((some (mup F 14 (ix (p0 &&& 4095)) p1)).bind (fun F3 => if inb (F3 13 5) 4096 then ((some (mup F3 15 (ix (F3 13 5)) p0)).bind (fun F6 => (some (mup F6 13 5 ((F6 13 5) + 1))).bind (fun F8 => some F8))) else none)) else none
set_option maxRecDepth 20000 in
theorem k_X7_enqueue {C : CX} {F : MM} {G : GG} {p0 : Int32} {p1 : Int32} {r : MM} (h : s_X7_enqueue F p0 p1 = some r) : AM C yX7_enqueue cX7_enqueue 3 none rmX7_enqueue [.ref 13, .int p0, .int p1] F G (fun o F9 G9 => o = (.inl none) ∧ F9 = r ∧ G9 = G) := by
  refine am_of (L := [some (.ref 13), some (.int p0), some (.int p1)]) (by decide) (Nat.le_of_ble_eq_true rfl) rfl (fun M hM hT => ?_)
  have hM : MOk C RX7 cX7_enqueue 3 none rmX7_enqueue M := hM
  obtain ⟨Q, hQ⟩ : ∃ Q : OUT → MM → GG → Prop, Q = (fun o F9 G9 => o = (.inl none) ∧ F9 = r ∧ G9 = G) := ⟨_, rfl⟩
  have hq : Q (.inl none) r G := by rw [hQ]; exact ⟨rfl, rfl, rfl⟩
  rw [← hQ]
  clear hQ
  rw [s_X7_enqueue] at h
  refine aw_aload_n (pc := 0) (i := 0) (x := 13) hM dX7_enqueue_0 rfl rfl ?_
  refine aw_getI (pc := 1) hM fd_X7_33 sk_13 rfl dX7_enqueue_1 ?_
  refine aw_sipush (pc := 4) (v := 4096) hM dX7_enqueue_4 (by decide) ?_
  refine aw_icmp_ge (pc := 7) (tgt := 41) hM dX7_enqueue_7 (by decide) (fun c1 => ?_) (fun c1 => ?_)
  · rw [if_pos c1] at h
    obtain rfl := Option.some.inj h
    exact aw_vret (pc := 41) hM dX7_enqueue_41 (Nat.le_of_ble_eq_true rfl) (Nat.le_of_ble_eq_true rfl) hq
  · rw [if_neg c1] at h
    refine aw_aload_n (pc := 10) (i := 0) (x := 13) hM dX7_enqueue_10 rfl rfl ?_
    refine aw_getR (pc := 11) (r := 14) hM fd_X7_9 sk_13 rfl dX7_enqueue_11 ?_
    refine aw_iload_n (pc := 14) (i := 1) (x := p0) hM dX7_enqueue_14 rfl rfl ?_
    refine aw_sipush (pc := 15) (v := 4095) hM dX7_enqueue_15 (by decide) ?_
    refine aw_iand (pc := 18) hM dX7_enqueue_18 ?_
    refine aw_iload_n (pc := 19) (i := 2) (x := p1) hM dX7_enqueue_19 rfl rfl ?_
    obtain ⟨c2, h⟩ := ite_some h
    obtain ⟨F3, e4, h⟩ := bind_some h
    have e4 := Option.some.inj e4
    refine aw_iast (pc := 20) hM sk_14 c2 dX7_enqueue_20 ?_
    refine aw_mem e4 ?_
    refine aw_aload_n (pc := 21) (i := 0) (x := 13) hM dX7_enqueue_21 rfl rfl ?_
    refine aw_getR (pc := 22) (r := 15) hM fd_X7_15 sk_13 rfl dX7_enqueue_22 ?_
    refine aw_aload_n (pc := 25) (i := 0) (x := 13) hM dX7_enqueue_25 rfl rfl ?_
    refine aw_getI (pc := 26) hM fd_X7_33 sk_13 rfl dX7_enqueue_26 ?_
    refine aw_iload_n (pc := 29) (i := 1) (x := p0) hM dX7_enqueue_29 rfl rfl ?_
    obtain ⟨c5, h⟩ := ite_some h
    obtain ⟨F6, e7, h⟩ := bind_some h
    have e7 := Option.some.inj e7
    refine aw_iast (pc := 30) hM sk_15 c5 dX7_enqueue_30 ?_
    refine aw_mem e7 ?_
    refine aw_aload_n (pc := 31) (i := 0) (x := 13) hM dX7_enqueue_31 rfl rfl ?_
    refine aw_dup (pc := 32) hM dX7_enqueue_32 rfl ?_
    refine aw_getI (pc := 33) hM fd_X7_33 sk_13 rfl dX7_enqueue_33 ?_
    refine aw_iconst (pc := 36) (v := 1) hM dX7_enqueue_36 (by decide) ?_
    refine aw_iadd (pc := 37) hM dX7_enqueue_37 ?_
    obtain ⟨F8, e9, h⟩ := bind_some h
    have e9 := Option.some.inj e9
    refine aw_put (pc := 38) (ty := .int) hM fd_X7_33 tyX7_ok nmX7 rfl (by decide +kernel) rfl rfl sk_13 rfl dX7_enqueue_38 ?_
    refine aw_mem e9 ?_
    obtain rfl := Option.some.inj h
    exact aw_vret (pc := 41) hM dX7_enqueue_41 (Nat.le_of_ble_eq_true rfl) (Nat.le_of_ble_eq_true rfl) hq
def rmX7_aimAt : Room := { frames := 1, cells := 0, slots := 0, locals := 23 }
def s_X7_aimAt (F : MM) (p0 : Int32) : Option MM := (some (mup F 13 3 p0)).bind (fun F1 => (s_J7_fill_53178 F1 14 (-9)).bind (fun F4 => (some (mup F4 13 4 0)).bind (fun F5 => (some (mup F5 13 5 0)).bind (fun F7 => (s_X7_enqueue F7 p0 0).bind (fun F10 => some F10)))))
set_option maxRecDepth 20000 in
theorem k_X7_aimAt {C : CX} {F : MM} {G : GG} {p0 : Int32} {r : MM} (h : s_X7_aimAt F p0 = some r) : AM C yX7_aimAt cX7_aimAt 2 none rmX7_aimAt [.ref 13, .int p0] F G (fun o F9 G9 => o = (.inl none) ∧ F9 = r ∧ G9 = G) := by
  refine am_of (L := [some (.ref 13), some (.int p0)]) (by decide) (Nat.le_of_ble_eq_true rfl) rfl (fun M hM hT => ?_)
  have hM : MOk C RX7 cX7_aimAt 2 none rmX7_aimAt M := hM
  obtain ⟨Q, hQ⟩ : ∃ Q : OUT → MM → GG → Prop, Q = (fun o F9 G9 => o = (.inl none) ∧ F9 = r ∧ G9 = G) := ⟨_, rfl⟩
  have hq : Q (.inl none) r G := by rw [hQ]; exact ⟨rfl, rfl, rfl⟩
  rw [← hQ]
  clear hQ
  rw [s_X7_aimAt] at h
  refine aw_aload_n (pc := 0) (i := 0) (x := 13) hM dX7_aimAt_0 rfl rfl ?_
  refine aw_iload_n (pc := 1) (i := 1) (x := p0) hM dX7_aimAt_1 rfl rfl ?_
  obtain ⟨F1, e2, h⟩ := bind_some h
  have e2 := Option.some.inj e2
  refine aw_put (pc := 2) (ty := .int) hM fd_X7_18 tyX7_ok nmX7 rfl (by decide +kernel) rfl rfl sk_13 rfl dX7_aimAt_2 ?_
  refine aw_mem e2 ?_
  refine aw_aload_n (pc := 5) (i := 0) (x := 13) hM dX7_aimAt_5 rfl rfl ?_
  refine aw_getR (pc := 6) (r := 14) hM fd_X7_9 sk_13 rfl dX7_aimAt_6 ?_
  refine aw_bipush (pc := 9) (v := (-9)) hM dX7_aimAt_9 (by decide) ?_
  obtain ⟨F4, h3, h⟩ := bind_some h
  refine aw_cs1 (pc := 11) (n := 2) (As := [.ref 14, .int (-9)]) (st := []) (vo := none) (c2 := 0) (s2 := 0) hM (k_J7_fill_53178 (ia_of sk_14) h3) rfl cw_X7_43 (by decide +kernel) rfl rfl ⟨(Nat.le_of_ble_eq_true rfl), (Nat.le_of_ble_eq_true rfl)⟩ (Nat.le_of_ble_eq_true rfl) ⟨(Nat.le_of_ble_eq_true rfl), (Nat.le_of_ble_eq_true rfl)⟩ dX7_aimAt_11 rfl rfl ?_
  refine aw_aload_n (pc := 14) (i := 0) (x := 13) hM dX7_aimAt_14 rfl rfl ?_
  refine aw_iconst (pc := 15) (v := 0) hM dX7_aimAt_15 (by decide) ?_
  obtain ⟨F5, e6, h⟩ := bind_some h
  have e6 := Option.some.inj e6
  refine aw_put (pc := 16) (ty := .int) hM fd_X7_30 tyX7_ok nmX7 rfl (by decide +kernel) rfl rfl sk_13 rfl dX7_aimAt_16 ?_
  refine aw_mem e6 ?_
  refine aw_aload_n (pc := 19) (i := 0) (x := 13) hM dX7_aimAt_19 rfl rfl ?_
  refine aw_iconst (pc := 20) (v := 0) hM dX7_aimAt_20 (by decide) ?_
  obtain ⟨F7, e8, h⟩ := bind_some h
  have e8 := Option.some.inj e8
  refine aw_put (pc := 21) (ty := .int) hM fd_X7_33 tyX7_ok nmX7 rfl (by decide +kernel) rfl rfl sk_13 rfl dX7_aimAt_21 ?_
  refine aw_mem e8 ?_
  refine aw_aload_n (pc := 24) (i := 0) (x := 13) hM dX7_aimAt_24 rfl rfl ?_
  refine aw_iload_n (pc := 25) (i := 1) (x := p0) hM dX7_aimAt_25 rfl rfl ?_
  refine aw_iconst (pc := 26) (v := 0) hM dX7_aimAt_26 (by decide) ?_
  obtain ⟨F10, h9, h⟩ := bind_some h
  refine aw_cv1 (pc := 27) (n := 2) (As := [.int p0, .int 0]) (st := []) (b := 13) (vo := none) (c2 := 0) (s2 := 0) hM (k_X7_enqueue h9) rfl cw_X7_49 sk_13 rfl rfl (by decide +kernel) rfl rfl ⟨(Nat.le_of_ble_eq_true rfl), (Nat.le_of_ble_eq_true rfl)⟩ (Nat.le_of_ble_eq_true rfl) ⟨(Nat.le_of_ble_eq_true rfl), (Nat.le_of_ble_eq_true rfl)⟩ dX7_aimAt_27 rfl rfl ?_
  obtain rfl := Option.some.inj h
  exact aw_vret (pc := 30) hM dX7_aimAt_30 (Nat.le_of_ble_eq_true rfl) (Nat.le_of_ble_eq_true rfl) hq
def rmX7_distanceOf : Room := { frames := 0, cells := 0, slots := 0, locals := 0 }
def s_X7_distanceOf (F : MM) (p0 : Int32) : Option Int32 := if inb (p0 &&& 4095) 4096 then (some (F 14 (ix (p0 &&& 4095)))) else none
set_option maxRecDepth 20000 in
theorem k_X7_distanceOf {C : CX} {F : MM} {G : GG} {p0 : Int32} {r : Int32} (h : s_X7_distanceOf F p0 = some r) : AM C yX7_distanceOf cX7_distanceOf 2 (some .int) rmX7_distanceOf [.ref 13, .int p0] F G (fun o F9 G9 => o = (.inl (some (.int r))) ∧ F9 = F ∧ G9 = G) := by
  refine am_of (L := [some (.ref 13), some (.int p0)]) (by decide) (Nat.le_of_ble_eq_true rfl) rfl (fun M hM hT => ?_)
  have hM : MOk C RX7 cX7_distanceOf 2 (some .int) rmX7_distanceOf M := hM
  obtain ⟨Q, hQ⟩ : ∃ Q : OUT → MM → GG → Prop, Q = (fun o F9 G9 => o = (.inl (some (.int r))) ∧ F9 = F ∧ G9 = G) := ⟨_, rfl⟩
  have hq : Q (.inl (some (.int r))) F G := by rw [hQ]; exact ⟨rfl, rfl, rfl⟩
  rw [← hQ]
  clear hQ
  rw [s_X7_distanceOf] at h
  refine aw_aload_n (pc := 0) (i := 0) (x := 13) hM dX7_distanceOf_0 rfl rfl ?_
  refine aw_getR (pc := 1) (r := 14) hM fd_X7_9 sk_13 rfl dX7_distanceOf_1 ?_
  refine aw_iload_n (pc := 4) (i := 1) (x := p0) hM dX7_distanceOf_4 rfl rfl ?_
  refine aw_sipush (pc := 5) (v := 4095) hM dX7_distanceOf_5 (by decide) ?_
  refine aw_iand (pc := 8) hM dX7_distanceOf_8 ?_
  obtain ⟨c1, h⟩ := ite_some h
  refine aw_iald (pc := 9) hM sk_14 c1 dX7_distanceOf_9 ?_
  obtain rfl := Option.some.inj h
  exact aw_iret (pc := 10) hM dX7_distanceOf_10 (Nat.le_of_ble_eq_true rfl) (Nat.le_of_ble_eq_true rfl) hq
def rmX7_bestChange : Room := { frames := 2, cells := 0, slots := 0, locals := 43 }
def s_X7_bestChange_b10 (F : MM) : Nat → Int32 → Int32 → Int32 → Option Int32
  | 0, _, _, _ => none
  | n + 1, x1, x2, x3 => if (4 * (F 8 1)) ≤ x3 then some 0 else (s_X7_afterChange F x1 x3).bind (fun r7 => (s_X7_distanceOf F r7).bind (fun r9 => if r9 = x2 then (s_X4_newlyBroken F x1 r7).bind (fun r14 => if r14 = 0 then some x3 else (some (x3 + 1 : Int32)).bind (fun y16 => s_X7_bestChange_b10 F n x1 x2 y16)) else (some (x3 + 1 : Int32)).bind (fun y11 => s_X7_bestChange_b10 F n x1 x2 y11)))
def s_X7_bestChange (F : MM) (p0 : Int32) : Option Int32 := (s_X7_distanceOf F p0).bind (fun r2 => (some (r2 - 1 : Int32)).bind (fun y3 => s_X7_bestChange_b10 F fu_ p0 y3 0))
set_option maxRecDepth 20000 in
theorem k_X7_bestChange_b10 {C : CX} {M : MX} {G : GG} {Q : OUT → MM → GG → Prop} {F : MM} {r : Int32} (hM : MOk C RX7 cX7_bestChange 5 (some .int) rmX7_bestChange M) (hT : MNoT M) (hq : Q (.inl (some (.int r))) F G) : ∀ (n : Nat) (x1 : Int32) (x2 : Int32) (x3 : Int32), s_X7_bestChange_b10 F n x1 x2 x3 = some r → AW C 5 (ZM C rmX7_bestChange Q M) M 0 0 10 [some (.ref 13), some (.int x1), some (.int x2), some (.int x3), none] [] F G := by
  intro n
  induction n with
  | zero => intro x1 x2 x3 h; exact nomatch h
  | succ n ih =>
    intro x1 x2 x3 h
    rw [s_X7_bestChange_b10] at h
    refine aw_iload_n (pc := 10) (i := 3) (x := x3) hM dX7_bestChange_10 rfl rfl ?_
    refine aw_iconst (pc := 11) (v := 4) hM dX7_bestChange_11 (by decide) ?_
    refine aw_aload_n (pc := 12) (i := 0) (x := 13) hM dX7_bestChange_12 rfl rfl ?_
    refine aw_getR (pc := 13) (r := 8) hM fd_X7_22 sk_13 rfl dX7_bestChange_13 ?_
    refine aw_getI (pc := 16) hM fd_X7_53 sk_8 rfl dX7_bestChange_16 ?_
    refine aw_imul (pc := 19) hM dX7_bestChange_19 ?_
    refine aw_icmp_ge (pc := 20) (tgt := 64) hM dX7_bestChange_20 (by decide) (fun c5 => ?_) (fun c5 => ?_)
    · rw [if_pos c5] at h
      refine aw_iconst (pc := 64) (v := 0) hM dX7_bestChange_64 (by decide) ?_
      obtain rfl := Option.some.inj h
      exact aw_iret (pc := 65) hM dX7_bestChange_65 (Nat.le_of_ble_eq_true rfl) (Nat.le_of_ble_eq_true rfl) hq
    · rw [if_neg c5] at h
      refine aw_iload_n (pc := 23) (i := 1) (x := x1) hM dX7_bestChange_23 rfl rfl ?_
      refine aw_iload_n (pc := 24) (i := 3) (x := x3) hM dX7_bestChange_24 rfl rfl ?_
      obtain ⟨r7, h6, h⟩ := bind_some h
      refine aw_cs1 (pc := 25) (n := 2) (As := [.int x1, .int x3]) (st := []) (vo := (some (.int r7))) (c2 := 0) (s2 := 0) hM (k_X7_afterChange h6) rfl cw_X7_74 (by decide +kernel) rfl rfl ⟨(Nat.le_of_ble_eq_true rfl), (Nat.le_of_ble_eq_true rfl)⟩ (Nat.le_of_ble_eq_true rfl) ⟨(Nat.le_of_ble_eq_true rfl), (Nat.le_of_ble_eq_true rfl)⟩ dX7_bestChange_25 rfl rfl ?_
      refine aw_istore (pc := 28) (i := 4) (L' := [some (.ref 13), some (.int x1), some (.int x2), some (.int x3), some (.int r7)]) hM dX7_bestChange_28  (by decide) rfl ?_
      refine aw_aload_n (pc := 30) (i := 0) (x := 13) hM dX7_bestChange_30 rfl rfl ?_
      refine aw_iload (pc := 31) (i := 4) (x := r7) hM dX7_bestChange_31  rfl ?_
      obtain ⟨r9, h8, h⟩ := bind_some h
      refine aw_cv1 (pc := 33) (n := 1) (As := [.int r7]) (st := []) (b := 13) (vo := (some (.int r9))) (c2 := 0) (s2 := 0) hM (k_X7_distanceOf h8) rfl cw_X7_36 sk_13 rfl rfl (by decide +kernel) rfl rfl ⟨(Nat.le_of_ble_eq_true rfl), (Nat.le_of_ble_eq_true rfl)⟩ (Nat.le_of_ble_eq_true rfl) ⟨(Nat.le_of_ble_eq_true rfl), (Nat.le_of_ble_eq_true rfl)⟩ dX7_bestChange_33 rfl rfl ?_
      refine aw_iload_n (pc := 36) (i := 2) (x := x2) hM dX7_bestChange_36 rfl rfl ?_
      refine aw_icmp_ne (pc := 37) (tgt := 58) hM dX7_bestChange_37 (by decide) (fun c10 => ?_) (fun c10 => ?_)
      · rw [if_neg c10] at h
        obtain ⟨y11, e12, h⟩ := bind_some h
        have e12 := Option.some.inj e12
        refine aw_iinc (pc := 58) (v := y11) (L' := [some (.ref 13), some (.int x1), some (.int x2), some (.int y11), some (.int r7)]) hM dX7_bestChange_58 rfl e12 (by decide) rfl ?_
        refine aw_goto (pc := 61) (tgt := 10) hM dX7_bestChange_61 (by decide) ?_
        refine aw_weak (L' := [some (.ref 13), some (.int x1), some (.int x2), some (.int y11), none]) ?_ (lw_of [true, true, true, true, false] rfl)
        exact ih x1 x2 y11 h
      · rw [if_pos c10] at h
        refine aw_aload_n (pc := 40) (i := 0) (x := 13) hM dX7_bestChange_40 rfl rfl ?_
        refine aw_getR (pc := 41) (r := 8) hM fd_X7_22 sk_13 rfl dX7_bestChange_41 ?_
        refine aw_getR (pc := 44) (r := 10) hM fd_X7_58 sk_8 rfl dX7_bestChange_44 ?_
        refine aw_iload_n (pc := 47) (i := 1) (x := x1) hM dX7_bestChange_47 rfl rfl ?_
        refine aw_iload (pc := 48) (i := 4) (x := r7) hM dX7_bestChange_48  rfl ?_
        obtain ⟨r14, h13, h⟩ := bind_some h
        refine aw_cv1 (pc := 50) (n := 2) (As := [.int x1, .int r7]) (st := []) (b := 10) (vo := (some (.int r14))) (c2 := 0) (s2 := 0) hM (k_X4_newlyBroken h13) rfl cw_X7_62 sk_10 rfl rfl (by decide +kernel) rfl rfl ⟨(Nat.le_of_ble_eq_true rfl), (Nat.le_of_ble_eq_true rfl)⟩ (Nat.le_of_ble_eq_true rfl) ⟨(Nat.le_of_ble_eq_true rfl), (Nat.le_of_ble_eq_true rfl)⟩ dX7_bestChange_50 rfl rfl ?_
        refine aw_if_ne (pc := 53) (tgt := 58) hM dX7_bestChange_53 (by decide) (fun c15 => ?_) (fun c15 => ?_)
        · rw [if_neg c15] at h
          obtain ⟨y16, e17, h⟩ := bind_some h
          have e17 := Option.some.inj e17
          refine aw_iinc (pc := 58) (v := y16) (L' := [some (.ref 13), some (.int x1), some (.int x2), some (.int y16), some (.int r7)]) hM dX7_bestChange_58 rfl e17 (by decide) rfl ?_
          refine aw_goto (pc := 61) (tgt := 10) hM dX7_bestChange_61 (by decide) ?_
          refine aw_weak (L' := [some (.ref 13), some (.int x1), some (.int x2), some (.int y16), none]) ?_ (lw_of [true, true, true, true, false] rfl)
          exact ih x1 x2 y16 h
        · rw [if_pos c15] at h
          refine aw_iload_n (pc := 56) (i := 3) (x := x3) hM dX7_bestChange_56 rfl rfl ?_
          obtain rfl := Option.some.inj h
          exact aw_iret (pc := 57) hM dX7_bestChange_57 (Nat.le_of_ble_eq_true rfl) (Nat.le_of_ble_eq_true rfl) hq
set_option maxRecDepth 20000 in
theorem k_X7_bestChange {C : CX} {F : MM} {G : GG} {p0 : Int32} {r : Int32} (h : s_X7_bestChange F p0 = some r) : AM C yX7_bestChange cX7_bestChange 5 (some .int) rmX7_bestChange [.ref 13, .int p0] F G (fun o F9 G9 => o = (.inl (some (.int r))) ∧ F9 = F ∧ G9 = G) := by
  refine am_of (L := [some (.ref 13), some (.int p0), none, none, none]) (by decide) (Nat.le_of_ble_eq_true rfl) rfl (fun M hM hT => ?_)
  have hM : MOk C RX7 cX7_bestChange 5 (some .int) rmX7_bestChange M := hM
  obtain ⟨Q, hQ⟩ : ∃ Q : OUT → MM → GG → Prop, Q = (fun o F9 G9 => o = (.inl (some (.int r))) ∧ F9 = F ∧ G9 = G) := ⟨_, rfl⟩
  have hq : Q (.inl (some (.int r))) F G := by rw [hQ]; exact ⟨rfl, rfl, rfl⟩
  rw [← hQ]
  clear hQ
  rw [s_X7_bestChange] at h
  refine aw_aload_n (pc := 0) (i := 0) (x := 13) hM dX7_bestChange_0 rfl rfl ?_
  refine aw_iload_n (pc := 1) (i := 1) (x := p0) hM dX7_bestChange_1 rfl rfl ?_
  obtain ⟨r2, h1, h⟩ := bind_some h
  refine aw_cv1 (pc := 2) (n := 1) (As := [.int p0]) (st := []) (b := 13) (vo := (some (.int r2))) (c2 := 0) (s2 := 0) hM (k_X7_distanceOf h1) rfl cw_X7_36 sk_13 rfl rfl (by decide +kernel) rfl rfl ⟨(Nat.le_of_ble_eq_true rfl), (Nat.le_of_ble_eq_true rfl)⟩ (Nat.le_of_ble_eq_true rfl) ⟨(Nat.le_of_ble_eq_true rfl), (Nat.le_of_ble_eq_true rfl)⟩ dX7_bestChange_2 rfl rfl ?_
  refine aw_iconst (pc := 5) (v := 1) hM dX7_bestChange_5 (by decide) ?_
  refine aw_isub (pc := 6) hM dX7_bestChange_6 ?_
  obtain ⟨y3, e4, h⟩ := bind_some h
  have e4 := Option.some.inj e4
  refine aw_topi e4 ?_
  refine aw_istore_n (pc := 7) (i := 2) (L' := [some (.ref 13), some (.int p0), some (.int y3), none, none]) hM dX7_bestChange_7 rfl (by decide) rfl ?_
  refine aw_iconst (pc := 8) (v := 0) hM dX7_bestChange_8 (by decide) ?_
  refine aw_istore_n (pc := 9) (i := 3) (L' := [some (.ref 13), some (.int p0), some (.int y3), some (.int 0), none]) hM dX7_bestChange_9 rfl (by decide) rfl ?_
  exact k_X7_bestChange_b10 hM hT hq fu_ p0 y3 0 h
def rmX7_reachFrom : Room := { frames := 1, cells := 0, slots := 0, locals := 22 }
def s_X7_reachFrom_b24 (k10 : MM → Int32 → Int32 → Int32 → Option MM) : Nat → MM → Int32 → Int32 → Int32 → Int32 → Option MM
  | 0, _, _, _, _, _ => none
  | n + 1, F, x1, x2, x3, x4 => if 4 ≤ x4 then (some (x3 + 1 : Int32)).bind (fun y7 => k10 F x1 x2 y7) else (some (x1 ^^^ (x4 <<< ((2 * x3) &&& 31)) : Int32)).bind (fun y9 => (s_X7_distanceOf F y9).bind (fun r12 => if r12 = (-9) then (s_X4_newlyBroken F y9 x1).bind (fun r17 => if r17 = 0 then (s_X7_enqueue F y9 x2).bind (fun F22 => (some (x4 + 1 : Int32)).bind (fun y23 => s_X7_reachFrom_b24 k10 n F22 x1 x2 x3 y23)) else (some (x4 + 1 : Int32)).bind (fun y19 => s_X7_reachFrom_b24 k10 n F x1 x2 x3 y19)) else (some (x4 + 1 : Int32)).bind (fun y14 => s_X7_reachFrom_b24 k10 n F x1 x2 x3 y14)))
def s_X7_reachFrom_b10 : Nat → MM → Int32 → Int32 → Int32 → Option MM
  | 0, _, _, _, _ => none
  | n + 1, F, x1, x2, x3 => if (F 8 1) ≤ x3 then some F else s_X7_reachFrom_b24 (s_X7_reachFrom_b10 n) fu_ F x1 x2 x3 1
def s_X7_reachFrom (F : MM) (p0 : Int32) : Option MM := (s_X7_distanceOf F p0).bind (fun r2 => (some (r2 + 1 : Int32)).bind (fun y3 => s_X7_reachFrom_b10 fu_ F p0 y3 0))
set_option maxRecDepth 20000 in
theorem k_X7_reachFrom_b24 {C : CX} {M : MX} {G : GG} {Q : OUT → MM → GG → Prop} {k10 : MM → Int32 → Int32 → Int32 → Option MM} {r : MM} (hM : MOk C RX7 cX7_reachFrom 6 none rmX7_reachFrom M) (hT : MNoT M) (hk10 : ∀ (wF : MM) (w0 : Int32) (w1 : Int32) (w2 : Int32), k10 wF w0 w1 w2 = some r → AW C 6 (ZM C rmX7_reachFrom Q M) M 0 0 10 [some (.ref 13), some (.int w0), some (.int w1), some (.int w2), none, none] [] wF G) (hq : Q (.inl none) r G) : ∀ (n : Nat) (F : MM) (x1 : Int32) (x2 : Int32) (x3 : Int32) (x4 : Int32), s_X7_reachFrom_b24 k10 n F x1 x2 x3 x4 = some r → AW C 6 (ZM C rmX7_reachFrom Q M) M 0 0 24 [some (.ref 13), some (.int x1), some (.int x2), some (.int x3), some (.int x4), none] [] F G := by
  intro n
  induction n with
  | zero => intro F x1 x2 x3 x4 h; exact nomatch h
  | succ n ih =>
    intro F x1 x2 x3 x4 h
    rw [s_X7_reachFrom_b24] at h
    refine aw_iload (pc := 24) (i := 4) (x := x4) hM dX7_reachFrom_24  rfl ?_
    refine aw_iconst (pc := 26) (v := 4) hM dX7_reachFrom_26 (by decide) ?_
    refine aw_icmp_ge (pc := 27) (tgt := 80) hM dX7_reachFrom_27 (by decide) (fun c6 => ?_) (fun c6 => ?_)
    · rw [if_pos c6] at h
      obtain ⟨y7, e8, h⟩ := bind_some h
      have e8 := Option.some.inj e8
      refine aw_iinc (pc := 80) (v := y7) (L' := [some (.ref 13), some (.int x1), some (.int x2), some (.int y7), some (.int x4), none]) hM dX7_reachFrom_80 rfl e8 (by decide) rfl ?_
      refine aw_goto (pc := 83) (tgt := 10) hM dX7_reachFrom_83 (by decide) ?_
      refine aw_weak (L' := [some (.ref 13), some (.int x1), some (.int x2), some (.int y7), none, none]) ?_ (lw_of [true, true, true, true, false, true] rfl)
      exact hk10 F x1 x2 y7 h
    · rw [if_neg c6] at h
      refine aw_iload_n (pc := 30) (i := 1) (x := x1) hM dX7_reachFrom_30 rfl rfl ?_
      refine aw_iload (pc := 31) (i := 4) (x := x4) hM dX7_reachFrom_31  rfl ?_
      refine aw_iconst (pc := 33) (v := 2) hM dX7_reachFrom_33 (by decide) ?_
      refine aw_iload_n (pc := 34) (i := 3) (x := x3) hM dX7_reachFrom_34 rfl rfl ?_
      refine aw_imul (pc := 35) hM dX7_reachFrom_35 ?_
      refine aw_ishl (pc := 36) hM dX7_reachFrom_36 ?_
      refine aw_ixor (pc := 37) hM dX7_reachFrom_37 ?_
      obtain ⟨y9, e10, h⟩ := bind_some h
      have e10 := Option.some.inj e10
      refine aw_topi e10 ?_
      refine aw_istore (pc := 38) (i := 5) (L' := [some (.ref 13), some (.int x1), some (.int x2), some (.int x3), some (.int x4), some (.int y9)]) hM dX7_reachFrom_38  (by decide) rfl ?_
      refine aw_aload_n (pc := 40) (i := 0) (x := 13) hM dX7_reachFrom_40 rfl rfl ?_
      refine aw_iload (pc := 41) (i := 5) (x := y9) hM dX7_reachFrom_41  rfl ?_
      obtain ⟨r12, h11, h⟩ := bind_some h
      refine aw_cv1 (pc := 43) (n := 1) (As := [.int y9]) (st := []) (b := 13) (vo := (some (.int r12))) (c2 := 0) (s2 := 0) hM (k_X7_distanceOf h11) rfl cw_X7_36 sk_13 rfl rfl (by decide +kernel) rfl rfl ⟨(Nat.le_of_ble_eq_true rfl), (Nat.le_of_ble_eq_true rfl)⟩ (Nat.le_of_ble_eq_true rfl) ⟨(Nat.le_of_ble_eq_true rfl), (Nat.le_of_ble_eq_true rfl)⟩ dX7_reachFrom_43 rfl rfl ?_
      refine aw_bipush (pc := 46) (v := (-9)) hM dX7_reachFrom_46 (by decide) ?_
      refine aw_icmp_ne (pc := 48) (tgt := 74) hM dX7_reachFrom_48 (by decide) (fun c13 => ?_) (fun c13 => ?_)
      · rw [if_neg c13] at h
        obtain ⟨y14, e15, h⟩ := bind_some h
        have e15 := Option.some.inj e15
        refine aw_iinc (pc := 74) (v := y14) (L' := [some (.ref 13), some (.int x1), some (.int x2), some (.int x3), some (.int y14), some (.int y9)]) hM dX7_reachFrom_74 rfl e15 (by decide) rfl ?_
        refine aw_goto (pc := 77) (tgt := 24) hM dX7_reachFrom_77 (by decide) ?_
        refine aw_weak (L' := [some (.ref 13), some (.int x1), some (.int x2), some (.int x3), some (.int y14), none]) ?_ (lw_of [true, true, true, true, true, false] rfl)
        exact ih F x1 x2 x3 y14 h
      · rw [if_pos c13] at h
        refine aw_aload_n (pc := 51) (i := 0) (x := 13) hM dX7_reachFrom_51 rfl rfl ?_
        refine aw_getR (pc := 52) (r := 8) hM fd_X7_22 sk_13 rfl dX7_reachFrom_52 ?_
        refine aw_getR (pc := 55) (r := 10) hM fd_X7_58 sk_8 rfl dX7_reachFrom_55 ?_
        refine aw_iload (pc := 58) (i := 5) (x := y9) hM dX7_reachFrom_58  rfl ?_
        refine aw_iload_n (pc := 60) (i := 1) (x := x1) hM dX7_reachFrom_60 rfl rfl ?_
        obtain ⟨r17, h16, h⟩ := bind_some h
        refine aw_cv1 (pc := 61) (n := 2) (As := [.int y9, .int x1]) (st := []) (b := 10) (vo := (some (.int r17))) (c2 := 0) (s2 := 0) hM (k_X4_newlyBroken h16) rfl cw_X7_62 sk_10 rfl rfl (by decide +kernel) rfl rfl ⟨(Nat.le_of_ble_eq_true rfl), (Nat.le_of_ble_eq_true rfl)⟩ (Nat.le_of_ble_eq_true rfl) ⟨(Nat.le_of_ble_eq_true rfl), (Nat.le_of_ble_eq_true rfl)⟩ dX7_reachFrom_61 rfl rfl ?_
        refine aw_if_ne (pc := 64) (tgt := 74) hM dX7_reachFrom_64 (by decide) (fun c18 => ?_) (fun c18 => ?_)
        · rw [if_neg c18] at h
          obtain ⟨y19, e20, h⟩ := bind_some h
          have e20 := Option.some.inj e20
          refine aw_iinc (pc := 74) (v := y19) (L' := [some (.ref 13), some (.int x1), some (.int x2), some (.int x3), some (.int y19), some (.int y9)]) hM dX7_reachFrom_74 rfl e20 (by decide) rfl ?_
          refine aw_goto (pc := 77) (tgt := 24) hM dX7_reachFrom_77 (by decide) ?_
          refine aw_weak (L' := [some (.ref 13), some (.int x1), some (.int x2), some (.int x3), some (.int y19), none]) ?_ (lw_of [true, true, true, true, true, false] rfl)
          exact ih F x1 x2 x3 y19 h
        · rw [if_pos c18] at h
          refine aw_aload_n (pc := 67) (i := 0) (x := 13) hM dX7_reachFrom_67 rfl rfl ?_
          refine aw_iload (pc := 68) (i := 5) (x := y9) hM dX7_reachFrom_68  rfl ?_
          refine aw_iload_n (pc := 70) (i := 2) (x := x2) hM dX7_reachFrom_70 rfl rfl ?_
          obtain ⟨F22, h21, h⟩ := bind_some h
          refine aw_cv1 (pc := 71) (n := 2) (As := [.int y9, .int x2]) (st := []) (b := 13) (vo := none) (c2 := 0) (s2 := 0) hM (k_X7_enqueue h21) rfl cw_X7_49 sk_13 rfl rfl (by decide +kernel) rfl rfl ⟨(Nat.le_of_ble_eq_true rfl), (Nat.le_of_ble_eq_true rfl)⟩ (Nat.le_of_ble_eq_true rfl) ⟨(Nat.le_of_ble_eq_true rfl), (Nat.le_of_ble_eq_true rfl)⟩ dX7_reachFrom_71 rfl rfl ?_
          obtain ⟨y23, e24, h⟩ := bind_some h
          have e24 := Option.some.inj e24
          refine aw_iinc (pc := 74) (v := y23) (L' := [some (.ref 13), some (.int x1), some (.int x2), some (.int x3), some (.int y23), some (.int y9)]) hM dX7_reachFrom_74 rfl e24 (by decide) rfl ?_
          refine aw_goto (pc := 77) (tgt := 24) hM dX7_reachFrom_77 (by decide) ?_
          refine aw_weak (L' := [some (.ref 13), some (.int x1), some (.int x2), some (.int x3), some (.int y23), none]) ?_ (lw_of [true, true, true, true, true, false] rfl)
          exact ih F22 x1 x2 x3 y23 h
set_option maxRecDepth 20000 in
theorem k_X7_reachFrom_b10 {C : CX} {M : MX} {G : GG} {Q : OUT → MM → GG → Prop} {r : MM} (hM : MOk C RX7 cX7_reachFrom 6 none rmX7_reachFrom M) (hT : MNoT M) (hq : Q (.inl none) r G) : ∀ (n : Nat) (F : MM) (x1 : Int32) (x2 : Int32) (x3 : Int32), s_X7_reachFrom_b10 n F x1 x2 x3 = some r → AW C 6 (ZM C rmX7_reachFrom Q M) M 0 0 10 [some (.ref 13), some (.int x1), some (.int x2), some (.int x3), none, none] [] F G := by
  intro n
  induction n with
  | zero => intro F x1 x2 x3 h; exact nomatch h
  | succ n ih =>
    intro F x1 x2 x3 h
    rw [s_X7_reachFrom_b10] at h
    refine aw_iload_n (pc := 10) (i := 3) (x := x3) hM dX7_reachFrom_10 rfl rfl ?_
    refine aw_aload_n (pc := 11) (i := 0) (x := 13) hM dX7_reachFrom_11 rfl rfl ?_
    refine aw_getR (pc := 12) (r := 8) hM fd_X7_22 sk_13 rfl dX7_reachFrom_12 ?_
    refine aw_getI (pc := 15) hM fd_X7_53 sk_8 rfl dX7_reachFrom_15 ?_
    refine aw_icmp_ge (pc := 18) (tgt := 86) hM dX7_reachFrom_18 (by decide) (fun c5 => ?_) (fun c5 => ?_)
    · rw [if_pos c5] at h
      obtain rfl := Option.some.inj h
      exact aw_vret (pc := 86) hM dX7_reachFrom_86 (Nat.le_of_ble_eq_true rfl) (Nat.le_of_ble_eq_true rfl) hq
    · rw [if_neg c5] at h
      refine aw_iconst (pc := 21) (v := 1) hM dX7_reachFrom_21 (by decide) ?_
      refine aw_istore (pc := 22) (i := 4) (L' := [some (.ref 13), some (.int x1), some (.int x2), some (.int x3), some (.int 1), none]) hM dX7_reachFrom_22  (by decide) rfl ?_
      exact k_X7_reachFrom_b24 hM hT (fun wF w0 w1 w2 h9 => ih wF w0 w1 w2 h9) hq fu_ F x1 x2 x3 1 h
set_option maxRecDepth 20000 in
theorem k_X7_reachFrom {C : CX} {F : MM} {G : GG} {p0 : Int32} {r : MM} (h : s_X7_reachFrom F p0 = some r) : AM C yX7_reachFrom cX7_reachFrom 6 none rmX7_reachFrom [.ref 13, .int p0] F G (fun o F9 G9 => o = (.inl none) ∧ F9 = r ∧ G9 = G) := by
  refine am_of (L := [some (.ref 13), some (.int p0), none, none, none, none]) (by decide) (Nat.le_of_ble_eq_true rfl) rfl (fun M hM hT => ?_)
  have hM : MOk C RX7 cX7_reachFrom 6 none rmX7_reachFrom M := hM
  obtain ⟨Q, hQ⟩ : ∃ Q : OUT → MM → GG → Prop, Q = (fun o F9 G9 => o = (.inl none) ∧ F9 = r ∧ G9 = G) := ⟨_, rfl⟩
  have hq : Q (.inl none) r G := by rw [hQ]; exact ⟨rfl, rfl, rfl⟩
  rw [← hQ]
  clear hQ
  rw [s_X7_reachFrom] at h
  refine aw_aload_n (pc := 0) (i := 0) (x := 13) hM dX7_reachFrom_0 rfl rfl ?_
  refine aw_iload_n (pc := 1) (i := 1) (x := p0) hM dX7_reachFrom_1 rfl rfl ?_
  obtain ⟨r2, h1, h⟩ := bind_some h
  refine aw_cv1 (pc := 2) (n := 1) (As := [.int p0]) (st := []) (b := 13) (vo := (some (.int r2))) (c2 := 0) (s2 := 0) hM (k_X7_distanceOf h1) rfl cw_X7_36 sk_13 rfl rfl (by decide +kernel) rfl rfl ⟨(Nat.le_of_ble_eq_true rfl), (Nat.le_of_ble_eq_true rfl)⟩ (Nat.le_of_ble_eq_true rfl) ⟨(Nat.le_of_ble_eq_true rfl), (Nat.le_of_ble_eq_true rfl)⟩ dX7_reachFrom_2 rfl rfl ?_
  refine aw_iconst (pc := 5) (v := 1) hM dX7_reachFrom_5 (by decide) ?_
  refine aw_iadd (pc := 6) hM dX7_reachFrom_6 ?_
  obtain ⟨y3, e4, h⟩ := bind_some h
  have e4 := Option.some.inj e4
  refine aw_topi e4 ?_
  refine aw_istore_n (pc := 7) (i := 2) (L' := [some (.ref 13), some (.int p0), some (.int y3), none, none, none]) hM dX7_reachFrom_7 rfl (by decide) rfl ?_
  refine aw_iconst (pc := 8) (v := 0) hM dX7_reachFrom_8 (by decide) ?_
  refine aw_istore_n (pc := 9) (i := 3) (L' := [some (.ref 13), some (.int p0), some (.int y3), some (.int 0), none, none]) hM dX7_reachFrom_9 rfl (by decide) rfl ?_
  exact k_X7_reachFrom_b10 hM hT hq fu_ F p0 y3 0 h
def rmX7_distance : Room := { frames := 2, cells := 0, slots := 0, locals := 47 }
def s_X7_distance_b15 : Nat → MM → Int32 → Int32 → Option (Int32 × MM)
  | 0, _, _, _ => none
  | n + 1, F, x1, x3 => if 4096 ≤ x3 then (s_X7_distanceOf F x1).bind (fun r6 => some (r6, F)) else if (F 13 5) ≤ (F 13 4) then (s_X7_distanceOf F x1).bind (fun r9 => some (r9, F)) else (s_X7_distanceOf F x1).bind (fun r11 => if r11 = (-9) then if inb (F 13 4) 4096 then ((s_X7_reachFrom F (F 15 (ix (F 13 4)))).bind (fun F17 => (some (mup F17 13 4 ((F17 13 4) + 1))).bind (fun F18 => (some (x3 + 1 : Int32)).bind (fun y20 => s_X7_distance_b15 n F18 x1 y20)))) else none else (s_X7_distanceOf F x1).bind (fun r14 => some (r14, F)))
def s_X7_distance (F : MM) (p0 : Int32) (p1 : Int32) : Option (Int32 × MM) := if (F 13 3) = p1 then s_X7_distance_b15 fu_ F p0 0 else (s_X7_aimAt F p1).bind (fun F3 => s_X7_distance_b15 fu_ F3 p0 0)
set_option maxRecDepth 20000 in
theorem k_X7_distance_b15 {C : CX} {M : MX} {G : GG} {Q : OUT → MM → GG → Prop} {r : (Int32 × MM)} (hM : MOk C RX7 cX7_distance 4 (some .int) rmX7_distance M) (hT : MNoT M) (hq : Q (.inl (some (.int r.1))) r.2 G) : ∀ (n : Nat) (F : MM) (x1 : Int32) (x3 : Int32), s_X7_distance_b15 n F x1 x3 = some r → AW C 4 (ZM C rmX7_distance Q M) M 0 0 15 [some (.ref 13), some (.int x1), none, some (.int x3)] [] F G := by
  intro n
  induction n with
  | zero => intro F x1 x3 h; exact nomatch h
  | succ n ih =>
    intro F x1 x3 h
    rw [s_X7_distance_b15] at h
    refine aw_iload_n (pc := 15) (i := 3) (x := x3) hM dX7_distance_15 rfl rfl ?_
    refine aw_sipush (pc := 16) (v := 4096) hM dX7_distance_16 (by decide) ?_
    refine aw_icmp_ge (pc := 19) (tgt := 72) hM dX7_distance_19 (by decide) (fun c4 => ?_) (fun c4 => ?_)
    · rw [if_pos c4] at h
      refine aw_aload_n (pc := 72) (i := 0) (x := 13) hM dX7_distance_72 rfl rfl ?_
      refine aw_iload_n (pc := 73) (i := 1) (x := x1) hM dX7_distance_73 rfl rfl ?_
      obtain ⟨r6, h5, h⟩ := bind_some h
      refine aw_cv1 (pc := 74) (n := 1) (As := [.int x1]) (st := []) (b := 13) (vo := (some (.int r6))) (c2 := 0) (s2 := 0) hM (k_X7_distanceOf h5) rfl cw_X7_36 sk_13 rfl rfl (by decide +kernel) rfl rfl ⟨(Nat.le_of_ble_eq_true rfl), (Nat.le_of_ble_eq_true rfl)⟩ (Nat.le_of_ble_eq_true rfl) ⟨(Nat.le_of_ble_eq_true rfl), (Nat.le_of_ble_eq_true rfl)⟩ dX7_distance_74 rfl rfl ?_
      obtain rfl := Option.some.inj h
      exact aw_iret (pc := 77) hM dX7_distance_77 (Nat.le_of_ble_eq_true rfl) (Nat.le_of_ble_eq_true rfl) hq
    · rw [if_neg c4] at h
      refine aw_aload_n (pc := 22) (i := 0) (x := 13) hM dX7_distance_22 rfl rfl ?_
      refine aw_getI (pc := 23) hM fd_X7_30 sk_13 rfl dX7_distance_23 ?_
      refine aw_aload_n (pc := 26) (i := 0) (x := 13) hM dX7_distance_26 rfl rfl ?_
      refine aw_getI (pc := 27) hM fd_X7_33 sk_13 rfl dX7_distance_27 ?_
      refine aw_icmp_ge (pc := 30) (tgt := 72) hM dX7_distance_30 (by decide) (fun c7 => ?_) (fun c7 => ?_)
      · rw [if_pos c7] at h
        refine aw_aload_n (pc := 72) (i := 0) (x := 13) hM dX7_distance_72 rfl rfl ?_
        refine aw_iload_n (pc := 73) (i := 1) (x := x1) hM dX7_distance_73 rfl rfl ?_
        obtain ⟨r9, h8, h⟩ := bind_some h
        refine aw_cv1 (pc := 74) (n := 1) (As := [.int x1]) (st := []) (b := 13) (vo := (some (.int r9))) (c2 := 0) (s2 := 0) hM (k_X7_distanceOf h8) rfl cw_X7_36 sk_13 rfl rfl (by decide +kernel) rfl rfl ⟨(Nat.le_of_ble_eq_true rfl), (Nat.le_of_ble_eq_true rfl)⟩ (Nat.le_of_ble_eq_true rfl) ⟨(Nat.le_of_ble_eq_true rfl), (Nat.le_of_ble_eq_true rfl)⟩ dX7_distance_74 rfl rfl ?_
        obtain rfl := Option.some.inj h
        exact aw_iret (pc := 77) hM dX7_distance_77 (Nat.le_of_ble_eq_true rfl) (Nat.le_of_ble_eq_true rfl) hq
      · rw [if_neg c7] at h
        refine aw_aload_n (pc := 33) (i := 0) (x := 13) hM dX7_distance_33 rfl rfl ?_
        refine aw_iload_n (pc := 34) (i := 1) (x := x1) hM dX7_distance_34 rfl rfl ?_
        obtain ⟨r11, h10, h⟩ := bind_some h
        refine aw_cv1 (pc := 35) (n := 1) (As := [.int x1]) (st := []) (b := 13) (vo := (some (.int r11))) (c2 := 0) (s2 := 0) hM (k_X7_distanceOf h10) rfl cw_X7_36 sk_13 rfl rfl (by decide +kernel) rfl rfl ⟨(Nat.le_of_ble_eq_true rfl), (Nat.le_of_ble_eq_true rfl)⟩ (Nat.le_of_ble_eq_true rfl) ⟨(Nat.le_of_ble_eq_true rfl), (Nat.le_of_ble_eq_true rfl)⟩ dX7_distance_35 rfl rfl ?_
        refine aw_bipush (pc := 38) (v := (-9)) hM dX7_distance_38 (by decide) ?_
        refine aw_icmp_ne (pc := 40) (tgt := 72) hM dX7_distance_40 (by decide) (fun c12 => ?_) (fun c12 => ?_)
        · rw [if_neg c12] at h
          refine aw_aload_n (pc := 72) (i := 0) (x := 13) hM dX7_distance_72 rfl rfl ?_
          refine aw_iload_n (pc := 73) (i := 1) (x := x1) hM dX7_distance_73 rfl rfl ?_
          obtain ⟨r14, h13, h⟩ := bind_some h
          refine aw_cv1 (pc := 74) (n := 1) (As := [.int x1]) (st := []) (b := 13) (vo := (some (.int r14))) (c2 := 0) (s2 := 0) hM (k_X7_distanceOf h13) rfl cw_X7_36 sk_13 rfl rfl (by decide +kernel) rfl rfl ⟨(Nat.le_of_ble_eq_true rfl), (Nat.le_of_ble_eq_true rfl)⟩ (Nat.le_of_ble_eq_true rfl) ⟨(Nat.le_of_ble_eq_true rfl), (Nat.le_of_ble_eq_true rfl)⟩ dX7_distance_74 rfl rfl ?_
          obtain rfl := Option.some.inj h
          exact aw_iret (pc := 77) hM dX7_distance_77 (Nat.le_of_ble_eq_true rfl) (Nat.le_of_ble_eq_true rfl) hq
        · rw [if_pos c12] at h
          refine aw_aload_n (pc := 43) (i := 0) (x := 13) hM dX7_distance_43 rfl rfl ?_
          refine aw_aload_n (pc := 44) (i := 0) (x := 13) hM dX7_distance_44 rfl rfl ?_
          refine aw_getR (pc := 45) (r := 15) hM fd_X7_15 sk_13 rfl dX7_distance_45 ?_
          refine aw_aload_n (pc := 48) (i := 0) (x := 13) hM dX7_distance_48 rfl rfl ?_
          refine aw_getI (pc := 49) hM fd_X7_30 sk_13 rfl dX7_distance_49 ?_
          obtain ⟨c15, h⟩ := ite_some h
          refine aw_iald (pc := 52) hM sk_15 c15 dX7_distance_52 ?_
          obtain ⟨F17, h16, h⟩ := bind_some h
          refine aw_cv1 (pc := 53) (n := 1) (As := [.int (F 15 (ix (F 13 4)))]) (st := []) (b := 13) (vo := none) (c2 := 0) (s2 := 0) hM (k_X7_reachFrom h16) rfl cw_X7_40 sk_13 rfl rfl (by decide +kernel) rfl rfl ⟨(Nat.le_of_ble_eq_true rfl), (Nat.le_of_ble_eq_true rfl)⟩ (Nat.le_of_ble_eq_true rfl) ⟨(Nat.le_of_ble_eq_true rfl), (Nat.le_of_ble_eq_true rfl)⟩ dX7_distance_53 rfl rfl ?_
          refine aw_aload_n (pc := 56) (i := 0) (x := 13) hM dX7_distance_56 rfl rfl ?_
          refine aw_dup (pc := 57) hM dX7_distance_57 rfl ?_
          refine aw_getI (pc := 58) hM fd_X7_30 sk_13 rfl dX7_distance_58 ?_
          refine aw_iconst (pc := 61) (v := 1) hM dX7_distance_61 (by decide) ?_
          refine aw_iadd (pc := 62) hM dX7_distance_62 ?_
          obtain ⟨F18, e19, h⟩ := bind_some h
          have e19 := Option.some.inj e19
          refine aw_put (pc := 63) (ty := .int) hM fd_X7_30 tyX7_ok nmX7 rfl (by decide +kernel) rfl rfl sk_13 rfl dX7_distance_63 ?_
          refine aw_mem e19 ?_
          obtain ⟨y20, e21, h⟩ := bind_some h
          have e21 := Option.some.inj e21
          refine aw_iinc (pc := 66) (v := y20) (L' := [some (.ref 13), some (.int x1), none, some (.int y20)]) hM dX7_distance_66 rfl e21 (by decide) rfl ?_
          refine aw_goto (pc := 69) (tgt := 15) hM dX7_distance_69 (by decide) ?_
          exact ih F18 x1 y20 h
set_option maxRecDepth 20000 in
theorem k_X7_distance {C : CX} {F : MM} {G : GG} {p0 : Int32} {p1 : Int32} {r : (Int32 × MM)} (h : s_X7_distance F p0 p1 = some r) : AM C yX7_distance cX7_distance 4 (some .int) rmX7_distance [.ref 13, .int p0, .int p1] F G (fun o F9 G9 => o = (.inl (some (.int r.1))) ∧ F9 = r.2 ∧ G9 = G) := by
  refine am_of (L := [some (.ref 13), some (.int p0), some (.int p1), none]) (by decide) (Nat.le_of_ble_eq_true rfl) rfl (fun M hM hT => ?_)
  have hM : MOk C RX7 cX7_distance 4 (some .int) rmX7_distance M := hM
  obtain ⟨Q, hQ⟩ : ∃ Q : OUT → MM → GG → Prop, Q = (fun o F9 G9 => o = (.inl (some (.int r.1))) ∧ F9 = r.2 ∧ G9 = G) := ⟨_, rfl⟩
  have hq : Q (.inl (some (.int r.1))) r.2 G := by rw [hQ]; exact ⟨rfl, rfl, rfl⟩
  rw [← hQ]
  clear hQ
  rw [s_X7_distance] at h
  refine aw_aload_n (pc := 0) (i := 0) (x := 13) hM dX7_distance_0 rfl rfl ?_
  refine aw_getI (pc := 1) hM fd_X7_18 sk_13 rfl dX7_distance_1 ?_
  refine aw_iload_n (pc := 4) (i := 2) (x := p1) hM dX7_distance_4 rfl rfl ?_
  refine aw_icmp_eq (pc := 5) (tgt := 13) hM dX7_distance_5 (by decide) (fun c1 => ?_) (fun c1 => ?_)
  · rw [if_pos c1] at h
    refine aw_iconst (pc := 13) (v := 0) hM dX7_distance_13 (by decide) ?_
    refine aw_istore_n (pc := 14) (i := 3) (L' := [some (.ref 13), some (.int p0), some (.int p1), some (.int 0)]) hM dX7_distance_14 rfl (by decide) rfl ?_
    refine aw_weak (L' := [some (.ref 13), some (.int p0), none, some (.int 0)]) ?_ (lw_of [true, true, false, true] rfl)
    exact k_X7_distance_b15 hM hT hq fu_ F p0 0 h
  · rw [if_neg c1] at h
    refine aw_aload_n (pc := 8) (i := 0) (x := 13) hM dX7_distance_8 rfl rfl ?_
    refine aw_iload_n (pc := 9) (i := 2) (x := p1) hM dX7_distance_9 rfl rfl ?_
    obtain ⟨F3, h2, h⟩ := bind_some h
    refine aw_cv1 (pc := 10) (n := 1) (As := [.int p1]) (st := []) (b := 13) (vo := none) (c2 := 0) (s2 := 0) hM (k_X7_aimAt h2) rfl cw_X7_26 sk_13 rfl rfl (by decide +kernel) rfl rfl ⟨(Nat.le_of_ble_eq_true rfl), (Nat.le_of_ble_eq_true rfl)⟩ (Nat.le_of_ble_eq_true rfl) ⟨(Nat.le_of_ble_eq_true rfl), (Nat.le_of_ble_eq_true rfl)⟩ dX7_distance_10 rfl rfl ?_
    refine aw_iconst (pc := 13) (v := 0) hM dX7_distance_13 (by decide) ?_
    refine aw_istore_n (pc := 14) (i := 3) (L' := [some (.ref 13), some (.int p0), some (.int p1), some (.int 0)]) hM dX7_distance_14 rfl (by decide) rfl ?_
    refine aw_weak (L' := [some (.ref 13), some (.int p0), none, some (.int 0)]) ?_ (lw_of [true, true, false, true] rfl)
    exact k_X7_distance_b15 hM hT hq fu_ F3 p0 0 h
def rmX7_changeOfBest : Room := { frames := 3, cells := 0, slots := 0, locals := 70 }
def s_X7_changeOfBest_b19 : Nat → MM → Int32 → Int32 → Int32 → Option (Int32 × MM)
  | 0, _, _, _, _ => none
  | n + 1, F, x3, x4, x5 => if x3 ≤ x5 then (s_X7_bestChange F x4).bind (fun r7 => some (r7, F)) else (s_X7_bestChange F x4).bind (fun r9 => (s_X7_afterChange F x4 r9).bind (fun r11 => (some (x5 + 1 : Int32)).bind (fun y12 => s_X7_changeOfBest_b19 n F x3 r11 y12)))
def s_X7_changeOfBest (F : MM) (p0 : Int32) (p1 : Int32) (p2 : Int32) : Option (Int32 × MM) := (s_X7_distance F p0 p1).bind (fun z3 => if p2 < z3.1 then s_X7_changeOfBest_b19 fu_ z3.2 p2 p0 0 else some ((-9), z3.2))
set_option maxRecDepth 20000 in
theorem k_X7_changeOfBest_b19 {C : CX} {M : MX} {G : GG} {Q : OUT → MM → GG → Prop} {r : (Int32 × MM)} (hM : MOk C RX7 cX7_changeOfBest 6 (some .int) rmX7_changeOfBest M) (hT : MNoT M) (hq : Q (.inl (some (.int r.1))) r.2 G) : ∀ (n : Nat) (F : MM) (x3 : Int32) (x4 : Int32) (x5 : Int32), s_X7_changeOfBest_b19 n F x3 x4 x5 = some r → AW C 6 (ZM C rmX7_changeOfBest Q M) M 0 0 19 [some (.ref 13), none, none, some (.int x3), some (.int x4), some (.int x5)] [] F G := by
  intro n
  induction n with
  | zero => intro F x3 x4 x5 h; exact nomatch h
  | succ n ih =>
    intro F x3 x4 x5 h
    rw [s_X7_changeOfBest_b19] at h
    refine aw_iload (pc := 19) (i := 5) (x := x5) hM dX7_changeOfBest_19  rfl ?_
    refine aw_iload_n (pc := 21) (i := 3) (x := x3) hM dX7_changeOfBest_21 rfl rfl ?_
    refine aw_icmp_ge (pc := 22) (tgt := 44) hM dX7_changeOfBest_22 (by decide) (fun c5 => ?_) (fun c5 => ?_)
    · rw [if_pos c5] at h
      refine aw_aload_n (pc := 44) (i := 0) (x := 13) hM dX7_changeOfBest_44 rfl rfl ?_
      refine aw_iload (pc := 45) (i := 4) (x := x4) hM dX7_changeOfBest_45  rfl ?_
      obtain ⟨r7, h6, h⟩ := bind_some h
      refine aw_cv1 (pc := 47) (n := 1) (As := [.int x4]) (st := []) (b := 13) (vo := (some (.int r7))) (c2 := 0) (s2 := 0) hM (k_X7_bestChange h6) rfl cw_X7_71 sk_13 rfl rfl (by decide +kernel) rfl rfl ⟨(Nat.le_of_ble_eq_true rfl), (Nat.le_of_ble_eq_true rfl)⟩ (Nat.le_of_ble_eq_true rfl) ⟨(Nat.le_of_ble_eq_true rfl), (Nat.le_of_ble_eq_true rfl)⟩ dX7_changeOfBest_47 rfl rfl ?_
      obtain rfl := Option.some.inj h
      exact aw_iret (pc := 50) hM dX7_changeOfBest_50 (Nat.le_of_ble_eq_true rfl) (Nat.le_of_ble_eq_true rfl) hq
    · rw [if_neg c5] at h
      refine aw_iload (pc := 25) (i := 4) (x := x4) hM dX7_changeOfBest_25  rfl ?_
      refine aw_aload_n (pc := 27) (i := 0) (x := 13) hM dX7_changeOfBest_27 rfl rfl ?_
      refine aw_iload (pc := 28) (i := 4) (x := x4) hM dX7_changeOfBest_28  rfl ?_
      obtain ⟨r9, h8, h⟩ := bind_some h
      refine aw_cv1 (pc := 30) (n := 1) (As := [.int x4]) (st := [.int x4]) (b := 13) (vo := (some (.int r9))) (c2 := 0) (s2 := 0) hM (k_X7_bestChange h8) rfl cw_X7_71 sk_13 rfl rfl (by decide +kernel) rfl rfl ⟨(Nat.le_of_ble_eq_true rfl), (Nat.le_of_ble_eq_true rfl)⟩ (Nat.le_of_ble_eq_true rfl) ⟨(Nat.le_of_ble_eq_true rfl), (Nat.le_of_ble_eq_true rfl)⟩ dX7_changeOfBest_30 rfl rfl ?_
      obtain ⟨r11, h10, h⟩ := bind_some h
      refine aw_cs1 (pc := 33) (n := 2) (As := [.int x4, .int r9]) (st := []) (vo := (some (.int r11))) (c2 := 0) (s2 := 0) hM (k_X7_afterChange h10) rfl cw_X7_74 (by decide +kernel) rfl rfl ⟨(Nat.le_of_ble_eq_true rfl), (Nat.le_of_ble_eq_true rfl)⟩ (Nat.le_of_ble_eq_true rfl) ⟨(Nat.le_of_ble_eq_true rfl), (Nat.le_of_ble_eq_true rfl)⟩ dX7_changeOfBest_33 rfl rfl ?_
      refine aw_istore (pc := 36) (i := 4) (L' := [some (.ref 13), none, none, some (.int x3), some (.int r11), some (.int x5)]) hM dX7_changeOfBest_36  (by decide) rfl ?_
      obtain ⟨y12, e13, h⟩ := bind_some h
      have e13 := Option.some.inj e13
      refine aw_iinc (pc := 38) (v := y12) (L' := [some (.ref 13), none, none, some (.int x3), some (.int r11), some (.int y12)]) hM dX7_changeOfBest_38 rfl e13 (by decide) rfl ?_
      refine aw_goto (pc := 41) (tgt := 19) hM dX7_changeOfBest_41 (by decide) ?_
      exact ih F x3 r11 y12 h
set_option maxRecDepth 20000 in
theorem k_X7_changeOfBest {C : CX} {F : MM} {G : GG} {p0 : Int32} {p1 : Int32} {p2 : Int32} {r : (Int32 × MM)} (h : s_X7_changeOfBest F p0 p1 p2 = some r) : AM C yX7_changeOfBest cX7_changeOfBest 6 (some .int) rmX7_changeOfBest [.ref 13, .int p0, .int p1, .int p2] F G (fun o F9 G9 => o = (.inl (some (.int r.1))) ∧ F9 = r.2 ∧ G9 = G) := by
  refine am_of (L := [some (.ref 13), some (.int p0), some (.int p1), some (.int p2), none, none]) (by decide) (Nat.le_of_ble_eq_true rfl) rfl (fun M hM hT => ?_)
  have hM : MOk C RX7 cX7_changeOfBest 6 (some .int) rmX7_changeOfBest M := hM
  obtain ⟨Q, hQ⟩ : ∃ Q : OUT → MM → GG → Prop, Q = (fun o F9 G9 => o = (.inl (some (.int r.1))) ∧ F9 = r.2 ∧ G9 = G) := ⟨_, rfl⟩
  have hq : Q (.inl (some (.int r.1))) r.2 G := by rw [hQ]; exact ⟨rfl, rfl, rfl⟩
  rw [← hQ]
  clear hQ
  rw [s_X7_changeOfBest] at h
  refine aw_iload_n (pc := 0) (i := 3) (x := p2) hM dX7_changeOfBest_0 rfl rfl ?_
  refine aw_aload_n (pc := 1) (i := 0) (x := 13) hM dX7_changeOfBest_1 rfl rfl ?_
  refine aw_iload_n (pc := 2) (i := 1) (x := p0) hM dX7_changeOfBest_2 rfl rfl ?_
  refine aw_iload_n (pc := 3) (i := 2) (x := p1) hM dX7_changeOfBest_3 rfl rfl ?_
  obtain ⟨z3, h1, h⟩ := bind_some h
  refine aw_cv1 (pc := 4) (n := 2) (As := [.int p0, .int p1]) (st := [.int p2]) (b := 13) (vo := (some (.int z3.1))) (c2 := 0) (s2 := 0) hM (k_X7_distance h1) rfl cw_X7_68 sk_13 rfl rfl (by decide +kernel) rfl rfl ⟨(Nat.le_of_ble_eq_true rfl), (Nat.le_of_ble_eq_true rfl)⟩ (Nat.le_of_ble_eq_true rfl) ⟨(Nat.le_of_ble_eq_true rfl), (Nat.le_of_ble_eq_true rfl)⟩ dX7_changeOfBest_4 rfl rfl ?_
  refine aw_icmp_lt (pc := 7) (tgt := 13) hM dX7_changeOfBest_7 (by decide) (fun c4 => ?_) (fun c4 => ?_)
  · rw [if_pos c4] at h
    refine aw_iload_n (pc := 13) (i := 1) (x := p0) hM dX7_changeOfBest_13 rfl rfl ?_
    refine aw_istore (pc := 14) (i := 4) (L' := [some (.ref 13), some (.int p0), some (.int p1), some (.int p2), some (.int p0), none]) hM dX7_changeOfBest_14  (by decide) rfl ?_
    refine aw_iconst (pc := 16) (v := 0) hM dX7_changeOfBest_16 (by decide) ?_
    refine aw_istore (pc := 17) (i := 5) (L' := [some (.ref 13), some (.int p0), some (.int p1), some (.int p2), some (.int p0), some (.int 0)]) hM dX7_changeOfBest_17  (by decide) rfl ?_
    refine aw_weak (L' := [some (.ref 13), none, none, some (.int p2), some (.int p0), some (.int 0)]) ?_ (lw_of [true, false, false, true, true, true] rfl)
    exact k_X7_changeOfBest_b19 hM hT hq fu_ z3.2 p2 p0 0 h
  · rw [if_neg c4] at h
    refine aw_bipush (pc := 10) (v := (-9)) hM dX7_changeOfBest_10 (by decide) ?_
    obtain rfl := Option.some.inj h
    exact aw_iret (pc := 12) hM dX7_changeOfBest_12 (Nat.le_of_ble_eq_true rfl) (Nat.le_of_ble_eq_true rfl) hq
def rmX7_forget : Room := { frames := 0, cells := 0, slots := 0, locals := 0 }
def s_X7_forget (F : MM) : Option MM := (some (mup F 13 3 (-1))).bind (fun F1 => some F1)
set_option maxRecDepth 20000 in
theorem k_X7_forget {C : CX} {F : MM} {G : GG} {r : MM} (h : s_X7_forget F = some r) : AM C yX7_forget cX7_forget 1 none rmX7_forget [.ref 13] F G (fun o F9 G9 => o = (.inl none) ∧ F9 = r ∧ G9 = G) := by
  refine am_of (L := [some (.ref 13)]) (by decide) (Nat.le_of_ble_eq_true rfl) rfl (fun M hM hT => ?_)
  have hM : MOk C RX7 cX7_forget 1 none rmX7_forget M := hM
  obtain ⟨Q, hQ⟩ : ∃ Q : OUT → MM → GG → Prop, Q = (fun o F9 G9 => o = (.inl none) ∧ F9 = r ∧ G9 = G) := ⟨_, rfl⟩
  have hq : Q (.inl none) r G := by rw [hQ]; exact ⟨rfl, rfl, rfl⟩
  rw [← hQ]
  clear hQ
  rw [s_X7_forget] at h
  refine aw_aload_n (pc := 0) (i := 0) (x := 13) hM dX7_forget_0 rfl rfl ?_
  refine aw_iconst (pc := 1) (v := (-1)) hM dX7_forget_1 (by decide) ?_
  obtain ⟨F1, e2, h⟩ := bind_some h
  have e2 := Option.some.inj e2
  refine aw_put (pc := 2) (ty := .int) hM fd_X7_18 tyX7_ok nmX7 rfl (by decide +kernel) rfl rfl sk_13 rfl dX7_forget_2 ?_
  refine aw_mem e2 ?_
  obtain rfl := Option.some.inj h
  exact aw_vret (pc := 5) hM dX7_forget_5 (Nat.le_of_ble_eq_true rfl) (Nat.le_of_ble_eq_true rfl) hq
def rmX8_about : Room := { frames := 6, cells := 1, slots := 6, locals := 82 }
def s_X8_about (F : MM) (p0 : Int32) : Option (Int32 ⊕ String) := if p0 = 0 then some (.inl (F 8 0)) else if p0 = 1 then some (.inl (F 8 1)) else if p0 = 2 then some (.inl (F 10 3)) else if p0 = 3 then some (.inl (F 8 2)) else if p0 = 4 then some (.inl (F 8 3)) else if p0 = 5 then some (.inl (F 16 8)) else if p0 = 6 then some (.inl (F 16 9)) else if p0 = 7 then (s_X5_calmNodes F 16).bind (fun r10 => some (.inl r10)) else some (.inr ex_iae)
set_option maxRecDepth 20000 in
theorem k_X8_about {C : CX} {F : MM} {G : GG} {p0 : Int32} {r : (Int32 ⊕ String)} (h : s_X8_about F p0 = some r) : AM C yX8_about cX8_about 2 (some .int) rmX8_about [.ref 0, .int p0] F G (fun o F9 G9 => o = (oI r) ∧ F9 = F ∧ G9 = G) := by
  refine am_of (L := [some (.ref 0), some (.int p0)]) (by decide) (Nat.le_of_ble_eq_true rfl) rfl (fun M hM hT => ?_)
  have hM : MOk C RX8 cX8_about 2 (some .int) rmX8_about M := hM
  obtain ⟨Q, hQ⟩ : ∃ Q : OUT → MM → GG → Prop, Q = (fun o F9 G9 => o = (oI r) ∧ F9 = F ∧ G9 = G) := ⟨_, rfl⟩
  have hq : Q (oI r) F G := by rw [hQ]; exact ⟨rfl, rfl, rfl⟩
  rw [← hQ]
  clear hQ
  rw [s_X8_about] at h
  refine aw_iload_n (pc := 0) (i := 1) (x := p0) hM dX8_about_0 rfl rfl ?_
  by_cases c1 : p0 = 0
  · rw [if_pos c1] at h
    refine aw_tableIn (pc := 1) (off := 47) (tgt := 48) hM dX8_about_1 (by rw [c1]; decide) (by rw [c1]; decide) (by rw [c1]; rfl) (by decide) ?_
    refine aw_aload_n (pc := 48) (i := 0) (x := 0) hM dX8_about_48 rfl rfl ?_
    refine aw_getR (pc := 49) (r := 8) hM fd_X8_25 sk_0 rfl dX8_about_49 ?_
    refine aw_getI (pc := 52) hM fd_X8_102 sk_8 rfl dX8_about_52 ?_
    obtain rfl := Option.some.inj h
    exact aw_iret (pc := 55) hM dX8_about_55 (Nat.le_of_ble_eq_true rfl) (Nat.le_of_ble_eq_true rfl) hq
  rw [if_neg c1] at h
  by_cases c2 : p0 = 1
  · rw [if_pos c2] at h
    refine aw_tableIn (pc := 1) (off := 55) (tgt := 56) hM dX8_about_1 (by rw [c2]; decide) (by rw [c2]; decide) (by rw [c2]; rfl) (by decide) ?_
    refine aw_aload_n (pc := 56) (i := 0) (x := 0) hM dX8_about_56 rfl rfl ?_
    refine aw_getR (pc := 57) (r := 8) hM fd_X8_25 sk_0 rfl dX8_about_57 ?_
    refine aw_getI (pc := 60) hM fd_X8_105 sk_8 rfl dX8_about_60 ?_
    obtain rfl := Option.some.inj h
    exact aw_iret (pc := 63) hM dX8_about_63 (Nat.le_of_ble_eq_true rfl) (Nat.le_of_ble_eq_true rfl) hq
  rw [if_neg c2] at h
  by_cases c3 : p0 = 2
  · rw [if_pos c3] at h
    refine aw_tableIn (pc := 1) (off := 63) (tgt := 64) hM dX8_about_1 (by rw [c3]; decide) (by rw [c3]; decide) (by rw [c3]; rfl) (by decide) ?_
    refine aw_aload_n (pc := 64) (i := 0) (x := 0) hM dX8_about_64 rfl rfl ?_
    refine aw_getR (pc := 65) (r := 8) hM fd_X8_25 sk_0 rfl dX8_about_65 ?_
    refine aw_getR (pc := 68) (r := 10) hM fd_X8_93 sk_8 rfl dX8_about_68 ?_
    refine aw_getI (pc := 71) hM fd_X8_97 sk_10 rfl dX8_about_71 ?_
    obtain rfl := Option.some.inj h
    exact aw_iret (pc := 74) hM dX8_about_74 (Nat.le_of_ble_eq_true rfl) (Nat.le_of_ble_eq_true rfl) hq
  rw [if_neg c3] at h
  by_cases c4 : p0 = 3
  · rw [if_pos c4] at h
    refine aw_tableIn (pc := 1) (off := 74) (tgt := 75) hM dX8_about_1 (by rw [c4]; decide) (by rw [c4]; decide) (by rw [c4]; rfl) (by decide) ?_
    refine aw_aload_n (pc := 75) (i := 0) (x := 0) hM dX8_about_75 rfl rfl ?_
    refine aw_getR (pc := 76) (r := 8) hM fd_X8_25 sk_0 rfl dX8_about_76 ?_
    refine aw_getI (pc := 79) hM fd_X8_108 sk_8 rfl dX8_about_79 ?_
    obtain rfl := Option.some.inj h
    exact aw_iret (pc := 82) hM dX8_about_82 (Nat.le_of_ble_eq_true rfl) (Nat.le_of_ble_eq_true rfl) hq
  rw [if_neg c4] at h
  by_cases c5 : p0 = 4
  · rw [if_pos c5] at h
    refine aw_tableIn (pc := 1) (off := 82) (tgt := 83) hM dX8_about_1 (by rw [c5]; decide) (by rw [c5]; decide) (by rw [c5]; rfl) (by decide) ?_
    refine aw_aload_n (pc := 83) (i := 0) (x := 0) hM dX8_about_83 rfl rfl ?_
    refine aw_getR (pc := 84) (r := 8) hM fd_X8_25 sk_0 rfl dX8_about_84 ?_
    refine aw_getI (pc := 87) hM fd_X8_111 sk_8 rfl dX8_about_87 ?_
    obtain rfl := Option.some.inj h
    exact aw_iret (pc := 90) hM dX8_about_90 (Nat.le_of_ble_eq_true rfl) (Nat.le_of_ble_eq_true rfl) hq
  rw [if_neg c5] at h
  by_cases c6 : p0 = 5
  · rw [if_pos c6] at h
    refine aw_tableIn (pc := 1) (off := 90) (tgt := 91) hM dX8_about_1 (by rw [c6]; decide) (by rw [c6]; decide) (by rw [c6]; rfl) (by decide) ?_
    refine aw_aload_n (pc := 91) (i := 0) (x := 0) hM dX8_about_91 rfl rfl ?_
    refine aw_getR (pc := 92) (r := 16) hM fd_X8_41 sk_0 rfl dX8_about_92 ?_
    refine aw_getI (pc := 95) hM fd_X8_114 sk_16 rfl dX8_about_95 ?_
    obtain rfl := Option.some.inj h
    exact aw_iret (pc := 98) hM dX8_about_98 (Nat.le_of_ble_eq_true rfl) (Nat.le_of_ble_eq_true rfl) hq
  rw [if_neg c6] at h
  by_cases c7 : p0 = 6
  · rw [if_pos c7] at h
    refine aw_tableIn (pc := 1) (off := 98) (tgt := 99) hM dX8_about_1 (by rw [c7]; decide) (by rw [c7]; decide) (by rw [c7]; rfl) (by decide) ?_
    refine aw_aload_n (pc := 99) (i := 0) (x := 0) hM dX8_about_99 rfl rfl ?_
    refine aw_getR (pc := 100) (r := 16) hM fd_X8_41 sk_0 rfl dX8_about_100 ?_
    refine aw_getI (pc := 103) hM fd_X8_117 sk_16 rfl dX8_about_103 ?_
    obtain rfl := Option.some.inj h
    exact aw_iret (pc := 106) hM dX8_about_106 (Nat.le_of_ble_eq_true rfl) (Nat.le_of_ble_eq_true rfl) hq
  rw [if_neg c7] at h
  by_cases c8 : p0 = 7
  · rw [if_pos c8] at h
    refine aw_tableIn (pc := 1) (off := 106) (tgt := 107) hM dX8_about_1 (by rw [c8]; decide) (by rw [c8]; decide) (by rw [c8]; rfl) (by decide) ?_
    refine aw_aload_n (pc := 107) (i := 0) (x := 0) hM dX8_about_107 rfl rfl ?_
    refine aw_getR (pc := 108) (r := 16) hM fd_X8_41 sk_0 rfl dX8_about_108 ?_
    obtain ⟨r10, h9, h⟩ := bind_some h
    refine aw_cv1 (pc := 111) (n := 0) (As := []) (st := []) (b := 16) (vo := (some (.int r10))) (c2 := 0) (s2 := 0) hM (k_X5_calmNodes is_16 h9) rfl cw_X8_120 sk_16 rfl rfl (by decide +kernel) rfl rfl ⟨(Nat.le_of_ble_eq_true rfl), (Nat.le_of_ble_eq_true rfl)⟩ (Nat.le_of_ble_eq_true rfl) ⟨(Nat.le_of_ble_eq_true rfl), (Nat.le_of_ble_eq_true rfl)⟩ dX8_about_111 rfl rfl ?_
    obtain rfl := Option.some.inj h
    exact aw_iret (pc := 114) hM dX8_about_114 (Nat.le_of_ble_eq_true rfl) (Nat.le_of_ble_eq_true rfl) hq
  rw [if_neg c8] at h
  refine aw_tableOut (pc := 1) (tgt := 115) hM dX8_about_1 (by have := ts_ne c1 (k := 0) rfl; have := ts_ne c2 (k := 1) rfl; have := ts_ne c3 (k := 2) rfl; have := ts_ne c4 (k := 3) rfl; have := ts_ne c5 (k := 4) rfl; have := ts_ne c6 (k := 5) rfl; have := ts_ne c7 (k := 6) rfl; have := ts_ne c8 (k := 7) rfl; omega) (by decide) ?_
  obtain rfl := Option.some.inj h
  exact aw_throwS (pc := 115) hM hT tr_X8_124_126_128 dX8_about_115 dX8_about_118 dX8_about_119 dX8_about_121 dX8_about_124 (Nat.le_of_ble_eq_true rfl) (Nat.le_of_ble_eq_true rfl) (Nat.le_of_ble_eq_true rfl) (Nat.le_of_ble_eq_true rfl) (Nat.le_of_ble_eq_true rfl) (Nat.le_of_ble_eq_true rfl) hq
def rmX8_requireNode : Room := { frames := 6, cells := 1, slots := 6, locals := 82 }
def s_X8_requireNode (F : MM) (p0 : Int32) : Option (Unit ⊕ String) := if p0 < 0 then some (.inr ex_ioo) else if p0 < (F 8 0) then some (.inl ()) else some (.inr ex_ioo)
set_option maxRecDepth 20000 in
theorem k_X8_requireNode {C : CX} {F : MM} {G : GG} {p0 : Int32} {r : (Unit ⊕ String)} (h : s_X8_requireNode F p0 = some r) : AM C yX8_requireNode cX8_requireNode 2 none rmX8_requireNode [.ref 0, .int p0] F G (fun o F9 G9 => o = (oU r) ∧ F9 = F ∧ G9 = G) := by
  refine am_of (L := [some (.ref 0), some (.int p0)]) (by decide) (Nat.le_of_ble_eq_true rfl) rfl (fun M hM hT => ?_)
  have hM : MOk C RX8 cX8_requireNode 2 none rmX8_requireNode M := hM
  obtain ⟨Q, hQ⟩ : ∃ Q : OUT → MM → GG → Prop, Q = (fun o F9 G9 => o = (oU r) ∧ F9 = F ∧ G9 = G) := ⟨_, rfl⟩
  have hq : Q (oU r) F G := by rw [hQ]; exact ⟨rfl, rfl, rfl⟩
  rw [← hQ]
  clear hQ
  rw [s_X8_requireNode] at h
  refine aw_iload_n (pc := 0) (i := 1) (x := p0) hM dX8_requireNode_0 rfl rfl ?_
  refine aw_if_lt (pc := 1) (tgt := 15) hM dX8_requireNode_1 (by decide) (fun c1 => ?_) (fun c1 => ?_)
  · rw [if_pos c1] at h
    obtain rfl := Option.some.inj h
    exact aw_throwSW (pc := 15) hM hT tr_X8_276_278_280 dX8_requireNode_15 dX8_requireNode_18 dX8_requireNode_19 dX8_requireNode_22 dX8_requireNode_25 (Nat.le_of_ble_eq_true rfl) (Nat.le_of_ble_eq_true rfl) (Nat.le_of_ble_eq_true rfl) (Nat.le_of_ble_eq_true rfl) (Nat.le_of_ble_eq_true rfl) (Nat.le_of_ble_eq_true rfl) hq
  · rw [if_neg c1] at h
    refine aw_iload_n (pc := 4) (i := 1) (x := p0) hM dX8_requireNode_4 rfl rfl ?_
    refine aw_aload_n (pc := 5) (i := 0) (x := 0) hM dX8_requireNode_5 rfl rfl ?_
    refine aw_getR (pc := 6) (r := 8) hM fd_X8_25 sk_0 rfl dX8_requireNode_6 ?_
    refine aw_getI (pc := 9) hM fd_X8_102 sk_8 rfl dX8_requireNode_9 ?_
    refine aw_icmp_lt (pc := 12) (tgt := 26) hM dX8_requireNode_12 (by decide) (fun c2 => ?_) (fun c2 => ?_)
    · rw [if_pos c2] at h
      obtain rfl := Option.some.inj h
      exact aw_vret (pc := 26) hM dX8_requireNode_26 (Nat.le_of_ble_eq_true rfl) (Nat.le_of_ble_eq_true rfl) hq
    · rw [if_neg c2] at h
      obtain rfl := Option.some.inj h
      exact aw_throwSW (pc := 15) hM hT tr_X8_276_278_280 dX8_requireNode_15 dX8_requireNode_18 dX8_requireNode_19 dX8_requireNode_22 dX8_requireNode_25 (Nat.le_of_ble_eq_true rfl) (Nat.le_of_ble_eq_true rfl) (Nat.le_of_ble_eq_true rfl) (Nat.le_of_ble_eq_true rfl) (Nat.le_of_ble_eq_true rfl) (Nat.le_of_ble_eq_true rfl) hq
def rmX8_requireRange : Room := { frames := 6, cells := 1, slots := 6, locals := 82 }
def s_X8_requireRange (F : MM) (p0 : Int32) (p1 : Int32) (p2 : Int32) : Option (Unit ⊕ String) := if p0 < p1 then some (.inr ex_iae) else if p0 ≤ p2 then some (.inl ()) else some (.inr ex_iae)
set_option maxRecDepth 20000 in
theorem k_X8_requireRange {C : CX} {F : MM} {G : GG} {p0 : Int32} {p1 : Int32} {p2 : Int32} {r : (Unit ⊕ String)} (h : s_X8_requireRange F p0 p1 p2 = some r) : AM C yX8_requireRange cX8_requireRange 3 none rmX8_requireRange [.int p0, .int p1, .int p2] F G (fun o F9 G9 => o = (oU r) ∧ F9 = F ∧ G9 = G) := by
  refine am_of (L := [some (.int p0), some (.int p1), some (.int p2)]) (by decide) (Nat.le_of_ble_eq_true rfl) rfl (fun M hM hT => ?_)
  have hM : MOk C RX8 cX8_requireRange 3 none rmX8_requireRange M := hM
  obtain ⟨Q, hQ⟩ : ∃ Q : OUT → MM → GG → Prop, Q = (fun o F9 G9 => o = (oU r) ∧ F9 = F ∧ G9 = G) := ⟨_, rfl⟩
  have hq : Q (oU r) F G := by rw [hQ]; exact ⟨rfl, rfl, rfl⟩
  rw [← hQ]
  clear hQ
  rw [s_X8_requireRange] at h
  refine aw_iload_n (pc := 0) (i := 0) (x := p0) hM dX8_requireRange_0 rfl rfl ?_
  refine aw_iload_n (pc := 1) (i := 1) (x := p1) hM dX8_requireRange_1 rfl rfl ?_
  refine aw_icmp_lt (pc := 2) (tgt := 10) hM dX8_requireRange_2 (by decide) (fun c1 => ?_) (fun c1 => ?_)
  · rw [if_pos c1] at h
    obtain rfl := Option.some.inj h
    exact aw_throwSW (pc := 10) hM hT tr_X8_124_289_128 dX8_requireRange_10 dX8_requireRange_13 dX8_requireRange_14 dX8_requireRange_17 dX8_requireRange_20 (Nat.le_of_ble_eq_true rfl) (Nat.le_of_ble_eq_true rfl) (Nat.le_of_ble_eq_true rfl) (Nat.le_of_ble_eq_true rfl) (Nat.le_of_ble_eq_true rfl) (Nat.le_of_ble_eq_true rfl) hq
  · rw [if_neg c1] at h
    refine aw_iload_n (pc := 5) (i := 0) (x := p0) hM dX8_requireRange_5 rfl rfl ?_
    refine aw_iload_n (pc := 6) (i := 2) (x := p2) hM dX8_requireRange_6 rfl rfl ?_
    refine aw_icmp_le (pc := 7) (tgt := 21) hM dX8_requireRange_7 (by decide) (fun c2 => ?_) (fun c2 => ?_)
    · rw [if_pos c2] at h
      obtain rfl := Option.some.inj h
      exact aw_vret (pc := 21) hM dX8_requireRange_21 (Nat.le_of_ble_eq_true rfl) (Nat.le_of_ble_eq_true rfl) hq
    · rw [if_neg c2] at h
      obtain rfl := Option.some.inj h
      exact aw_throwSW (pc := 10) hM hT tr_X8_124_289_128 dX8_requireRange_10 dX8_requireRange_13 dX8_requireRange_14 dX8_requireRange_17 dX8_requireRange_20 (Nat.le_of_ble_eq_true rfl) (Nat.le_of_ble_eq_true rfl) (Nat.le_of_ble_eq_true rfl) (Nat.le_of_ble_eq_true rfl) (Nat.le_of_ble_eq_true rfl) (Nat.le_of_ble_eq_true rfl) hq
def rmX8_ahead : Room := { frames := 7, cells := 3, slots := 18, locals := 113 }
def s_X8_ahead (F : MM) (p0 : Int32) (p1 : Int32) (p2 : Int32) : Option ((Int32 ⊕ String) × MM) := tbW F (s_X8_requireNode F p1) (fun u2 => tbW F (s_X8_requireRange F p0 0 99) (fun u5 => tbW F (s_X8_requireRange F p2 0 6) (fun u8 => (s_X5_copy F 24 16).bind (fun F11 => (s_X5_passTicks F11 24 p0).bind (fun F13 => (s_X5_numberOf F13 24 p1 p2).bind (fun r15 => some (.inl r15, F13)))))))
set_option maxRecDepth 20000 in
theorem k_X8_ahead {C : CX} {F : MM} {G : GG} {p0 : Int32} {p1 : Int32} {p2 : Int32} {r : ((Int32 ⊕ String) × MM)} (h : s_X8_ahead F p0 p1 p2 = some r) : AM C yX8_ahead cX8_ahead 4 (some .int) rmX8_ahead [.ref 0, .int p0, .int p1, .int p2] F G (fun o F9 G9 => o = (oI r.1) ∧ F9 = r.2 ∧ G9 = G) := by
  refine am_of (L := [some (.ref 0), some (.int p0), some (.int p1), some (.int p2)]) (by decide) (Nat.le_of_ble_eq_true rfl) rfl (fun M hM hT => ?_)
  have hM : MOk C RX8 cX8_ahead 4 (some .int) rmX8_ahead M := hM
  obtain ⟨Q, hQ⟩ : ∃ Q : OUT → MM → GG → Prop, Q = (fun o F9 G9 => o = (oI r.1) ∧ F9 = r.2 ∧ G9 = G) := ⟨_, rfl⟩
  have hq : Q (oI r.1) r.2 G := by rw [hQ]; exact ⟨rfl, rfl, rfl⟩
  rw [← hQ]
  clear hQ
  rw [s_X8_ahead] at h
  refine aw_aload_n (pc := 0) (i := 0) (x := 0) hM dX8_ahead_0 rfl rfl ?_
  refine aw_iload_n (pc := 1) (i := 2) (x := p1) hM dX8_ahead_1 rfl rfl ?_
  rcases tbW_some h with ⟨u2, h1, h⟩ | ⟨E3, h1, rfl⟩
  rotate_left
  · exact aw_cvX (pc := 2) (n := 1) (As := [.int p1]) (st := []) (b := 0) (E := E3) hM (k_X8_requireNode h1) rfl cw_X8_129 sk_0 rfl rfl (by decide +kernel) rfl rfl ⟨(Nat.le_of_ble_eq_true rfl), (Nat.le_of_ble_eq_true rfl)⟩ (Nat.le_of_ble_eq_true rfl) ⟨(Nat.le_of_ble_eq_true rfl), (Nat.le_of_ble_eq_true rfl)⟩ dX8_ahead_2 (ax_out hM hT (Nat.le_of_ble_eq_true rfl) (Nat.le_of_ble_eq_true rfl) hq)
  refine aw_cv1 (pc := 2) (n := 1) (As := [.int p1]) (st := []) (b := 0) (vo := none) (c2 := 1) (s2 := 6) hM (k_X8_requireNode h1) rfl cw_X8_129 sk_0 rfl rfl (by decide +kernel) rfl rfl ⟨(Nat.le_of_ble_eq_true rfl), (Nat.le_of_ble_eq_true rfl)⟩ (Nat.le_of_ble_eq_true rfl) ⟨(Nat.le_of_ble_eq_true rfl), (Nat.le_of_ble_eq_true rfl)⟩ dX8_ahead_2 rfl rfl ?_
  refine aw_iload_n (pc := 5) (i := 1) (x := p0) hM dX8_ahead_5 rfl rfl ?_
  refine aw_iconst (pc := 6) (v := 0) hM dX8_ahead_6 (by decide) ?_
  refine aw_bipush (pc := 7) (v := 99) hM dX8_ahead_7 (by decide) ?_
  rcases tbW_some h with ⟨u5, h4, h⟩ | ⟨E6, h4, rfl⟩
  rotate_left
  · exact aw_csX (pc := 9) (n := 3) (As := [.int p0, .int 0, .int 99]) (st := []) (E := E6) hM (k_X8_requireRange h4) rfl cw_X8_63 (by decide +kernel) rfl rfl ⟨(Nat.le_of_ble_eq_true rfl), (Nat.le_of_ble_eq_true rfl)⟩ (Nat.le_of_ble_eq_true rfl) ⟨(Nat.le_of_ble_eq_true rfl), (Nat.le_of_ble_eq_true rfl)⟩ dX8_ahead_9 (ax_out hM hT (Nat.le_of_ble_eq_true rfl) (Nat.le_of_ble_eq_true rfl) hq)
  refine aw_cs1 (pc := 9) (n := 3) (As := [.int p0, .int 0, .int 99]) (st := []) (vo := none) (c2 := 2) (s2 := 12) hM (k_X8_requireRange h4) rfl cw_X8_63 (by decide +kernel) rfl rfl ⟨(Nat.le_of_ble_eq_true rfl), (Nat.le_of_ble_eq_true rfl)⟩ (Nat.le_of_ble_eq_true rfl) ⟨(Nat.le_of_ble_eq_true rfl), (Nat.le_of_ble_eq_true rfl)⟩ dX8_ahead_9 rfl rfl ?_
  refine aw_iload_n (pc := 12) (i := 3) (x := p2) hM dX8_ahead_12 rfl rfl ?_
  refine aw_iconst (pc := 13) (v := 0) hM dX8_ahead_13 (by decide) ?_
  refine aw_bipush (pc := 14) (v := 6) hM dX8_ahead_14 (by decide) ?_
  rcases tbW_some h with ⟨u8, h7, h⟩ | ⟨E9, h7, rfl⟩
  rotate_left
  · exact aw_csX (pc := 16) (n := 3) (As := [.int p2, .int 0, .int 6]) (st := []) (E := E9) hM (k_X8_requireRange h7) rfl cw_X8_63 (by decide +kernel) rfl rfl ⟨(Nat.le_of_ble_eq_true rfl), (Nat.le_of_ble_eq_true rfl)⟩ (Nat.le_of_ble_eq_true rfl) ⟨(Nat.le_of_ble_eq_true rfl), (Nat.le_of_ble_eq_true rfl)⟩ dX8_ahead_16 (ax_out hM hT (Nat.le_of_ble_eq_true rfl) (Nat.le_of_ble_eq_true rfl) hq)
  refine aw_cs1 (pc := 16) (n := 3) (As := [.int p2, .int 0, .int 6]) (st := []) (vo := none) (c2 := 3) (s2 := 18) hM (k_X8_requireRange h7) rfl cw_X8_63 (by decide +kernel) rfl rfl ⟨(Nat.le_of_ble_eq_true rfl), (Nat.le_of_ble_eq_true rfl)⟩ (Nat.le_of_ble_eq_true rfl) ⟨(Nat.le_of_ble_eq_true rfl), (Nat.le_of_ble_eq_true rfl)⟩ dX8_ahead_16 rfl rfl ?_
  refine aw_aload_n (pc := 19) (i := 0) (x := 0) hM dX8_ahead_19 rfl rfl ?_
  refine aw_getR (pc := 20) (r := 24) hM fd_X8_45 sk_0 rfl dX8_ahead_20 ?_
  refine aw_aload_n (pc := 23) (i := 0) (x := 0) hM dX8_ahead_23 rfl rfl ?_
  refine aw_getR (pc := 24) (r := 16) hM fd_X8_41 sk_0 rfl dX8_ahead_24 ?_
  obtain ⟨F11, h10, h⟩ := bind_some h
  refine aw_cv1 (pc := 27) (n := 1) (As := [.ref 16]) (st := []) (b := 24) (vo := none) (c2 := 3) (s2 := 18) hM (k_X5_copy is_24 is_16 h10) rfl cw_X8_227 sk_24 rfl rfl (by decide +kernel) rfl rfl ⟨(Nat.le_of_ble_eq_true rfl), (Nat.le_of_ble_eq_true rfl)⟩ (Nat.le_of_ble_eq_true rfl) ⟨(Nat.le_of_ble_eq_true rfl), (Nat.le_of_ble_eq_true rfl)⟩ dX8_ahead_27 rfl rfl ?_
  refine aw_aload_n (pc := 30) (i := 0) (x := 0) hM dX8_ahead_30 rfl rfl ?_
  refine aw_getR (pc := 31) (r := 24) hM fd_X8_45 sk_0 rfl dX8_ahead_31 ?_
  refine aw_iload_n (pc := 34) (i := 1) (x := p0) hM dX8_ahead_34 rfl rfl ?_
  obtain ⟨F13, h12, h⟩ := bind_some h
  refine aw_cv1 (pc := 35) (n := 1) (As := [.int p0]) (st := []) (b := 24) (vo := none) (c2 := 3) (s2 := 18) hM (k_X5_passTicks is_24 h12) rfl cw_X8_203 sk_24 rfl rfl (by decide +kernel) rfl rfl ⟨(Nat.le_of_ble_eq_true rfl), (Nat.le_of_ble_eq_true rfl)⟩ (Nat.le_of_ble_eq_true rfl) ⟨(Nat.le_of_ble_eq_true rfl), (Nat.le_of_ble_eq_true rfl)⟩ dX8_ahead_35 rfl rfl ?_
  refine aw_aload_n (pc := 38) (i := 0) (x := 0) hM dX8_ahead_38 rfl rfl ?_
  refine aw_getR (pc := 39) (r := 24) hM fd_X8_45 sk_0 rfl dX8_ahead_39 ?_
  refine aw_iload_n (pc := 42) (i := 2) (x := p1) hM dX8_ahead_42 rfl rfl ?_
  refine aw_iload_n (pc := 43) (i := 3) (x := p2) hM dX8_ahead_43 rfl rfl ?_
  obtain ⟨r15, h14, h⟩ := bind_some h
  refine aw_cv1 (pc := 44) (n := 2) (As := [.int p1, .int p2]) (st := []) (b := 24) (vo := (some (.int r15))) (c2 := 3) (s2 := 18) hM (k_X5_numberOf is_24 h14) rfl cw_X8_133 sk_24 rfl rfl (by decide +kernel) rfl rfl ⟨(Nat.le_of_ble_eq_true rfl), (Nat.le_of_ble_eq_true rfl)⟩ (Nat.le_of_ble_eq_true rfl) ⟨(Nat.le_of_ble_eq_true rfl), (Nat.le_of_ble_eq_true rfl)⟩ dX8_ahead_44 rfl rfl ?_
  obtain rfl := Option.some.inj h
  exact aw_iret (pc := 47) hM dX8_ahead_47 (Nat.le_of_ble_eq_true rfl) (Nat.le_of_ble_eq_true rfl) hq
def rmX8_append : Room := { frames := 7, cells := 2, slots := 12, locals := 104 }
def s_X8_append (F : MM) (p0 : Int32) : Option ((Int32 ⊕ String) × MM) := tbW F (s_X8_requireRange F p0 0 255) (fun u2 => if (F 0 1) < 160 then if inb (F 0 1) 160 then ((some (mup F 1 (ix (F 0 1)) (vp_nar .char (((Int32.toUInt32 p0) % 65536).toInt32)))).bind (fun F6 => (some (mup F6 0 1 ((F6 0 1) + 1))).bind (fun F8 => some (.inl (F8 0 1), F8)))) else none else some (.inr ex_ise, F))
set_option maxRecDepth 20000 in
theorem k_X8_append {C : CX} {F : MM} {G : GG} {p0 : Int32} {r : ((Int32 ⊕ String) × MM)} (h : s_X8_append F p0 = some r) : AM C yX8_append cX8_append 2 (some .int) rmX8_append [.ref 0, .int p0] F G (fun o F9 G9 => o = (oI r.1) ∧ F9 = r.2 ∧ G9 = G) := by
  refine am_of (L := [some (.ref 0), some (.int p0)]) (by decide) (Nat.le_of_ble_eq_true rfl) rfl (fun M hM hT => ?_)
  have hM : MOk C RX8 cX8_append 2 (some .int) rmX8_append M := hM
  obtain ⟨Q, hQ⟩ : ∃ Q : OUT → MM → GG → Prop, Q = (fun o F9 G9 => o = (oI r.1) ∧ F9 = r.2 ∧ G9 = G) := ⟨_, rfl⟩
  have hq : Q (oI r.1) r.2 G := by rw [hQ]; exact ⟨rfl, rfl, rfl⟩
  rw [← hQ]
  clear hQ
  rw [s_X8_append] at h
  refine aw_iload_n (pc := 0) (i := 1) (x := p0) hM dX8_append_0 rfl rfl ?_
  refine aw_iconst (pc := 1) (v := 0) hM dX8_append_1 (by decide) ?_
  refine aw_sipush (pc := 2) (v := 255) hM dX8_append_2 (by decide) ?_
  rcases tbW_some h with ⟨u2, h1, h⟩ | ⟨E3, h1, rfl⟩
  rotate_left
  · exact aw_csX (pc := 5) (n := 3) (As := [.int p0, .int 0, .int 255]) (st := []) (E := E3) hM (k_X8_requireRange h1) rfl cw_X8_63 (by decide +kernel) rfl rfl ⟨(Nat.le_of_ble_eq_true rfl), (Nat.le_of_ble_eq_true rfl)⟩ (Nat.le_of_ble_eq_true rfl) ⟨(Nat.le_of_ble_eq_true rfl), (Nat.le_of_ble_eq_true rfl)⟩ dX8_append_5 (ax_out hM hT (Nat.le_of_ble_eq_true rfl) (Nat.le_of_ble_eq_true rfl) hq)
  refine aw_cs1 (pc := 5) (n := 3) (As := [.int p0, .int 0, .int 255]) (st := []) (vo := none) (c2 := 1) (s2 := 6) hM (k_X8_requireRange h1) rfl cw_X8_63 (by decide +kernel) rfl rfl ⟨(Nat.le_of_ble_eq_true rfl), (Nat.le_of_ble_eq_true rfl)⟩ (Nat.le_of_ble_eq_true rfl) ⟨(Nat.le_of_ble_eq_true rfl), (Nat.le_of_ble_eq_true rfl)⟩ dX8_append_5 rfl rfl ?_
  refine aw_aload_n (pc := 8) (i := 0) (x := 0) hM dX8_append_8 rfl rfl ?_
  refine aw_getI (pc := 9) hM fd_X8_67 sk_0 rfl dX8_append_9 ?_
  refine aw_sipush (pc := 12) (v := 160) hM dX8_append_12 (by decide) ?_
  refine aw_icmp_lt (pc := 15) (tgt := 28) hM dX8_append_15 (by decide) (fun c4 => ?_) (fun c4 => ?_)
  · rw [if_pos c4] at h
    refine aw_aload_n (pc := 28) (i := 0) (x := 0) hM dX8_append_28 rfl rfl ?_
    refine aw_getR (pc := 29) (r := 1) hM fd_X8_9 sk_0 rfl dX8_append_29 ?_
    refine aw_aload_n (pc := 32) (i := 0) (x := 0) hM dX8_append_32 rfl rfl ?_
    refine aw_getI (pc := 33) hM fd_X8_67 sk_0 rfl dX8_append_33 ?_
    refine aw_iload_n (pc := 36) (i := 1) (x := p0) hM dX8_append_36 rfl rfl ?_
    refine aw_i2c (pc := 37) hM dX8_append_37 ?_
    obtain ⟨c5, h⟩ := ite_some h
    obtain ⟨F6, e7, h⟩ := bind_some h
    have e7 := Option.some.inj e7
    refine aw_cast (pc := 38) hM sk_1 c5 dX8_append_38 ?_
    refine aw_mem e7 ?_
    refine aw_aload_n (pc := 39) (i := 0) (x := 0) hM dX8_append_39 rfl rfl ?_
    refine aw_dup (pc := 40) hM dX8_append_40 rfl ?_
    refine aw_getI (pc := 41) hM fd_X8_67 sk_0 rfl dX8_append_41 ?_
    refine aw_iconst (pc := 44) (v := 1) hM dX8_append_44 (by decide) ?_
    refine aw_iadd (pc := 45) hM dX8_append_45 ?_
    obtain ⟨F8, e9, h⟩ := bind_some h
    have e9 := Option.some.inj e9
    refine aw_put (pc := 46) (ty := .int) hM fd_X8_67 tyX8_ok nmX8 rfl (by decide +kernel) rfl rfl sk_0 rfl dX8_append_46 ?_
    refine aw_mem e9 ?_
    refine aw_aload_n (pc := 49) (i := 0) (x := 0) hM dX8_append_49 rfl rfl ?_
    refine aw_getI (pc := 50) hM fd_X8_67 sk_0 rfl dX8_append_50 ?_
    obtain rfl := Option.some.inj h
    exact aw_iret (pc := 53) hM dX8_append_53 (Nat.le_of_ble_eq_true rfl) (Nat.le_of_ble_eq_true rfl) hq
  · rw [if_neg c4] at h
    obtain rfl := Option.some.inj h
    exact aw_throwS (pc := 18) hM hT tr_X8_71_73_75 dX8_append_18 dX8_append_21 dX8_append_22 dX8_append_24 dX8_append_27 (Nat.le_of_ble_eq_true rfl) (Nat.le_of_ble_eq_true rfl) (Nat.le_of_ble_eq_true rfl) (Nat.le_of_ble_eq_true rfl) (Nat.le_of_ble_eq_true rfl) (Nat.le_of_ble_eq_true rfl) hq
def rmX8_requireComponent : Room := { frames := 6, cells := 1, slots := 6, locals := 82 }
def s_X8_requireComponent (F : MM) (p0 : Int32) : Option (Unit ⊕ String) := if p0 < 0 then some (.inr ex_ioo) else if p0 < (F 8 1) then some (.inl ()) else some (.inr ex_ioo)
set_option maxRecDepth 20000 in
theorem k_X8_requireComponent {C : CX} {F : MM} {G : GG} {p0 : Int32} {r : (Unit ⊕ String)} (h : s_X8_requireComponent F p0 = some r) : AM C yX8_requireComponent cX8_requireComponent 2 none rmX8_requireComponent [.ref 0, .int p0] F G (fun o F9 G9 => o = (oU r) ∧ F9 = F ∧ G9 = G) := by
  refine am_of (L := [some (.ref 0), some (.int p0)]) (by decide) (Nat.le_of_ble_eq_true rfl) rfl (fun M hM hT => ?_)
  have hM : MOk C RX8 cX8_requireComponent 2 none rmX8_requireComponent M := hM
  obtain ⟨Q, hQ⟩ : ∃ Q : OUT → MM → GG → Prop, Q = (fun o F9 G9 => o = (oU r) ∧ F9 = F ∧ G9 = G) := ⟨_, rfl⟩
  have hq : Q (oU r) F G := by rw [hQ]; exact ⟨rfl, rfl, rfl⟩
  rw [← hQ]
  clear hQ
  rw [s_X8_requireComponent] at h
  refine aw_iload_n (pc := 0) (i := 1) (x := p0) hM dX8_requireComponent_0 rfl rfl ?_
  refine aw_if_lt (pc := 1) (tgt := 15) hM dX8_requireComponent_1 (by decide) (fun c1 => ?_) (fun c1 => ?_)
  · rw [if_pos c1] at h
    obtain rfl := Option.some.inj h
    exact aw_throwSW (pc := 15) hM hT tr_X8_276_281_280 dX8_requireComponent_15 dX8_requireComponent_18 dX8_requireComponent_19 dX8_requireComponent_22 dX8_requireComponent_25 (Nat.le_of_ble_eq_true rfl) (Nat.le_of_ble_eq_true rfl) (Nat.le_of_ble_eq_true rfl) (Nat.le_of_ble_eq_true rfl) (Nat.le_of_ble_eq_true rfl) (Nat.le_of_ble_eq_true rfl) hq
  · rw [if_neg c1] at h
    refine aw_iload_n (pc := 4) (i := 1) (x := p0) hM dX8_requireComponent_4 rfl rfl ?_
    refine aw_aload_n (pc := 5) (i := 0) (x := 0) hM dX8_requireComponent_5 rfl rfl ?_
    refine aw_getR (pc := 6) (r := 8) hM fd_X8_25 sk_0 rfl dX8_requireComponent_6 ?_
    refine aw_getI (pc := 9) hM fd_X8_105 sk_8 rfl dX8_requireComponent_9 ?_
    refine aw_icmp_lt (pc := 12) (tgt := 26) hM dX8_requireComponent_12 (by decide) (fun c2 => ?_) (fun c2 => ?_)
    · rw [if_pos c2] at h
      obtain rfl := Option.some.inj h
      exact aw_vret (pc := 26) hM dX8_requireComponent_26 (Nat.le_of_ble_eq_true rfl) (Nat.le_of_ble_eq_true rfl) hq
    · rw [if_neg c2] at h
      obtain rfl := Option.some.inj h
      exact aw_throwSW (pc := 15) hM hT tr_X8_276_281_280 dX8_requireComponent_15 dX8_requireComponent_18 dX8_requireComponent_19 dX8_requireComponent_22 dX8_requireComponent_25 (Nat.le_of_ble_eq_true rfl) (Nat.le_of_ble_eq_true rfl) (Nat.le_of_ble_eq_true rfl) (Nat.le_of_ble_eq_true rfl) (Nat.le_of_ble_eq_true rfl) (Nat.le_of_ble_eq_true rfl) hq
def rmX8_approvals : Room := { frames := 7, cells := 2, slots := 12, locals := 104 }
def s_X8_approvals (F : MM) (p0 : Int32) (p1 : Int32) : Option (Int32 ⊕ String) := tbR (s_X8_requireComponent F p0) (fun u2 => tbR (s_X8_requireRange F p1 0 3) (fun u5 => (s_X0_change F p0 p1).bind (fun r8 => if inb r8 24 then (some (.inl (F 23 (ix r8)))) else none)))
set_option maxRecDepth 20000 in
theorem k_X8_approvals {C : CX} {F : MM} {G : GG} {p0 : Int32} {p1 : Int32} {r : (Int32 ⊕ String)} (h : s_X8_approvals F p0 p1 = some r) : AM C yX8_approvals cX8_approvals 3 (some .int) rmX8_approvals [.ref 0, .int p0, .int p1] F G (fun o F9 G9 => o = (oI r) ∧ F9 = F ∧ G9 = G) := by
  refine am_of (L := [some (.ref 0), some (.int p0), some (.int p1)]) (by decide) (Nat.le_of_ble_eq_true rfl) rfl (fun M hM hT => ?_)
  have hM : MOk C RX8 cX8_approvals 3 (some .int) rmX8_approvals M := hM
  obtain ⟨Q, hQ⟩ : ∃ Q : OUT → MM → GG → Prop, Q = (fun o F9 G9 => o = (oI r) ∧ F9 = F ∧ G9 = G) := ⟨_, rfl⟩
  have hq : Q (oI r) F G := by rw [hQ]; exact ⟨rfl, rfl, rfl⟩
  rw [← hQ]
  clear hQ
  rw [s_X8_approvals] at h
  refine aw_aload_n (pc := 0) (i := 0) (x := 0) hM dX8_approvals_0 rfl rfl ?_
  refine aw_iload_n (pc := 1) (i := 1) (x := p0) hM dX8_approvals_1 rfl rfl ?_
  rcases tbR_some h with ⟨u2, h1, h⟩ | ⟨E3, h1, rfl⟩
  rotate_left
  · exact aw_cvX (pc := 2) (n := 1) (As := [.int p0]) (st := []) (b := 0) (E := E3) hM (k_X8_requireComponent h1) rfl cw_X8_137 sk_0 rfl rfl (by decide +kernel) rfl rfl ⟨(Nat.le_of_ble_eq_true rfl), (Nat.le_of_ble_eq_true rfl)⟩ (Nat.le_of_ble_eq_true rfl) ⟨(Nat.le_of_ble_eq_true rfl), (Nat.le_of_ble_eq_true rfl)⟩ dX8_approvals_2 (ax_out hM hT (Nat.le_of_ble_eq_true rfl) (Nat.le_of_ble_eq_true rfl) hq)
  refine aw_cv1 (pc := 2) (n := 1) (As := [.int p0]) (st := []) (b := 0) (vo := none) (c2 := 1) (s2 := 6) hM (k_X8_requireComponent h1) rfl cw_X8_137 sk_0 rfl rfl (by decide +kernel) rfl rfl ⟨(Nat.le_of_ble_eq_true rfl), (Nat.le_of_ble_eq_true rfl)⟩ (Nat.le_of_ble_eq_true rfl) ⟨(Nat.le_of_ble_eq_true rfl), (Nat.le_of_ble_eq_true rfl)⟩ dX8_approvals_2 rfl rfl ?_
  refine aw_iload_n (pc := 5) (i := 2) (x := p1) hM dX8_approvals_5 rfl rfl ?_
  refine aw_iconst (pc := 6) (v := 0) hM dX8_approvals_6 (by decide) ?_
  refine aw_iconst (pc := 7) (v := 3) hM dX8_approvals_7 (by decide) ?_
  rcases tbR_some h with ⟨u5, h4, h⟩ | ⟨E6, h4, rfl⟩
  rotate_left
  · exact aw_csX (pc := 8) (n := 3) (As := [.int p1, .int 0, .int 3]) (st := []) (E := E6) hM (k_X8_requireRange h4) rfl cw_X8_63 (by decide +kernel) rfl rfl ⟨(Nat.le_of_ble_eq_true rfl), (Nat.le_of_ble_eq_true rfl)⟩ (Nat.le_of_ble_eq_true rfl) ⟨(Nat.le_of_ble_eq_true rfl), (Nat.le_of_ble_eq_true rfl)⟩ dX8_approvals_8 (ax_out hM hT (Nat.le_of_ble_eq_true rfl) (Nat.le_of_ble_eq_true rfl) hq)
  refine aw_cs1 (pc := 8) (n := 3) (As := [.int p1, .int 0, .int 3]) (st := []) (vo := none) (c2 := 2) (s2 := 12) hM (k_X8_requireRange h4) rfl cw_X8_63 (by decide +kernel) rfl rfl ⟨(Nat.le_of_ble_eq_true rfl), (Nat.le_of_ble_eq_true rfl)⟩ (Nat.le_of_ble_eq_true rfl) ⟨(Nat.le_of_ble_eq_true rfl), (Nat.le_of_ble_eq_true rfl)⟩ dX8_approvals_8 rfl rfl ?_
  refine aw_aload_n (pc := 11) (i := 0) (x := 0) hM dX8_approvals_11 rfl rfl ?_
  refine aw_getR (pc := 12) (r := 16) hM fd_X8_41 sk_0 rfl dX8_approvals_12 ?_
  refine aw_getR (pc := 15) (r := 23) hM fd_X8_158 sk_16 rfl dX8_approvals_15 ?_
  refine aw_iload_n (pc := 18) (i := 1) (x := p0) hM dX8_approvals_18 rfl rfl ?_
  refine aw_iload_n (pc := 19) (i := 2) (x := p1) hM dX8_approvals_19 rfl rfl ?_
  obtain ⟨r8, h7, h⟩ := bind_some h
  refine aw_cs1 (pc := 20) (n := 2) (As := [.int p0, .int p1]) (st := [.ref 23]) (vo := (some (.int r8))) (c2 := 2) (s2 := 12) hM (k_X0_change h7) rfl cw_X8_161 (by decide +kernel) rfl rfl ⟨(Nat.le_of_ble_eq_true rfl), (Nat.le_of_ble_eq_true rfl)⟩ (Nat.le_of_ble_eq_true rfl) ⟨(Nat.le_of_ble_eq_true rfl), (Nat.le_of_ble_eq_true rfl)⟩ dX8_approvals_20 rfl rfl ?_
  obtain ⟨c9, h⟩ := ite_some h
  refine aw_iald (pc := 23) hM sk_23 c9 dX8_approvals_23 ?_
  obtain rfl := Option.some.inj h
  exact aw_iret (pc := 24) hM dX8_approvals_24 (Nat.le_of_ble_eq_true rfl) (Nat.le_of_ble_eq_true rfl) hq
def rmX8_requireApprover : Room := { frames := 6, cells := 1, slots := 6, locals := 82 }
def s_X8_requireApprover (F : MM) (p0 : Int32) : Option (Unit ⊕ String) := if p0 < 0 then some (.inr ex_ioo) else if p0 < 5 then some (.inl ()) else some (.inr ex_ioo)
set_option maxRecDepth 20000 in
theorem k_X8_requireApprover {C : CX} {F : MM} {G : GG} {p0 : Int32} {r : (Unit ⊕ String)} (h : s_X8_requireApprover F p0 = some r) : AM C yX8_requireApprover cX8_requireApprover 1 none rmX8_requireApprover [.int p0] F G (fun o F9 G9 => o = (oU r) ∧ F9 = F ∧ G9 = G) := by
  refine am_of (L := [some (.int p0)]) (by decide) (Nat.le_of_ble_eq_true rfl) rfl (fun M hM hT => ?_)
  have hM : MOk C RX8 cX8_requireApprover 1 none rmX8_requireApprover M := hM
  obtain ⟨Q, hQ⟩ : ∃ Q : OUT → MM → GG → Prop, Q = (fun o F9 G9 => o = (oU r) ∧ F9 = F ∧ G9 = G) := ⟨_, rfl⟩
  have hq : Q (oU r) F G := by rw [hQ]; exact ⟨rfl, rfl, rfl⟩
  rw [← hQ]
  clear hQ
  rw [s_X8_requireApprover] at h
  refine aw_iload_n (pc := 0) (i := 0) (x := p0) hM dX8_requireApprover_0 rfl rfl ?_
  refine aw_if_lt (pc := 1) (tgt := 9) hM dX8_requireApprover_1 (by decide) (fun c1 => ?_) (fun c1 => ?_)
  · rw [if_pos c1] at h
    obtain rfl := Option.some.inj h
    exact aw_throwSW (pc := 9) hM hT tr_X8_276_285_280 dX8_requireApprover_9 dX8_requireApprover_12 dX8_requireApprover_13 dX8_requireApprover_16 dX8_requireApprover_19 (Nat.le_of_ble_eq_true rfl) (Nat.le_of_ble_eq_true rfl) (Nat.le_of_ble_eq_true rfl) (Nat.le_of_ble_eq_true rfl) (Nat.le_of_ble_eq_true rfl) (Nat.le_of_ble_eq_true rfl) hq
  · rw [if_neg c1] at h
    refine aw_iload_n (pc := 4) (i := 0) (x := p0) hM dX8_requireApprover_4 rfl rfl ?_
    refine aw_iconst (pc := 5) (v := 5) hM dX8_requireApprover_5 (by decide) ?_
    refine aw_icmp_lt (pc := 6) (tgt := 20) hM dX8_requireApprover_6 (by decide) (fun c2 => ?_) (fun c2 => ?_)
    · rw [if_pos c2] at h
      obtain rfl := Option.some.inj h
      exact aw_vret (pc := 20) hM dX8_requireApprover_20 (Nat.le_of_ble_eq_true rfl) (Nat.le_of_ble_eq_true rfl) hq
    · rw [if_neg c2] at h
      obtain rfl := Option.some.inj h
      exact aw_throwSW (pc := 9) hM hT tr_X8_276_285_280 dX8_requireApprover_9 dX8_requireApprover_12 dX8_requireApprover_13 dX8_requireApprover_16 dX8_requireApprover_19 (Nat.le_of_ble_eq_true rfl) (Nat.le_of_ble_eq_true rfl) (Nat.le_of_ble_eq_true rfl) (Nat.le_of_ble_eq_true rfl) (Nat.le_of_ble_eq_true rfl) (Nat.le_of_ble_eq_true rfl) hq
def rmX8_approve : Room := { frames := 7, cells := 4, slots := 24, locals := 104 }
def s_X8_approve (F : MM) (p0 : Int32) (p1 : Int32) (p2 : Int32) : Option ((Int32 ⊕ String) × MM) := tbW F (s_X8_requireComponent F p0) (fun u2 => tbW F (s_X8_requireApprover F p2) (fun u5 => tbW F (s_X8_requireRange F p1 0 3) (fun u8 => (s_X0_change F p0 p1).bind (fun r11 => if inb r11 24 then (if ((F 23 (ix r11)) &&& ((1 : Int32) <<< (p2 &&& 31))) = 0 then (s_X2_remember F 16).bind (fun F15 => if inb r11 24 then (if inb r11 24 then ((some (mup F15 23 (ix r11) ((F15 23 (ix r11)) ||| ((1 : Int32) <<< (p2 &&& 31))))).bind (fun F18 => if inb r11 24 then ((s_J6_bitCount_0f7a4 F18 (F18 23 (ix r11))).bind (fun r22 => some (.inl r22, F18))) else none)) else none) else none) else some (.inr ex_ise, F)) else none))))
set_option maxRecDepth 20000 in
theorem k_X8_approve {C : CX} {F : MM} {G : GG} {p0 : Int32} {p1 : Int32} {p2 : Int32} {r : ((Int32 ⊕ String) × MM)} (h : s_X8_approve F p0 p1 p2 = some r) : AM C yX8_approve cX8_approve 5 (some .int) rmX8_approve [.ref 0, .int p0, .int p1, .int p2] F G (fun o F9 G9 => o = (oI r.1) ∧ F9 = r.2 ∧ G9 = G) := by
  refine am_of (L := [some (.ref 0), some (.int p0), some (.int p1), some (.int p2), none]) (by decide) (Nat.le_of_ble_eq_true rfl) rfl (fun M hM hT => ?_)
  have hM : MOk C RX8 cX8_approve 5 (some .int) rmX8_approve M := hM
  obtain ⟨Q, hQ⟩ : ∃ Q : OUT → MM → GG → Prop, Q = (fun o F9 G9 => o = (oI r.1) ∧ F9 = r.2 ∧ G9 = G) := ⟨_, rfl⟩
  have hq : Q (oI r.1) r.2 G := by rw [hQ]; exact ⟨rfl, rfl, rfl⟩
  rw [← hQ]
  clear hQ
  rw [s_X8_approve] at h
  refine aw_aload_n (pc := 0) (i := 0) (x := 0) hM dX8_approve_0 rfl rfl ?_
  refine aw_iload_n (pc := 1) (i := 1) (x := p0) hM dX8_approve_1 rfl rfl ?_
  rcases tbW_some h with ⟨u2, h1, h⟩ | ⟨E3, h1, rfl⟩
  rotate_left
  · exact aw_cvX (pc := 2) (n := 1) (As := [.int p0]) (st := []) (b := 0) (E := E3) hM (k_X8_requireComponent h1) rfl cw_X8_137 sk_0 rfl rfl (by decide +kernel) rfl rfl ⟨(Nat.le_of_ble_eq_true rfl), (Nat.le_of_ble_eq_true rfl)⟩ (Nat.le_of_ble_eq_true rfl) ⟨(Nat.le_of_ble_eq_true rfl), (Nat.le_of_ble_eq_true rfl)⟩ dX8_approve_2 (ax_out hM hT (Nat.le_of_ble_eq_true rfl) (Nat.le_of_ble_eq_true rfl) hq)
  refine aw_cv1 (pc := 2) (n := 1) (As := [.int p0]) (st := []) (b := 0) (vo := none) (c2 := 1) (s2 := 6) hM (k_X8_requireComponent h1) rfl cw_X8_137 sk_0 rfl rfl (by decide +kernel) rfl rfl ⟨(Nat.le_of_ble_eq_true rfl), (Nat.le_of_ble_eq_true rfl)⟩ (Nat.le_of_ble_eq_true rfl) ⟨(Nat.le_of_ble_eq_true rfl), (Nat.le_of_ble_eq_true rfl)⟩ dX8_approve_2 rfl rfl ?_
  refine aw_iload_n (pc := 5) (i := 3) (x := p2) hM dX8_approve_5 rfl rfl ?_
  rcases tbW_some h with ⟨u5, h4, h⟩ | ⟨E6, h4, rfl⟩
  rotate_left
  · exact aw_csX (pc := 6) (n := 1) (As := [.int p2]) (st := []) (E := E6) hM (k_X8_requireApprover h4) rfl cw_X8_178 (by decide +kernel) rfl rfl ⟨(Nat.le_of_ble_eq_true rfl), (Nat.le_of_ble_eq_true rfl)⟩ (Nat.le_of_ble_eq_true rfl) ⟨(Nat.le_of_ble_eq_true rfl), (Nat.le_of_ble_eq_true rfl)⟩ dX8_approve_6 (ax_out hM hT (Nat.le_of_ble_eq_true rfl) (Nat.le_of_ble_eq_true rfl) hq)
  refine aw_cs1 (pc := 6) (n := 1) (As := [.int p2]) (st := []) (vo := none) (c2 := 2) (s2 := 12) hM (k_X8_requireApprover h4) rfl cw_X8_178 (by decide +kernel) rfl rfl ⟨(Nat.le_of_ble_eq_true rfl), (Nat.le_of_ble_eq_true rfl)⟩ (Nat.le_of_ble_eq_true rfl) ⟨(Nat.le_of_ble_eq_true rfl), (Nat.le_of_ble_eq_true rfl)⟩ dX8_approve_6 rfl rfl ?_
  refine aw_iload_n (pc := 9) (i := 2) (x := p1) hM dX8_approve_9 rfl rfl ?_
  refine aw_iconst (pc := 10) (v := 0) hM dX8_approve_10 (by decide) ?_
  refine aw_iconst (pc := 11) (v := 3) hM dX8_approve_11 (by decide) ?_
  rcases tbW_some h with ⟨u8, h7, h⟩ | ⟨E9, h7, rfl⟩
  rotate_left
  · exact aw_csX (pc := 12) (n := 3) (As := [.int p1, .int 0, .int 3]) (st := []) (E := E9) hM (k_X8_requireRange h7) rfl cw_X8_63 (by decide +kernel) rfl rfl ⟨(Nat.le_of_ble_eq_true rfl), (Nat.le_of_ble_eq_true rfl)⟩ (Nat.le_of_ble_eq_true rfl) ⟨(Nat.le_of_ble_eq_true rfl), (Nat.le_of_ble_eq_true rfl)⟩ dX8_approve_12 (ax_out hM hT (Nat.le_of_ble_eq_true rfl) (Nat.le_of_ble_eq_true rfl) hq)
  refine aw_cs1 (pc := 12) (n := 3) (As := [.int p1, .int 0, .int 3]) (st := []) (vo := none) (c2 := 3) (s2 := 18) hM (k_X8_requireRange h7) rfl cw_X8_63 (by decide +kernel) rfl rfl ⟨(Nat.le_of_ble_eq_true rfl), (Nat.le_of_ble_eq_true rfl)⟩ (Nat.le_of_ble_eq_true rfl) ⟨(Nat.le_of_ble_eq_true rfl), (Nat.le_of_ble_eq_true rfl)⟩ dX8_approve_12 rfl rfl ?_
  refine aw_iload_n (pc := 15) (i := 1) (x := p0) hM dX8_approve_15 rfl rfl ?_
  refine aw_iload_n (pc := 16) (i := 2) (x := p1) hM dX8_approve_16 rfl rfl ?_
  obtain ⟨r11, h10, h⟩ := bind_some h
  refine aw_cs1 (pc := 17) (n := 2) (As := [.int p0, .int p1]) (st := []) (vo := (some (.int r11))) (c2 := 3) (s2 := 18) hM (k_X0_change h10) rfl cw_X8_161 (by decide +kernel) rfl rfl ⟨(Nat.le_of_ble_eq_true rfl), (Nat.le_of_ble_eq_true rfl)⟩ (Nat.le_of_ble_eq_true rfl) ⟨(Nat.le_of_ble_eq_true rfl), (Nat.le_of_ble_eq_true rfl)⟩ dX8_approve_17 rfl rfl ?_
  refine aw_istore (pc := 20) (i := 4) (L' := [some (.ref 0), some (.int p0), some (.int p1), some (.int p2), some (.int r11)]) hM dX8_approve_20  (by decide) rfl ?_
  refine aw_aload_n (pc := 22) (i := 0) (x := 0) hM dX8_approve_22 rfl rfl ?_
  refine aw_getR (pc := 23) (r := 16) hM fd_X8_41 sk_0 rfl dX8_approve_23 ?_
  refine aw_getR (pc := 26) (r := 23) hM fd_X8_158 sk_16 rfl dX8_approve_26 ?_
  refine aw_iload (pc := 29) (i := 4) (x := r11) hM dX8_approve_29  rfl ?_
  obtain ⟨c12, h⟩ := ite_some h
  refine aw_iald (pc := 31) hM sk_23 c12 dX8_approve_31 ?_
  refine aw_iconst (pc := 32) (v := 1) hM dX8_approve_32 (by decide) ?_
  refine aw_iload_n (pc := 33) (i := 3) (x := p2) hM dX8_approve_33 rfl rfl ?_
  refine aw_ishl (pc := 34) hM dX8_approve_34 ?_
  refine aw_iand (pc := 35) hM dX8_approve_35 ?_
  refine aw_if_eq (pc := 36) (tgt := 49) hM dX8_approve_36 (by decide) (fun c13 => ?_) (fun c13 => ?_)
  · rw [if_pos c13] at h
    refine aw_aload_n (pc := 49) (i := 0) (x := 0) hM dX8_approve_49 rfl rfl ?_
    refine aw_getR (pc := 50) (r := 32) hM fd_X8_51 sk_0 rfl dX8_approve_50 ?_
    refine aw_aload_n (pc := 53) (i := 0) (x := 0) hM dX8_approve_53 rfl rfl ?_
    refine aw_getR (pc := 54) (r := 16) hM fd_X8_41 sk_0 rfl dX8_approve_54 ?_
    obtain ⟨F15, h14, h⟩ := bind_some h
    refine aw_cv1 (pc := 57) (n := 1) (As := [.ref 16]) (st := []) (b := 32) (vo := none) (c2 := 3) (s2 := 18) hM (k_X2_remember is_16 h14) rfl cw_X8_167 sk_32 rfl rfl (by decide +kernel) rfl rfl ⟨(Nat.le_of_ble_eq_true rfl), (Nat.le_of_ble_eq_true rfl)⟩ (Nat.le_of_ble_eq_true rfl) ⟨(Nat.le_of_ble_eq_true rfl), (Nat.le_of_ble_eq_true rfl)⟩ dX8_approve_57 rfl rfl ?_
    refine aw_aload_n (pc := 60) (i := 0) (x := 0) hM dX8_approve_60 rfl rfl ?_
    refine aw_getR (pc := 61) (r := 16) hM fd_X8_41 sk_0 rfl dX8_approve_61 ?_
    refine aw_getR (pc := 64) (r := 23) hM fd_X8_158 sk_16 rfl dX8_approve_64 ?_
    refine aw_iload (pc := 67) (i := 4) (x := r11) hM dX8_approve_67  rfl ?_
    refine aw_dup2 (pc := 69) hM dX8_approve_69 rfl rfl ?_
    obtain ⟨c16, h⟩ := ite_some h
    refine aw_iald (pc := 70) hM sk_23 c16 dX8_approve_70 ?_
    refine aw_iconst (pc := 71) (v := 1) hM dX8_approve_71 (by decide) ?_
    refine aw_iload_n (pc := 72) (i := 3) (x := p2) hM dX8_approve_72 rfl rfl ?_
    refine aw_ishl (pc := 73) hM dX8_approve_73 ?_
    refine aw_ior (pc := 74) hM dX8_approve_74 ?_
    obtain ⟨c17, h⟩ := ite_some h
    obtain ⟨F18, e19, h⟩ := bind_some h
    have e19 := Option.some.inj e19
    refine aw_iast (pc := 75) hM sk_23 c17 dX8_approve_75 ?_
    refine aw_mem e19 ?_
    refine aw_aload_n (pc := 76) (i := 0) (x := 0) hM dX8_approve_76 rfl rfl ?_
    refine aw_getR (pc := 77) (r := 16) hM fd_X8_41 sk_0 rfl dX8_approve_77 ?_
    refine aw_getR (pc := 80) (r := 23) hM fd_X8_158 sk_16 rfl dX8_approve_80 ?_
    refine aw_iload (pc := 83) (i := 4) (x := r11) hM dX8_approve_83  rfl ?_
    obtain ⟨c20, h⟩ := ite_some h
    refine aw_iald (pc := 85) hM sk_23 c20 dX8_approve_85 ?_
    obtain ⟨r22, h21, h⟩ := bind_some h
    refine aw_cs1 (pc := 86) (n := 1) (As := [.int (F18 23 (ix r11))]) (st := []) (vo := (some (.int r22))) (c2 := 3) (s2 := 18) hM (k_J6_bitCount_0f7a4 h21) rfl cw_X8_183 (by decide +kernel) rfl rfl ⟨(Nat.le_of_ble_eq_true rfl), (Nat.le_of_ble_eq_true rfl)⟩ (Nat.le_of_ble_eq_true rfl) ⟨(Nat.le_of_ble_eq_true rfl), (Nat.le_of_ble_eq_true rfl)⟩ dX8_approve_86 rfl rfl ?_
    obtain rfl := Option.some.inj h
    exact aw_iret (pc := 89) hM dX8_approve_89 (Nat.le_of_ble_eq_true rfl) (Nat.le_of_ble_eq_true rfl) hq
  · rw [if_neg c13] at h
    obtain rfl := Option.some.inj h
    exact aw_throwS (pc := 39) hM hT tr_X8_71_181_75 dX8_approve_39 dX8_approve_42 dX8_approve_43 dX8_approve_45 dX8_approve_48 (Nat.le_of_ble_eq_true rfl) (Nat.le_of_ble_eq_true rfl) (Nat.le_of_ble_eq_true rfl) (Nat.le_of_ble_eq_true rfl) (Nat.le_of_ble_eq_true rfl) (Nat.le_of_ble_eq_true rfl) hq
def rmX8_breaks : Room := { frames := 7, cells := 3, slots := 18, locals := 104 }
def s_X8_breaks (F : MM) (p0 : Int32) (p1 : Int32) (p2 : Int32) : Option (Int32 ⊕ String) := tbR (s_X8_requireNode F p0) (fun u2 => tbR (s_X8_requireComponent F p1) (fun u5 => tbR (s_X8_requireRange F p2 0 3) (fun u8 => if inb p0 5 then (if inb p0 5 then ((s_X0_with F (F 17 (ix p0)) p1 p2).bind (fun r13 => (s_X4_newlyBroken F (F 17 (ix p0)) r13).bind (fun r15 => some (.inl r15)))) else none) else none)))
set_option maxRecDepth 20000 in
theorem k_X8_breaks {C : CX} {F : MM} {G : GG} {p0 : Int32} {p1 : Int32} {p2 : Int32} {r : (Int32 ⊕ String)} (h : s_X8_breaks F p0 p1 p2 = some r) : AM C yX8_breaks cX8_breaks 4 (some .int) rmX8_breaks [.ref 0, .int p0, .int p1, .int p2] F G (fun o F9 G9 => o = (oI r) ∧ F9 = F ∧ G9 = G) := by
  refine am_of (L := [some (.ref 0), some (.int p0), some (.int p1), some (.int p2)]) (by decide) (Nat.le_of_ble_eq_true rfl) rfl (fun M hM hT => ?_)
  have hM : MOk C RX8 cX8_breaks 4 (some .int) rmX8_breaks M := hM
  obtain ⟨Q, hQ⟩ : ∃ Q : OUT → MM → GG → Prop, Q = (fun o F9 G9 => o = (oI r) ∧ F9 = F ∧ G9 = G) := ⟨_, rfl⟩
  have hq : Q (oI r) F G := by rw [hQ]; exact ⟨rfl, rfl, rfl⟩
  rw [← hQ]
  clear hQ
  rw [s_X8_breaks] at h
  refine aw_aload_n (pc := 0) (i := 0) (x := 0) hM dX8_breaks_0 rfl rfl ?_
  refine aw_iload_n (pc := 1) (i := 1) (x := p0) hM dX8_breaks_1 rfl rfl ?_
  rcases tbR_some h with ⟨u2, h1, h⟩ | ⟨E3, h1, rfl⟩
  rotate_left
  · exact aw_cvX (pc := 2) (n := 1) (As := [.int p0]) (st := []) (b := 0) (E := E3) hM (k_X8_requireNode h1) rfl cw_X8_129 sk_0 rfl rfl (by decide +kernel) rfl rfl ⟨(Nat.le_of_ble_eq_true rfl), (Nat.le_of_ble_eq_true rfl)⟩ (Nat.le_of_ble_eq_true rfl) ⟨(Nat.le_of_ble_eq_true rfl), (Nat.le_of_ble_eq_true rfl)⟩ dX8_breaks_2 (ax_out hM hT (Nat.le_of_ble_eq_true rfl) (Nat.le_of_ble_eq_true rfl) hq)
  refine aw_cv1 (pc := 2) (n := 1) (As := [.int p0]) (st := []) (b := 0) (vo := none) (c2 := 1) (s2 := 6) hM (k_X8_requireNode h1) rfl cw_X8_129 sk_0 rfl rfl (by decide +kernel) rfl rfl ⟨(Nat.le_of_ble_eq_true rfl), (Nat.le_of_ble_eq_true rfl)⟩ (Nat.le_of_ble_eq_true rfl) ⟨(Nat.le_of_ble_eq_true rfl), (Nat.le_of_ble_eq_true rfl)⟩ dX8_breaks_2 rfl rfl ?_
  refine aw_aload_n (pc := 5) (i := 0) (x := 0) hM dX8_breaks_5 rfl rfl ?_
  refine aw_iload_n (pc := 6) (i := 2) (x := p1) hM dX8_breaks_6 rfl rfl ?_
  rcases tbR_some h with ⟨u5, h4, h⟩ | ⟨E6, h4, rfl⟩
  rotate_left
  · exact aw_cvX (pc := 7) (n := 1) (As := [.int p1]) (st := []) (b := 0) (E := E6) hM (k_X8_requireComponent h4) rfl cw_X8_137 sk_0 rfl rfl (by decide +kernel) rfl rfl ⟨(Nat.le_of_ble_eq_true rfl), (Nat.le_of_ble_eq_true rfl)⟩ (Nat.le_of_ble_eq_true rfl) ⟨(Nat.le_of_ble_eq_true rfl), (Nat.le_of_ble_eq_true rfl)⟩ dX8_breaks_7 (ax_out hM hT (Nat.le_of_ble_eq_true rfl) (Nat.le_of_ble_eq_true rfl) hq)
  refine aw_cv1 (pc := 7) (n := 1) (As := [.int p1]) (st := []) (b := 0) (vo := none) (c2 := 2) (s2 := 12) hM (k_X8_requireComponent h4) rfl cw_X8_137 sk_0 rfl rfl (by decide +kernel) rfl rfl ⟨(Nat.le_of_ble_eq_true rfl), (Nat.le_of_ble_eq_true rfl)⟩ (Nat.le_of_ble_eq_true rfl) ⟨(Nat.le_of_ble_eq_true rfl), (Nat.le_of_ble_eq_true rfl)⟩ dX8_breaks_7 rfl rfl ?_
  refine aw_iload_n (pc := 10) (i := 3) (x := p2) hM dX8_breaks_10 rfl rfl ?_
  refine aw_iconst (pc := 11) (v := 0) hM dX8_breaks_11 (by decide) ?_
  refine aw_iconst (pc := 12) (v := 3) hM dX8_breaks_12 (by decide) ?_
  rcases tbR_some h with ⟨u8, h7, h⟩ | ⟨E9, h7, rfl⟩
  rotate_left
  · exact aw_csX (pc := 13) (n := 3) (As := [.int p2, .int 0, .int 3]) (st := []) (E := E9) hM (k_X8_requireRange h7) rfl cw_X8_63 (by decide +kernel) rfl rfl ⟨(Nat.le_of_ble_eq_true rfl), (Nat.le_of_ble_eq_true rfl)⟩ (Nat.le_of_ble_eq_true rfl) ⟨(Nat.le_of_ble_eq_true rfl), (Nat.le_of_ble_eq_true rfl)⟩ dX8_breaks_13 (ax_out hM hT (Nat.le_of_ble_eq_true rfl) (Nat.le_of_ble_eq_true rfl) hq)
  refine aw_cs1 (pc := 13) (n := 3) (As := [.int p2, .int 0, .int 3]) (st := []) (vo := none) (c2 := 3) (s2 := 18) hM (k_X8_requireRange h7) rfl cw_X8_63 (by decide +kernel) rfl rfl ⟨(Nat.le_of_ble_eq_true rfl), (Nat.le_of_ble_eq_true rfl)⟩ (Nat.le_of_ble_eq_true rfl) ⟨(Nat.le_of_ble_eq_true rfl), (Nat.le_of_ble_eq_true rfl)⟩ dX8_breaks_13 rfl rfl ?_
  refine aw_aload_n (pc := 16) (i := 0) (x := 0) hM dX8_breaks_16 rfl rfl ?_
  refine aw_getR (pc := 17) (r := 8) hM fd_X8_25 sk_0 rfl dX8_breaks_17 ?_
  refine aw_getR (pc := 20) (r := 10) hM fd_X8_93 sk_8 rfl dX8_breaks_20 ?_
  refine aw_aload_n (pc := 23) (i := 0) (x := 0) hM dX8_breaks_23 rfl rfl ?_
  refine aw_getR (pc := 24) (r := 16) hM fd_X8_41 sk_0 rfl dX8_breaks_24 ?_
  refine aw_getR (pc := 27) (r := 17) hM fd_X8_144 sk_16 rfl dX8_breaks_27 ?_
  refine aw_iload_n (pc := 30) (i := 1) (x := p0) hM dX8_breaks_30 rfl rfl ?_
  obtain ⟨c10, h⟩ := ite_some h
  refine aw_iald (pc := 31) hM sk_17 c10 dX8_breaks_31 ?_
  refine aw_aload_n (pc := 32) (i := 0) (x := 0) hM dX8_breaks_32 rfl rfl ?_
  refine aw_getR (pc := 33) (r := 16) hM fd_X8_41 sk_0 rfl dX8_breaks_33 ?_
  refine aw_getR (pc := 36) (r := 17) hM fd_X8_144 sk_16 rfl dX8_breaks_36 ?_
  refine aw_iload_n (pc := 39) (i := 1) (x := p0) hM dX8_breaks_39 rfl rfl ?_
  obtain ⟨c11, h⟩ := ite_some h
  refine aw_iald (pc := 40) hM sk_17 c11 dX8_breaks_40 ?_
  refine aw_iload_n (pc := 41) (i := 2) (x := p1) hM dX8_breaks_41 rfl rfl ?_
  refine aw_iload_n (pc := 42) (i := 3) (x := p2) hM dX8_breaks_42 rfl rfl ?_
  obtain ⟨r13, h12, h⟩ := bind_some h
  refine aw_cs1 (pc := 43) (n := 3) (As := [.int (F 17 (ix p0)), .int p1, .int p2]) (st := [.int (F 17 (ix p0)), .ref 10]) (vo := (some (.int r13))) (c2 := 3) (s2 := 18) hM (k_X0_with h12) rfl cw_X8_171 (by decide +kernel) rfl rfl ⟨(Nat.le_of_ble_eq_true rfl), (Nat.le_of_ble_eq_true rfl)⟩ (Nat.le_of_ble_eq_true rfl) ⟨(Nat.le_of_ble_eq_true rfl), (Nat.le_of_ble_eq_true rfl)⟩ dX8_breaks_43 rfl rfl ?_
  obtain ⟨r15, h14, h⟩ := bind_some h
  refine aw_cv1 (pc := 46) (n := 2) (As := [.int (F 17 (ix p0)), .int r13]) (st := []) (b := 10) (vo := (some (.int r15))) (c2 := 3) (s2 := 18) hM (k_X4_newlyBroken h14) rfl cw_X8_218 sk_10 rfl rfl (by decide +kernel) rfl rfl ⟨(Nat.le_of_ble_eq_true rfl), (Nat.le_of_ble_eq_true rfl)⟩ (Nat.le_of_ble_eq_true rfl) ⟨(Nat.le_of_ble_eq_true rfl), (Nat.le_of_ble_eq_true rfl)⟩ dX8_breaks_46 rfl rfl ?_
  obtain rfl := Option.some.inj h
  exact aw_iret (pc := 49) hM dX8_breaks_49 (Nat.le_of_ble_eq_true rfl) (Nat.le_of_ble_eq_true rfl) hq
def rmX8_calmAfter : Room := { frames := 5, cells := 0, slots := 0, locals := 113 }
def s_X8_calmAfter_b13 : Nat → MM → Int32 → Option (Int32 × MM)
  | 0, _, _ => none
  | n + 1, F, x1 => if 99 < x1 then some ((-9), F) else (s_X5_driftedNodes F 24).bind (fun r5 => if r5 = 0 then some (x1, F) else (s_X5_passTicks F 24 1).bind (fun F8 => (some (x1 + 1 : Int32)).bind (fun y9 => s_X8_calmAfter_b13 n F8 y9)))
def s_X8_calmAfter (F : MM) : Option (Int32 × MM) := (s_X5_copy F 24 16).bind (fun F2 => s_X8_calmAfter_b13 fu_ F2 0)
set_option maxRecDepth 20000 in
theorem k_X8_calmAfter_b13 {C : CX} {M : MX} {G : GG} {Q : OUT → MM → GG → Prop} {r : (Int32 × MM)} (hM : MOk C RX8 cX8_calmAfter 2 (some .int) rmX8_calmAfter M) (hT : MNoT M) (hq : Q (.inl (some (.int r.1))) r.2 G) : ∀ (n : Nat) (F : MM) (x1 : Int32), s_X8_calmAfter_b13 n F x1 = some r → AW C 2 (ZM C rmX8_calmAfter Q M) M 0 0 13 [some (.ref 0), some (.int x1)] [] F G := by
  intro n
  induction n with
  | zero => intro F x1 h; exact nomatch h
  | succ n ih =>
    intro F x1 h
    rw [s_X8_calmAfter_b13] at h
    refine aw_iload_n (pc := 13) (i := 1) (x := x1) hM dX8_calmAfter_13 rfl rfl ?_
    refine aw_bipush (pc := 14) (v := 99) hM dX8_calmAfter_14 (by decide) ?_
    refine aw_icmp_gt (pc := 16) (tgt := 45) hM dX8_calmAfter_16 (by decide) (fun c3 => ?_) (fun c3 => ?_)
    · rw [if_pos c3] at h
      refine aw_bipush (pc := 45) (v := (-9)) hM dX8_calmAfter_45 (by decide) ?_
      obtain rfl := Option.some.inj h
      exact aw_iret (pc := 47) hM dX8_calmAfter_47 (Nat.le_of_ble_eq_true rfl) (Nat.le_of_ble_eq_true rfl) hq
    · rw [if_neg c3] at h
      refine aw_aload_n (pc := 19) (i := 0) (x := 0) hM dX8_calmAfter_19 rfl rfl ?_
      refine aw_getR (pc := 20) (r := 24) hM fd_X8_45 sk_0 rfl dX8_calmAfter_20 ?_
      obtain ⟨r5, h4, h⟩ := bind_some h
      refine aw_cv1 (pc := 23) (n := 0) (As := []) (st := []) (b := 24) (vo := (some (.int r5))) (c2 := 0) (s2 := 0) hM (k_X5_driftedNodes is_24 h4) rfl cw_X8_230 sk_24 rfl rfl (by decide +kernel) rfl rfl ⟨(Nat.le_of_ble_eq_true rfl), (Nat.le_of_ble_eq_true rfl)⟩ (Nat.le_of_ble_eq_true rfl) ⟨(Nat.le_of_ble_eq_true rfl), (Nat.le_of_ble_eq_true rfl)⟩ dX8_calmAfter_23 rfl rfl ?_
      refine aw_if_ne (pc := 26) (tgt := 31) hM dX8_calmAfter_26 (by decide) (fun c6 => ?_) (fun c6 => ?_)
      · rw [if_neg c6] at h
        refine aw_aload_n (pc := 31) (i := 0) (x := 0) hM dX8_calmAfter_31 rfl rfl ?_
        refine aw_getR (pc := 32) (r := 24) hM fd_X8_45 sk_0 rfl dX8_calmAfter_32 ?_
        refine aw_iconst (pc := 35) (v := 1) hM dX8_calmAfter_35 (by decide) ?_
        obtain ⟨F8, h7, h⟩ := bind_some h
        refine aw_cv1 (pc := 36) (n := 1) (As := [.int 1]) (st := []) (b := 24) (vo := none) (c2 := 0) (s2 := 0) hM (k_X5_passTicks is_24 h7) rfl cw_X8_203 sk_24 rfl rfl (by decide +kernel) rfl rfl ⟨(Nat.le_of_ble_eq_true rfl), (Nat.le_of_ble_eq_true rfl)⟩ (Nat.le_of_ble_eq_true rfl) ⟨(Nat.le_of_ble_eq_true rfl), (Nat.le_of_ble_eq_true rfl)⟩ dX8_calmAfter_36 rfl rfl ?_
        obtain ⟨y9, e10, h⟩ := bind_some h
        have e10 := Option.some.inj e10
        refine aw_iinc (pc := 39) (v := y9) (L' := [some (.ref 0), some (.int y9)]) hM dX8_calmAfter_39 rfl e10 (by decide) rfl ?_
        refine aw_goto (pc := 42) (tgt := 13) hM dX8_calmAfter_42 (by decide) ?_
        exact ih F8 y9 h
      · rw [if_pos c6] at h
        refine aw_iload_n (pc := 29) (i := 1) (x := x1) hM dX8_calmAfter_29 rfl rfl ?_
        obtain rfl := Option.some.inj h
        exact aw_iret (pc := 30) hM dX8_calmAfter_30 (Nat.le_of_ble_eq_true rfl) (Nat.le_of_ble_eq_true rfl) hq
set_option maxRecDepth 20000 in
theorem k_X8_calmAfter {C : CX} {F : MM} {G : GG} {r : (Int32 × MM)} (h : s_X8_calmAfter F = some r) : AM C yX8_calmAfter cX8_calmAfter 2 (some .int) rmX8_calmAfter [.ref 0] F G (fun o F9 G9 => o = (.inl (some (.int r.1))) ∧ F9 = r.2 ∧ G9 = G) := by
  refine am_of (L := [some (.ref 0), none]) (by decide) (Nat.le_of_ble_eq_true rfl) rfl (fun M hM hT => ?_)
  have hM : MOk C RX8 cX8_calmAfter 2 (some .int) rmX8_calmAfter M := hM
  obtain ⟨Q, hQ⟩ : ∃ Q : OUT → MM → GG → Prop, Q = (fun o F9 G9 => o = (.inl (some (.int r.1))) ∧ F9 = r.2 ∧ G9 = G) := ⟨_, rfl⟩
  have hq : Q (.inl (some (.int r.1))) r.2 G := by rw [hQ]; exact ⟨rfl, rfl, rfl⟩
  rw [← hQ]
  clear hQ
  rw [s_X8_calmAfter] at h
  refine aw_aload_n (pc := 0) (i := 0) (x := 0) hM dX8_calmAfter_0 rfl rfl ?_
  refine aw_getR (pc := 1) (r := 24) hM fd_X8_45 sk_0 rfl dX8_calmAfter_1 ?_
  refine aw_aload_n (pc := 4) (i := 0) (x := 0) hM dX8_calmAfter_4 rfl rfl ?_
  refine aw_getR (pc := 5) (r := 16) hM fd_X8_41 sk_0 rfl dX8_calmAfter_5 ?_
  obtain ⟨F2, h1, h⟩ := bind_some h
  refine aw_cv1 (pc := 8) (n := 1) (As := [.ref 16]) (st := []) (b := 24) (vo := none) (c2 := 0) (s2 := 0) hM (k_X5_copy is_24 is_16 h1) rfl cw_X8_227 sk_24 rfl rfl (by decide +kernel) rfl rfl ⟨(Nat.le_of_ble_eq_true rfl), (Nat.le_of_ble_eq_true rfl)⟩ (Nat.le_of_ble_eq_true rfl) ⟨(Nat.le_of_ble_eq_true rfl), (Nat.le_of_ble_eq_true rfl)⟩ dX8_calmAfter_8 rfl rfl ?_
  refine aw_iconst (pc := 11) (v := 0) hM dX8_calmAfter_11 (by decide) ?_
  refine aw_istore_n (pc := 12) (i := 1) (L' := [some (.ref 0), some (.int 0)]) hM dX8_calmAfter_12 rfl (by decide) rfl ?_
  exact k_X8_calmAfter_b13 hM hT hq fu_ F2 0 h
def rmX8_clearText : Room := { frames := 0, cells := 0, slots := 0, locals := 0 }
def s_X8_clearText (F : MM) : Option (Int32 × MM) := (some (F 0 1 : Int32)).bind (fun y1 => (some (mup F 0 1 0)).bind (fun F3 => some (y1, F3)))
set_option maxRecDepth 20000 in
theorem k_X8_clearText {C : CX} {F : MM} {G : GG} {r : (Int32 × MM)} (h : s_X8_clearText F = some r) : AM C yX8_clearText cX8_clearText 2 (some .int) rmX8_clearText [.ref 0] F G (fun o F9 G9 => o = (.inl (some (.int r.1))) ∧ F9 = r.2 ∧ G9 = G) := by
  refine am_of (L := [some (.ref 0), none]) (by decide) (Nat.le_of_ble_eq_true rfl) rfl (fun M hM hT => ?_)
  have hM : MOk C RX8 cX8_clearText 2 (some .int) rmX8_clearText M := hM
  obtain ⟨Q, hQ⟩ : ∃ Q : OUT → MM → GG → Prop, Q = (fun o F9 G9 => o = (.inl (some (.int r.1))) ∧ F9 = r.2 ∧ G9 = G) := ⟨_, rfl⟩
  have hq : Q (.inl (some (.int r.1))) r.2 G := by rw [hQ]; exact ⟨rfl, rfl, rfl⟩
  rw [← hQ]
  clear hQ
  rw [s_X8_clearText] at h
  refine aw_aload_n (pc := 0) (i := 0) (x := 0) hM dX8_clearText_0 rfl rfl ?_
  refine aw_getI (pc := 1) hM fd_X8_67 sk_0 rfl dX8_clearText_1 ?_
  obtain ⟨y1, e2, h⟩ := bind_some h
  have e2 := Option.some.inj e2
  refine aw_topi e2 ?_
  refine aw_istore_n (pc := 4) (i := 1) (L' := [some (.ref 0), some (.int y1)]) hM dX8_clearText_4 rfl (by decide) rfl ?_
  refine aw_aload_n (pc := 5) (i := 0) (x := 0) hM dX8_clearText_5 rfl rfl ?_
  refine aw_iconst (pc := 6) (v := 0) hM dX8_clearText_6 (by decide) ?_
  obtain ⟨F3, e4, h⟩ := bind_some h
  have e4 := Option.some.inj e4
  refine aw_put (pc := 7) (ty := .int) hM fd_X8_67 tyX8_ok nmX8 rfl (by decide +kernel) rfl rfl sk_0 rfl dX8_clearText_7 ?_
  refine aw_mem e4 ?_
  refine aw_iload_n (pc := 10) (i := 1) (x := y1) hM dX8_clearText_10 rfl rfl ?_
  obtain rfl := Option.some.inj h
  exact aw_iret (pc := 11) hM dX8_clearText_11 (Nat.le_of_ble_eq_true rfl) (Nat.le_of_ble_eq_true rfl) hq
def rmX8_dismiss : Room := { frames := 7, cells := 1, slots := 6, locals := 102 }
def s_X8_dismiss_b19 : Nat → MM → Int32 → Int32 → Int32 → Option ((Int32 ⊕ String) × MM)
  | 0, _, _, _, _ => none
  | n + 1, F, x1, x2, x3 => if (Int32.ofNat 24) ≤ x3 then some (.inl x2, F) else if inb x3 24 then (if ((F 23 (ix x3)) &&& ((1 : Int32) <<< (x1 &&& 31))) = 0 then (some (x3 + 1 : Int32)).bind (fun y9 => s_X8_dismiss_b19 n F x1 x2 y9) else if inb x3 24 then (if inb x3 24 then ((some (mup F 23 (ix x3) ((F 23 (ix x3)) &&& (((1 : Int32) <<< (x1 &&& 31)) ^^^ (-1))))).bind (fun F13 => (some (x2 + 1 : Int32)).bind (fun y15 => (some (x3 + 1 : Int32)).bind (fun y17 => s_X8_dismiss_b19 n F13 x1 y15 y17)))) else none) else none) else none
def s_X8_dismiss (F : MM) (p0 : Int32) : Option ((Int32 ⊕ String) × MM) := tbW F (s_X8_requireApprover F p0) (fun u2 => (s_X2_remember F 16).bind (fun F5 => s_X8_dismiss_b19 fu_ F5 p0 0 0))
set_option maxRecDepth 20000 in
theorem k_X8_dismiss_b19 {C : CX} {M : MX} {G : GG} {Q : OUT → MM → GG → Prop} {r : ((Int32 ⊕ String) × MM)} (hM : MOk C RX8 cX8_dismiss 4 (some .int) rmX8_dismiss M) (hT : MNoT M) (hq : Q (oI r.1) r.2 G) : ∀ (n : Nat) (F : MM) (x1 : Int32) (x2 : Int32) (x3 : Int32), s_X8_dismiss_b19 n F x1 x2 x3 = some r → AW C 4 (ZM C rmX8_dismiss Q M) M 1 6 19 [some (.ref 0), some (.int x1), some (.int x2), some (.int x3)] [] F G := by
  intro n
  induction n with
  | zero => intro F x1 x2 x3 h; exact nomatch h
  | succ n ih =>
    intro F x1 x2 x3 h
    rw [s_X8_dismiss_b19] at h
    refine aw_iload_n (pc := 19) (i := 3) (x := x3) hM dX8_dismiss_19 rfl rfl ?_
    refine aw_aload_n (pc := 20) (i := 0) (x := 0) hM dX8_dismiss_20 rfl rfl ?_
    refine aw_getR (pc := 21) (r := 16) hM fd_X8_41 sk_0 rfl dX8_dismiss_21 ?_
    refine aw_getR (pc := 24) (r := 23) hM fd_X8_158 sk_16 rfl dX8_dismiss_24 ?_
    refine aw_alen (pc := 27) (k := 0) hM sk_23 dX8_dismiss_27 ?_
    refine aw_icmp_ge (pc := 28) (tgt := 73) hM dX8_dismiss_28 (by decide) (fun c6 => ?_) (fun c6 => ?_)
    · rw [if_pos c6] at h
      refine aw_iload_n (pc := 73) (i := 2) (x := x2) hM dX8_dismiss_73 rfl rfl ?_
      obtain rfl := Option.some.inj h
      exact aw_iret (pc := 74) hM dX8_dismiss_74 (Nat.le_of_ble_eq_true rfl) (Nat.le_of_ble_eq_true rfl) hq
    · rw [if_neg c6] at h
      refine aw_aload_n (pc := 31) (i := 0) (x := 0) hM dX8_dismiss_31 rfl rfl ?_
      refine aw_getR (pc := 32) (r := 16) hM fd_X8_41 sk_0 rfl dX8_dismiss_32 ?_
      refine aw_getR (pc := 35) (r := 23) hM fd_X8_158 sk_16 rfl dX8_dismiss_35 ?_
      refine aw_iload_n (pc := 38) (i := 3) (x := x3) hM dX8_dismiss_38 rfl rfl ?_
      obtain ⟨c7, h⟩ := ite_some h
      refine aw_iald (pc := 39) hM sk_23 c7 dX8_dismiss_39 ?_
      refine aw_iconst (pc := 40) (v := 1) hM dX8_dismiss_40 (by decide) ?_
      refine aw_iload_n (pc := 41) (i := 1) (x := x1) hM dX8_dismiss_41 rfl rfl ?_
      refine aw_ishl (pc := 42) hM dX8_dismiss_42 ?_
      refine aw_iand (pc := 43) hM dX8_dismiss_43 ?_
      refine aw_if_eq (pc := 44) (tgt := 67) hM dX8_dismiss_44 (by decide) (fun c8 => ?_) (fun c8 => ?_)
      · rw [if_pos c8] at h
        obtain ⟨y9, e10, h⟩ := bind_some h
        have e10 := Option.some.inj e10
        refine aw_iinc (pc := 67) (v := y9) (L' := [some (.ref 0), some (.int x1), some (.int x2), some (.int y9)]) hM dX8_dismiss_67 rfl e10 (by decide) rfl ?_
        refine aw_goto (pc := 70) (tgt := 19) hM dX8_dismiss_70 (by decide) ?_
        exact ih F x1 x2 y9 h
      · rw [if_neg c8] at h
        refine aw_aload_n (pc := 47) (i := 0) (x := 0) hM dX8_dismiss_47 rfl rfl ?_
        refine aw_getR (pc := 48) (r := 16) hM fd_X8_41 sk_0 rfl dX8_dismiss_48 ?_
        refine aw_getR (pc := 51) (r := 23) hM fd_X8_158 sk_16 rfl dX8_dismiss_51 ?_
        refine aw_iload_n (pc := 54) (i := 3) (x := x3) hM dX8_dismiss_54 rfl rfl ?_
        refine aw_dup2 (pc := 55) hM dX8_dismiss_55 rfl rfl ?_
        obtain ⟨c11, h⟩ := ite_some h
        refine aw_iald (pc := 56) hM sk_23 c11 dX8_dismiss_56 ?_
        refine aw_iconst (pc := 57) (v := 1) hM dX8_dismiss_57 (by decide) ?_
        refine aw_iload_n (pc := 58) (i := 1) (x := x1) hM dX8_dismiss_58 rfl rfl ?_
        refine aw_ishl (pc := 59) hM dX8_dismiss_59 ?_
        refine aw_iconst (pc := 60) (v := (-1)) hM dX8_dismiss_60 (by decide) ?_
        refine aw_ixor (pc := 61) hM dX8_dismiss_61 ?_
        refine aw_iand (pc := 62) hM dX8_dismiss_62 ?_
        obtain ⟨c12, h⟩ := ite_some h
        obtain ⟨F13, e14, h⟩ := bind_some h
        have e14 := Option.some.inj e14
        refine aw_iast (pc := 63) hM sk_23 c12 dX8_dismiss_63 ?_
        refine aw_mem e14 ?_
        obtain ⟨y15, e16, h⟩ := bind_some h
        have e16 := Option.some.inj e16
        refine aw_iinc (pc := 64) (v := y15) (L' := [some (.ref 0), some (.int x1), some (.int y15), some (.int x3)]) hM dX8_dismiss_64 rfl e16 (by decide) rfl ?_
        obtain ⟨y17, e18, h⟩ := bind_some h
        have e18 := Option.some.inj e18
        refine aw_iinc (pc := 67) (v := y17) (L' := [some (.ref 0), some (.int x1), some (.int y15), some (.int y17)]) hM dX8_dismiss_67 rfl e18 (by decide) rfl ?_
        refine aw_goto (pc := 70) (tgt := 19) hM dX8_dismiss_70 (by decide) ?_
        exact ih F13 x1 y15 y17 h
set_option maxRecDepth 20000 in
theorem k_X8_dismiss {C : CX} {F : MM} {G : GG} {p0 : Int32} {r : ((Int32 ⊕ String) × MM)} (h : s_X8_dismiss F p0 = some r) : AM C yX8_dismiss cX8_dismiss 4 (some .int) rmX8_dismiss [.ref 0, .int p0] F G (fun o F9 G9 => o = (oI r.1) ∧ F9 = r.2 ∧ G9 = G) := by
  refine am_of (L := [some (.ref 0), some (.int p0), none, none]) (by decide) (Nat.le_of_ble_eq_true rfl) rfl (fun M hM hT => ?_)
  have hM : MOk C RX8 cX8_dismiss 4 (some .int) rmX8_dismiss M := hM
  obtain ⟨Q, hQ⟩ : ∃ Q : OUT → MM → GG → Prop, Q = (fun o F9 G9 => o = (oI r.1) ∧ F9 = r.2 ∧ G9 = G) := ⟨_, rfl⟩
  have hq : Q (oI r.1) r.2 G := by rw [hQ]; exact ⟨rfl, rfl, rfl⟩
  rw [← hQ]
  clear hQ
  rw [s_X8_dismiss] at h
  refine aw_iload_n (pc := 0) (i := 1) (x := p0) hM dX8_dismiss_0 rfl rfl ?_
  rcases tbW_some h with ⟨u2, h1, h⟩ | ⟨E3, h1, rfl⟩
  rotate_left
  · exact aw_csX (pc := 1) (n := 1) (As := [.int p0]) (st := []) (E := E3) hM (k_X8_requireApprover h1) rfl cw_X8_178 (by decide +kernel) rfl rfl ⟨(Nat.le_of_ble_eq_true rfl), (Nat.le_of_ble_eq_true rfl)⟩ (Nat.le_of_ble_eq_true rfl) ⟨(Nat.le_of_ble_eq_true rfl), (Nat.le_of_ble_eq_true rfl)⟩ dX8_dismiss_1 (ax_out hM hT (Nat.le_of_ble_eq_true rfl) (Nat.le_of_ble_eq_true rfl) hq)
  refine aw_cs1 (pc := 1) (n := 1) (As := [.int p0]) (st := []) (vo := none) (c2 := 1) (s2 := 6) hM (k_X8_requireApprover h1) rfl cw_X8_178 (by decide +kernel) rfl rfl ⟨(Nat.le_of_ble_eq_true rfl), (Nat.le_of_ble_eq_true rfl)⟩ (Nat.le_of_ble_eq_true rfl) ⟨(Nat.le_of_ble_eq_true rfl), (Nat.le_of_ble_eq_true rfl)⟩ dX8_dismiss_1 rfl rfl ?_
  refine aw_aload_n (pc := 4) (i := 0) (x := 0) hM dX8_dismiss_4 rfl rfl ?_
  refine aw_getR (pc := 5) (r := 32) hM fd_X8_51 sk_0 rfl dX8_dismiss_5 ?_
  refine aw_aload_n (pc := 8) (i := 0) (x := 0) hM dX8_dismiss_8 rfl rfl ?_
  refine aw_getR (pc := 9) (r := 16) hM fd_X8_41 sk_0 rfl dX8_dismiss_9 ?_
  obtain ⟨F5, h4, h⟩ := bind_some h
  refine aw_cv1 (pc := 12) (n := 1) (As := [.ref 16]) (st := []) (b := 32) (vo := none) (c2 := 1) (s2 := 6) hM (k_X2_remember is_16 h4) rfl cw_X8_167 sk_32 rfl rfl (by decide +kernel) rfl rfl ⟨(Nat.le_of_ble_eq_true rfl), (Nat.le_of_ble_eq_true rfl)⟩ (Nat.le_of_ble_eq_true rfl) ⟨(Nat.le_of_ble_eq_true rfl), (Nat.le_of_ble_eq_true rfl)⟩ dX8_dismiss_12 rfl rfl ?_
  refine aw_iconst (pc := 15) (v := 0) hM dX8_dismiss_15 (by decide) ?_
  refine aw_istore_n (pc := 16) (i := 2) (L' := [some (.ref 0), some (.int p0), some (.int 0), none]) hM dX8_dismiss_16 rfl (by decide) rfl ?_
  refine aw_iconst (pc := 17) (v := 0) hM dX8_dismiss_17 (by decide) ?_
  refine aw_istore_n (pc := 18) (i := 3) (L' := [some (.ref 0), some (.int p0), some (.int 0), some (.int 0)]) hM dX8_dismiss_18 rfl (by decide) rfl ?_
  exact k_X8_dismiss_b19 hM hT hq fu_ F5 p0 0 0 h
def rmX8_drift : Room := { frames := 7, cells := 3, slots := 18, locals := 104 }
def s_X8_drift (F : MM) (p0 : Int32) (p1 : Int32) (p2 : Int32) : Option ((Int32 ⊕ String) × MM) := tbW F (s_X8_requireNode F p0) (fun u2 => tbW F (s_X8_requireComponent F p1) (fun u5 => tbW F (s_X8_requireRange F p2 0 3) (fun u8 => (s_X2_remember F 16).bind (fun F11 => if inb p0 5 then ((s_X0_versionIn F11 (F11 17 (ix p0)) p1).bind (fun r14 => if inb p0 5 then ((s_X0_with F11 (F11 17 (ix p0)) p1 p2).bind (fun r17 => if inb p0 5 then ((some (mup F11 17 (ix p0) r17)).bind (fun F19 => some (.inl r14, F19))) else none)) else none)) else none))))
set_option maxRecDepth 20000 in
theorem k_X8_drift {C : CX} {F : MM} {G : GG} {p0 : Int32} {p1 : Int32} {p2 : Int32} {r : ((Int32 ⊕ String) × MM)} (h : s_X8_drift F p0 p1 p2 = some r) : AM C yX8_drift cX8_drift 5 (some .int) rmX8_drift [.ref 0, .int p0, .int p1, .int p2] F G (fun o F9 G9 => o = (oI r.1) ∧ F9 = r.2 ∧ G9 = G) := by
  refine am_of (L := [some (.ref 0), some (.int p0), some (.int p1), some (.int p2), none]) (by decide) (Nat.le_of_ble_eq_true rfl) rfl (fun M hM hT => ?_)
  have hM : MOk C RX8 cX8_drift 5 (some .int) rmX8_drift M := hM
  obtain ⟨Q, hQ⟩ : ∃ Q : OUT → MM → GG → Prop, Q = (fun o F9 G9 => o = (oI r.1) ∧ F9 = r.2 ∧ G9 = G) := ⟨_, rfl⟩
  have hq : Q (oI r.1) r.2 G := by rw [hQ]; exact ⟨rfl, rfl, rfl⟩
  rw [← hQ]
  clear hQ
  rw [s_X8_drift] at h
  refine aw_aload_n (pc := 0) (i := 0) (x := 0) hM dX8_drift_0 rfl rfl ?_
  refine aw_iload_n (pc := 1) (i := 1) (x := p0) hM dX8_drift_1 rfl rfl ?_
  rcases tbW_some h with ⟨u2, h1, h⟩ | ⟨E3, h1, rfl⟩
  rotate_left
  · exact aw_cvX (pc := 2) (n := 1) (As := [.int p0]) (st := []) (b := 0) (E := E3) hM (k_X8_requireNode h1) rfl cw_X8_129 sk_0 rfl rfl (by decide +kernel) rfl rfl ⟨(Nat.le_of_ble_eq_true rfl), (Nat.le_of_ble_eq_true rfl)⟩ (Nat.le_of_ble_eq_true rfl) ⟨(Nat.le_of_ble_eq_true rfl), (Nat.le_of_ble_eq_true rfl)⟩ dX8_drift_2 (ax_out hM hT (Nat.le_of_ble_eq_true rfl) (Nat.le_of_ble_eq_true rfl) hq)
  refine aw_cv1 (pc := 2) (n := 1) (As := [.int p0]) (st := []) (b := 0) (vo := none) (c2 := 1) (s2 := 6) hM (k_X8_requireNode h1) rfl cw_X8_129 sk_0 rfl rfl (by decide +kernel) rfl rfl ⟨(Nat.le_of_ble_eq_true rfl), (Nat.le_of_ble_eq_true rfl)⟩ (Nat.le_of_ble_eq_true rfl) ⟨(Nat.le_of_ble_eq_true rfl), (Nat.le_of_ble_eq_true rfl)⟩ dX8_drift_2 rfl rfl ?_
  refine aw_aload_n (pc := 5) (i := 0) (x := 0) hM dX8_drift_5 rfl rfl ?_
  refine aw_iload_n (pc := 6) (i := 2) (x := p1) hM dX8_drift_6 rfl rfl ?_
  rcases tbW_some h with ⟨u5, h4, h⟩ | ⟨E6, h4, rfl⟩
  rotate_left
  · exact aw_cvX (pc := 7) (n := 1) (As := [.int p1]) (st := []) (b := 0) (E := E6) hM (k_X8_requireComponent h4) rfl cw_X8_137 sk_0 rfl rfl (by decide +kernel) rfl rfl ⟨(Nat.le_of_ble_eq_true rfl), (Nat.le_of_ble_eq_true rfl)⟩ (Nat.le_of_ble_eq_true rfl) ⟨(Nat.le_of_ble_eq_true rfl), (Nat.le_of_ble_eq_true rfl)⟩ dX8_drift_7 (ax_out hM hT (Nat.le_of_ble_eq_true rfl) (Nat.le_of_ble_eq_true rfl) hq)
  refine aw_cv1 (pc := 7) (n := 1) (As := [.int p1]) (st := []) (b := 0) (vo := none) (c2 := 2) (s2 := 12) hM (k_X8_requireComponent h4) rfl cw_X8_137 sk_0 rfl rfl (by decide +kernel) rfl rfl ⟨(Nat.le_of_ble_eq_true rfl), (Nat.le_of_ble_eq_true rfl)⟩ (Nat.le_of_ble_eq_true rfl) ⟨(Nat.le_of_ble_eq_true rfl), (Nat.le_of_ble_eq_true rfl)⟩ dX8_drift_7 rfl rfl ?_
  refine aw_iload_n (pc := 10) (i := 3) (x := p2) hM dX8_drift_10 rfl rfl ?_
  refine aw_iconst (pc := 11) (v := 0) hM dX8_drift_11 (by decide) ?_
  refine aw_iconst (pc := 12) (v := 3) hM dX8_drift_12 (by decide) ?_
  rcases tbW_some h with ⟨u8, h7, h⟩ | ⟨E9, h7, rfl⟩
  rotate_left
  · exact aw_csX (pc := 13) (n := 3) (As := [.int p2, .int 0, .int 3]) (st := []) (E := E9) hM (k_X8_requireRange h7) rfl cw_X8_63 (by decide +kernel) rfl rfl ⟨(Nat.le_of_ble_eq_true rfl), (Nat.le_of_ble_eq_true rfl)⟩ (Nat.le_of_ble_eq_true rfl) ⟨(Nat.le_of_ble_eq_true rfl), (Nat.le_of_ble_eq_true rfl)⟩ dX8_drift_13 (ax_out hM hT (Nat.le_of_ble_eq_true rfl) (Nat.le_of_ble_eq_true rfl) hq)
  refine aw_cs1 (pc := 13) (n := 3) (As := [.int p2, .int 0, .int 3]) (st := []) (vo := none) (c2 := 3) (s2 := 18) hM (k_X8_requireRange h7) rfl cw_X8_63 (by decide +kernel) rfl rfl ⟨(Nat.le_of_ble_eq_true rfl), (Nat.le_of_ble_eq_true rfl)⟩ (Nat.le_of_ble_eq_true rfl) ⟨(Nat.le_of_ble_eq_true rfl), (Nat.le_of_ble_eq_true rfl)⟩ dX8_drift_13 rfl rfl ?_
  refine aw_aload_n (pc := 16) (i := 0) (x := 0) hM dX8_drift_16 rfl rfl ?_
  refine aw_getR (pc := 17) (r := 32) hM fd_X8_51 sk_0 rfl dX8_drift_17 ?_
  refine aw_aload_n (pc := 20) (i := 0) (x := 0) hM dX8_drift_20 rfl rfl ?_
  refine aw_getR (pc := 21) (r := 16) hM fd_X8_41 sk_0 rfl dX8_drift_21 ?_
  obtain ⟨F11, h10, h⟩ := bind_some h
  refine aw_cv1 (pc := 24) (n := 1) (As := [.ref 16]) (st := []) (b := 32) (vo := none) (c2 := 3) (s2 := 18) hM (k_X2_remember is_16 h10) rfl cw_X8_167 sk_32 rfl rfl (by decide +kernel) rfl rfl ⟨(Nat.le_of_ble_eq_true rfl), (Nat.le_of_ble_eq_true rfl)⟩ (Nat.le_of_ble_eq_true rfl) ⟨(Nat.le_of_ble_eq_true rfl), (Nat.le_of_ble_eq_true rfl)⟩ dX8_drift_24 rfl rfl ?_
  refine aw_aload_n (pc := 27) (i := 0) (x := 0) hM dX8_drift_27 rfl rfl ?_
  refine aw_getR (pc := 28) (r := 16) hM fd_X8_41 sk_0 rfl dX8_drift_28 ?_
  refine aw_getR (pc := 31) (r := 17) hM fd_X8_144 sk_16 rfl dX8_drift_31 ?_
  refine aw_iload_n (pc := 34) (i := 1) (x := p0) hM dX8_drift_34 rfl rfl ?_
  obtain ⟨c12, h⟩ := ite_some h
  refine aw_iald (pc := 35) hM sk_17 c12 dX8_drift_35 ?_
  refine aw_iload_n (pc := 36) (i := 2) (x := p1) hM dX8_drift_36 rfl rfl ?_
  obtain ⟨r14, h13, h⟩ := bind_some h
  refine aw_cs1 (pc := 37) (n := 2) (As := [.int (F11 17 (ix p0)), .int p1]) (st := []) (vo := (some (.int r14))) (c2 := 3) (s2 := 18) hM (k_X0_versionIn h13) rfl cw_X8_147 (by decide +kernel) rfl rfl ⟨(Nat.le_of_ble_eq_true rfl), (Nat.le_of_ble_eq_true rfl)⟩ (Nat.le_of_ble_eq_true rfl) ⟨(Nat.le_of_ble_eq_true rfl), (Nat.le_of_ble_eq_true rfl)⟩ dX8_drift_37 rfl rfl ?_
  refine aw_istore (pc := 40) (i := 4) (L' := [some (.ref 0), some (.int p0), some (.int p1), some (.int p2), some (.int r14)]) hM dX8_drift_40  (by decide) rfl ?_
  refine aw_aload_n (pc := 42) (i := 0) (x := 0) hM dX8_drift_42 rfl rfl ?_
  refine aw_getR (pc := 43) (r := 16) hM fd_X8_41 sk_0 rfl dX8_drift_43 ?_
  refine aw_getR (pc := 46) (r := 17) hM fd_X8_144 sk_16 rfl dX8_drift_46 ?_
  refine aw_iload_n (pc := 49) (i := 1) (x := p0) hM dX8_drift_49 rfl rfl ?_
  refine aw_aload_n (pc := 50) (i := 0) (x := 0) hM dX8_drift_50 rfl rfl ?_
  refine aw_getR (pc := 51) (r := 16) hM fd_X8_41 sk_0 rfl dX8_drift_51 ?_
  refine aw_getR (pc := 54) (r := 17) hM fd_X8_144 sk_16 rfl dX8_drift_54 ?_
  refine aw_iload_n (pc := 57) (i := 1) (x := p0) hM dX8_drift_57 rfl rfl ?_
  obtain ⟨c15, h⟩ := ite_some h
  refine aw_iald (pc := 58) hM sk_17 c15 dX8_drift_58 ?_
  refine aw_iload_n (pc := 59) (i := 2) (x := p1) hM dX8_drift_59 rfl rfl ?_
  refine aw_iload_n (pc := 60) (i := 3) (x := p2) hM dX8_drift_60 rfl rfl ?_
  obtain ⟨r17, h16, h⟩ := bind_some h
  refine aw_cs1 (pc := 61) (n := 3) (As := [.int (F11 17 (ix p0)), .int p1, .int p2]) (st := [.int p0, .ref 17]) (vo := (some (.int r17))) (c2 := 3) (s2 := 18) hM (k_X0_with h16) rfl cw_X8_171 (by decide +kernel) rfl rfl ⟨(Nat.le_of_ble_eq_true rfl), (Nat.le_of_ble_eq_true rfl)⟩ (Nat.le_of_ble_eq_true rfl) ⟨(Nat.le_of_ble_eq_true rfl), (Nat.le_of_ble_eq_true rfl)⟩ dX8_drift_61 rfl rfl ?_
  obtain ⟨c18, h⟩ := ite_some h
  obtain ⟨F19, e20, h⟩ := bind_some h
  have e20 := Option.some.inj e20
  refine aw_iast (pc := 64) hM sk_17 c18 dX8_drift_64 ?_
  refine aw_mem e20 ?_
  refine aw_iload (pc := 65) (i := 4) (x := r14) hM dX8_drift_65  rfl ?_
  obtain rfl := Option.some.inj h
  exact aw_iret (pc := 67) hM dX8_drift_67 (Nat.le_of_ble_eq_true rfl) (Nat.le_of_ble_eq_true rfl) hq
def rmX8_errorPosition : Room := { frames := 6, cells := 0, slots := 0, locals := 131 }
def s_X8_errorPosition (F : MM) : Option (Int32 × MM) := (s_X6_read F (F 0 1)).bind (fun z3 => some (z3.1, z3.2))
set_option maxRecDepth 20000 in
theorem k_X8_errorPosition {C : CX} {F : MM} {G : GG} {r : (Int32 × MM)} (h : s_X8_errorPosition F = some r) : AM C yX8_errorPosition cX8_errorPosition 1 (some .int) rmX8_errorPosition [.ref 0] F G (fun o F9 G9 => o = (.inl (some (.int r.1))) ∧ F9 = r.2 ∧ G9 = G) := by
  refine am_of (L := [some (.ref 0)]) (by decide) (Nat.le_of_ble_eq_true rfl) rfl (fun M hM hT => ?_)
  have hM : MOk C RX8 cX8_errorPosition 1 (some .int) rmX8_errorPosition M := hM
  obtain ⟨Q, hQ⟩ : ∃ Q : OUT → MM → GG → Prop, Q = (fun o F9 G9 => o = (.inl (some (.int r.1))) ∧ F9 = r.2 ∧ G9 = G) := ⟨_, rfl⟩
  have hq : Q (.inl (some (.int r.1))) r.2 G := by rw [hQ]; exact ⟨rfl, rfl, rfl⟩
  rw [← hQ]
  clear hQ
  rw [s_X8_errorPosition] at h
  refine aw_aload_n (pc := 0) (i := 0) (x := 0) hM dX8_errorPosition_0 rfl rfl ?_
  refine aw_getR (pc := 1) (r := 2) hM fd_X8_18 sk_0 rfl dX8_errorPosition_1 ?_
  refine aw_aload_n (pc := 4) (i := 0) (x := 0) hM dX8_errorPosition_4 rfl rfl ?_
  refine aw_getI (pc := 5) hM fd_X8_67 sk_0 rfl dX8_errorPosition_5 ?_
  obtain ⟨z3, h1, h⟩ := bind_some h
  refine aw_cv1 (pc := 8) (n := 1) (As := [.int (F 0 1)]) (st := []) (b := 2) (vo := (some (.int z3.1))) (c2 := 0) (s2 := 0) hM (k_X6_read h1) rfl cw_X8_78 sk_2 rfl rfl (by decide +kernel) rfl rfl ⟨(Nat.le_of_ble_eq_true rfl), (Nat.le_of_ble_eq_true rfl)⟩ (Nat.le_of_ble_eq_true rfl) ⟨(Nat.le_of_ble_eq_true rfl), (Nat.le_of_ble_eq_true rfl)⟩ dX8_errorPosition_8 rfl rfl ?_
  obtain rfl := Option.some.inj h
  exact aw_iret (pc := 11) hM dX8_errorPosition_11 (Nat.le_of_ble_eq_true rfl) (Nat.le_of_ble_eq_true rfl) hq
def rmX8_explains : Room := { frames := 7, cells := 2, slots := 12, locals := 104 }
def s_X8_explains (F : MM) (p0 : Int32) (p1 : Int32) : Option (Int32 ⊕ String) := tbR (s_X8_requireNode F p0) (fun u2 => tbR (s_X8_requireRange F p1 0 63) (fun u5 => (s_X5_changesTo F 16 p0 p1).bind (fun r8 => some (.inl r8))))
set_option maxRecDepth 20000 in
theorem k_X8_explains {C : CX} {F : MM} {G : GG} {p0 : Int32} {p1 : Int32} {r : (Int32 ⊕ String)} (h : s_X8_explains F p0 p1 = some r) : AM C yX8_explains cX8_explains 3 (some .int) rmX8_explains [.ref 0, .int p0, .int p1] F G (fun o F9 G9 => o = (oI r) ∧ F9 = F ∧ G9 = G) := by
  refine am_of (L := [some (.ref 0), some (.int p0), some (.int p1)]) (by decide) (Nat.le_of_ble_eq_true rfl) rfl (fun M hM hT => ?_)
  have hM : MOk C RX8 cX8_explains 3 (some .int) rmX8_explains M := hM
  obtain ⟨Q, hQ⟩ : ∃ Q : OUT → MM → GG → Prop, Q = (fun o F9 G9 => o = (oI r) ∧ F9 = F ∧ G9 = G) := ⟨_, rfl⟩
  have hq : Q (oI r) F G := by rw [hQ]; exact ⟨rfl, rfl, rfl⟩
  rw [← hQ]
  clear hQ
  rw [s_X8_explains] at h
  refine aw_aload_n (pc := 0) (i := 0) (x := 0) hM dX8_explains_0 rfl rfl ?_
  refine aw_iload_n (pc := 1) (i := 1) (x := p0) hM dX8_explains_1 rfl rfl ?_
  rcases tbR_some h with ⟨u2, h1, h⟩ | ⟨E3, h1, rfl⟩
  rotate_left
  · exact aw_cvX (pc := 2) (n := 1) (As := [.int p0]) (st := []) (b := 0) (E := E3) hM (k_X8_requireNode h1) rfl cw_X8_129 sk_0 rfl rfl (by decide +kernel) rfl rfl ⟨(Nat.le_of_ble_eq_true rfl), (Nat.le_of_ble_eq_true rfl)⟩ (Nat.le_of_ble_eq_true rfl) ⟨(Nat.le_of_ble_eq_true rfl), (Nat.le_of_ble_eq_true rfl)⟩ dX8_explains_2 (ax_out hM hT (Nat.le_of_ble_eq_true rfl) (Nat.le_of_ble_eq_true rfl) hq)
  refine aw_cv1 (pc := 2) (n := 1) (As := [.int p0]) (st := []) (b := 0) (vo := none) (c2 := 1) (s2 := 6) hM (k_X8_requireNode h1) rfl cw_X8_129 sk_0 rfl rfl (by decide +kernel) rfl rfl ⟨(Nat.le_of_ble_eq_true rfl), (Nat.le_of_ble_eq_true rfl)⟩ (Nat.le_of_ble_eq_true rfl) ⟨(Nat.le_of_ble_eq_true rfl), (Nat.le_of_ble_eq_true rfl)⟩ dX8_explains_2 rfl rfl ?_
  refine aw_iload_n (pc := 5) (i := 2) (x := p1) hM dX8_explains_5 rfl rfl ?_
  refine aw_iconst (pc := 6) (v := 0) hM dX8_explains_6 (by decide) ?_
  refine aw_bipush (pc := 7) (v := 63) hM dX8_explains_7 (by decide) ?_
  rcases tbR_some h with ⟨u5, h4, h⟩ | ⟨E6, h4, rfl⟩
  rotate_left
  · exact aw_csX (pc := 9) (n := 3) (As := [.int p1, .int 0, .int 63]) (st := []) (E := E6) hM (k_X8_requireRange h4) rfl cw_X8_63 (by decide +kernel) rfl rfl ⟨(Nat.le_of_ble_eq_true rfl), (Nat.le_of_ble_eq_true rfl)⟩ (Nat.le_of_ble_eq_true rfl) ⟨(Nat.le_of_ble_eq_true rfl), (Nat.le_of_ble_eq_true rfl)⟩ dX8_explains_9 (ax_out hM hT (Nat.le_of_ble_eq_true rfl) (Nat.le_of_ble_eq_true rfl) hq)
  refine aw_cs1 (pc := 9) (n := 3) (As := [.int p1, .int 0, .int 63]) (st := []) (vo := none) (c2 := 2) (s2 := 12) hM (k_X8_requireRange h4) rfl cw_X8_63 (by decide +kernel) rfl rfl ⟨(Nat.le_of_ble_eq_true rfl), (Nat.le_of_ble_eq_true rfl)⟩ (Nat.le_of_ble_eq_true rfl) ⟨(Nat.le_of_ble_eq_true rfl), (Nat.le_of_ble_eq_true rfl)⟩ dX8_explains_9 rfl rfl ?_
  refine aw_aload_n (pc := 12) (i := 0) (x := 0) hM dX8_explains_12 rfl rfl ?_
  refine aw_getR (pc := 13) (r := 16) hM fd_X8_41 sk_0 rfl dX8_explains_13 ?_
  refine aw_iload_n (pc := 16) (i := 1) (x := p0) hM dX8_explains_16 rfl rfl ?_
  refine aw_iload_n (pc := 17) (i := 2) (x := p1) hM dX8_explains_17 rfl rfl ?_
  obtain ⟨r8, h7, h⟩ := bind_some h
  refine aw_cv1 (pc := 18) (n := 2) (As := [.int p0, .int p1]) (st := []) (b := 16) (vo := (some (.int r8))) (c2 := 2) (s2 := 12) hM (k_X5_changesTo is_16 h7) rfl cw_X8_248 sk_16 rfl rfl (by decide +kernel) rfl rfl ⟨(Nat.le_of_ble_eq_true rfl), (Nat.le_of_ble_eq_true rfl)⟩ (Nat.le_of_ble_eq_true rfl) ⟨(Nat.le_of_ble_eq_true rfl), (Nat.le_of_ble_eq_true rfl)⟩ dX8_explains_18 rfl rfl ?_
  obtain rfl := Option.some.inj h
  exact aw_iret (pc := 21) hM dX8_explains_21 (Nat.le_of_ble_eq_true rfl) (Nat.le_of_ble_eq_true rfl) hq
def rmX8_fewest : Room := { frames := 7, cells := 1, slots := 6, locals := 103 }
def s_X8_fewest (F : MM) (p0 : Int32) : Option ((Int32 ⊕ String) × MM) := tbW F (s_X8_requireNode F p0) (fun u2 => if inb p0 5 then (if inb p0 5 then ((s_X7_distance F (F 17 (ix p0)) (F 18 (ix p0))).bind (fun z8 => some (.inl z8.1, z8.2))) else none) else none)
set_option maxRecDepth 20000 in
theorem k_X8_fewest {C : CX} {F : MM} {G : GG} {p0 : Int32} {r : ((Int32 ⊕ String) × MM)} (h : s_X8_fewest F p0 = some r) : AM C yX8_fewest cX8_fewest 2 (some .int) rmX8_fewest [.ref 0, .int p0] F G (fun o F9 G9 => o = (oI r.1) ∧ F9 = r.2 ∧ G9 = G) := by
  refine am_of (L := [some (.ref 0), some (.int p0)]) (by decide) (Nat.le_of_ble_eq_true rfl) rfl (fun M hM hT => ?_)
  have hM : MOk C RX8 cX8_fewest 2 (some .int) rmX8_fewest M := hM
  obtain ⟨Q, hQ⟩ : ∃ Q : OUT → MM → GG → Prop, Q = (fun o F9 G9 => o = (oI r.1) ∧ F9 = r.2 ∧ G9 = G) := ⟨_, rfl⟩
  have hq : Q (oI r.1) r.2 G := by rw [hQ]; exact ⟨rfl, rfl, rfl⟩
  rw [← hQ]
  clear hQ
  rw [s_X8_fewest] at h
  refine aw_aload_n (pc := 0) (i := 0) (x := 0) hM dX8_fewest_0 rfl rfl ?_
  refine aw_iload_n (pc := 1) (i := 1) (x := p0) hM dX8_fewest_1 rfl rfl ?_
  rcases tbW_some h with ⟨u2, h1, h⟩ | ⟨E3, h1, rfl⟩
  rotate_left
  · exact aw_cvX (pc := 2) (n := 1) (As := [.int p0]) (st := []) (b := 0) (E := E3) hM (k_X8_requireNode h1) rfl cw_X8_129 sk_0 rfl rfl (by decide +kernel) rfl rfl ⟨(Nat.le_of_ble_eq_true rfl), (Nat.le_of_ble_eq_true rfl)⟩ (Nat.le_of_ble_eq_true rfl) ⟨(Nat.le_of_ble_eq_true rfl), (Nat.le_of_ble_eq_true rfl)⟩ dX8_fewest_2 (ax_out hM hT (Nat.le_of_ble_eq_true rfl) (Nat.le_of_ble_eq_true rfl) hq)
  refine aw_cv1 (pc := 2) (n := 1) (As := [.int p0]) (st := []) (b := 0) (vo := none) (c2 := 1) (s2 := 6) hM (k_X8_requireNode h1) rfl cw_X8_129 sk_0 rfl rfl (by decide +kernel) rfl rfl ⟨(Nat.le_of_ble_eq_true rfl), (Nat.le_of_ble_eq_true rfl)⟩ (Nat.le_of_ble_eq_true rfl) ⟨(Nat.le_of_ble_eq_true rfl), (Nat.le_of_ble_eq_true rfl)⟩ dX8_fewest_2 rfl rfl ?_
  refine aw_aload_n (pc := 5) (i := 0) (x := 0) hM dX8_fewest_5 rfl rfl ?_
  refine aw_getR (pc := 6) (r := 13) hM fd_X8_34 sk_0 rfl dX8_fewest_6 ?_
  refine aw_aload_n (pc := 9) (i := 0) (x := 0) hM dX8_fewest_9 rfl rfl ?_
  refine aw_getR (pc := 10) (r := 16) hM fd_X8_41 sk_0 rfl dX8_fewest_10 ?_
  refine aw_getR (pc := 13) (r := 17) hM fd_X8_144 sk_16 rfl dX8_fewest_13 ?_
  refine aw_iload_n (pc := 16) (i := 1) (x := p0) hM dX8_fewest_16 rfl rfl ?_
  obtain ⟨c4, h⟩ := ite_some h
  refine aw_iald (pc := 17) hM sk_17 c4 dX8_fewest_17 ?_
  refine aw_aload_n (pc := 18) (i := 0) (x := 0) hM dX8_fewest_18 rfl rfl ?_
  refine aw_getR (pc := 19) (r := 16) hM fd_X8_41 sk_0 rfl dX8_fewest_19 ?_
  refine aw_getR (pc := 22) (r := 18) hM fd_X8_140 sk_16 rfl dX8_fewest_22 ?_
  refine aw_iload_n (pc := 25) (i := 1) (x := p0) hM dX8_fewest_25 rfl rfl ?_
  obtain ⟨c5, h⟩ := ite_some h
  refine aw_iald (pc := 26) hM sk_18 c5 dX8_fewest_26 ?_
  obtain ⟨z8, h6, h⟩ := bind_some h
  refine aw_cv1 (pc := 27) (n := 2) (As := [.int (F 17 (ix p0)), .int (F 18 (ix p0))]) (st := []) (b := 13) (vo := (some (.int z8.1))) (c2 := 1) (s2 := 6) hM (k_X7_distance h6) rfl cw_X8_233 sk_13 rfl rfl (by decide +kernel) rfl rfl ⟨(Nat.le_of_ble_eq_true rfl), (Nat.le_of_ble_eq_true rfl)⟩ (Nat.le_of_ble_eq_true rfl) ⟨(Nat.le_of_ble_eq_true rfl), (Nat.le_of_ble_eq_true rfl)⟩ dX8_fewest_27 rfl rfl ?_
  obtain rfl := Option.some.inj h
  exact aw_iret (pc := 30) hM dX8_fewest_30 (Nat.le_of_ble_eq_true rfl) (Nat.le_of_ble_eq_true rfl) hq
def rmX8_requireRule : Room := { frames := 6, cells := 1, slots := 6, locals := 82 }
def s_X8_requireRule (F : MM) (p0 : Int32) : Option (Unit ⊕ String) := if p0 < 0 then some (.inr ex_ioo) else if p0 < (F 10 3) then some (.inl ()) else some (.inr ex_ioo)
set_option maxRecDepth 20000 in
theorem k_X8_requireRule {C : CX} {F : MM} {G : GG} {p0 : Int32} {r : (Unit ⊕ String)} (h : s_X8_requireRule F p0 = some r) : AM C yX8_requireRule cX8_requireRule 2 none rmX8_requireRule [.ref 0, .int p0] F G (fun o F9 G9 => o = (oU r) ∧ F9 = F ∧ G9 = G) := by
  refine am_of (L := [some (.ref 0), some (.int p0)]) (by decide) (Nat.le_of_ble_eq_true rfl) rfl (fun M hM hT => ?_)
  have hM : MOk C RX8 cX8_requireRule 2 none rmX8_requireRule M := hM
  obtain ⟨Q, hQ⟩ : ∃ Q : OUT → MM → GG → Prop, Q = (fun o F9 G9 => o = (oU r) ∧ F9 = F ∧ G9 = G) := ⟨_, rfl⟩
  have hq : Q (oU r) F G := by rw [hQ]; exact ⟨rfl, rfl, rfl⟩
  rw [← hQ]
  clear hQ
  rw [s_X8_requireRule] at h
  refine aw_iload_n (pc := 0) (i := 1) (x := p0) hM dX8_requireRule_0 rfl rfl ?_
  refine aw_if_lt (pc := 1) (tgt := 18) hM dX8_requireRule_1 (by decide) (fun c1 => ?_) (fun c1 => ?_)
  · rw [if_pos c1] at h
    obtain rfl := Option.some.inj h
    exact aw_throwSW (pc := 18) hM hT tr_X8_276_283_280 dX8_requireRule_18 dX8_requireRule_21 dX8_requireRule_22 dX8_requireRule_25 dX8_requireRule_28 (Nat.le_of_ble_eq_true rfl) (Nat.le_of_ble_eq_true rfl) (Nat.le_of_ble_eq_true rfl) (Nat.le_of_ble_eq_true rfl) (Nat.le_of_ble_eq_true rfl) (Nat.le_of_ble_eq_true rfl) hq
  · rw [if_neg c1] at h
    refine aw_iload_n (pc := 4) (i := 1) (x := p0) hM dX8_requireRule_4 rfl rfl ?_
    refine aw_aload_n (pc := 5) (i := 0) (x := 0) hM dX8_requireRule_5 rfl rfl ?_
    refine aw_getR (pc := 6) (r := 8) hM fd_X8_25 sk_0 rfl dX8_requireRule_6 ?_
    refine aw_getR (pc := 9) (r := 10) hM fd_X8_93 sk_8 rfl dX8_requireRule_9 ?_
    refine aw_getI (pc := 12) hM fd_X8_97 sk_10 rfl dX8_requireRule_12 ?_
    refine aw_icmp_lt (pc := 15) (tgt := 29) hM dX8_requireRule_15 (by decide) (fun c2 => ?_) (fun c2 => ?_)
    · rw [if_pos c2] at h
      obtain rfl := Option.some.inj h
      exact aw_vret (pc := 29) hM dX8_requireRule_29 (Nat.le_of_ble_eq_true rfl) (Nat.le_of_ble_eq_true rfl) hq
    · rw [if_neg c2] at h
      obtain rfl := Option.some.inj h
      exact aw_throwSW (pc := 18) hM hT tr_X8_276_283_280 dX8_requireRule_18 dX8_requireRule_21 dX8_requireRule_22 dX8_requireRule_25 dX8_requireRule_28 (Nat.le_of_ble_eq_true rfl) (Nat.le_of_ble_eq_true rfl) (Nat.le_of_ble_eq_true rfl) (Nat.le_of_ble_eq_true rfl) (Nat.le_of_ble_eq_true rfl) (Nat.le_of_ble_eq_true rfl) hq
def rmX8_holdsUp : Room := { frames := 7, cells := 1, slots := 6, locals := 103 }
def s_X8_holdsUp (F : MM) (p0 : Int32) : Option (Int32 ⊕ String) := tbR (s_X8_requireRule F p0) (fun u2 => (s_X5_pairsHeldUpBy F 16 p0).bind (fun r5 => some (.inl r5)))
set_option maxRecDepth 20000 in
theorem k_X8_holdsUp {C : CX} {F : MM} {G : GG} {p0 : Int32} {r : (Int32 ⊕ String)} (h : s_X8_holdsUp F p0 = some r) : AM C yX8_holdsUp cX8_holdsUp 2 (some .int) rmX8_holdsUp [.ref 0, .int p0] F G (fun o F9 G9 => o = (oI r) ∧ F9 = F ∧ G9 = G) := by
  refine am_of (L := [some (.ref 0), some (.int p0)]) (by decide) (Nat.le_of_ble_eq_true rfl) rfl (fun M hM hT => ?_)
  have hM : MOk C RX8 cX8_holdsUp 2 (some .int) rmX8_holdsUp M := hM
  obtain ⟨Q, hQ⟩ : ∃ Q : OUT → MM → GG → Prop, Q = (fun o F9 G9 => o = (oI r) ∧ F9 = F ∧ G9 = G) := ⟨_, rfl⟩
  have hq : Q (oI r) F G := by rw [hQ]; exact ⟨rfl, rfl, rfl⟩
  rw [← hQ]
  clear hQ
  rw [s_X8_holdsUp] at h
  refine aw_aload_n (pc := 0) (i := 0) (x := 0) hM dX8_holdsUp_0 rfl rfl ?_
  refine aw_iload_n (pc := 1) (i := 1) (x := p0) hM dX8_holdsUp_1 rfl rfl ?_
  rcases tbR_some h with ⟨u2, h1, h⟩ | ⟨E3, h1, rfl⟩
  rotate_left
  · exact aw_cvX (pc := 2) (n := 1) (As := [.int p0]) (st := []) (b := 0) (E := E3) hM (k_X8_requireRule h1) rfl cw_X8_152 sk_0 rfl rfl (by decide +kernel) rfl rfl ⟨(Nat.le_of_ble_eq_true rfl), (Nat.le_of_ble_eq_true rfl)⟩ (Nat.le_of_ble_eq_true rfl) ⟨(Nat.le_of_ble_eq_true rfl), (Nat.le_of_ble_eq_true rfl)⟩ dX8_holdsUp_2 (ax_out hM hT (Nat.le_of_ble_eq_true rfl) (Nat.le_of_ble_eq_true rfl) hq)
  refine aw_cv1 (pc := 2) (n := 1) (As := [.int p0]) (st := []) (b := 0) (vo := none) (c2 := 1) (s2 := 6) hM (k_X8_requireRule h1) rfl cw_X8_152 sk_0 rfl rfl (by decide +kernel) rfl rfl ⟨(Nat.le_of_ble_eq_true rfl), (Nat.le_of_ble_eq_true rfl)⟩ (Nat.le_of_ble_eq_true rfl) ⟨(Nat.le_of_ble_eq_true rfl), (Nat.le_of_ble_eq_true rfl)⟩ dX8_holdsUp_2 rfl rfl ?_
  refine aw_aload_n (pc := 5) (i := 0) (x := 0) hM dX8_holdsUp_5 rfl rfl ?_
  refine aw_getR (pc := 6) (r := 16) hM fd_X8_41 sk_0 rfl dX8_holdsUp_6 ?_
  refine aw_iload_n (pc := 9) (i := 1) (x := p0) hM dX8_holdsUp_9 rfl rfl ?_
  obtain ⟨r5, h4, h⟩ := bind_some h
  refine aw_cv1 (pc := 10) (n := 1) (As := [.int p0]) (st := []) (b := 16) (vo := (some (.int r5))) (c2 := 1) (s2 := 6) hM (k_X5_pairsHeldUpBy is_16 h4) rfl cw_X8_221 sk_16 rfl rfl (by decide +kernel) rfl rfl ⟨(Nat.le_of_ble_eq_true rfl), (Nat.le_of_ble_eq_true rfl)⟩ (Nat.le_of_ble_eq_true rfl) ⟨(Nat.le_of_ble_eq_true rfl), (Nat.le_of_ble_eq_true rfl)⟩ dX8_holdsUp_10 rfl rfl ?_
  obtain rfl := Option.some.inj h
  exact aw_iret (pc := 13) hM dX8_holdsUp_13 (Nat.le_of_ble_eq_true rfl) (Nat.le_of_ble_eq_true rfl) hq
def rmX8_isPossible : Room := { frames := 7, cells := 2, slots := 12, locals := 104 }
def s_X8_isPossible (F : MM) (p0 : Int32) (p1 : Int32) : Option (Int32 ⊕ String) := tbR (s_X8_requireComponent F p0) (fun u2 => tbR (s_X8_requireRange F p1 0 3) (fun u5 => (s_X4_allow F p0 p1).bind (fun r8 => if r8 &&& 1 = r8 then (some (.inl r8)) else none)))
set_option maxRecDepth 20000 in
theorem k_X8_isPossible {C : CX} {F : MM} {G : GG} {p0 : Int32} {p1 : Int32} {r : (Int32 ⊕ String)} (h : s_X8_isPossible F p0 p1 = some r) : AM C yX8_isPossible cX8_isPossible 3 (some .boolean) rmX8_isPossible [.ref 0, .int p0, .int p1] F G (fun o F9 G9 => o = (oI r) ∧ F9 = F ∧ G9 = G) := by
  refine am_of (L := [some (.ref 0), some (.int p0), some (.int p1)]) (by decide) (Nat.le_of_ble_eq_true rfl) rfl (fun M hM hT => ?_)
  have hM : MOk C RX8 cX8_isPossible 3 (some .boolean) rmX8_isPossible M := hM
  obtain ⟨Q, hQ⟩ : ∃ Q : OUT → MM → GG → Prop, Q = (fun o F9 G9 => o = (oI r) ∧ F9 = F ∧ G9 = G) := ⟨_, rfl⟩
  have hq : Q (oI r) F G := by rw [hQ]; exact ⟨rfl, rfl, rfl⟩
  rw [← hQ]
  clear hQ
  rw [s_X8_isPossible] at h
  refine aw_aload_n (pc := 0) (i := 0) (x := 0) hM dX8_isPossible_0 rfl rfl ?_
  refine aw_iload_n (pc := 1) (i := 1) (x := p0) hM dX8_isPossible_1 rfl rfl ?_
  rcases tbR_some h with ⟨u2, h1, h⟩ | ⟨E3, h1, rfl⟩
  rotate_left
  · exact aw_cvX (pc := 2) (n := 1) (As := [.int p0]) (st := []) (b := 0) (E := E3) hM (k_X8_requireComponent h1) rfl cw_X8_137 sk_0 rfl rfl (by decide +kernel) rfl rfl ⟨(Nat.le_of_ble_eq_true rfl), (Nat.le_of_ble_eq_true rfl)⟩ (Nat.le_of_ble_eq_true rfl) ⟨(Nat.le_of_ble_eq_true rfl), (Nat.le_of_ble_eq_true rfl)⟩ dX8_isPossible_2 (ax_out hM hT (Nat.le_of_ble_eq_true rfl) (Nat.le_of_ble_eq_true rfl) hq)
  refine aw_cv1 (pc := 2) (n := 1) (As := [.int p0]) (st := []) (b := 0) (vo := none) (c2 := 1) (s2 := 6) hM (k_X8_requireComponent h1) rfl cw_X8_137 sk_0 rfl rfl (by decide +kernel) rfl rfl ⟨(Nat.le_of_ble_eq_true rfl), (Nat.le_of_ble_eq_true rfl)⟩ (Nat.le_of_ble_eq_true rfl) ⟨(Nat.le_of_ble_eq_true rfl), (Nat.le_of_ble_eq_true rfl)⟩ dX8_isPossible_2 rfl rfl ?_
  refine aw_iload_n (pc := 5) (i := 2) (x := p1) hM dX8_isPossible_5 rfl rfl ?_
  refine aw_iconst (pc := 6) (v := 0) hM dX8_isPossible_6 (by decide) ?_
  refine aw_iconst (pc := 7) (v := 3) hM dX8_isPossible_7 (by decide) ?_
  rcases tbR_some h with ⟨u5, h4, h⟩ | ⟨E6, h4, rfl⟩
  rotate_left
  · exact aw_csX (pc := 8) (n := 3) (As := [.int p1, .int 0, .int 3]) (st := []) (E := E6) hM (k_X8_requireRange h4) rfl cw_X8_63 (by decide +kernel) rfl rfl ⟨(Nat.le_of_ble_eq_true rfl), (Nat.le_of_ble_eq_true rfl)⟩ (Nat.le_of_ble_eq_true rfl) ⟨(Nat.le_of_ble_eq_true rfl), (Nat.le_of_ble_eq_true rfl)⟩ dX8_isPossible_8 (ax_out hM hT (Nat.le_of_ble_eq_true rfl) (Nat.le_of_ble_eq_true rfl) hq)
  refine aw_cs1 (pc := 8) (n := 3) (As := [.int p1, .int 0, .int 3]) (st := []) (vo := none) (c2 := 2) (s2 := 12) hM (k_X8_requireRange h4) rfl cw_X8_63 (by decide +kernel) rfl rfl ⟨(Nat.le_of_ble_eq_true rfl), (Nat.le_of_ble_eq_true rfl)⟩ (Nat.le_of_ble_eq_true rfl) ⟨(Nat.le_of_ble_eq_true rfl), (Nat.le_of_ble_eq_true rfl)⟩ dX8_isPossible_8 rfl rfl ?_
  refine aw_aload_n (pc := 11) (i := 0) (x := 0) hM dX8_isPossible_11 rfl rfl ?_
  refine aw_getR (pc := 12) (r := 8) hM fd_X8_25 sk_0 rfl dX8_isPossible_12 ?_
  refine aw_getR (pc := 15) (r := 10) hM fd_X8_93 sk_8 rfl dX8_isPossible_15 ?_
  refine aw_iload_n (pc := 18) (i := 1) (x := p0) hM dX8_isPossible_18 rfl rfl ?_
  refine aw_iload_n (pc := 19) (i := 2) (x := p1) hM dX8_isPossible_19 rfl rfl ?_
  obtain ⟨r8, h7, h⟩ := bind_some h
  refine aw_cv1 (pc := 20) (n := 2) (As := [.int p0, .int p1]) (st := []) (b := 10) (vo := (some (.int r8))) (c2 := 2) (s2 := 12) hM (k_X4_allow h7) rfl cw_X8_244 sk_10 rfl rfl (by decide +kernel) rfl rfl ⟨(Nat.le_of_ble_eq_true rfl), (Nat.le_of_ble_eq_true rfl)⟩ (Nat.le_of_ble_eq_true rfl) ⟨(Nat.le_of_ble_eq_true rfl), (Nat.le_of_ble_eq_true rfl)⟩ dX8_isPossible_20 rfl rfl ?_
  obtain ⟨c9, h⟩ := ite_some h
  obtain rfl := Option.some.inj h
  exact aw_zret (pc := 23) hM dX8_isPossible_23 c9 (Nat.le_of_ble_eq_true rfl) (Nat.le_of_ble_eq_true rfl) hq
def rmX8_load : Room := { frames := 6, cells := 1, slots := 6, locals := 131 }
def s_X8_load_b64 : Nat → MM → Int32 → Option ((Int32 ⊕ String) × MM)
  | 0, _, _ => none
  | n + 1, F, x1 => if 2 ≤ x1 then some (.inl (F 10 3), F) else if inb x1 2 then ((some (mup F 147 (ix x1) (vp_nar .boolean 0))).bind (fun F15 => (some (x1 + 1 : Int32)).bind (fun y17 => s_X8_load_b64 n F15 y17))) else none
def s_X8_load (F : MM) : Option ((Int32 ⊕ String) × MM) := (s_X6_read F (F 0 1)).bind (fun z3 => if z3.1 = (-9) then (s_X3_take z3.2).bind (fun F6 => (s_X5_take F6 16).bind (fun F8 => (s_X7_forget F8).bind (fun F10 => (s_X2_forget F10).bind (fun F12 => s_X8_load_b64 fu_ F12 0)))) else some (.inr ex_ise, z3.2))
set_option maxRecDepth 20000 in
theorem k_X8_load_b64 {C : CX} {M : MX} {G : GG} {Q : OUT → MM → GG → Prop} {r : ((Int32 ⊕ String) × MM)} (hM : MOk C RX8 cX8_load 2 (some .int) rmX8_load M) (hT : MNoT M) (hq : Q (oI r.1) r.2 G) : ∀ (n : Nat) (F : MM) (x1 : Int32), s_X8_load_b64 n F x1 = some r → AW C 2 (ZM C rmX8_load Q M) M 0 0 64 [some (.ref 0), some (.int x1)] [] F G := by
  intro n
  induction n with
  | zero => intro F x1 h; exact nomatch h
  | succ n ih =>
    intro F x1 h
    rw [s_X8_load_b64] at h
    refine aw_iload_n (pc := 64) (i := 1) (x := x1) hM dX8_load_64 rfl rfl ?_
    refine aw_iconst (pc := 65) (v := 2) hM dX8_load_65 (by decide) ?_
    refine aw_icmp_ge (pc := 66) (tgt := 82) hM dX8_load_66 (by decide) (fun c13 => ?_) (fun c13 => ?_)
    · rw [if_pos c13] at h
      refine aw_aload_n (pc := 82) (i := 0) (x := 0) hM dX8_load_82 rfl rfl ?_
      refine aw_getR (pc := 83) (r := 8) hM fd_X8_25 sk_0 rfl dX8_load_83 ?_
      refine aw_getR (pc := 86) (r := 10) hM fd_X8_93 sk_8 rfl dX8_load_86 ?_
      refine aw_getI (pc := 89) hM fd_X8_97 sk_10 rfl dX8_load_89 ?_
      obtain rfl := Option.some.inj h
      exact aw_iret (pc := 92) hM dX8_load_92 (Nat.le_of_ble_eq_true rfl) (Nat.le_of_ble_eq_true rfl) hq
    · rw [if_neg c13] at h
      refine aw_aload_n (pc := 69) (i := 0) (x := 0) hM dX8_load_69 rfl rfl ?_
      refine aw_getR (pc := 70) (r := 147) hM fd_X8_59 sk_0 rfl dX8_load_70 ?_
      refine aw_iload_n (pc := 73) (i := 1) (x := x1) hM dX8_load_73 rfl rfl ?_
      refine aw_iconst (pc := 74) (v := 0) hM dX8_load_74 (by decide) ?_
      obtain ⟨c14, h⟩ := ite_some h
      obtain ⟨F15, e16, h⟩ := bind_some h
      have e16 := Option.some.inj e16
      refine aw_zast (pc := 75) hM sk_147 c14 dX8_load_75 ?_
      refine aw_mem e16 ?_
      obtain ⟨y17, e18, h⟩ := bind_some h
      have e18 := Option.some.inj e18
      refine aw_iinc (pc := 76) (v := y17) (L' := [some (.ref 0), some (.int y17)]) hM dX8_load_76 rfl e18 (by decide) rfl ?_
      refine aw_goto (pc := 79) (tgt := 64) hM dX8_load_79 (by decide) ?_
      exact ih F15 y17 h
set_option maxRecDepth 20000 in
theorem k_X8_load {C : CX} {F : MM} {G : GG} {r : ((Int32 ⊕ String) × MM)} (h : s_X8_load F = some r) : AM C yX8_load cX8_load 2 (some .int) rmX8_load [.ref 0] F G (fun o F9 G9 => o = (oI r.1) ∧ F9 = r.2 ∧ G9 = G) := by
  refine am_of (L := [some (.ref 0), none]) (by decide) (Nat.le_of_ble_eq_true rfl) rfl (fun M hM hT => ?_)
  have hM : MOk C RX8 cX8_load 2 (some .int) rmX8_load M := hM
  obtain ⟨Q, hQ⟩ : ∃ Q : OUT → MM → GG → Prop, Q = (fun o F9 G9 => o = (oI r.1) ∧ F9 = r.2 ∧ G9 = G) := ⟨_, rfl⟩
  have hq : Q (oI r.1) r.2 G := by rw [hQ]; exact ⟨rfl, rfl, rfl⟩
  rw [← hQ]
  clear hQ
  rw [s_X8_load] at h
  refine aw_aload_n (pc := 0) (i := 0) (x := 0) hM dX8_load_0 rfl rfl ?_
  refine aw_getR (pc := 1) (r := 2) hM fd_X8_18 sk_0 rfl dX8_load_1 ?_
  refine aw_aload_n (pc := 4) (i := 0) (x := 0) hM dX8_load_4 rfl rfl ?_
  refine aw_getI (pc := 5) hM fd_X8_67 sk_0 rfl dX8_load_5 ?_
  obtain ⟨z3, h1, h⟩ := bind_some h
  refine aw_cv1 (pc := 8) (n := 1) (As := [.int (F 0 1)]) (st := []) (b := 2) (vo := (some (.int z3.1))) (c2 := 0) (s2 := 0) hM (k_X6_read h1) rfl cw_X8_78 sk_2 rfl rfl (by decide +kernel) rfl rfl ⟨(Nat.le_of_ble_eq_true rfl), (Nat.le_of_ble_eq_true rfl)⟩ (Nat.le_of_ble_eq_true rfl) ⟨(Nat.le_of_ble_eq_true rfl), (Nat.le_of_ble_eq_true rfl)⟩ dX8_load_8 rfl rfl ?_
  refine aw_bipush (pc := 11) (v := (-9)) hM dX8_load_11 (by decide) ?_
  refine aw_icmp_eq (pc := 13) (tgt := 26) hM dX8_load_13 (by decide) (fun c4 => ?_) (fun c4 => ?_)
  · rw [if_pos c4] at h
    refine aw_aload_n (pc := 26) (i := 0) (x := 0) hM dX8_load_26 rfl rfl ?_
    refine aw_getR (pc := 27) (r := 8) hM fd_X8_25 sk_0 rfl dX8_load_27 ?_
    refine aw_aload_n (pc := 30) (i := 0) (x := 0) hM dX8_load_30 rfl rfl ?_
    refine aw_getR (pc := 31) (r := 2) hM fd_X8_18 sk_0 rfl dX8_load_31 ?_
    obtain ⟨F6, h5, h⟩ := bind_some h
    refine aw_cv1 (pc := 34) (n := 1) (As := [.ref 2]) (st := []) (b := 8) (vo := none) (c2 := 0) (s2 := 0) hM (k_X3_take h5) rfl cw_X8_84 sk_8 rfl rfl (by decide +kernel) rfl rfl ⟨(Nat.le_of_ble_eq_true rfl), (Nat.le_of_ble_eq_true rfl)⟩ (Nat.le_of_ble_eq_true rfl) ⟨(Nat.le_of_ble_eq_true rfl), (Nat.le_of_ble_eq_true rfl)⟩ dX8_load_34 rfl rfl ?_
    refine aw_aload_n (pc := 37) (i := 0) (x := 0) hM dX8_load_37 rfl rfl ?_
    refine aw_getR (pc := 38) (r := 16) hM fd_X8_41 sk_0 rfl dX8_load_38 ?_
    refine aw_aload_n (pc := 41) (i := 0) (x := 0) hM dX8_load_41 rfl rfl ?_
    refine aw_getR (pc := 42) (r := 2) hM fd_X8_18 sk_0 rfl dX8_load_42 ?_
    obtain ⟨F8, h7, h⟩ := bind_some h
    refine aw_cv1 (pc := 45) (n := 1) (As := [.ref 2]) (st := []) (b := 16) (vo := none) (c2 := 0) (s2 := 0) hM (k_X5_take is_16 h7) rfl cw_X8_88 sk_16 rfl rfl (by decide +kernel) rfl rfl ⟨(Nat.le_of_ble_eq_true rfl), (Nat.le_of_ble_eq_true rfl)⟩ (Nat.le_of_ble_eq_true rfl) ⟨(Nat.le_of_ble_eq_true rfl), (Nat.le_of_ble_eq_true rfl)⟩ dX8_load_45 rfl rfl ?_
    refine aw_aload_n (pc := 48) (i := 0) (x := 0) hM dX8_load_48 rfl rfl ?_
    refine aw_getR (pc := 49) (r := 13) hM fd_X8_34 sk_0 rfl dX8_load_49 ?_
    obtain ⟨F10, h9, h⟩ := bind_some h
    refine aw_cv1 (pc := 52) (n := 0) (As := []) (st := []) (b := 13) (vo := none) (c2 := 0) (s2 := 0) hM (k_X7_forget h9) rfl cw_X8_89 sk_13 rfl rfl (by decide +kernel) rfl rfl ⟨(Nat.le_of_ble_eq_true rfl), (Nat.le_of_ble_eq_true rfl)⟩ (Nat.le_of_ble_eq_true rfl) ⟨(Nat.le_of_ble_eq_true rfl), (Nat.le_of_ble_eq_true rfl)⟩ dX8_load_52 rfl rfl ?_
    refine aw_aload_n (pc := 55) (i := 0) (x := 0) hM dX8_load_55 rfl rfl ?_
    refine aw_getR (pc := 56) (r := 32) hM fd_X8_51 sk_0 rfl dX8_load_56 ?_
    obtain ⟨F12, h11, h⟩ := bind_some h
    refine aw_cv1 (pc := 59) (n := 0) (As := []) (st := []) (b := 32) (vo := none) (c2 := 0) (s2 := 0) hM (k_X2_forget h11) rfl cw_X8_92 sk_32 rfl rfl (by decide +kernel) rfl rfl ⟨(Nat.le_of_ble_eq_true rfl), (Nat.le_of_ble_eq_true rfl)⟩ (Nat.le_of_ble_eq_true rfl) ⟨(Nat.le_of_ble_eq_true rfl), (Nat.le_of_ble_eq_true rfl)⟩ dX8_load_59 rfl rfl ?_
    refine aw_iconst (pc := 62) (v := 0) hM dX8_load_62 (by decide) ?_
    refine aw_istore_n (pc := 63) (i := 1) (L' := [some (.ref 0), some (.int 0)]) hM dX8_load_63 rfl (by decide) rfl ?_
    exact k_X8_load_b64 hM hT hq fu_ F12 0 h
  · rw [if_neg c4] at h
    obtain rfl := Option.some.inj h
    exact aw_throwS (pc := 16) hM hT tr_X8_71_82_75 dX8_load_16 dX8_load_19 dX8_load_20 dX8_load_22 dX8_load_25 (Nat.le_of_ble_eq_true rfl) (Nat.le_of_ble_eq_true rfl) (Nat.le_of_ble_eq_true rfl) (Nat.le_of_ble_eq_true rfl) (Nat.le_of_ble_eq_true rfl) (Nat.le_of_ble_eq_true rfl) hq
def rmX8_missing : Room := { frames := 7, cells := 1, slots := 6, locals := 103 }
def s_X8_missing (F : MM) (p0 : Int32) : Option (Int32 ⊕ String) := tbR (s_X8_requireComponent F p0) (fun u2 => (s_X5_missingApprovals F 16 p0).bind (fun r5 => some (.inl r5)))
set_option maxRecDepth 20000 in
theorem k_X8_missing {C : CX} {F : MM} {G : GG} {p0 : Int32} {r : (Int32 ⊕ String)} (h : s_X8_missing F p0 = some r) : AM C yX8_missing cX8_missing 2 (some .int) rmX8_missing [.ref 0, .int p0] F G (fun o F9 G9 => o = (oI r) ∧ F9 = F ∧ G9 = G) := by
  refine am_of (L := [some (.ref 0), some (.int p0)]) (by decide) (Nat.le_of_ble_eq_true rfl) rfl (fun M hM hT => ?_)
  have hM : MOk C RX8 cX8_missing 2 (some .int) rmX8_missing M := hM
  obtain ⟨Q, hQ⟩ : ∃ Q : OUT → MM → GG → Prop, Q = (fun o F9 G9 => o = (oI r) ∧ F9 = F ∧ G9 = G) := ⟨_, rfl⟩
  have hq : Q (oI r) F G := by rw [hQ]; exact ⟨rfl, rfl, rfl⟩
  rw [← hQ]
  clear hQ
  rw [s_X8_missing] at h
  refine aw_aload_n (pc := 0) (i := 0) (x := 0) hM dX8_missing_0 rfl rfl ?_
  refine aw_iload_n (pc := 1) (i := 1) (x := p0) hM dX8_missing_1 rfl rfl ?_
  rcases tbR_some h with ⟨u2, h1, h⟩ | ⟨E3, h1, rfl⟩
  rotate_left
  · exact aw_cvX (pc := 2) (n := 1) (As := [.int p0]) (st := []) (b := 0) (E := E3) hM (k_X8_requireComponent h1) rfl cw_X8_137 sk_0 rfl rfl (by decide +kernel) rfl rfl ⟨(Nat.le_of_ble_eq_true rfl), (Nat.le_of_ble_eq_true rfl)⟩ (Nat.le_of_ble_eq_true rfl) ⟨(Nat.le_of_ble_eq_true rfl), (Nat.le_of_ble_eq_true rfl)⟩ dX8_missing_2 (ax_out hM hT (Nat.le_of_ble_eq_true rfl) (Nat.le_of_ble_eq_true rfl) hq)
  refine aw_cv1 (pc := 2) (n := 1) (As := [.int p0]) (st := []) (b := 0) (vo := none) (c2 := 1) (s2 := 6) hM (k_X8_requireComponent h1) rfl cw_X8_137 sk_0 rfl rfl (by decide +kernel) rfl rfl ⟨(Nat.le_of_ble_eq_true rfl), (Nat.le_of_ble_eq_true rfl)⟩ (Nat.le_of_ble_eq_true rfl) ⟨(Nat.le_of_ble_eq_true rfl), (Nat.le_of_ble_eq_true rfl)⟩ dX8_missing_2 rfl rfl ?_
  refine aw_aload_n (pc := 5) (i := 0) (x := 0) hM dX8_missing_5 rfl rfl ?_
  refine aw_getR (pc := 6) (r := 16) hM fd_X8_41 sk_0 rfl dX8_missing_6 ?_
  refine aw_iload_n (pc := 9) (i := 1) (x := p0) hM dX8_missing_9 rfl rfl ?_
  obtain ⟨r5, h4, h⟩ := bind_some h
  refine aw_cv1 (pc := 10) (n := 1) (As := [.int p0]) (st := []) (b := 16) (vo := (some (.int r5))) (c2 := 1) (s2 := 6) hM (k_X5_missingApprovals is_16 h4) rfl cw_X8_224 sk_16 rfl rfl (by decide +kernel) rfl rfl ⟨(Nat.le_of_ble_eq_true rfl), (Nat.le_of_ble_eq_true rfl)⟩ (Nat.le_of_ble_eq_true rfl) ⟨(Nat.le_of_ble_eq_true rfl), (Nat.le_of_ble_eq_true rfl)⟩ dX8_missing_10 rfl rfl ?_
  obtain rfl := Option.some.inj h
  exact aw_iret (pc := 13) hM dX8_missing_13 (Nat.le_of_ble_eq_true rfl) (Nat.le_of_ble_eq_true rfl) hq
def rmX8_needed : Room := { frames := 7, cells := 3, slots := 18, locals := 104 }
def s_X8_needed (F : MM) (p0 : Int32) (p1 : Int32) (p2 : Int32) : Option (Int32 ⊕ String) := tbR (s_X8_requireComponent F p0) (fun u2 => tbR (s_X8_requireComponent F p2) (fun u5 => tbR (s_X8_requireRange F p1 0 3) (fun u8 => (s_X0_with F 0 p0 p1).bind (fun r11 => (s_X4_leastWithNeeds F r11).bind (fun r13 => (s_X0_versionIn F r13 p2).bind (fun r15 => some (.inl r15)))))))
set_option maxRecDepth 20000 in
theorem k_X8_needed {C : CX} {F : MM} {G : GG} {p0 : Int32} {p1 : Int32} {p2 : Int32} {r : (Int32 ⊕ String)} (h : s_X8_needed F p0 p1 p2 = some r) : AM C yX8_needed cX8_needed 4 (some .int) rmX8_needed [.ref 0, .int p0, .int p1, .int p2] F G (fun o F9 G9 => o = (oI r) ∧ F9 = F ∧ G9 = G) := by
  refine am_of (L := [some (.ref 0), some (.int p0), some (.int p1), some (.int p2)]) (by decide) (Nat.le_of_ble_eq_true rfl) rfl (fun M hM hT => ?_)
  have hM : MOk C RX8 cX8_needed 4 (some .int) rmX8_needed M := hM
  obtain ⟨Q, hQ⟩ : ∃ Q : OUT → MM → GG → Prop, Q = (fun o F9 G9 => o = (oI r) ∧ F9 = F ∧ G9 = G) := ⟨_, rfl⟩
  have hq : Q (oI r) F G := by rw [hQ]; exact ⟨rfl, rfl, rfl⟩
  rw [← hQ]
  clear hQ
  rw [s_X8_needed] at h
  refine aw_aload_n (pc := 0) (i := 0) (x := 0) hM dX8_needed_0 rfl rfl ?_
  refine aw_iload_n (pc := 1) (i := 1) (x := p0) hM dX8_needed_1 rfl rfl ?_
  rcases tbR_some h with ⟨u2, h1, h⟩ | ⟨E3, h1, rfl⟩
  rotate_left
  · exact aw_cvX (pc := 2) (n := 1) (As := [.int p0]) (st := []) (b := 0) (E := E3) hM (k_X8_requireComponent h1) rfl cw_X8_137 sk_0 rfl rfl (by decide +kernel) rfl rfl ⟨(Nat.le_of_ble_eq_true rfl), (Nat.le_of_ble_eq_true rfl)⟩ (Nat.le_of_ble_eq_true rfl) ⟨(Nat.le_of_ble_eq_true rfl), (Nat.le_of_ble_eq_true rfl)⟩ dX8_needed_2 (ax_out hM hT (Nat.le_of_ble_eq_true rfl) (Nat.le_of_ble_eq_true rfl) hq)
  refine aw_cv1 (pc := 2) (n := 1) (As := [.int p0]) (st := []) (b := 0) (vo := none) (c2 := 1) (s2 := 6) hM (k_X8_requireComponent h1) rfl cw_X8_137 sk_0 rfl rfl (by decide +kernel) rfl rfl ⟨(Nat.le_of_ble_eq_true rfl), (Nat.le_of_ble_eq_true rfl)⟩ (Nat.le_of_ble_eq_true rfl) ⟨(Nat.le_of_ble_eq_true rfl), (Nat.le_of_ble_eq_true rfl)⟩ dX8_needed_2 rfl rfl ?_
  refine aw_aload_n (pc := 5) (i := 0) (x := 0) hM dX8_needed_5 rfl rfl ?_
  refine aw_iload_n (pc := 6) (i := 3) (x := p2) hM dX8_needed_6 rfl rfl ?_
  rcases tbR_some h with ⟨u5, h4, h⟩ | ⟨E6, h4, rfl⟩
  rotate_left
  · exact aw_cvX (pc := 7) (n := 1) (As := [.int p2]) (st := []) (b := 0) (E := E6) hM (k_X8_requireComponent h4) rfl cw_X8_137 sk_0 rfl rfl (by decide +kernel) rfl rfl ⟨(Nat.le_of_ble_eq_true rfl), (Nat.le_of_ble_eq_true rfl)⟩ (Nat.le_of_ble_eq_true rfl) ⟨(Nat.le_of_ble_eq_true rfl), (Nat.le_of_ble_eq_true rfl)⟩ dX8_needed_7 (ax_out hM hT (Nat.le_of_ble_eq_true rfl) (Nat.le_of_ble_eq_true rfl) hq)
  refine aw_cv1 (pc := 7) (n := 1) (As := [.int p2]) (st := []) (b := 0) (vo := none) (c2 := 2) (s2 := 12) hM (k_X8_requireComponent h4) rfl cw_X8_137 sk_0 rfl rfl (by decide +kernel) rfl rfl ⟨(Nat.le_of_ble_eq_true rfl), (Nat.le_of_ble_eq_true rfl)⟩ (Nat.le_of_ble_eq_true rfl) ⟨(Nat.le_of_ble_eq_true rfl), (Nat.le_of_ble_eq_true rfl)⟩ dX8_needed_7 rfl rfl ?_
  refine aw_iload_n (pc := 10) (i := 2) (x := p1) hM dX8_needed_10 rfl rfl ?_
  refine aw_iconst (pc := 11) (v := 0) hM dX8_needed_11 (by decide) ?_
  refine aw_iconst (pc := 12) (v := 3) hM dX8_needed_12 (by decide) ?_
  rcases tbR_some h with ⟨u8, h7, h⟩ | ⟨E9, h7, rfl⟩
  rotate_left
  · exact aw_csX (pc := 13) (n := 3) (As := [.int p1, .int 0, .int 3]) (st := []) (E := E9) hM (k_X8_requireRange h7) rfl cw_X8_63 (by decide +kernel) rfl rfl ⟨(Nat.le_of_ble_eq_true rfl), (Nat.le_of_ble_eq_true rfl)⟩ (Nat.le_of_ble_eq_true rfl) ⟨(Nat.le_of_ble_eq_true rfl), (Nat.le_of_ble_eq_true rfl)⟩ dX8_needed_13 (ax_out hM hT (Nat.le_of_ble_eq_true rfl) (Nat.le_of_ble_eq_true rfl) hq)
  refine aw_cs1 (pc := 13) (n := 3) (As := [.int p1, .int 0, .int 3]) (st := []) (vo := none) (c2 := 3) (s2 := 18) hM (k_X8_requireRange h7) rfl cw_X8_63 (by decide +kernel) rfl rfl ⟨(Nat.le_of_ble_eq_true rfl), (Nat.le_of_ble_eq_true rfl)⟩ (Nat.le_of_ble_eq_true rfl) ⟨(Nat.le_of_ble_eq_true rfl), (Nat.le_of_ble_eq_true rfl)⟩ dX8_needed_13 rfl rfl ?_
  refine aw_aload_n (pc := 16) (i := 0) (x := 0) hM dX8_needed_16 rfl rfl ?_
  refine aw_getR (pc := 17) (r := 8) hM fd_X8_25 sk_0 rfl dX8_needed_17 ?_
  refine aw_getR (pc := 20) (r := 10) hM fd_X8_93 sk_8 rfl dX8_needed_20 ?_
  refine aw_iconst (pc := 23) (v := 0) hM dX8_needed_23 (by decide) ?_
  refine aw_iload_n (pc := 24) (i := 1) (x := p0) hM dX8_needed_24 rfl rfl ?_
  refine aw_iload_n (pc := 25) (i := 2) (x := p1) hM dX8_needed_25 rfl rfl ?_
  obtain ⟨r11, h10, h⟩ := bind_some h
  refine aw_cs1 (pc := 26) (n := 3) (As := [.int 0, .int p0, .int p1]) (st := [.ref 10]) (vo := (some (.int r11))) (c2 := 3) (s2 := 18) hM (k_X0_with h10) rfl cw_X8_171 (by decide +kernel) rfl rfl ⟨(Nat.le_of_ble_eq_true rfl), (Nat.le_of_ble_eq_true rfl)⟩ (Nat.le_of_ble_eq_true rfl) ⟨(Nat.le_of_ble_eq_true rfl), (Nat.le_of_ble_eq_true rfl)⟩ dX8_needed_26 rfl rfl ?_
  obtain ⟨r13, h12, h⟩ := bind_some h
  refine aw_cv1 (pc := 29) (n := 1) (As := [.int r11]) (st := []) (b := 10) (vo := (some (.int r13))) (c2 := 3) (s2 := 18) hM (k_X4_leastWithNeeds h12) rfl cw_X8_241 sk_10 rfl rfl (by decide +kernel) rfl rfl ⟨(Nat.le_of_ble_eq_true rfl), (Nat.le_of_ble_eq_true rfl)⟩ (Nat.le_of_ble_eq_true rfl) ⟨(Nat.le_of_ble_eq_true rfl), (Nat.le_of_ble_eq_true rfl)⟩ dX8_needed_29 rfl rfl ?_
  refine aw_iload_n (pc := 32) (i := 3) (x := p2) hM dX8_needed_32 rfl rfl ?_
  obtain ⟨r15, h14, h⟩ := bind_some h
  refine aw_cs1 (pc := 33) (n := 2) (As := [.int r13, .int p2]) (st := []) (vo := (some (.int r15))) (c2 := 3) (s2 := 18) hM (k_X0_versionIn h14) rfl cw_X8_147 (by decide +kernel) rfl rfl ⟨(Nat.le_of_ble_eq_true rfl), (Nat.le_of_ble_eq_true rfl)⟩ (Nat.le_of_ble_eq_true rfl) ⟨(Nat.le_of_ble_eq_true rfl), (Nat.le_of_ble_eq_true rfl)⟩ dX8_needed_33 rfl rfl ?_
  obtain rfl := Option.some.inj h
  exact aw_iret (pc := 36) hM dX8_needed_36 (Nat.le_of_ble_eq_true rfl) (Nat.le_of_ble_eq_true rfl) hq
def rmX8_next : Room := { frames := 7, cells := 1, slots := 6, locals := 103 }
def s_X8_next (F : MM) (p0 : Int32) : Option (Int32 ⊕ String) := tbR (s_X8_requireNode F p0) (fun u2 => (s_X5_readyOn F 16 p0).bind (fun r5 => some (.inl r5)))
set_option maxRecDepth 20000 in
theorem k_X8_next {C : CX} {F : MM} {G : GG} {p0 : Int32} {r : (Int32 ⊕ String)} (h : s_X8_next F p0 = some r) : AM C yX8_next cX8_next 2 (some .int) rmX8_next [.ref 0, .int p0] F G (fun o F9 G9 => o = (oI r) ∧ F9 = F ∧ G9 = G) := by
  refine am_of (L := [some (.ref 0), some (.int p0)]) (by decide) (Nat.le_of_ble_eq_true rfl) rfl (fun M hM hT => ?_)
  have hM : MOk C RX8 cX8_next 2 (some .int) rmX8_next M := hM
  obtain ⟨Q, hQ⟩ : ∃ Q : OUT → MM → GG → Prop, Q = (fun o F9 G9 => o = (oI r) ∧ F9 = F ∧ G9 = G) := ⟨_, rfl⟩
  have hq : Q (oI r) F G := by rw [hQ]; exact ⟨rfl, rfl, rfl⟩
  rw [← hQ]
  clear hQ
  rw [s_X8_next] at h
  refine aw_aload_n (pc := 0) (i := 0) (x := 0) hM dX8_next_0 rfl rfl ?_
  refine aw_iload_n (pc := 1) (i := 1) (x := p0) hM dX8_next_1 rfl rfl ?_
  rcases tbR_some h with ⟨u2, h1, h⟩ | ⟨E3, h1, rfl⟩
  rotate_left
  · exact aw_cvX (pc := 2) (n := 1) (As := [.int p0]) (st := []) (b := 0) (E := E3) hM (k_X8_requireNode h1) rfl cw_X8_129 sk_0 rfl rfl (by decide +kernel) rfl rfl ⟨(Nat.le_of_ble_eq_true rfl), (Nat.le_of_ble_eq_true rfl)⟩ (Nat.le_of_ble_eq_true rfl) ⟨(Nat.le_of_ble_eq_true rfl), (Nat.le_of_ble_eq_true rfl)⟩ dX8_next_2 (ax_out hM hT (Nat.le_of_ble_eq_true rfl) (Nat.le_of_ble_eq_true rfl) hq)
  refine aw_cv1 (pc := 2) (n := 1) (As := [.int p0]) (st := []) (b := 0) (vo := none) (c2 := 1) (s2 := 6) hM (k_X8_requireNode h1) rfl cw_X8_129 sk_0 rfl rfl (by decide +kernel) rfl rfl ⟨(Nat.le_of_ble_eq_true rfl), (Nat.le_of_ble_eq_true rfl)⟩ (Nat.le_of_ble_eq_true rfl) ⟨(Nat.le_of_ble_eq_true rfl), (Nat.le_of_ble_eq_true rfl)⟩ dX8_next_2 rfl rfl ?_
  refine aw_aload_n (pc := 5) (i := 0) (x := 0) hM dX8_next_5 rfl rfl ?_
  refine aw_getR (pc := 6) (r := 16) hM fd_X8_41 sk_0 rfl dX8_next_6 ?_
  refine aw_iload_n (pc := 9) (i := 1) (x := p0) hM dX8_next_9 rfl rfl ?_
  obtain ⟨r5, h4, h⟩ := bind_some h
  refine aw_cv1 (pc := 10) (n := 1) (As := [.int p0]) (st := []) (b := 16) (vo := (some (.int r5))) (c2 := 1) (s2 := 6) hM (k_X5_readyOn is_16 h4) rfl cw_X8_215 sk_16 rfl rfl (by decide +kernel) rfl rfl ⟨(Nat.le_of_ble_eq_true rfl), (Nat.le_of_ble_eq_true rfl)⟩ (Nat.le_of_ble_eq_true rfl) ⟨(Nat.le_of_ble_eq_true rfl), (Nat.le_of_ble_eq_true rfl)⟩ dX8_next_10 rfl rfl ?_
  obtain rfl := Option.some.inj h
  exact aw_iret (pc := 13) hM dX8_next_13 (Nat.le_of_ble_eq_true rfl) (Nat.le_of_ble_eq_true rfl) hq
def rmX8_node : Room := { frames := 7, cells := 2, slots := 12, locals := 104 }
def s_X8_node (F : MM) (p0 : Int32) (p1 : Int32) : Option (Int32 ⊕ String) := tbR (s_X8_requireNode F p0) (fun u2 => tbR (s_X8_requireRange F p1 0 6) (fun u5 => (s_X5_numberOf F 16 p0 p1).bind (fun r8 => some (.inl r8))))
set_option maxRecDepth 20000 in
theorem k_X8_node {C : CX} {F : MM} {G : GG} {p0 : Int32} {p1 : Int32} {r : (Int32 ⊕ String)} (h : s_X8_node F p0 p1 = some r) : AM C yX8_node cX8_node 3 (some .int) rmX8_node [.ref 0, .int p0, .int p1] F G (fun o F9 G9 => o = (oI r) ∧ F9 = F ∧ G9 = G) := by
  refine am_of (L := [some (.ref 0), some (.int p0), some (.int p1)]) (by decide) (Nat.le_of_ble_eq_true rfl) rfl (fun M hM hT => ?_)
  have hM : MOk C RX8 cX8_node 3 (some .int) rmX8_node M := hM
  obtain ⟨Q, hQ⟩ : ∃ Q : OUT → MM → GG → Prop, Q = (fun o F9 G9 => o = (oI r) ∧ F9 = F ∧ G9 = G) := ⟨_, rfl⟩
  have hq : Q (oI r) F G := by rw [hQ]; exact ⟨rfl, rfl, rfl⟩
  rw [← hQ]
  clear hQ
  rw [s_X8_node] at h
  refine aw_aload_n (pc := 0) (i := 0) (x := 0) hM dX8_node_0 rfl rfl ?_
  refine aw_iload_n (pc := 1) (i := 1) (x := p0) hM dX8_node_1 rfl rfl ?_
  rcases tbR_some h with ⟨u2, h1, h⟩ | ⟨E3, h1, rfl⟩
  rotate_left
  · exact aw_cvX (pc := 2) (n := 1) (As := [.int p0]) (st := []) (b := 0) (E := E3) hM (k_X8_requireNode h1) rfl cw_X8_129 sk_0 rfl rfl (by decide +kernel) rfl rfl ⟨(Nat.le_of_ble_eq_true rfl), (Nat.le_of_ble_eq_true rfl)⟩ (Nat.le_of_ble_eq_true rfl) ⟨(Nat.le_of_ble_eq_true rfl), (Nat.le_of_ble_eq_true rfl)⟩ dX8_node_2 (ax_out hM hT (Nat.le_of_ble_eq_true rfl) (Nat.le_of_ble_eq_true rfl) hq)
  refine aw_cv1 (pc := 2) (n := 1) (As := [.int p0]) (st := []) (b := 0) (vo := none) (c2 := 1) (s2 := 6) hM (k_X8_requireNode h1) rfl cw_X8_129 sk_0 rfl rfl (by decide +kernel) rfl rfl ⟨(Nat.le_of_ble_eq_true rfl), (Nat.le_of_ble_eq_true rfl)⟩ (Nat.le_of_ble_eq_true rfl) ⟨(Nat.le_of_ble_eq_true rfl), (Nat.le_of_ble_eq_true rfl)⟩ dX8_node_2 rfl rfl ?_
  refine aw_iload_n (pc := 5) (i := 2) (x := p1) hM dX8_node_5 rfl rfl ?_
  refine aw_iconst (pc := 6) (v := 0) hM dX8_node_6 (by decide) ?_
  refine aw_bipush (pc := 7) (v := 6) hM dX8_node_7 (by decide) ?_
  rcases tbR_some h with ⟨u5, h4, h⟩ | ⟨E6, h4, rfl⟩
  rotate_left
  · exact aw_csX (pc := 9) (n := 3) (As := [.int p1, .int 0, .int 6]) (st := []) (E := E6) hM (k_X8_requireRange h4) rfl cw_X8_63 (by decide +kernel) rfl rfl ⟨(Nat.le_of_ble_eq_true rfl), (Nat.le_of_ble_eq_true rfl)⟩ (Nat.le_of_ble_eq_true rfl) ⟨(Nat.le_of_ble_eq_true rfl), (Nat.le_of_ble_eq_true rfl)⟩ dX8_node_9 (ax_out hM hT (Nat.le_of_ble_eq_true rfl) (Nat.le_of_ble_eq_true rfl) hq)
  refine aw_cs1 (pc := 9) (n := 3) (As := [.int p1, .int 0, .int 6]) (st := []) (vo := none) (c2 := 2) (s2 := 12) hM (k_X8_requireRange h4) rfl cw_X8_63 (by decide +kernel) rfl rfl ⟨(Nat.le_of_ble_eq_true rfl), (Nat.le_of_ble_eq_true rfl)⟩ (Nat.le_of_ble_eq_true rfl) ⟨(Nat.le_of_ble_eq_true rfl), (Nat.le_of_ble_eq_true rfl)⟩ dX8_node_9 rfl rfl ?_
  refine aw_aload_n (pc := 12) (i := 0) (x := 0) hM dX8_node_12 rfl rfl ?_
  refine aw_getR (pc := 13) (r := 16) hM fd_X8_41 sk_0 rfl dX8_node_13 ?_
  refine aw_iload_n (pc := 16) (i := 1) (x := p0) hM dX8_node_16 rfl rfl ?_
  refine aw_iload_n (pc := 17) (i := 2) (x := p1) hM dX8_node_17 rfl rfl ?_
  obtain ⟨r8, h7, h⟩ := bind_some h
  refine aw_cv1 (pc := 18) (n := 2) (As := [.int p0, .int p1]) (st := []) (b := 16) (vo := (some (.int r8))) (c2 := 2) (s2 := 12) hM (k_X5_numberOf is_16 h7) rfl cw_X8_133 sk_16 rfl rfl (by decide +kernel) rfl rfl ⟨(Nat.le_of_ble_eq_true rfl), (Nat.le_of_ble_eq_true rfl)⟩ (Nat.le_of_ble_eq_true rfl) ⟨(Nat.le_of_ble_eq_true rfl), (Nat.le_of_ble_eq_true rfl)⟩ dX8_node_18 rfl rfl ?_
  obtain rfl := Option.some.inj h
  exact aw_iret (pc := 21) hM dX8_node_21 (Nat.le_of_ble_eq_true rfl) (Nat.le_of_ble_eq_true rfl) hq
def rmX8_pardon : Room := { frames := 7, cells := 2, slots := 12, locals := 103 }
def s_X8_pardon (F : MM) (p0 : Int32) : Option ((Int32 ⊕ String) × MM) := tbW F (s_X8_requireNode F p0) (fun u2 => (s_X5_isQuarantined F 16 p0).bind (fun r5 => if r5 = 0 then some (.inr ex_ise, F) else (s_X2_remember F 16).bind (fun F8 => if inb p0 5 then ((some ((F8 21 (ix p0)) - (F8 16 8) : Int32)).bind (fun y10 => if inb p0 5 then ((some (mup F8 21 (ix p0) (F8 16 8))).bind (fun F13 => if inb p0 5 then ((some (mup F13 20 (ix p0) 0)).bind (fun F16 => some (.inl y10, F16))) else none)) else none)) else none)))
set_option maxRecDepth 20000 in
theorem k_X8_pardon {C : CX} {F : MM} {G : GG} {p0 : Int32} {r : ((Int32 ⊕ String) × MM)} (h : s_X8_pardon F p0 = some r) : AM C yX8_pardon cX8_pardon 3 (some .int) rmX8_pardon [.ref 0, .int p0] F G (fun o F9 G9 => o = (oI r.1) ∧ F9 = r.2 ∧ G9 = G) := by
  refine am_of (L := [some (.ref 0), some (.int p0), none]) (by decide) (Nat.le_of_ble_eq_true rfl) rfl (fun M hM hT => ?_)
  have hM : MOk C RX8 cX8_pardon 3 (some .int) rmX8_pardon M := hM
  obtain ⟨Q, hQ⟩ : ∃ Q : OUT → MM → GG → Prop, Q = (fun o F9 G9 => o = (oI r.1) ∧ F9 = r.2 ∧ G9 = G) := ⟨_, rfl⟩
  have hq : Q (oI r.1) r.2 G := by rw [hQ]; exact ⟨rfl, rfl, rfl⟩
  rw [← hQ]
  clear hQ
  rw [s_X8_pardon] at h
  refine aw_aload_n (pc := 0) (i := 0) (x := 0) hM dX8_pardon_0 rfl rfl ?_
  refine aw_iload_n (pc := 1) (i := 1) (x := p0) hM dX8_pardon_1 rfl rfl ?_
  rcases tbW_some h with ⟨u2, h1, h⟩ | ⟨E3, h1, rfl⟩
  rotate_left
  · exact aw_cvX (pc := 2) (n := 1) (As := [.int p0]) (st := []) (b := 0) (E := E3) hM (k_X8_requireNode h1) rfl cw_X8_129 sk_0 rfl rfl (by decide +kernel) rfl rfl ⟨(Nat.le_of_ble_eq_true rfl), (Nat.le_of_ble_eq_true rfl)⟩ (Nat.le_of_ble_eq_true rfl) ⟨(Nat.le_of_ble_eq_true rfl), (Nat.le_of_ble_eq_true rfl)⟩ dX8_pardon_2 (ax_out hM hT (Nat.le_of_ble_eq_true rfl) (Nat.le_of_ble_eq_true rfl) hq)
  refine aw_cv1 (pc := 2) (n := 1) (As := [.int p0]) (st := []) (b := 0) (vo := none) (c2 := 1) (s2 := 6) hM (k_X8_requireNode h1) rfl cw_X8_129 sk_0 rfl rfl (by decide +kernel) rfl rfl ⟨(Nat.le_of_ble_eq_true rfl), (Nat.le_of_ble_eq_true rfl)⟩ (Nat.le_of_ble_eq_true rfl) ⟨(Nat.le_of_ble_eq_true rfl), (Nat.le_of_ble_eq_true rfl)⟩ dX8_pardon_2 rfl rfl ?_
  refine aw_aload_n (pc := 5) (i := 0) (x := 0) hM dX8_pardon_5 rfl rfl ?_
  refine aw_getR (pc := 6) (r := 16) hM fd_X8_41 sk_0 rfl dX8_pardon_6 ?_
  refine aw_iload_n (pc := 9) (i := 1) (x := p0) hM dX8_pardon_9 rfl rfl ?_
  obtain ⟨r5, h4, h⟩ := bind_some h
  refine aw_cv1 (pc := 10) (n := 1) (As := [.int p0]) (st := []) (b := 16) (vo := (some (.int r5))) (c2 := 1) (s2 := 6) hM (k_X5_isQuarantined is_16 h4) rfl cw_X8_191 sk_16 rfl rfl (by decide +kernel) rfl rfl ⟨(Nat.le_of_ble_eq_true rfl), (Nat.le_of_ble_eq_true rfl)⟩ (Nat.le_of_ble_eq_true rfl) ⟨(Nat.le_of_ble_eq_true rfl), (Nat.le_of_ble_eq_true rfl)⟩ dX8_pardon_10 rfl rfl ?_
  refine aw_if_ne (pc := 13) (tgt := 26) hM dX8_pardon_13 (by decide) (fun c6 => ?_) (fun c6 => ?_)
  · rw [if_neg c6] at h
    refine aw_aload_n (pc := 26) (i := 0) (x := 0) hM dX8_pardon_26 rfl rfl ?_
    refine aw_getR (pc := 27) (r := 32) hM fd_X8_51 sk_0 rfl dX8_pardon_27 ?_
    refine aw_aload_n (pc := 30) (i := 0) (x := 0) hM dX8_pardon_30 rfl rfl ?_
    refine aw_getR (pc := 31) (r := 16) hM fd_X8_41 sk_0 rfl dX8_pardon_31 ?_
    obtain ⟨F8, h7, h⟩ := bind_some h
    refine aw_cv1 (pc := 34) (n := 1) (As := [.ref 16]) (st := []) (b := 32) (vo := none) (c2 := 1) (s2 := 6) hM (k_X2_remember is_16 h7) rfl cw_X8_167 sk_32 rfl rfl (by decide +kernel) rfl rfl ⟨(Nat.le_of_ble_eq_true rfl), (Nat.le_of_ble_eq_true rfl)⟩ (Nat.le_of_ble_eq_true rfl) ⟨(Nat.le_of_ble_eq_true rfl), (Nat.le_of_ble_eq_true rfl)⟩ dX8_pardon_34 rfl rfl ?_
    refine aw_aload_n (pc := 37) (i := 0) (x := 0) hM dX8_pardon_37 rfl rfl ?_
    refine aw_getR (pc := 38) (r := 16) hM fd_X8_41 sk_0 rfl dX8_pardon_38 ?_
    refine aw_getR (pc := 41) (r := 21) hM fd_X8_197 sk_16 rfl dX8_pardon_41 ?_
    refine aw_iload_n (pc := 44) (i := 1) (x := p0) hM dX8_pardon_44 rfl rfl ?_
    obtain ⟨c9, h⟩ := ite_some h
    refine aw_iald (pc := 45) hM sk_21 c9 dX8_pardon_45 ?_
    refine aw_aload_n (pc := 46) (i := 0) (x := 0) hM dX8_pardon_46 rfl rfl ?_
    refine aw_getR (pc := 47) (r := 16) hM fd_X8_41 sk_0 rfl dX8_pardon_47 ?_
    refine aw_getI (pc := 50) hM fd_X8_114 sk_16 rfl dX8_pardon_50 ?_
    refine aw_isub (pc := 53) hM dX8_pardon_53 ?_
    obtain ⟨y10, e11, h⟩ := bind_some h
    have e11 := Option.some.inj e11
    refine aw_topi e11 ?_
    refine aw_istore_n (pc := 54) (i := 2) (L' := [some (.ref 0), some (.int p0), some (.int y10)]) hM dX8_pardon_54 rfl (by decide) rfl ?_
    refine aw_aload_n (pc := 55) (i := 0) (x := 0) hM dX8_pardon_55 rfl rfl ?_
    refine aw_getR (pc := 56) (r := 16) hM fd_X8_41 sk_0 rfl dX8_pardon_56 ?_
    refine aw_getR (pc := 59) (r := 21) hM fd_X8_197 sk_16 rfl dX8_pardon_59 ?_
    refine aw_iload_n (pc := 62) (i := 1) (x := p0) hM dX8_pardon_62 rfl rfl ?_
    refine aw_aload_n (pc := 63) (i := 0) (x := 0) hM dX8_pardon_63 rfl rfl ?_
    refine aw_getR (pc := 64) (r := 16) hM fd_X8_41 sk_0 rfl dX8_pardon_64 ?_
    refine aw_getI (pc := 67) hM fd_X8_114 sk_16 rfl dX8_pardon_67 ?_
    obtain ⟨c12, h⟩ := ite_some h
    obtain ⟨F13, e14, h⟩ := bind_some h
    have e14 := Option.some.inj e14
    refine aw_iast (pc := 70) hM sk_21 c12 dX8_pardon_70 ?_
    refine aw_mem e14 ?_
    refine aw_aload_n (pc := 71) (i := 0) (x := 0) hM dX8_pardon_71 rfl rfl ?_
    refine aw_getR (pc := 72) (r := 16) hM fd_X8_41 sk_0 rfl dX8_pardon_72 ?_
    refine aw_getR (pc := 75) (r := 20) hM fd_X8_200 sk_16 rfl dX8_pardon_75 ?_
    refine aw_iload_n (pc := 78) (i := 1) (x := p0) hM dX8_pardon_78 rfl rfl ?_
    refine aw_iconst (pc := 79) (v := 0) hM dX8_pardon_79 (by decide) ?_
    obtain ⟨c15, h⟩ := ite_some h
    obtain ⟨F16, e17, h⟩ := bind_some h
    have e17 := Option.some.inj e17
    refine aw_iast (pc := 80) hM sk_20 c15 dX8_pardon_80 ?_
    refine aw_mem e17 ?_
    refine aw_iload_n (pc := 81) (i := 2) (x := y10) hM dX8_pardon_81 rfl rfl ?_
    obtain rfl := Option.some.inj h
    exact aw_iret (pc := 82) hM dX8_pardon_82 (Nat.le_of_ble_eq_true rfl) (Nat.le_of_ble_eq_true rfl) hq
  · rw [if_pos c6] at h
    obtain rfl := Option.some.inj h
    exact aw_throwS (pc := 16) hM hT tr_X8_71_195_75 dX8_pardon_16 dX8_pardon_19 dX8_pardon_20 dX8_pardon_22 dX8_pardon_25 (Nat.le_of_ble_eq_true rfl) (Nat.le_of_ble_eq_true rfl) (Nat.le_of_ble_eq_true rfl) (Nat.le_of_ble_eq_true rfl) (Nat.le_of_ble_eq_true rfl) (Nat.le_of_ble_eq_true rfl) hq
def rmX8_quorum : Room := { frames := 7, cells := 1, slots := 6, locals := 103 }
def s_X8_quorum (F : MM) (p0 : Int32) : Option (Int32 ⊕ String) := tbR (s_X8_requireComponent F p0) (fun u2 => if inb p0 6 then (some (.inl (F 22 (ix p0)))) else none)
set_option maxRecDepth 20000 in
theorem k_X8_quorum {C : CX} {F : MM} {G : GG} {p0 : Int32} {r : (Int32 ⊕ String)} (h : s_X8_quorum F p0 = some r) : AM C yX8_quorum cX8_quorum 2 (some .int) rmX8_quorum [.ref 0, .int p0] F G (fun o F9 G9 => o = (oI r) ∧ F9 = F ∧ G9 = G) := by
  refine am_of (L := [some (.ref 0), some (.int p0)]) (by decide) (Nat.le_of_ble_eq_true rfl) rfl (fun M hM hT => ?_)
  have hM : MOk C RX8 cX8_quorum 2 (some .int) rmX8_quorum M := hM
  obtain ⟨Q, hQ⟩ : ∃ Q : OUT → MM → GG → Prop, Q = (fun o F9 G9 => o = (oI r) ∧ F9 = F ∧ G9 = G) := ⟨_, rfl⟩
  have hq : Q (oI r) F G := by rw [hQ]; exact ⟨rfl, rfl, rfl⟩
  rw [← hQ]
  clear hQ
  rw [s_X8_quorum] at h
  refine aw_aload_n (pc := 0) (i := 0) (x := 0) hM dX8_quorum_0 rfl rfl ?_
  refine aw_iload_n (pc := 1) (i := 1) (x := p0) hM dX8_quorum_1 rfl rfl ?_
  rcases tbR_some h with ⟨u2, h1, h⟩ | ⟨E3, h1, rfl⟩
  rotate_left
  · exact aw_cvX (pc := 2) (n := 1) (As := [.int p0]) (st := []) (b := 0) (E := E3) hM (k_X8_requireComponent h1) rfl cw_X8_137 sk_0 rfl rfl (by decide +kernel) rfl rfl ⟨(Nat.le_of_ble_eq_true rfl), (Nat.le_of_ble_eq_true rfl)⟩ (Nat.le_of_ble_eq_true rfl) ⟨(Nat.le_of_ble_eq_true rfl), (Nat.le_of_ble_eq_true rfl)⟩ dX8_quorum_2 (ax_out hM hT (Nat.le_of_ble_eq_true rfl) (Nat.le_of_ble_eq_true rfl) hq)
  refine aw_cv1 (pc := 2) (n := 1) (As := [.int p0]) (st := []) (b := 0) (vo := none) (c2 := 1) (s2 := 6) hM (k_X8_requireComponent h1) rfl cw_X8_137 sk_0 rfl rfl (by decide +kernel) rfl rfl ⟨(Nat.le_of_ble_eq_true rfl), (Nat.le_of_ble_eq_true rfl)⟩ (Nat.le_of_ble_eq_true rfl) ⟨(Nat.le_of_ble_eq_true rfl), (Nat.le_of_ble_eq_true rfl)⟩ dX8_quorum_2 rfl rfl ?_
  refine aw_aload_n (pc := 5) (i := 0) (x := 0) hM dX8_quorum_5 rfl rfl ?_
  refine aw_getR (pc := 6) (r := 16) hM fd_X8_41 sk_0 rfl dX8_quorum_6 ?_
  refine aw_getR (pc := 9) (r := 22) hM fd_X8_164 sk_16 rfl dX8_quorum_9 ?_
  refine aw_iload_n (pc := 12) (i := 1) (x := p0) hM dX8_quorum_12 rfl rfl ?_
  obtain ⟨c4, h⟩ := ite_some h
  refine aw_iald (pc := 13) hM sk_22 c4 dX8_quorum_13 ?_
  obtain rfl := Option.some.inj h
  exact aw_iret (pc := 14) hM dX8_quorum_14 (Nat.le_of_ble_eq_true rfl) (Nat.le_of_ble_eq_true rfl) hq
def rmX8_ranked : Room := { frames := 7, cells := 1, slots := 6, locals := 103 }
def s_X8_ranked_b7 (F : MM) : Nat → Int32 → Int32 → Option (Int32 ⊕ String)
  | 0, _, _ => none
  | n + 1, x1, x2 => if (F 8 0) ≤ x2 then some (.inl (-9)) else (s_X5_rankOf F 16 x2).bind (fun r6 => if r6 = x1 then some (.inl x2) else (some (x2 + 1 : Int32)).bind (fun y8 => s_X8_ranked_b7 F n x1 y8))
def s_X8_ranked (F : MM) (p0 : Int32) : Option (Int32 ⊕ String) := tbR (s_X8_requireNode F p0) (fun u2 => s_X8_ranked_b7 F fu_ p0 0)
set_option maxRecDepth 20000 in
theorem k_X8_ranked_b7 {C : CX} {M : MX} {G : GG} {Q : OUT → MM → GG → Prop} {F : MM} {r : (Int32 ⊕ String)} (hM : MOk C RX8 cX8_ranked 3 (some .int) rmX8_ranked M) (hT : MNoT M) (hq : Q (oI r) F G) : ∀ (n : Nat) (x1 : Int32) (x2 : Int32), s_X8_ranked_b7 F n x1 x2 = some r → AW C 3 (ZM C rmX8_ranked Q M) M 1 6 7 [some (.ref 0), some (.int x1), some (.int x2)] [] F G := by
  intro n
  induction n with
  | zero => intro x1 x2 h; exact nomatch h
  | succ n ih =>
    intro x1 x2 h
    rw [s_X8_ranked_b7] at h
    refine aw_iload_n (pc := 7) (i := 2) (x := x2) hM dX8_ranked_7 rfl rfl ?_
    refine aw_aload_n (pc := 8) (i := 0) (x := 0) hM dX8_ranked_8 rfl rfl ?_
    refine aw_getR (pc := 9) (r := 8) hM fd_X8_25 sk_0 rfl dX8_ranked_9 ?_
    refine aw_getI (pc := 12) hM fd_X8_102 sk_8 rfl dX8_ranked_12 ?_
    refine aw_icmp_ge (pc := 15) (tgt := 38) hM dX8_ranked_15 (by decide) (fun c4 => ?_) (fun c4 => ?_)
    · rw [if_pos c4] at h
      refine aw_bipush (pc := 38) (v := (-9)) hM dX8_ranked_38 (by decide) ?_
      obtain rfl := Option.some.inj h
      exact aw_iret (pc := 40) hM dX8_ranked_40 (Nat.le_of_ble_eq_true rfl) (Nat.le_of_ble_eq_true rfl) hq
    · rw [if_neg c4] at h
      refine aw_aload_n (pc := 18) (i := 0) (x := 0) hM dX8_ranked_18 rfl rfl ?_
      refine aw_getR (pc := 19) (r := 16) hM fd_X8_41 sk_0 rfl dX8_ranked_19 ?_
      refine aw_iload_n (pc := 22) (i := 2) (x := x2) hM dX8_ranked_22 rfl rfl ?_
      obtain ⟨r6, h5, h⟩ := bind_some h
      refine aw_cv1 (pc := 23) (n := 1) (As := [.int x2]) (st := []) (b := 16) (vo := (some (.int r6))) (c2 := 1) (s2 := 6) hM (k_X5_rankOf is_16 h5) rfl cw_X8_251 sk_16 rfl rfl (by decide +kernel) rfl rfl ⟨(Nat.le_of_ble_eq_true rfl), (Nat.le_of_ble_eq_true rfl)⟩ (Nat.le_of_ble_eq_true rfl) ⟨(Nat.le_of_ble_eq_true rfl), (Nat.le_of_ble_eq_true rfl)⟩ dX8_ranked_23 rfl rfl ?_
      refine aw_iload_n (pc := 26) (i := 1) (x := x1) hM dX8_ranked_26 rfl rfl ?_
      refine aw_icmp_ne (pc := 27) (tgt := 32) hM dX8_ranked_27 (by decide) (fun c7 => ?_) (fun c7 => ?_)
      · rw [if_neg c7] at h
        obtain ⟨y8, e9, h⟩ := bind_some h
        have e9 := Option.some.inj e9
        refine aw_iinc (pc := 32) (v := y8) (L' := [some (.ref 0), some (.int x1), some (.int y8)]) hM dX8_ranked_32 rfl e9 (by decide) rfl ?_
        refine aw_goto (pc := 35) (tgt := 7) hM dX8_ranked_35 (by decide) ?_
        exact ih x1 y8 h
      · rw [if_pos c7] at h
        refine aw_iload_n (pc := 30) (i := 2) (x := x2) hM dX8_ranked_30 rfl rfl ?_
        obtain rfl := Option.some.inj h
        exact aw_iret (pc := 31) hM dX8_ranked_31 (Nat.le_of_ble_eq_true rfl) (Nat.le_of_ble_eq_true rfl) hq
set_option maxRecDepth 20000 in
theorem k_X8_ranked {C : CX} {F : MM} {G : GG} {p0 : Int32} {r : (Int32 ⊕ String)} (h : s_X8_ranked F p0 = some r) : AM C yX8_ranked cX8_ranked 3 (some .int) rmX8_ranked [.ref 0, .int p0] F G (fun o F9 G9 => o = (oI r) ∧ F9 = F ∧ G9 = G) := by
  refine am_of (L := [some (.ref 0), some (.int p0), none]) (by decide) (Nat.le_of_ble_eq_true rfl) rfl (fun M hM hT => ?_)
  have hM : MOk C RX8 cX8_ranked 3 (some .int) rmX8_ranked M := hM
  obtain ⟨Q, hQ⟩ : ∃ Q : OUT → MM → GG → Prop, Q = (fun o F9 G9 => o = (oI r) ∧ F9 = F ∧ G9 = G) := ⟨_, rfl⟩
  have hq : Q (oI r) F G := by rw [hQ]; exact ⟨rfl, rfl, rfl⟩
  rw [← hQ]
  clear hQ
  rw [s_X8_ranked] at h
  refine aw_aload_n (pc := 0) (i := 0) (x := 0) hM dX8_ranked_0 rfl rfl ?_
  refine aw_iload_n (pc := 1) (i := 1) (x := p0) hM dX8_ranked_1 rfl rfl ?_
  rcases tbR_some h with ⟨u2, h1, h⟩ | ⟨E3, h1, rfl⟩
  rotate_left
  · exact aw_cvX (pc := 2) (n := 1) (As := [.int p0]) (st := []) (b := 0) (E := E3) hM (k_X8_requireNode h1) rfl cw_X8_129 sk_0 rfl rfl (by decide +kernel) rfl rfl ⟨(Nat.le_of_ble_eq_true rfl), (Nat.le_of_ble_eq_true rfl)⟩ (Nat.le_of_ble_eq_true rfl) ⟨(Nat.le_of_ble_eq_true rfl), (Nat.le_of_ble_eq_true rfl)⟩ dX8_ranked_2 (ax_out hM hT (Nat.le_of_ble_eq_true rfl) (Nat.le_of_ble_eq_true rfl) hq)
  refine aw_cv1 (pc := 2) (n := 1) (As := [.int p0]) (st := []) (b := 0) (vo := none) (c2 := 1) (s2 := 6) hM (k_X8_requireNode h1) rfl cw_X8_129 sk_0 rfl rfl (by decide +kernel) rfl rfl ⟨(Nat.le_of_ble_eq_true rfl), (Nat.le_of_ble_eq_true rfl)⟩ (Nat.le_of_ble_eq_true rfl) ⟨(Nat.le_of_ble_eq_true rfl), (Nat.le_of_ble_eq_true rfl)⟩ dX8_ranked_2 rfl rfl ?_
  refine aw_iconst (pc := 5) (v := 0) hM dX8_ranked_5 (by decide) ?_
  refine aw_istore_n (pc := 6) (i := 2) (L' := [some (.ref 0), some (.int p0), some (.int 0)]) hM dX8_ranked_6 rfl (by decide) rfl ?_
  exact k_X8_ranked_b7 hM hT hq fu_ p0 0 h
def rmX8_requireSlot : Room := { frames := 6, cells := 1, slots := 6, locals := 82 }
def s_X8_requireSlot (F : MM) (p0 : Int32) : Option (Unit ⊕ String) := if p0 < 0 then some (.inr ex_ioo) else if p0 < 2 then some (.inl ()) else some (.inr ex_ioo)
set_option maxRecDepth 20000 in
theorem k_X8_requireSlot {C : CX} {F : MM} {G : GG} {p0 : Int32} {r : (Unit ⊕ String)} (h : s_X8_requireSlot F p0 = some r) : AM C yX8_requireSlot cX8_requireSlot 1 none rmX8_requireSlot [.int p0] F G (fun o F9 G9 => o = (oU r) ∧ F9 = F ∧ G9 = G) := by
  refine am_of (L := [some (.int p0)]) (by decide) (Nat.le_of_ble_eq_true rfl) rfl (fun M hM hT => ?_)
  have hM : MOk C RX8 cX8_requireSlot 1 none rmX8_requireSlot M := hM
  obtain ⟨Q, hQ⟩ : ∃ Q : OUT → MM → GG → Prop, Q = (fun o F9 G9 => o = (oU r) ∧ F9 = F ∧ G9 = G) := ⟨_, rfl⟩
  have hq : Q (oU r) F G := by rw [hQ]; exact ⟨rfl, rfl, rfl⟩
  rw [← hQ]
  clear hQ
  rw [s_X8_requireSlot] at h
  refine aw_iload_n (pc := 0) (i := 0) (x := p0) hM dX8_requireSlot_0 rfl rfl ?_
  refine aw_if_lt (pc := 1) (tgt := 9) hM dX8_requireSlot_1 (by decide) (fun c1 => ?_) (fun c1 => ?_)
  · rw [if_pos c1] at h
    obtain rfl := Option.some.inj h
    exact aw_throwSW (pc := 9) hM hT tr_X8_276_287_280 dX8_requireSlot_9 dX8_requireSlot_12 dX8_requireSlot_13 dX8_requireSlot_16 dX8_requireSlot_19 (Nat.le_of_ble_eq_true rfl) (Nat.le_of_ble_eq_true rfl) (Nat.le_of_ble_eq_true rfl) (Nat.le_of_ble_eq_true rfl) (Nat.le_of_ble_eq_true rfl) (Nat.le_of_ble_eq_true rfl) hq
  · rw [if_neg c1] at h
    refine aw_iload_n (pc := 4) (i := 0) (x := p0) hM dX8_requireSlot_4 rfl rfl ?_
    refine aw_iconst (pc := 5) (v := 2) hM dX8_requireSlot_5 (by decide) ?_
    refine aw_icmp_lt (pc := 6) (tgt := 20) hM dX8_requireSlot_6 (by decide) (fun c2 => ?_) (fun c2 => ?_)
    · rw [if_pos c2] at h
      obtain rfl := Option.some.inj h
      exact aw_vret (pc := 20) hM dX8_requireSlot_20 (Nat.le_of_ble_eq_true rfl) (Nat.le_of_ble_eq_true rfl) hq
    · rw [if_neg c2] at h
      obtain rfl := Option.some.inj h
      exact aw_throwSW (pc := 9) hM hT tr_X8_276_287_280 dX8_requireSlot_9 dX8_requireSlot_12 dX8_requireSlot_13 dX8_requireSlot_16 dX8_requireSlot_19 (Nat.le_of_ble_eq_true rfl) (Nat.le_of_ble_eq_true rfl) (Nat.le_of_ble_eq_true rfl) (Nat.le_of_ble_eq_true rfl) (Nat.le_of_ble_eq_true rfl) (Nat.le_of_ble_eq_true rfl) hq
def rmX8_restore : Room := { frames := 7, cells := 2, slots := 12, locals := 102 }
def s_X8_restore (F : MM) (p0 : Int32) : Option ((Int32 ⊕ String) × MM) := tbW F (s_X8_requireSlot F p0) (fun u2 => if inb p0 2 then (if (F 147 (ix p0)) = 0 then some (.inr ex_ise, F) else if inb p0 2 then ((s_X5_copy F 16 (148 + 8 * ix p0)).bind (fun F8 => (s_X2_forget F8).bind (fun F10 => some (.inl (F10 16 8), F10)))) else none) else none)
set_option maxRecDepth 20000 in
theorem k_X8_restore {C : CX} {F : MM} {G : GG} {p0 : Int32} {r : ((Int32 ⊕ String) × MM)} (h : s_X8_restore F p0 = some r) : AM C yX8_restore cX8_restore 2 (some .int) rmX8_restore [.ref 0, .int p0] F G (fun o F9 G9 => o = (oI r.1) ∧ F9 = r.2 ∧ G9 = G) := by
  refine am_of (L := [some (.ref 0), some (.int p0)]) (by decide) (Nat.le_of_ble_eq_true rfl) rfl (fun M hM hT => ?_)
  have hM : MOk C RX8 cX8_restore 2 (some .int) rmX8_restore M := hM
  obtain ⟨Q, hQ⟩ : ∃ Q : OUT → MM → GG → Prop, Q = (fun o F9 G9 => o = (oI r.1) ∧ F9 = r.2 ∧ G9 = G) := ⟨_, rfl⟩
  have hq : Q (oI r.1) r.2 G := by rw [hQ]; exact ⟨rfl, rfl, rfl⟩
  rw [← hQ]
  clear hQ
  rw [s_X8_restore] at h
  refine aw_iload_n (pc := 0) (i := 1) (x := p0) hM dX8_restore_0 rfl rfl ?_
  rcases tbW_some h with ⟨u2, h1, h⟩ | ⟨E3, h1, rfl⟩
  rotate_left
  · exact aw_csX (pc := 1) (n := 1) (As := [.int p0]) (st := []) (E := E3) hM (k_X8_requireSlot h1) rfl cw_X8_271 (by decide +kernel) rfl rfl ⟨(Nat.le_of_ble_eq_true rfl), (Nat.le_of_ble_eq_true rfl)⟩ (Nat.le_of_ble_eq_true rfl) ⟨(Nat.le_of_ble_eq_true rfl), (Nat.le_of_ble_eq_true rfl)⟩ dX8_restore_1 (ax_out hM hT (Nat.le_of_ble_eq_true rfl) (Nat.le_of_ble_eq_true rfl) hq)
  refine aw_cs1 (pc := 1) (n := 1) (As := [.int p0]) (st := []) (vo := none) (c2 := 1) (s2 := 6) hM (k_X8_requireSlot h1) rfl cw_X8_271 (by decide +kernel) rfl rfl ⟨(Nat.le_of_ble_eq_true rfl), (Nat.le_of_ble_eq_true rfl)⟩ (Nat.le_of_ble_eq_true rfl) ⟨(Nat.le_of_ble_eq_true rfl), (Nat.le_of_ble_eq_true rfl)⟩ dX8_restore_1 rfl rfl ?_
  refine aw_aload_n (pc := 4) (i := 0) (x := 0) hM dX8_restore_4 rfl rfl ?_
  refine aw_getR (pc := 5) (r := 147) hM fd_X8_59 sk_0 rfl dX8_restore_5 ?_
  refine aw_iload_n (pc := 8) (i := 1) (x := p0) hM dX8_restore_8 rfl rfl ?_
  obtain ⟨c4, h⟩ := ite_some h
  refine aw_zald (pc := 9) hM sk_147 c4 dX8_restore_9 ?_
  refine aw_if_ne (pc := 10) (tgt := 24) hM dX8_restore_10 (by decide) (fun c5 => ?_) (fun c5 => ?_)
  · rw [if_neg c5] at h
    refine aw_aload_n (pc := 24) (i := 0) (x := 0) hM dX8_restore_24 rfl rfl ?_
    refine aw_getR (pc := 25) (r := 16) hM fd_X8_41 sk_0 rfl dX8_restore_25 ?_
    refine aw_aload_n (pc := 28) (i := 0) (x := 0) hM dX8_restore_28 rfl rfl ?_
    refine aw_getR (pc := 29) (r := 146) hM fd_X8_55 sk_0 rfl dX8_restore_29 ?_
    refine aw_iload_n (pc := 32) (i := 1) (x := p0) hM dX8_restore_32 rfl rfl ?_
    obtain ⟨c6, h⟩ := ite_some h
    refine aw_aald (pc := 33) (r := (148 + 8 * ix p0)) hM sk_146 c6 (rs_slt c6) dX8_restore_33 ?_
    obtain ⟨F8, h7, h⟩ := bind_some h
    refine aw_cv1 (pc := 34) (n := 1) (As := [.ref (148 + 8 * ix p0)]) (st := []) (b := 16) (vo := none) (c2 := 1) (s2 := 6) hM (k_X5_copy is_16 (is_slt c6) h7) rfl cw_X8_227 sk_16 rfl rfl (by decide +kernel) rfl rfl ⟨(Nat.le_of_ble_eq_true rfl), (Nat.le_of_ble_eq_true rfl)⟩ (Nat.le_of_ble_eq_true rfl) ⟨(Nat.le_of_ble_eq_true rfl), (Nat.le_of_ble_eq_true rfl)⟩ dX8_restore_34 rfl rfl ?_
    refine aw_aload_n (pc := 37) (i := 0) (x := 0) hM dX8_restore_37 rfl rfl ?_
    refine aw_getR (pc := 38) (r := 32) hM fd_X8_51 sk_0 rfl dX8_restore_38 ?_
    obtain ⟨F10, h9, h⟩ := bind_some h
    refine aw_cv1 (pc := 41) (n := 0) (As := []) (st := []) (b := 32) (vo := none) (c2 := 1) (s2 := 6) hM (k_X2_forget h9) rfl cw_X8_92 sk_32 rfl rfl (by decide +kernel) rfl rfl ⟨(Nat.le_of_ble_eq_true rfl), (Nat.le_of_ble_eq_true rfl)⟩ (Nat.le_of_ble_eq_true rfl) ⟨(Nat.le_of_ble_eq_true rfl), (Nat.le_of_ble_eq_true rfl)⟩ dX8_restore_41 rfl rfl ?_
    refine aw_aload_n (pc := 44) (i := 0) (x := 0) hM dX8_restore_44 rfl rfl ?_
    refine aw_getR (pc := 45) (r := 16) hM fd_X8_41 sk_0 rfl dX8_restore_45 ?_
    refine aw_getI (pc := 48) hM fd_X8_114 sk_16 rfl dX8_restore_48 ?_
    obtain rfl := Option.some.inj h
    exact aw_iret (pc := 51) hM dX8_restore_51 (Nat.le_of_ble_eq_true rfl) (Nat.le_of_ble_eq_true rfl) hq
  · rw [if_pos c5] at h
    obtain rfl := Option.some.inj h
    exact aw_throwSW (pc := 13) hM hT tr_X8_71_274_75 dX8_restore_13 dX8_restore_16 dX8_restore_17 dX8_restore_20 dX8_restore_23 (Nat.le_of_ble_eq_true rfl) (Nat.le_of_ble_eq_true rfl) (Nat.le_of_ble_eq_true rfl) (Nat.le_of_ble_eq_true rfl) (Nat.le_of_ble_eq_true rfl) (Nat.le_of_ble_eq_true rfl) hq
def rmX8_rule : Room := { frames := 7, cells := 2, slots := 12, locals := 104 }
def s_X8_rule (F : MM) (p0 : Int32) (p1 : Int32) : Option (Int32 ⊕ String) := tbR (s_X8_requireRule F p0) (fun u2 => tbR (s_X8_requireRange F p1 0 4) (fun u5 => (s_X4_part F p0 p1).bind (fun r8 => some (.inl r8))))
set_option maxRecDepth 20000 in
theorem k_X8_rule {C : CX} {F : MM} {G : GG} {p0 : Int32} {p1 : Int32} {r : (Int32 ⊕ String)} (h : s_X8_rule F p0 p1 = some r) : AM C yX8_rule cX8_rule 3 (some .int) rmX8_rule [.ref 0, .int p0, .int p1] F G (fun o F9 G9 => o = (oI r) ∧ F9 = F ∧ G9 = G) := by
  refine am_of (L := [some (.ref 0), some (.int p0), some (.int p1)]) (by decide) (Nat.le_of_ble_eq_true rfl) rfl (fun M hM hT => ?_)
  have hM : MOk C RX8 cX8_rule 3 (some .int) rmX8_rule M := hM
  obtain ⟨Q, hQ⟩ : ∃ Q : OUT → MM → GG → Prop, Q = (fun o F9 G9 => o = (oI r) ∧ F9 = F ∧ G9 = G) := ⟨_, rfl⟩
  have hq : Q (oI r) F G := by rw [hQ]; exact ⟨rfl, rfl, rfl⟩
  rw [← hQ]
  clear hQ
  rw [s_X8_rule] at h
  refine aw_aload_n (pc := 0) (i := 0) (x := 0) hM dX8_rule_0 rfl rfl ?_
  refine aw_iload_n (pc := 1) (i := 1) (x := p0) hM dX8_rule_1 rfl rfl ?_
  rcases tbR_some h with ⟨u2, h1, h⟩ | ⟨E3, h1, rfl⟩
  rotate_left
  · exact aw_cvX (pc := 2) (n := 1) (As := [.int p0]) (st := []) (b := 0) (E := E3) hM (k_X8_requireRule h1) rfl cw_X8_152 sk_0 rfl rfl (by decide +kernel) rfl rfl ⟨(Nat.le_of_ble_eq_true rfl), (Nat.le_of_ble_eq_true rfl)⟩ (Nat.le_of_ble_eq_true rfl) ⟨(Nat.le_of_ble_eq_true rfl), (Nat.le_of_ble_eq_true rfl)⟩ dX8_rule_2 (ax_out hM hT (Nat.le_of_ble_eq_true rfl) (Nat.le_of_ble_eq_true rfl) hq)
  refine aw_cv1 (pc := 2) (n := 1) (As := [.int p0]) (st := []) (b := 0) (vo := none) (c2 := 1) (s2 := 6) hM (k_X8_requireRule h1) rfl cw_X8_152 sk_0 rfl rfl (by decide +kernel) rfl rfl ⟨(Nat.le_of_ble_eq_true rfl), (Nat.le_of_ble_eq_true rfl)⟩ (Nat.le_of_ble_eq_true rfl) ⟨(Nat.le_of_ble_eq_true rfl), (Nat.le_of_ble_eq_true rfl)⟩ dX8_rule_2 rfl rfl ?_
  refine aw_iload_n (pc := 5) (i := 2) (x := p1) hM dX8_rule_5 rfl rfl ?_
  refine aw_iconst (pc := 6) (v := 0) hM dX8_rule_6 (by decide) ?_
  refine aw_iconst (pc := 7) (v := 4) hM dX8_rule_7 (by decide) ?_
  rcases tbR_some h with ⟨u5, h4, h⟩ | ⟨E6, h4, rfl⟩
  rotate_left
  · exact aw_csX (pc := 8) (n := 3) (As := [.int p1, .int 0, .int 4]) (st := []) (E := E6) hM (k_X8_requireRange h4) rfl cw_X8_63 (by decide +kernel) rfl rfl ⟨(Nat.le_of_ble_eq_true rfl), (Nat.le_of_ble_eq_true rfl)⟩ (Nat.le_of_ble_eq_true rfl) ⟨(Nat.le_of_ble_eq_true rfl), (Nat.le_of_ble_eq_true rfl)⟩ dX8_rule_8 (ax_out hM hT (Nat.le_of_ble_eq_true rfl) (Nat.le_of_ble_eq_true rfl) hq)
  refine aw_cs1 (pc := 8) (n := 3) (As := [.int p1, .int 0, .int 4]) (st := []) (vo := none) (c2 := 2) (s2 := 12) hM (k_X8_requireRange h4) rfl cw_X8_63 (by decide +kernel) rfl rfl ⟨(Nat.le_of_ble_eq_true rfl), (Nat.le_of_ble_eq_true rfl)⟩ (Nat.le_of_ble_eq_true rfl) ⟨(Nat.le_of_ble_eq_true rfl), (Nat.le_of_ble_eq_true rfl)⟩ dX8_rule_8 rfl rfl ?_
  refine aw_aload_n (pc := 11) (i := 0) (x := 0) hM dX8_rule_11 rfl rfl ?_
  refine aw_getR (pc := 12) (r := 8) hM fd_X8_25 sk_0 rfl dX8_rule_12 ?_
  refine aw_getR (pc := 15) (r := 10) hM fd_X8_93 sk_8 rfl dX8_rule_15 ?_
  refine aw_iload_n (pc := 18) (i := 1) (x := p0) hM dX8_rule_18 rfl rfl ?_
  refine aw_iload_n (pc := 19) (i := 2) (x := p1) hM dX8_rule_19 rfl rfl ?_
  obtain ⟨r8, h7, h⟩ := bind_some h
  refine aw_cv1 (pc := 20) (n := 2) (As := [.int p0, .int p1]) (st := []) (b := 10) (vo := (some (.int r8))) (c2 := 2) (s2 := 12) hM (k_X4_part h7) rfl cw_X8_155 sk_10 rfl rfl (by decide +kernel) rfl rfl ⟨(Nat.le_of_ble_eq_true rfl), (Nat.le_of_ble_eq_true rfl)⟩ (Nat.le_of_ble_eq_true rfl) ⟨(Nat.le_of_ble_eq_true rfl), (Nat.le_of_ble_eq_true rfl)⟩ dX8_rule_20 rfl rfl ?_
  obtain rfl := Option.some.inj h
  exact aw_iret (pc := 23) hM dX8_rule_23 (Nat.le_of_ble_eq_true rfl) (Nat.le_of_ble_eq_true rfl) hq
def rmX8_runScript : Room := { frames := 7, cells := 2, slots := 12, locals := 137 }
def s_X8_runScript_b70 : Nat → MM → Int32 → Int64 → Int64 → Int32 → Option ((Int32 ⊕ String) × MM)
  | 0, _, _, _, _, _ => none
  | n + 1, F, x1, x2, x4, x6 => if x1 ≤ x6 then some (.inl (-9), F) else (some (x4 / 10000 : Int64)).bind (fun y14 => if (lg_cmp y14 0) ≤ 0 then (s_X1_succeeds F 24 0).bind (fun z19 => if z19.1 = 0 then some (.inl x6, z19.2) else (some (x6 + 1 : Int32)).bind (fun y21 => s_X8_runScript_b70 n z19.2 x1 x2 y14 y21)) else if ¬ y14 = 0 then ((some (Int64.toInt32 ((x2 / y14) - (x2 / y14) / 10000 * 10000) : Int32)).bind (fun y24 => (s_X1_succeeds F 24 y24).bind (fun z28 => if z28.1 = 0 then some (.inl x6, z28.2) else (some (x6 + 1 : Int32)).bind (fun y30 => s_X8_runScript_b70 n z28.2 x1 x2 y14 y30)))) else none)
def s_X8_runScript_b12 : Nat → MM → Int32 → Int64 → Int64 → Int32 → Option ((Int32 ⊕ String) × MM)
  | 0, _, _, _, _, _ => none
  | n + 1, F, x1, x2, x4, x6 => if x1 ≤ x6 then if (lg_cmp x2 0) < 0 then some (.inr ex_iae, F) else if (lg_cmp x2 x4) < 0 then (s_X5_copy F 24 16).bind (fun F8 => s_X8_runScript_b70 fu_ F8 x1 x2 x4 0) else some (.inr ex_iae, F) else (some (x4 * 10000 : Int64)).bind (fun y9 => (some (x6 + 1 : Int32)).bind (fun y11 => s_X8_runScript_b12 n F x1 x2 y9 y11))
def s_X8_runScript (F : MM) (p0 : Int32) (p1 : Int64) : Option ((Int32 ⊕ String) × MM) := tbW F (s_X8_requireRange F p0 1 4) (fun u2 => s_X8_runScript_b12 fu_ F p0 p1 1 0)
set_option maxRecDepth 20000 in
theorem k_X8_runScript_b70 {C : CX} {M : MX} {G : GG} {Q : OUT → MM → GG → Prop} {r : ((Int32 ⊕ String) × MM)} (hM : MOk C RX8 cX8_runScript 8 (some .int) rmX8_runScript M) (hT : MNoT M) (hq : Q (oI r.1) r.2 G) : ∀ (n : Nat) (F : MM) (x1 : Int32) (x2 : Int64) (x4 : Int64) (x6 : Int32), s_X8_runScript_b70 n F x1 x2 x4 x6 = some r → AW C 8 (ZM C rmX8_runScript Q M) M 1 6 70 [some (.ref 0), some (.int x1), some (.long x2), none, some (.long x4), none, some (.int x6), none] [] F G := by
  intro n
  induction n with
  | zero => intro F x1 x2 x4 x6 h; exact nomatch h
  | succ n ih =>
    intro F x1 x2 x4 x6 h
    rw [s_X8_runScript_b70] at h
    refine aw_iload (pc := 70) (i := 6) (x := x6) hM dX8_runScript_70  rfl ?_
    refine aw_iload_n (pc := 72) (i := 1) (x := x1) hM dX8_runScript_72 rfl rfl ?_
    refine aw_icmp_ge (pc := 73) (tgt := 127) hM dX8_runScript_73 (by decide) (fun c13 => ?_) (fun c13 => ?_)
    · rw [if_pos c13] at h
      refine aw_bipush (pc := 127) (v := (-9)) hM dX8_runScript_127 (by decide) ?_
      obtain rfl := Option.some.inj h
      exact aw_iret (pc := 129) hM dX8_runScript_129 (Nat.le_of_ble_eq_true rfl) (Nat.le_of_ble_eq_true rfl) hq
    · rw [if_neg c13] at h
      refine aw_lload (pc := 76) (i := 4) (x := x4) hM dX8_runScript_76  rfl ?_
      refine aw_ldc2 (pc := 78) hM gw_958 dX8_runScript_78 ?_
      refine aw_ldiv (pc := 81) hM dX8_runScript_81 (by decide) ?_
      obtain ⟨y14, e15, h⟩ := bind_some h
      have e15 := Option.some.inj e15
      refine aw_topl e15 ?_
      refine aw_lstore (pc := 82) (i := 4) (L' := [some (.ref 0), some (.int x1), some (.long x2), none, some (.long y14), none, some (.int x6), none]) hM dX8_runScript_82  (by decide) rfl ?_
      refine aw_lload (pc := 84) (i := 4) (x := y14) hM dX8_runScript_84  rfl ?_
      refine aw_lconst (pc := 86) (v := 0) hM dX8_runScript_86 (by decide) ?_
      refine aw_lcmp (pc := 87) hM dX8_runScript_87 ?_
      refine aw_if_le (pc := 88) (tgt := 103) hM dX8_runScript_88 (by decide) (fun c16 => ?_) (fun c16 => ?_)
      · rw [if_pos c16] at h
        refine aw_iconst (pc := 103) (v := 0) hM dX8_runScript_103 (by decide) ?_
        refine aw_istore (pc := 104) (i := 7) (L' := [some (.ref 0), some (.int x1), some (.long x2), none, some (.long y14), none, some (.int x6), some (.int 0)]) hM dX8_runScript_104  (by decide) rfl ?_
        refine aw_aload_n (pc := 106) (i := 0) (x := 0) hM dX8_runScript_106 rfl rfl ?_
        refine aw_getR (pc := 107) (r := 24) hM fd_X8_45 sk_0 rfl dX8_runScript_107 ?_
        refine aw_iload (pc := 110) (i := 7) (x := 0) hM dX8_runScript_110  rfl ?_
        obtain ⟨z19, h17, h⟩ := bind_some h
        refine aw_cs1 (pc := 112) (n := 2) (As := [.ref 24, .int 0]) (st := []) (vo := (some (.int z19.1))) (c2 := 1) (s2 := 6) hM (k_X1_succeeds is_24 h17) rfl cw_X8_258 (by decide +kernel) rfl rfl ⟨(Nat.le_of_ble_eq_true rfl), (Nat.le_of_ble_eq_true rfl)⟩ (Nat.le_of_ble_eq_true rfl) ⟨(Nat.le_of_ble_eq_true rfl), (Nat.le_of_ble_eq_true rfl)⟩ dX8_runScript_112 rfl rfl ?_
        refine aw_if_ne (pc := 115) (tgt := 121) hM dX8_runScript_115 (by decide) (fun c20 => ?_) (fun c20 => ?_)
        · rw [if_neg c20] at h
          obtain ⟨y21, e22, h⟩ := bind_some h
          have e22 := Option.some.inj e22
          refine aw_iinc (pc := 121) (v := y21) (L' := [some (.ref 0), some (.int x1), some (.long x2), none, some (.long y14), none, some (.int y21), some (.int 0)]) hM dX8_runScript_121 rfl e22 (by decide) rfl ?_
          refine aw_goto (pc := 124) (tgt := 70) hM dX8_runScript_124 (by decide) ?_
          refine aw_weak (L' := [some (.ref 0), some (.int x1), some (.long x2), none, some (.long y14), none, some (.int y21), none]) ?_ (lw_of [true, true, true, true, true, true, true, false] rfl)
          exact ih z19.2 x1 x2 y14 y21 h
        · rw [if_pos c20] at h
          refine aw_iload (pc := 118) (i := 6) (x := x6) hM dX8_runScript_118  rfl ?_
          obtain rfl := Option.some.inj h
          exact aw_iret (pc := 120) hM dX8_runScript_120 (Nat.le_of_ble_eq_true rfl) (Nat.le_of_ble_eq_true rfl) hq
      · rw [if_neg c16] at h
        refine aw_lload_n (pc := 91) (i := 2) (x := x2) hM dX8_runScript_91 rfl rfl ?_
        refine aw_lload (pc := 92) (i := 4) (x := y14) hM dX8_runScript_92  rfl ?_
        obtain ⟨c23, h⟩ := ite_some h
        refine aw_ldiv (pc := 94) hM dX8_runScript_94 c23 ?_
        refine aw_ldc2 (pc := 95) hM gw_958 dX8_runScript_95 ?_
        refine aw_lrem (pc := 98) hM dX8_runScript_98 (by decide) ?_
        refine aw_l2i (pc := 99) hM dX8_runScript_99 ?_
        refine aw_goto (pc := 100) (tgt := 104) hM dX8_runScript_100 (by decide) ?_
        obtain ⟨y24, e25, h⟩ := bind_some h
        have e25 := Option.some.inj e25
        refine aw_topi e25 ?_
        refine aw_istore (pc := 104) (i := 7) (L' := [some (.ref 0), some (.int x1), some (.long x2), none, some (.long y14), none, some (.int x6), some (.int y24)]) hM dX8_runScript_104  (by decide) rfl ?_
        refine aw_aload_n (pc := 106) (i := 0) (x := 0) hM dX8_runScript_106 rfl rfl ?_
        refine aw_getR (pc := 107) (r := 24) hM fd_X8_45 sk_0 rfl dX8_runScript_107 ?_
        refine aw_iload (pc := 110) (i := 7) (x := y24) hM dX8_runScript_110  rfl ?_
        obtain ⟨z28, h26, h⟩ := bind_some h
        refine aw_cs1 (pc := 112) (n := 2) (As := [.ref 24, .int y24]) (st := []) (vo := (some (.int z28.1))) (c2 := 1) (s2 := 6) hM (k_X1_succeeds is_24 h26) rfl cw_X8_258 (by decide +kernel) rfl rfl ⟨(Nat.le_of_ble_eq_true rfl), (Nat.le_of_ble_eq_true rfl)⟩ (Nat.le_of_ble_eq_true rfl) ⟨(Nat.le_of_ble_eq_true rfl), (Nat.le_of_ble_eq_true rfl)⟩ dX8_runScript_112 rfl rfl ?_
        refine aw_if_ne (pc := 115) (tgt := 121) hM dX8_runScript_115 (by decide) (fun c29 => ?_) (fun c29 => ?_)
        · rw [if_neg c29] at h
          obtain ⟨y30, e31, h⟩ := bind_some h
          have e31 := Option.some.inj e31
          refine aw_iinc (pc := 121) (v := y30) (L' := [some (.ref 0), some (.int x1), some (.long x2), none, some (.long y14), none, some (.int y30), some (.int y24)]) hM dX8_runScript_121 rfl e31 (by decide) rfl ?_
          refine aw_goto (pc := 124) (tgt := 70) hM dX8_runScript_124 (by decide) ?_
          refine aw_weak (L' := [some (.ref 0), some (.int x1), some (.long x2), none, some (.long y14), none, some (.int y30), none]) ?_ (lw_of [true, true, true, true, true, true, true, false] rfl)
          exact ih z28.2 x1 x2 y14 y30 h
        · rw [if_pos c29] at h
          refine aw_iload (pc := 118) (i := 6) (x := x6) hM dX8_runScript_118  rfl ?_
          obtain rfl := Option.some.inj h
          exact aw_iret (pc := 120) hM dX8_runScript_120 (Nat.le_of_ble_eq_true rfl) (Nat.le_of_ble_eq_true rfl) hq
set_option maxRecDepth 20000 in
theorem k_X8_runScript_b12 {C : CX} {M : MX} {G : GG} {Q : OUT → MM → GG → Prop} {r : ((Int32 ⊕ String) × MM)} (hM : MOk C RX8 cX8_runScript 8 (some .int) rmX8_runScript M) (hT : MNoT M) (hq : Q (oI r.1) r.2 G) : ∀ (n : Nat) (F : MM) (x1 : Int32) (x2 : Int64) (x4 : Int64) (x6 : Int32), s_X8_runScript_b12 n F x1 x2 x4 x6 = some r → AW C 8 (ZM C rmX8_runScript Q M) M 1 6 12 [some (.ref 0), some (.int x1), some (.long x2), none, some (.long x4), none, some (.int x6), none] [] F G := by
  intro n
  induction n with
  | zero => intro F x1 x2 x4 x6 h; exact nomatch h
  | succ n ih =>
    intro F x1 x2 x4 x6 h
    rw [s_X8_runScript_b12] at h
    refine aw_iload (pc := 12) (i := 6) (x := x6) hM dX8_runScript_12  rfl ?_
    refine aw_iload_n (pc := 14) (i := 1) (x := x1) hM dX8_runScript_14 rfl rfl ?_
    refine aw_icmp_ge (pc := 15) (tgt := 32) hM dX8_runScript_15 (by decide) (fun c4 => ?_) (fun c4 => ?_)
    · rw [if_pos c4] at h
      refine aw_lload_n (pc := 32) (i := 2) (x := x2) hM dX8_runScript_32 rfl rfl ?_
      refine aw_lconst (pc := 33) (v := 0) hM dX8_runScript_33 (by decide) ?_
      refine aw_lcmp (pc := 34) hM dX8_runScript_34 ?_
      refine aw_if_lt (pc := 35) (tgt := 45) hM dX8_runScript_35 (by decide) (fun c5 => ?_) (fun c5 => ?_)
      · rw [if_pos c5] at h
        obtain rfl := Option.some.inj h
        exact aw_throwSW (pc := 45) hM hT tr_X8_124_256_128 dX8_runScript_45 dX8_runScript_48 dX8_runScript_49 dX8_runScript_52 dX8_runScript_55 (Nat.le_of_ble_eq_true rfl) (Nat.le_of_ble_eq_true rfl) (Nat.le_of_ble_eq_true rfl) (Nat.le_of_ble_eq_true rfl) (Nat.le_of_ble_eq_true rfl) (Nat.le_of_ble_eq_true rfl) hq
      · rw [if_neg c5] at h
        refine aw_lload_n (pc := 38) (i := 2) (x := x2) hM dX8_runScript_38 rfl rfl ?_
        refine aw_lload (pc := 39) (i := 4) (x := x4) hM dX8_runScript_39  rfl ?_
        refine aw_lcmp (pc := 41) hM dX8_runScript_41 ?_
        refine aw_if_lt (pc := 42) (tgt := 56) hM dX8_runScript_42 (by decide) (fun c6 => ?_) (fun c6 => ?_)
        · rw [if_pos c6] at h
          refine aw_aload_n (pc := 56) (i := 0) (x := 0) hM dX8_runScript_56 rfl rfl ?_
          refine aw_getR (pc := 57) (r := 24) hM fd_X8_45 sk_0 rfl dX8_runScript_57 ?_
          refine aw_aload_n (pc := 60) (i := 0) (x := 0) hM dX8_runScript_60 rfl rfl ?_
          refine aw_getR (pc := 61) (r := 16) hM fd_X8_41 sk_0 rfl dX8_runScript_61 ?_
          obtain ⟨F8, h7, h⟩ := bind_some h
          refine aw_cv1 (pc := 64) (n := 1) (As := [.ref 16]) (st := []) (b := 24) (vo := none) (c2 := 1) (s2 := 6) hM (k_X5_copy is_24 is_16 h7) rfl cw_X8_227 sk_24 rfl rfl (by decide +kernel) rfl rfl ⟨(Nat.le_of_ble_eq_true rfl), (Nat.le_of_ble_eq_true rfl)⟩ (Nat.le_of_ble_eq_true rfl) ⟨(Nat.le_of_ble_eq_true rfl), (Nat.le_of_ble_eq_true rfl)⟩ dX8_runScript_64 rfl rfl ?_
          refine aw_iconst (pc := 67) (v := 0) hM dX8_runScript_67 (by decide) ?_
          refine aw_istore (pc := 68) (i := 6) (L' := [some (.ref 0), some (.int x1), some (.long x2), none, some (.long x4), none, some (.int 0), none]) hM dX8_runScript_68  (by decide) rfl ?_
          exact k_X8_runScript_b70 hM hT hq fu_ F8 x1 x2 x4 0 h
        · rw [if_neg c6] at h
          obtain rfl := Option.some.inj h
          exact aw_throwSW (pc := 45) hM hT tr_X8_124_256_128 dX8_runScript_45 dX8_runScript_48 dX8_runScript_49 dX8_runScript_52 dX8_runScript_55 (Nat.le_of_ble_eq_true rfl) (Nat.le_of_ble_eq_true rfl) (Nat.le_of_ble_eq_true rfl) (Nat.le_of_ble_eq_true rfl) (Nat.le_of_ble_eq_true rfl) (Nat.le_of_ble_eq_true rfl) hq
    · rw [if_neg c4] at h
      refine aw_lload (pc := 18) (i := 4) (x := x4) hM dX8_runScript_18  rfl ?_
      refine aw_ldc2 (pc := 20) hM gw_958 dX8_runScript_20 ?_
      refine aw_lmul (pc := 23) hM dX8_runScript_23 ?_
      obtain ⟨y9, e10, h⟩ := bind_some h
      have e10 := Option.some.inj e10
      refine aw_topl e10 ?_
      refine aw_lstore (pc := 24) (i := 4) (L' := [some (.ref 0), some (.int x1), some (.long x2), none, some (.long y9), none, some (.int x6), none]) hM dX8_runScript_24  (by decide) rfl ?_
      obtain ⟨y11, e12, h⟩ := bind_some h
      have e12 := Option.some.inj e12
      refine aw_iinc (pc := 26) (v := y11) (L' := [some (.ref 0), some (.int x1), some (.long x2), none, some (.long y9), none, some (.int y11), none]) hM dX8_runScript_26 rfl e12 (by decide) rfl ?_
      refine aw_goto (pc := 29) (tgt := 12) hM dX8_runScript_29 (by decide) ?_
      exact ih F x1 x2 y9 y11 h
set_option maxRecDepth 20000 in
theorem k_X8_runScript {C : CX} {F : MM} {G : GG} {p0 : Int32} {p1 : Int64} {r : ((Int32 ⊕ String) × MM)} (h : s_X8_runScript F p0 p1 = some r) : AM C yX8_runScript cX8_runScript 8 (some .int) rmX8_runScript [.ref 0, .int p0, .long p1] F G (fun o F9 G9 => o = (oI r.1) ∧ F9 = r.2 ∧ G9 = G) := by
  refine am_of (L := [some (.ref 0), some (.int p0), some (.long p1), none, none, none, none, none]) (by decide) (Nat.le_of_ble_eq_true rfl) rfl (fun M hM hT => ?_)
  have hM : MOk C RX8 cX8_runScript 8 (some .int) rmX8_runScript M := hM
  obtain ⟨Q, hQ⟩ : ∃ Q : OUT → MM → GG → Prop, Q = (fun o F9 G9 => o = (oI r.1) ∧ F9 = r.2 ∧ G9 = G) := ⟨_, rfl⟩
  have hq : Q (oI r.1) r.2 G := by rw [hQ]; exact ⟨rfl, rfl, rfl⟩
  rw [← hQ]
  clear hQ
  rw [s_X8_runScript] at h
  refine aw_iload_n (pc := 0) (i := 1) (x := p0) hM dX8_runScript_0 rfl rfl ?_
  refine aw_iconst (pc := 1) (v := 1) hM dX8_runScript_1 (by decide) ?_
  refine aw_iconst (pc := 2) (v := 4) hM dX8_runScript_2 (by decide) ?_
  rcases tbW_some h with ⟨u2, h1, h⟩ | ⟨E3, h1, rfl⟩
  rotate_left
  · exact aw_csX (pc := 3) (n := 3) (As := [.int p0, .int 1, .int 4]) (st := []) (E := E3) hM (k_X8_requireRange h1) rfl cw_X8_63 (by decide +kernel) rfl rfl ⟨(Nat.le_of_ble_eq_true rfl), (Nat.le_of_ble_eq_true rfl)⟩ (Nat.le_of_ble_eq_true rfl) ⟨(Nat.le_of_ble_eq_true rfl), (Nat.le_of_ble_eq_true rfl)⟩ dX8_runScript_3 (ax_out hM hT (Nat.le_of_ble_eq_true rfl) (Nat.le_of_ble_eq_true rfl) hq)
  refine aw_cs1 (pc := 3) (n := 3) (As := [.int p0, .int 1, .int 4]) (st := []) (vo := none) (c2 := 1) (s2 := 6) hM (k_X8_requireRange h1) rfl cw_X8_63 (by decide +kernel) rfl rfl ⟨(Nat.le_of_ble_eq_true rfl), (Nat.le_of_ble_eq_true rfl)⟩ (Nat.le_of_ble_eq_true rfl) ⟨(Nat.le_of_ble_eq_true rfl), (Nat.le_of_ble_eq_true rfl)⟩ dX8_runScript_3 rfl rfl ?_
  refine aw_lconst (pc := 6) (v := 1) hM dX8_runScript_6 (by decide) ?_
  refine aw_lstore (pc := 7) (i := 4) (L' := [some (.ref 0), some (.int p0), some (.long p1), none, some (.long 1), none, none, none]) hM dX8_runScript_7  (by decide) rfl ?_
  refine aw_iconst (pc := 9) (v := 0) hM dX8_runScript_9 (by decide) ?_
  refine aw_istore (pc := 10) (i := 6) (L' := [some (.ref 0), some (.int p0), some (.long p1), none, some (.long 1), none, some (.int 0), none]) hM dX8_runScript_10  (by decide) rfl ?_
  exact k_X8_runScript_b12 hM hT hq fu_ F p0 p1 1 0 h
def rmX8_save : Room := { frames := 7, cells := 1, slots := 6, locals := 102 }
def s_X8_save (F : MM) (p0 : Int32) : Option ((Int32 ⊕ String) × MM) := tbW F (s_X8_requireSlot F p0) (fun u2 => if inb p0 2 then ((s_X5_copy F (148 + 8 * ix p0) 16).bind (fun F6 => if inb p0 2 then ((some (mup F6 147 (ix p0) (vp_nar .boolean 1))).bind (fun F8 => some (.inl (F8 16 8), F8))) else none)) else none)
set_option maxRecDepth 20000 in
theorem k_X8_save {C : CX} {F : MM} {G : GG} {p0 : Int32} {r : ((Int32 ⊕ String) × MM)} (h : s_X8_save F p0 = some r) : AM C yX8_save cX8_save 2 (some .int) rmX8_save [.ref 0, .int p0] F G (fun o F9 G9 => o = (oI r.1) ∧ F9 = r.2 ∧ G9 = G) := by
  refine am_of (L := [some (.ref 0), some (.int p0)]) (by decide) (Nat.le_of_ble_eq_true rfl) rfl (fun M hM hT => ?_)
  have hM : MOk C RX8 cX8_save 2 (some .int) rmX8_save M := hM
  obtain ⟨Q, hQ⟩ : ∃ Q : OUT → MM → GG → Prop, Q = (fun o F9 G9 => o = (oI r.1) ∧ F9 = r.2 ∧ G9 = G) := ⟨_, rfl⟩
  have hq : Q (oI r.1) r.2 G := by rw [hQ]; exact ⟨rfl, rfl, rfl⟩
  rw [← hQ]
  clear hQ
  rw [s_X8_save] at h
  refine aw_iload_n (pc := 0) (i := 1) (x := p0) hM dX8_save_0 rfl rfl ?_
  rcases tbW_some h with ⟨u2, h1, h⟩ | ⟨E3, h1, rfl⟩
  rotate_left
  · exact aw_csX (pc := 1) (n := 1) (As := [.int p0]) (st := []) (E := E3) hM (k_X8_requireSlot h1) rfl cw_X8_271 (by decide +kernel) rfl rfl ⟨(Nat.le_of_ble_eq_true rfl), (Nat.le_of_ble_eq_true rfl)⟩ (Nat.le_of_ble_eq_true rfl) ⟨(Nat.le_of_ble_eq_true rfl), (Nat.le_of_ble_eq_true rfl)⟩ dX8_save_1 (ax_out hM hT (Nat.le_of_ble_eq_true rfl) (Nat.le_of_ble_eq_true rfl) hq)
  refine aw_cs1 (pc := 1) (n := 1) (As := [.int p0]) (st := []) (vo := none) (c2 := 1) (s2 := 6) hM (k_X8_requireSlot h1) rfl cw_X8_271 (by decide +kernel) rfl rfl ⟨(Nat.le_of_ble_eq_true rfl), (Nat.le_of_ble_eq_true rfl)⟩ (Nat.le_of_ble_eq_true rfl) ⟨(Nat.le_of_ble_eq_true rfl), (Nat.le_of_ble_eq_true rfl)⟩ dX8_save_1 rfl rfl ?_
  refine aw_aload_n (pc := 4) (i := 0) (x := 0) hM dX8_save_4 rfl rfl ?_
  refine aw_getR (pc := 5) (r := 146) hM fd_X8_55 sk_0 rfl dX8_save_5 ?_
  refine aw_iload_n (pc := 8) (i := 1) (x := p0) hM dX8_save_8 rfl rfl ?_
  obtain ⟨c4, h⟩ := ite_some h
  refine aw_aald (pc := 9) (r := (148 + 8 * ix p0)) hM sk_146 c4 (rs_slt c4) dX8_save_9 ?_
  refine aw_aload_n (pc := 10) (i := 0) (x := 0) hM dX8_save_10 rfl rfl ?_
  refine aw_getR (pc := 11) (r := 16) hM fd_X8_41 sk_0 rfl dX8_save_11 ?_
  obtain ⟨F6, h5, h⟩ := bind_some h
  refine aw_cv1 (pc := 14) (n := 1) (As := [.ref 16]) (st := []) (b := (148 + 8 * ix p0)) (vo := none) (c2 := 1) (s2 := 6) hM (k_X5_copy (is_slt c4) is_16 h5) rfl cw_X8_227 (st_ob (is_slt c4)) rfl rfl (by decide +kernel) rfl rfl ⟨(Nat.le_of_ble_eq_true rfl), (Nat.le_of_ble_eq_true rfl)⟩ (Nat.le_of_ble_eq_true rfl) ⟨(Nat.le_of_ble_eq_true rfl), (Nat.le_of_ble_eq_true rfl)⟩ dX8_save_14 rfl rfl ?_
  refine aw_aload_n (pc := 17) (i := 0) (x := 0) hM dX8_save_17 rfl rfl ?_
  refine aw_getR (pc := 18) (r := 147) hM fd_X8_59 sk_0 rfl dX8_save_18 ?_
  refine aw_iload_n (pc := 21) (i := 1) (x := p0) hM dX8_save_21 rfl rfl ?_
  refine aw_iconst (pc := 22) (v := 1) hM dX8_save_22 (by decide) ?_
  obtain ⟨c7, h⟩ := ite_some h
  obtain ⟨F8, e9, h⟩ := bind_some h
  have e9 := Option.some.inj e9
  refine aw_zast (pc := 23) hM sk_147 c7 dX8_save_23 ?_
  refine aw_mem e9 ?_
  refine aw_aload_n (pc := 24) (i := 0) (x := 0) hM dX8_save_24 rfl rfl ?_
  refine aw_getR (pc := 25) (r := 16) hM fd_X8_41 sk_0 rfl dX8_save_25 ?_
  refine aw_getI (pc := 28) hM fd_X8_114 sk_16 rfl dX8_save_28 ?_
  obtain rfl := Option.some.inj h
  exact aw_iret (pc := 31) hM dX8_save_31 (Nat.le_of_ble_eq_true rfl) (Nat.le_of_ble_eq_true rfl) hq
def rmX8_setFaults : Room := { frames := 7, cells := 2, slots := 12, locals := 104 }
def s_X8_setFaults (F : MM) (p0 : Int32) (p1 : Int32) : Option ((Int32 ⊕ String) × MM) := tbW F (s_X8_requireNode F p0) (fun u2 => tbW F (s_X8_requireRange F p1 0 9) (fun u5 => (s_X2_remember F 16).bind (fun F8 => if inb p0 5 then ((some (F8 19 (ix p0) : Int32)).bind (fun y10 => if inb p0 5 then ((some (mup F8 19 (ix p0) p1)).bind (fun F13 => some (.inl y10, F13))) else none)) else none)))
set_option maxRecDepth 20000 in
theorem k_X8_setFaults {C : CX} {F : MM} {G : GG} {p0 : Int32} {p1 : Int32} {r : ((Int32 ⊕ String) × MM)} (h : s_X8_setFaults F p0 p1 = some r) : AM C yX8_setFaults cX8_setFaults 4 (some .int) rmX8_setFaults [.ref 0, .int p0, .int p1] F G (fun o F9 G9 => o = (oI r.1) ∧ F9 = r.2 ∧ G9 = G) := by
  refine am_of (L := [some (.ref 0), some (.int p0), some (.int p1), none]) (by decide) (Nat.le_of_ble_eq_true rfl) rfl (fun M hM hT => ?_)
  have hM : MOk C RX8 cX8_setFaults 4 (some .int) rmX8_setFaults M := hM
  obtain ⟨Q, hQ⟩ : ∃ Q : OUT → MM → GG → Prop, Q = (fun o F9 G9 => o = (oI r.1) ∧ F9 = r.2 ∧ G9 = G) := ⟨_, rfl⟩
  have hq : Q (oI r.1) r.2 G := by rw [hQ]; exact ⟨rfl, rfl, rfl⟩
  rw [← hQ]
  clear hQ
  rw [s_X8_setFaults] at h
  refine aw_aload_n (pc := 0) (i := 0) (x := 0) hM dX8_setFaults_0 rfl rfl ?_
  refine aw_iload_n (pc := 1) (i := 1) (x := p0) hM dX8_setFaults_1 rfl rfl ?_
  rcases tbW_some h with ⟨u2, h1, h⟩ | ⟨E3, h1, rfl⟩
  rotate_left
  · exact aw_cvX (pc := 2) (n := 1) (As := [.int p0]) (st := []) (b := 0) (E := E3) hM (k_X8_requireNode h1) rfl cw_X8_129 sk_0 rfl rfl (by decide +kernel) rfl rfl ⟨(Nat.le_of_ble_eq_true rfl), (Nat.le_of_ble_eq_true rfl)⟩ (Nat.le_of_ble_eq_true rfl) ⟨(Nat.le_of_ble_eq_true rfl), (Nat.le_of_ble_eq_true rfl)⟩ dX8_setFaults_2 (ax_out hM hT (Nat.le_of_ble_eq_true rfl) (Nat.le_of_ble_eq_true rfl) hq)
  refine aw_cv1 (pc := 2) (n := 1) (As := [.int p0]) (st := []) (b := 0) (vo := none) (c2 := 1) (s2 := 6) hM (k_X8_requireNode h1) rfl cw_X8_129 sk_0 rfl rfl (by decide +kernel) rfl rfl ⟨(Nat.le_of_ble_eq_true rfl), (Nat.le_of_ble_eq_true rfl)⟩ (Nat.le_of_ble_eq_true rfl) ⟨(Nat.le_of_ble_eq_true rfl), (Nat.le_of_ble_eq_true rfl)⟩ dX8_setFaults_2 rfl rfl ?_
  refine aw_iload_n (pc := 5) (i := 2) (x := p1) hM dX8_setFaults_5 rfl rfl ?_
  refine aw_iconst (pc := 6) (v := 0) hM dX8_setFaults_6 (by decide) ?_
  refine aw_bipush (pc := 7) (v := 9) hM dX8_setFaults_7 (by decide) ?_
  rcases tbW_some h with ⟨u5, h4, h⟩ | ⟨E6, h4, rfl⟩
  rotate_left
  · exact aw_csX (pc := 9) (n := 3) (As := [.int p1, .int 0, .int 9]) (st := []) (E := E6) hM (k_X8_requireRange h4) rfl cw_X8_63 (by decide +kernel) rfl rfl ⟨(Nat.le_of_ble_eq_true rfl), (Nat.le_of_ble_eq_true rfl)⟩ (Nat.le_of_ble_eq_true rfl) ⟨(Nat.le_of_ble_eq_true rfl), (Nat.le_of_ble_eq_true rfl)⟩ dX8_setFaults_9 (ax_out hM hT (Nat.le_of_ble_eq_true rfl) (Nat.le_of_ble_eq_true rfl) hq)
  refine aw_cs1 (pc := 9) (n := 3) (As := [.int p1, .int 0, .int 9]) (st := []) (vo := none) (c2 := 2) (s2 := 12) hM (k_X8_requireRange h4) rfl cw_X8_63 (by decide +kernel) rfl rfl ⟨(Nat.le_of_ble_eq_true rfl), (Nat.le_of_ble_eq_true rfl)⟩ (Nat.le_of_ble_eq_true rfl) ⟨(Nat.le_of_ble_eq_true rfl), (Nat.le_of_ble_eq_true rfl)⟩ dX8_setFaults_9 rfl rfl ?_
  refine aw_aload_n (pc := 12) (i := 0) (x := 0) hM dX8_setFaults_12 rfl rfl ?_
  refine aw_getR (pc := 13) (r := 32) hM fd_X8_51 sk_0 rfl dX8_setFaults_13 ?_
  refine aw_aload_n (pc := 16) (i := 0) (x := 0) hM dX8_setFaults_16 rfl rfl ?_
  refine aw_getR (pc := 17) (r := 16) hM fd_X8_41 sk_0 rfl dX8_setFaults_17 ?_
  obtain ⟨F8, h7, h⟩ := bind_some h
  refine aw_cv1 (pc := 20) (n := 1) (As := [.ref 16]) (st := []) (b := 32) (vo := none) (c2 := 2) (s2 := 12) hM (k_X2_remember is_16 h7) rfl cw_X8_167 sk_32 rfl rfl (by decide +kernel) rfl rfl ⟨(Nat.le_of_ble_eq_true rfl), (Nat.le_of_ble_eq_true rfl)⟩ (Nat.le_of_ble_eq_true rfl) ⟨(Nat.le_of_ble_eq_true rfl), (Nat.le_of_ble_eq_true rfl)⟩ dX8_setFaults_20 rfl rfl ?_
  refine aw_aload_n (pc := 23) (i := 0) (x := 0) hM dX8_setFaults_23 rfl rfl ?_
  refine aw_getR (pc := 24) (r := 16) hM fd_X8_41 sk_0 rfl dX8_setFaults_24 ?_
  refine aw_getR (pc := 27) (r := 19) hM fd_X8_188 sk_16 rfl dX8_setFaults_27 ?_
  refine aw_iload_n (pc := 30) (i := 1) (x := p0) hM dX8_setFaults_30 rfl rfl ?_
  obtain ⟨c9, h⟩ := ite_some h
  refine aw_iald (pc := 31) hM sk_19 c9 dX8_setFaults_31 ?_
  obtain ⟨y10, e11, h⟩ := bind_some h
  have e11 := Option.some.inj e11
  refine aw_topi e11 ?_
  refine aw_istore_n (pc := 32) (i := 3) (L' := [some (.ref 0), some (.int p0), some (.int p1), some (.int y10)]) hM dX8_setFaults_32 rfl (by decide) rfl ?_
  refine aw_aload_n (pc := 33) (i := 0) (x := 0) hM dX8_setFaults_33 rfl rfl ?_
  refine aw_getR (pc := 34) (r := 16) hM fd_X8_41 sk_0 rfl dX8_setFaults_34 ?_
  refine aw_getR (pc := 37) (r := 19) hM fd_X8_188 sk_16 rfl dX8_setFaults_37 ?_
  refine aw_iload_n (pc := 40) (i := 1) (x := p0) hM dX8_setFaults_40 rfl rfl ?_
  refine aw_iload_n (pc := 41) (i := 2) (x := p1) hM dX8_setFaults_41 rfl rfl ?_
  obtain ⟨c12, h⟩ := ite_some h
  obtain ⟨F13, e14, h⟩ := bind_some h
  have e14 := Option.some.inj e14
  refine aw_iast (pc := 42) hM sk_19 c12 dX8_setFaults_42 ?_
  refine aw_mem e14 ?_
  refine aw_iload_n (pc := 43) (i := 3) (x := y10) hM dX8_setFaults_43 rfl rfl ?_
  obtain rfl := Option.some.inj h
  exact aw_iret (pc := 44) hM dX8_setFaults_44 (Nat.le_of_ble_eq_true rfl) (Nat.le_of_ble_eq_true rfl) hq
def rmX8_setQuorum : Room := { frames := 7, cells := 2, slots := 12, locals := 104 }
def s_X8_setQuorum (F : MM) (p0 : Int32) (p1 : Int32) : Option ((Int32 ⊕ String) × MM) := tbW F (s_X8_requireComponent F p0) (fun u2 => tbW F (s_X8_requireRange F p1 0 5) (fun u5 => (s_X2_remember F 16).bind (fun F8 => if inb p0 6 then ((some (F8 22 (ix p0) : Int32)).bind (fun y10 => if inb p0 6 then ((some (mup F8 22 (ix p0) p1)).bind (fun F13 => some (.inl y10, F13))) else none)) else none)))
set_option maxRecDepth 20000 in
theorem k_X8_setQuorum {C : CX} {F : MM} {G : GG} {p0 : Int32} {p1 : Int32} {r : ((Int32 ⊕ String) × MM)} (h : s_X8_setQuorum F p0 p1 = some r) : AM C yX8_setQuorum cX8_setQuorum 4 (some .int) rmX8_setQuorum [.ref 0, .int p0, .int p1] F G (fun o F9 G9 => o = (oI r.1) ∧ F9 = r.2 ∧ G9 = G) := by
  refine am_of (L := [some (.ref 0), some (.int p0), some (.int p1), none]) (by decide) (Nat.le_of_ble_eq_true rfl) rfl (fun M hM hT => ?_)
  have hM : MOk C RX8 cX8_setQuorum 4 (some .int) rmX8_setQuorum M := hM
  obtain ⟨Q, hQ⟩ : ∃ Q : OUT → MM → GG → Prop, Q = (fun o F9 G9 => o = (oI r.1) ∧ F9 = r.2 ∧ G9 = G) := ⟨_, rfl⟩
  have hq : Q (oI r.1) r.2 G := by rw [hQ]; exact ⟨rfl, rfl, rfl⟩
  rw [← hQ]
  clear hQ
  rw [s_X8_setQuorum] at h
  refine aw_aload_n (pc := 0) (i := 0) (x := 0) hM dX8_setQuorum_0 rfl rfl ?_
  refine aw_iload_n (pc := 1) (i := 1) (x := p0) hM dX8_setQuorum_1 rfl rfl ?_
  rcases tbW_some h with ⟨u2, h1, h⟩ | ⟨E3, h1, rfl⟩
  rotate_left
  · exact aw_cvX (pc := 2) (n := 1) (As := [.int p0]) (st := []) (b := 0) (E := E3) hM (k_X8_requireComponent h1) rfl cw_X8_137 sk_0 rfl rfl (by decide +kernel) rfl rfl ⟨(Nat.le_of_ble_eq_true rfl), (Nat.le_of_ble_eq_true rfl)⟩ (Nat.le_of_ble_eq_true rfl) ⟨(Nat.le_of_ble_eq_true rfl), (Nat.le_of_ble_eq_true rfl)⟩ dX8_setQuorum_2 (ax_out hM hT (Nat.le_of_ble_eq_true rfl) (Nat.le_of_ble_eq_true rfl) hq)
  refine aw_cv1 (pc := 2) (n := 1) (As := [.int p0]) (st := []) (b := 0) (vo := none) (c2 := 1) (s2 := 6) hM (k_X8_requireComponent h1) rfl cw_X8_137 sk_0 rfl rfl (by decide +kernel) rfl rfl ⟨(Nat.le_of_ble_eq_true rfl), (Nat.le_of_ble_eq_true rfl)⟩ (Nat.le_of_ble_eq_true rfl) ⟨(Nat.le_of_ble_eq_true rfl), (Nat.le_of_ble_eq_true rfl)⟩ dX8_setQuorum_2 rfl rfl ?_
  refine aw_iload_n (pc := 5) (i := 2) (x := p1) hM dX8_setQuorum_5 rfl rfl ?_
  refine aw_iconst (pc := 6) (v := 0) hM dX8_setQuorum_6 (by decide) ?_
  refine aw_iconst (pc := 7) (v := 5) hM dX8_setQuorum_7 (by decide) ?_
  rcases tbW_some h with ⟨u5, h4, h⟩ | ⟨E6, h4, rfl⟩
  rotate_left
  · exact aw_csX (pc := 8) (n := 3) (As := [.int p1, .int 0, .int 5]) (st := []) (E := E6) hM (k_X8_requireRange h4) rfl cw_X8_63 (by decide +kernel) rfl rfl ⟨(Nat.le_of_ble_eq_true rfl), (Nat.le_of_ble_eq_true rfl)⟩ (Nat.le_of_ble_eq_true rfl) ⟨(Nat.le_of_ble_eq_true rfl), (Nat.le_of_ble_eq_true rfl)⟩ dX8_setQuorum_8 (ax_out hM hT (Nat.le_of_ble_eq_true rfl) (Nat.le_of_ble_eq_true rfl) hq)
  refine aw_cs1 (pc := 8) (n := 3) (As := [.int p1, .int 0, .int 5]) (st := []) (vo := none) (c2 := 2) (s2 := 12) hM (k_X8_requireRange h4) rfl cw_X8_63 (by decide +kernel) rfl rfl ⟨(Nat.le_of_ble_eq_true rfl), (Nat.le_of_ble_eq_true rfl)⟩ (Nat.le_of_ble_eq_true rfl) ⟨(Nat.le_of_ble_eq_true rfl), (Nat.le_of_ble_eq_true rfl)⟩ dX8_setQuorum_8 rfl rfl ?_
  refine aw_aload_n (pc := 11) (i := 0) (x := 0) hM dX8_setQuorum_11 rfl rfl ?_
  refine aw_getR (pc := 12) (r := 32) hM fd_X8_51 sk_0 rfl dX8_setQuorum_12 ?_
  refine aw_aload_n (pc := 15) (i := 0) (x := 0) hM dX8_setQuorum_15 rfl rfl ?_
  refine aw_getR (pc := 16) (r := 16) hM fd_X8_41 sk_0 rfl dX8_setQuorum_16 ?_
  obtain ⟨F8, h7, h⟩ := bind_some h
  refine aw_cv1 (pc := 19) (n := 1) (As := [.ref 16]) (st := []) (b := 32) (vo := none) (c2 := 2) (s2 := 12) hM (k_X2_remember is_16 h7) rfl cw_X8_167 sk_32 rfl rfl (by decide +kernel) rfl rfl ⟨(Nat.le_of_ble_eq_true rfl), (Nat.le_of_ble_eq_true rfl)⟩ (Nat.le_of_ble_eq_true rfl) ⟨(Nat.le_of_ble_eq_true rfl), (Nat.le_of_ble_eq_true rfl)⟩ dX8_setQuorum_19 rfl rfl ?_
  refine aw_aload_n (pc := 22) (i := 0) (x := 0) hM dX8_setQuorum_22 rfl rfl ?_
  refine aw_getR (pc := 23) (r := 16) hM fd_X8_41 sk_0 rfl dX8_setQuorum_23 ?_
  refine aw_getR (pc := 26) (r := 22) hM fd_X8_164 sk_16 rfl dX8_setQuorum_26 ?_
  refine aw_iload_n (pc := 29) (i := 1) (x := p0) hM dX8_setQuorum_29 rfl rfl ?_
  obtain ⟨c9, h⟩ := ite_some h
  refine aw_iald (pc := 30) hM sk_22 c9 dX8_setQuorum_30 ?_
  obtain ⟨y10, e11, h⟩ := bind_some h
  have e11 := Option.some.inj e11
  refine aw_topi e11 ?_
  refine aw_istore_n (pc := 31) (i := 3) (L' := [some (.ref 0), some (.int p0), some (.int p1), some (.int y10)]) hM dX8_setQuorum_31 rfl (by decide) rfl ?_
  refine aw_aload_n (pc := 32) (i := 0) (x := 0) hM dX8_setQuorum_32 rfl rfl ?_
  refine aw_getR (pc := 33) (r := 16) hM fd_X8_41 sk_0 rfl dX8_setQuorum_33 ?_
  refine aw_getR (pc := 36) (r := 22) hM fd_X8_164 sk_16 rfl dX8_setQuorum_36 ?_
  refine aw_iload_n (pc := 39) (i := 1) (x := p0) hM dX8_setQuorum_39 rfl rfl ?_
  refine aw_iload_n (pc := 40) (i := 2) (x := p1) hM dX8_setQuorum_40 rfl rfl ?_
  obtain ⟨c12, h⟩ := ite_some h
  obtain ⟨F13, e14, h⟩ := bind_some h
  have e14 := Option.some.inj e14
  refine aw_iast (pc := 41) hM sk_22 c12 dX8_setQuorum_41 ?_
  refine aw_mem e14 ?_
  refine aw_iload_n (pc := 42) (i := 3) (x := y10) hM dX8_setQuorum_42 rfl rfl ?_
  obtain rfl := Option.some.inj h
  exact aw_iret (pc := 43) hM dX8_setQuorum_43 (Nat.le_of_ble_eq_true rfl) (Nat.le_of_ble_eq_true rfl) hq
def rmX8_simulate : Room := { frames := 7, cells := 1, slots := 6, locals := 113 }
def s_X8_simulate_b24 : Nat → MM → Int32 → Int64 → Int32 → Option ((Int32 ⊕ String) × MM)
  | 0, _, _, _, _ => none
  | n + 1, F, x3, x4, x6 => if x3 ≤ x6 then (s_X5_driftedNodes F 24).bind (fun r8 => (s_J6_bitCount_0f7a4 F r8).bind (fun r10 => some (.inl (((F 24 9) - (F 16 9)) + (1000 * r10)), F))) else (some ((x4 * 6364136223846793005) + 1442695040888963407 : Int64)).bind (fun y11 => (s_X5_disturb F 24 (Int64.toInt32 (((Int64.toUInt64 y11) >>> ((Int32.toInt64 33).toUInt64 &&& Int64.toUInt64 63)).toInt64))).bind (fun F14 => (s_X5_passTicks F14 24 1).bind (fun F16 => (some (x6 + 1 : Int32)).bind (fun y17 => s_X8_simulate_b24 n F16 x3 y11 y17))))
def s_X8_simulate (F : MM) (p0 : Int64) (p1 : Int32) : Option ((Int32 ⊕ String) × MM) := tbW F (s_X8_requireRange F p1 1 60) (fun u2 => (s_X5_copy F 24 16).bind (fun F5 => s_X8_simulate_b24 fu_ F5 p1 p0 0))
set_option maxRecDepth 20000 in
theorem k_X8_simulate_b24 {C : CX} {M : MX} {G : GG} {Q : OUT → MM → GG → Prop} {r : ((Int32 ⊕ String) × MM)} (hM : MOk C RX8 cX8_simulate 7 (some .int) rmX8_simulate M) (hT : MNoT M) (hq : Q (oI r.1) r.2 G) : ∀ (n : Nat) (F : MM) (x3 : Int32) (x4 : Int64) (x6 : Int32), s_X8_simulate_b24 n F x3 x4 x6 = some r → AW C 7 (ZM C rmX8_simulate Q M) M 1 6 24 [some (.ref 0), none, none, some (.int x3), some (.long x4), none, some (.int x6)] [] F G := by
  intro n
  induction n with
  | zero => intro F x3 x4 x6 h; exact nomatch h
  | succ n ih =>
    intro F x3 x4 x6 h
    rw [s_X8_simulate_b24] at h
    refine aw_iload (pc := 24) (i := 6) (x := x6) hM dX8_simulate_24  rfl ?_
    refine aw_iload_n (pc := 26) (i := 3) (x := x3) hM dX8_simulate_26 rfl rfl ?_
    refine aw_icmp_ge (pc := 27) (tgt := 69) hM dX8_simulate_27 (by decide) (fun c6 => ?_) (fun c6 => ?_)
    · rw [if_pos c6] at h
      refine aw_aload_n (pc := 69) (i := 0) (x := 0) hM dX8_simulate_69 rfl rfl ?_
      refine aw_getR (pc := 70) (r := 24) hM fd_X8_45 sk_0 rfl dX8_simulate_70 ?_
      refine aw_getI (pc := 73) hM fd_X8_117 sk_24 rfl dX8_simulate_73 ?_
      refine aw_aload_n (pc := 76) (i := 0) (x := 0) hM dX8_simulate_76 rfl rfl ?_
      refine aw_getR (pc := 77) (r := 16) hM fd_X8_41 sk_0 rfl dX8_simulate_77 ?_
      refine aw_getI (pc := 80) hM fd_X8_117 sk_16 rfl dX8_simulate_80 ?_
      refine aw_isub (pc := 83) hM dX8_simulate_83 ?_
      refine aw_sipush (pc := 84) (v := 1000) hM dX8_simulate_84 (by decide) ?_
      refine aw_aload_n (pc := 87) (i := 0) (x := 0) hM dX8_simulate_87 rfl rfl ?_
      refine aw_getR (pc := 88) (r := 24) hM fd_X8_45 sk_0 rfl dX8_simulate_88 ?_
      obtain ⟨r8, h7, h⟩ := bind_some h
      refine aw_cv1 (pc := 91) (n := 0) (As := []) (st := [.int 1000, .int ((F 24 9) - (F 16 9))]) (b := 24) (vo := (some (.int r8))) (c2 := 1) (s2 := 6) hM (k_X5_driftedNodes is_24 h7) rfl cw_X8_230 sk_24 rfl rfl (by decide +kernel) rfl rfl ⟨(Nat.le_of_ble_eq_true rfl), (Nat.le_of_ble_eq_true rfl)⟩ (Nat.le_of_ble_eq_true rfl) ⟨(Nat.le_of_ble_eq_true rfl), (Nat.le_of_ble_eq_true rfl)⟩ dX8_simulate_91 rfl rfl ?_
      obtain ⟨r10, h9, h⟩ := bind_some h
      refine aw_cs1 (pc := 94) (n := 1) (As := [.int r8]) (st := [.int 1000, .int ((F 24 9) - (F 16 9))]) (vo := (some (.int r10))) (c2 := 1) (s2 := 6) hM (k_J6_bitCount_0f7a4 h9) rfl cw_X8_183 (by decide +kernel) rfl rfl ⟨(Nat.le_of_ble_eq_true rfl), (Nat.le_of_ble_eq_true rfl)⟩ (Nat.le_of_ble_eq_true rfl) ⟨(Nat.le_of_ble_eq_true rfl), (Nat.le_of_ble_eq_true rfl)⟩ dX8_simulate_94 rfl rfl ?_
      refine aw_imul (pc := 97) hM dX8_simulate_97 ?_
      refine aw_iadd (pc := 98) hM dX8_simulate_98 ?_
      obtain rfl := Option.some.inj h
      exact aw_iret (pc := 99) hM dX8_simulate_99 (Nat.le_of_ble_eq_true rfl) (Nat.le_of_ble_eq_true rfl) hq
    · rw [if_neg c6] at h
      refine aw_lload (pc := 30) (i := 4) (x := x4) hM dX8_simulate_30  rfl ?_
      refine aw_ldc2 (pc := 32) hM gw_988 dX8_simulate_32 ?_
      refine aw_lmul (pc := 35) hM dX8_simulate_35 ?_
      refine aw_ldc2 (pc := 36) hM gw_989 dX8_simulate_36 ?_
      refine aw_ladd (pc := 39) hM dX8_simulate_39 ?_
      obtain ⟨y11, e12, h⟩ := bind_some h
      have e12 := Option.some.inj e12
      refine aw_topl e12 ?_
      refine aw_lstore (pc := 40) (i := 4) (L' := [some (.ref 0), none, none, some (.int x3), some (.long y11), none, some (.int x6)]) hM dX8_simulate_40  (by decide) rfl ?_
      refine aw_aload_n (pc := 42) (i := 0) (x := 0) hM dX8_simulate_42 rfl rfl ?_
      refine aw_getR (pc := 43) (r := 24) hM fd_X8_45 sk_0 rfl dX8_simulate_43 ?_
      refine aw_lload (pc := 46) (i := 4) (x := y11) hM dX8_simulate_46  rfl ?_
      refine aw_bipush (pc := 48) (v := 33) hM dX8_simulate_48 (by decide) ?_
      refine aw_lushr (pc := 50) hM dX8_simulate_50 ?_
      refine aw_l2i (pc := 51) hM dX8_simulate_51 ?_
      obtain ⟨F14, h13, h⟩ := bind_some h
      refine aw_cv1 (pc := 52) (n := 1) (As := [.int (Int64.toInt32 (((Int64.toUInt64 y11) >>> ((Int32.toInt64 33).toUInt64 &&& Int64.toUInt64 63)).toInt64))]) (st := []) (b := 24) (vo := none) (c2 := 1) (s2 := 6) hM (k_X5_disturb is_24 h13) rfl cw_X8_268 sk_24 rfl rfl (by decide +kernel) rfl rfl ⟨(Nat.le_of_ble_eq_true rfl), (Nat.le_of_ble_eq_true rfl)⟩ (Nat.le_of_ble_eq_true rfl) ⟨(Nat.le_of_ble_eq_true rfl), (Nat.le_of_ble_eq_true rfl)⟩ dX8_simulate_52 rfl rfl ?_
      refine aw_aload_n (pc := 55) (i := 0) (x := 0) hM dX8_simulate_55 rfl rfl ?_
      refine aw_getR (pc := 56) (r := 24) hM fd_X8_45 sk_0 rfl dX8_simulate_56 ?_
      refine aw_iconst (pc := 59) (v := 1) hM dX8_simulate_59 (by decide) ?_
      obtain ⟨F16, h15, h⟩ := bind_some h
      refine aw_cv1 (pc := 60) (n := 1) (As := [.int 1]) (st := []) (b := 24) (vo := none) (c2 := 1) (s2 := 6) hM (k_X5_passTicks is_24 h15) rfl cw_X8_203 sk_24 rfl rfl (by decide +kernel) rfl rfl ⟨(Nat.le_of_ble_eq_true rfl), (Nat.le_of_ble_eq_true rfl)⟩ (Nat.le_of_ble_eq_true rfl) ⟨(Nat.le_of_ble_eq_true rfl), (Nat.le_of_ble_eq_true rfl)⟩ dX8_simulate_60 rfl rfl ?_
      obtain ⟨y17, e18, h⟩ := bind_some h
      have e18 := Option.some.inj e18
      refine aw_iinc (pc := 63) (v := y17) (L' := [some (.ref 0), none, none, some (.int x3), some (.long y11), none, some (.int y17)]) hM dX8_simulate_63 rfl e18 (by decide) rfl ?_
      refine aw_goto (pc := 66) (tgt := 24) hM dX8_simulate_66 (by decide) ?_
      exact ih F16 x3 y11 y17 h
set_option maxRecDepth 20000 in
theorem k_X8_simulate {C : CX} {F : MM} {G : GG} {p0 : Int64} {p1 : Int32} {r : ((Int32 ⊕ String) × MM)} (h : s_X8_simulate F p0 p1 = some r) : AM C yX8_simulate cX8_simulate 7 (some .int) rmX8_simulate [.ref 0, .long p0, .int p1] F G (fun o F9 G9 => o = (oI r.1) ∧ F9 = r.2 ∧ G9 = G) := by
  refine am_of (L := [some (.ref 0), some (.long p0), none, some (.int p1), none, none, none]) (by decide) (Nat.le_of_ble_eq_true rfl) rfl (fun M hM hT => ?_)
  have hM : MOk C RX8 cX8_simulate 7 (some .int) rmX8_simulate M := hM
  obtain ⟨Q, hQ⟩ : ∃ Q : OUT → MM → GG → Prop, Q = (fun o F9 G9 => o = (oI r.1) ∧ F9 = r.2 ∧ G9 = G) := ⟨_, rfl⟩
  have hq : Q (oI r.1) r.2 G := by rw [hQ]; exact ⟨rfl, rfl, rfl⟩
  rw [← hQ]
  clear hQ
  rw [s_X8_simulate] at h
  refine aw_iload_n (pc := 0) (i := 3) (x := p1) hM dX8_simulate_0 rfl rfl ?_
  refine aw_iconst (pc := 1) (v := 1) hM dX8_simulate_1 (by decide) ?_
  refine aw_bipush (pc := 2) (v := 60) hM dX8_simulate_2 (by decide) ?_
  rcases tbW_some h with ⟨u2, h1, h⟩ | ⟨E3, h1, rfl⟩
  rotate_left
  · exact aw_csX (pc := 4) (n := 3) (As := [.int p1, .int 1, .int 60]) (st := []) (E := E3) hM (k_X8_requireRange h1) rfl cw_X8_63 (by decide +kernel) rfl rfl ⟨(Nat.le_of_ble_eq_true rfl), (Nat.le_of_ble_eq_true rfl)⟩ (Nat.le_of_ble_eq_true rfl) ⟨(Nat.le_of_ble_eq_true rfl), (Nat.le_of_ble_eq_true rfl)⟩ dX8_simulate_4 (ax_out hM hT (Nat.le_of_ble_eq_true rfl) (Nat.le_of_ble_eq_true rfl) hq)
  refine aw_cs1 (pc := 4) (n := 3) (As := [.int p1, .int 1, .int 60]) (st := []) (vo := none) (c2 := 1) (s2 := 6) hM (k_X8_requireRange h1) rfl cw_X8_63 (by decide +kernel) rfl rfl ⟨(Nat.le_of_ble_eq_true rfl), (Nat.le_of_ble_eq_true rfl)⟩ (Nat.le_of_ble_eq_true rfl) ⟨(Nat.le_of_ble_eq_true rfl), (Nat.le_of_ble_eq_true rfl)⟩ dX8_simulate_4 rfl rfl ?_
  refine aw_aload_n (pc := 7) (i := 0) (x := 0) hM dX8_simulate_7 rfl rfl ?_
  refine aw_getR (pc := 8) (r := 24) hM fd_X8_45 sk_0 rfl dX8_simulate_8 ?_
  refine aw_aload_n (pc := 11) (i := 0) (x := 0) hM dX8_simulate_11 rfl rfl ?_
  refine aw_getR (pc := 12) (r := 16) hM fd_X8_41 sk_0 rfl dX8_simulate_12 ?_
  obtain ⟨F5, h4, h⟩ := bind_some h
  refine aw_cv1 (pc := 15) (n := 1) (As := [.ref 16]) (st := []) (b := 24) (vo := none) (c2 := 1) (s2 := 6) hM (k_X5_copy is_24 is_16 h4) rfl cw_X8_227 sk_24 rfl rfl (by decide +kernel) rfl rfl ⟨(Nat.le_of_ble_eq_true rfl), (Nat.le_of_ble_eq_true rfl)⟩ (Nat.le_of_ble_eq_true rfl) ⟨(Nat.le_of_ble_eq_true rfl), (Nat.le_of_ble_eq_true rfl)⟩ dX8_simulate_15 rfl rfl ?_
  refine aw_lload_n (pc := 18) (i := 1) (x := p0) hM dX8_simulate_18 rfl rfl ?_
  refine aw_lstore (pc := 19) (i := 4) (L' := [some (.ref 0), some (.long p0), none, some (.int p1), some (.long p0), none, none]) hM dX8_simulate_19  (by decide) rfl ?_
  refine aw_iconst (pc := 21) (v := 0) hM dX8_simulate_21 (by decide) ?_
  refine aw_istore (pc := 22) (i := 6) (L' := [some (.ref 0), some (.long p0), none, some (.int p1), some (.long p0), none, some (.int 0)]) hM dX8_simulate_22  (by decide) rfl ?_
  refine aw_weak (L' := [some (.ref 0), none, none, some (.int p1), some (.long p0), none, some (.int 0)]) ?_ (lw_of [true, false, true, true, true, true, true] rfl)
  exact k_X8_simulate_b24 hM hT hq fu_ F5 p1 p0 0 h
def rmX8_state : Room := { frames := 7, cells := 2, slots := 12, locals := 103 }
def s_X8_state (F : MM) (p0 : Int32) (p1 : Int32) : Option (Int32 ⊕ String) := tbR (s_X8_requireNode F p0) (fun u2 => tbR (s_X8_requireComponent F p1) (fun u5 => (s_X5_stateOf F 16 p0 p1).bind (fun r8 => some (.inl r8))))
set_option maxRecDepth 20000 in
theorem k_X8_state {C : CX} {F : MM} {G : GG} {p0 : Int32} {p1 : Int32} {r : (Int32 ⊕ String)} (h : s_X8_state F p0 p1 = some r) : AM C yX8_state cX8_state 3 (some .int) rmX8_state [.ref 0, .int p0, .int p1] F G (fun o F9 G9 => o = (oI r) ∧ F9 = F ∧ G9 = G) := by
  refine am_of (L := [some (.ref 0), some (.int p0), some (.int p1)]) (by decide) (Nat.le_of_ble_eq_true rfl) rfl (fun M hM hT => ?_)
  have hM : MOk C RX8 cX8_state 3 (some .int) rmX8_state M := hM
  obtain ⟨Q, hQ⟩ : ∃ Q : OUT → MM → GG → Prop, Q = (fun o F9 G9 => o = (oI r) ∧ F9 = F ∧ G9 = G) := ⟨_, rfl⟩
  have hq : Q (oI r) F G := by rw [hQ]; exact ⟨rfl, rfl, rfl⟩
  rw [← hQ]
  clear hQ
  rw [s_X8_state] at h
  refine aw_aload_n (pc := 0) (i := 0) (x := 0) hM dX8_state_0 rfl rfl ?_
  refine aw_iload_n (pc := 1) (i := 1) (x := p0) hM dX8_state_1 rfl rfl ?_
  rcases tbR_some h with ⟨u2, h1, h⟩ | ⟨E3, h1, rfl⟩
  rotate_left
  · exact aw_cvX (pc := 2) (n := 1) (As := [.int p0]) (st := []) (b := 0) (E := E3) hM (k_X8_requireNode h1) rfl cw_X8_129 sk_0 rfl rfl (by decide +kernel) rfl rfl ⟨(Nat.le_of_ble_eq_true rfl), (Nat.le_of_ble_eq_true rfl)⟩ (Nat.le_of_ble_eq_true rfl) ⟨(Nat.le_of_ble_eq_true rfl), (Nat.le_of_ble_eq_true rfl)⟩ dX8_state_2 (ax_out hM hT (Nat.le_of_ble_eq_true rfl) (Nat.le_of_ble_eq_true rfl) hq)
  refine aw_cv1 (pc := 2) (n := 1) (As := [.int p0]) (st := []) (b := 0) (vo := none) (c2 := 1) (s2 := 6) hM (k_X8_requireNode h1) rfl cw_X8_129 sk_0 rfl rfl (by decide +kernel) rfl rfl ⟨(Nat.le_of_ble_eq_true rfl), (Nat.le_of_ble_eq_true rfl)⟩ (Nat.le_of_ble_eq_true rfl) ⟨(Nat.le_of_ble_eq_true rfl), (Nat.le_of_ble_eq_true rfl)⟩ dX8_state_2 rfl rfl ?_
  refine aw_aload_n (pc := 5) (i := 0) (x := 0) hM dX8_state_5 rfl rfl ?_
  refine aw_iload_n (pc := 6) (i := 2) (x := p1) hM dX8_state_6 rfl rfl ?_
  rcases tbR_some h with ⟨u5, h4, h⟩ | ⟨E6, h4, rfl⟩
  rotate_left
  · exact aw_cvX (pc := 7) (n := 1) (As := [.int p1]) (st := []) (b := 0) (E := E6) hM (k_X8_requireComponent h4) rfl cw_X8_137 sk_0 rfl rfl (by decide +kernel) rfl rfl ⟨(Nat.le_of_ble_eq_true rfl), (Nat.le_of_ble_eq_true rfl)⟩ (Nat.le_of_ble_eq_true rfl) ⟨(Nat.le_of_ble_eq_true rfl), (Nat.le_of_ble_eq_true rfl)⟩ dX8_state_7 (ax_out hM hT (Nat.le_of_ble_eq_true rfl) (Nat.le_of_ble_eq_true rfl) hq)
  refine aw_cv1 (pc := 7) (n := 1) (As := [.int p1]) (st := []) (b := 0) (vo := none) (c2 := 2) (s2 := 12) hM (k_X8_requireComponent h4) rfl cw_X8_137 sk_0 rfl rfl (by decide +kernel) rfl rfl ⟨(Nat.le_of_ble_eq_true rfl), (Nat.le_of_ble_eq_true rfl)⟩ (Nat.le_of_ble_eq_true rfl) ⟨(Nat.le_of_ble_eq_true rfl), (Nat.le_of_ble_eq_true rfl)⟩ dX8_state_7 rfl rfl ?_
  refine aw_aload_n (pc := 10) (i := 0) (x := 0) hM dX8_state_10 rfl rfl ?_
  refine aw_getR (pc := 11) (r := 16) hM fd_X8_41 sk_0 rfl dX8_state_11 ?_
  refine aw_iload_n (pc := 14) (i := 1) (x := p0) hM dX8_state_14 rfl rfl ?_
  refine aw_iload_n (pc := 15) (i := 2) (x := p1) hM dX8_state_15 rfl rfl ?_
  obtain ⟨r8, h7, h⟩ := bind_some h
  refine aw_cv1 (pc := 16) (n := 2) (As := [.int p0, .int p1]) (st := []) (b := 16) (vo := (some (.int r8))) (c2 := 2) (s2 := 12) hM (k_X5_stateOf is_16 h7) rfl cw_X8_212 sk_16 rfl rfl (by decide +kernel) rfl rfl ⟨(Nat.le_of_ble_eq_true rfl), (Nat.le_of_ble_eq_true rfl)⟩ (Nat.le_of_ble_eq_true rfl) ⟨(Nat.le_of_ble_eq_true rfl), (Nat.le_of_ble_eq_true rfl)⟩ dX8_state_16 rfl rfl ?_
  obtain rfl := Option.some.inj h
  exact aw_iret (pc := 19) hM dX8_state_19 (Nat.le_of_ble_eq_true rfl) (Nat.le_of_ble_eq_true rfl) hq
def rmX8_step : Room := { frames := 7, cells := 2, slots := 12, locals := 103 }
def s_X8_step (F : MM) (p0 : Int32) (p1 : Int32) : Option ((Int32 ⊕ String) × MM) := tbW F (s_X8_requireNode F p0) (fun u2 => if 0 ≤ p1 then if inb p0 5 then (if inb p0 5 then ((s_X7_changeOfBest F (F 17 (ix p0)) (F 18 (ix p0)) p1).bind (fun z9 => some (.inl z9.1, z9.2))) else none) else none else some (.inr ex_iae, F))
set_option maxRecDepth 20000 in
theorem k_X8_step {C : CX} {F : MM} {G : GG} {p0 : Int32} {p1 : Int32} {r : ((Int32 ⊕ String) × MM)} (h : s_X8_step F p0 p1 = some r) : AM C yX8_step cX8_step 3 (some .int) rmX8_step [.ref 0, .int p0, .int p1] F G (fun o F9 G9 => o = (oI r.1) ∧ F9 = r.2 ∧ G9 = G) := by
  refine am_of (L := [some (.ref 0), some (.int p0), some (.int p1)]) (by decide) (Nat.le_of_ble_eq_true rfl) rfl (fun M hM hT => ?_)
  have hM : MOk C RX8 cX8_step 3 (some .int) rmX8_step M := hM
  obtain ⟨Q, hQ⟩ : ∃ Q : OUT → MM → GG → Prop, Q = (fun o F9 G9 => o = (oI r.1) ∧ F9 = r.2 ∧ G9 = G) := ⟨_, rfl⟩
  have hq : Q (oI r.1) r.2 G := by rw [hQ]; exact ⟨rfl, rfl, rfl⟩
  rw [← hQ]
  clear hQ
  rw [s_X8_step] at h
  refine aw_aload_n (pc := 0) (i := 0) (x := 0) hM dX8_step_0 rfl rfl ?_
  refine aw_iload_n (pc := 1) (i := 1) (x := p0) hM dX8_step_1 rfl rfl ?_
  rcases tbW_some h with ⟨u2, h1, h⟩ | ⟨E3, h1, rfl⟩
  rotate_left
  · exact aw_cvX (pc := 2) (n := 1) (As := [.int p0]) (st := []) (b := 0) (E := E3) hM (k_X8_requireNode h1) rfl cw_X8_129 sk_0 rfl rfl (by decide +kernel) rfl rfl ⟨(Nat.le_of_ble_eq_true rfl), (Nat.le_of_ble_eq_true rfl)⟩ (Nat.le_of_ble_eq_true rfl) ⟨(Nat.le_of_ble_eq_true rfl), (Nat.le_of_ble_eq_true rfl)⟩ dX8_step_2 (ax_out hM hT (Nat.le_of_ble_eq_true rfl) (Nat.le_of_ble_eq_true rfl) hq)
  refine aw_cv1 (pc := 2) (n := 1) (As := [.int p0]) (st := []) (b := 0) (vo := none) (c2 := 1) (s2 := 6) hM (k_X8_requireNode h1) rfl cw_X8_129 sk_0 rfl rfl (by decide +kernel) rfl rfl ⟨(Nat.le_of_ble_eq_true rfl), (Nat.le_of_ble_eq_true rfl)⟩ (Nat.le_of_ble_eq_true rfl) ⟨(Nat.le_of_ble_eq_true rfl), (Nat.le_of_ble_eq_true rfl)⟩ dX8_step_2 rfl rfl ?_
  refine aw_iload_n (pc := 5) (i := 2) (x := p1) hM dX8_step_5 rfl rfl ?_
  refine aw_if_ge (pc := 6) (tgt := 19) hM dX8_step_6 (by decide) (fun c4 => ?_) (fun c4 => ?_)
  · rw [if_pos c4] at h
    refine aw_aload_n (pc := 19) (i := 0) (x := 0) hM dX8_step_19 rfl rfl ?_
    refine aw_getR (pc := 20) (r := 13) hM fd_X8_34 sk_0 rfl dX8_step_20 ?_
    refine aw_aload_n (pc := 23) (i := 0) (x := 0) hM dX8_step_23 rfl rfl ?_
    refine aw_getR (pc := 24) (r := 16) hM fd_X8_41 sk_0 rfl dX8_step_24 ?_
    refine aw_getR (pc := 27) (r := 17) hM fd_X8_144 sk_16 rfl dX8_step_27 ?_
    refine aw_iload_n (pc := 30) (i := 1) (x := p0) hM dX8_step_30 rfl rfl ?_
    obtain ⟨c5, h⟩ := ite_some h
    refine aw_iald (pc := 31) hM sk_17 c5 dX8_step_31 ?_
    refine aw_aload_n (pc := 32) (i := 0) (x := 0) hM dX8_step_32 rfl rfl ?_
    refine aw_getR (pc := 33) (r := 16) hM fd_X8_41 sk_0 rfl dX8_step_33 ?_
    refine aw_getR (pc := 36) (r := 18) hM fd_X8_140 sk_16 rfl dX8_step_36 ?_
    refine aw_iload_n (pc := 39) (i := 1) (x := p0) hM dX8_step_39 rfl rfl ?_
    obtain ⟨c6, h⟩ := ite_some h
    refine aw_iald (pc := 40) hM sk_18 c6 dX8_step_40 ?_
    refine aw_iload_n (pc := 41) (i := 2) (x := p1) hM dX8_step_41 rfl rfl ?_
    obtain ⟨z9, h7, h⟩ := bind_some h
    refine aw_cv1 (pc := 42) (n := 3) (As := [.int (F 17 (ix p0)), .int (F 18 (ix p0)), .int p1]) (st := []) (b := 13) (vo := (some (.int z9.1))) (c2 := 1) (s2 := 6) hM (k_X7_changeOfBest h7) rfl cw_X8_238 sk_13 rfl rfl (by decide +kernel) rfl rfl ⟨(Nat.le_of_ble_eq_true rfl), (Nat.le_of_ble_eq_true rfl)⟩ (Nat.le_of_ble_eq_true rfl) ⟨(Nat.le_of_ble_eq_true rfl), (Nat.le_of_ble_eq_true rfl)⟩ dX8_step_42 rfl rfl ?_
    obtain rfl := Option.some.inj h
    exact aw_iret (pc := 45) hM dX8_step_45 (Nat.le_of_ble_eq_true rfl) (Nat.le_of_ble_eq_true rfl) hq
  · rw [if_neg c4] at h
    obtain rfl := Option.some.inj h
    exact aw_throwS (pc := 9) hM hT tr_X8_124_236_128 dX8_step_9 dX8_step_12 dX8_step_13 dX8_step_15 dX8_step_18 (Nat.le_of_ble_eq_true rfl) (Nat.le_of_ble_eq_true rfl) (Nat.le_of_ble_eq_true rfl) (Nat.le_of_ble_eq_true rfl) (Nat.le_of_ble_eq_true rfl) (Nat.le_of_ble_eq_true rfl) hq
def rmX8_tick : Room := { frames := 7, cells := 1, slots := 6, locals := 113 }
def s_X8_tick (F : MM) (p0 : Int32) : Option ((Int32 ⊕ String) × MM) := tbW F (s_X8_requireRange F p0 1 50) (fun u2 => (s_X2_remember F 16).bind (fun F5 => (some (F5 16 9 : Int32)).bind (fun y6 => (s_X5_passTicks F5 16 p0).bind (fun F9 => some (.inl ((F9 16 9) - y6), F9)))))
set_option maxRecDepth 20000 in
theorem k_X8_tick {C : CX} {F : MM} {G : GG} {p0 : Int32} {r : ((Int32 ⊕ String) × MM)} (h : s_X8_tick F p0 = some r) : AM C yX8_tick cX8_tick 3 (some .int) rmX8_tick [.ref 0, .int p0] F G (fun o F9 G9 => o = (oI r.1) ∧ F9 = r.2 ∧ G9 = G) := by
  refine am_of (L := [some (.ref 0), some (.int p0), none]) (by decide) (Nat.le_of_ble_eq_true rfl) rfl (fun M hM hT => ?_)
  have hM : MOk C RX8 cX8_tick 3 (some .int) rmX8_tick M := hM
  obtain ⟨Q, hQ⟩ : ∃ Q : OUT → MM → GG → Prop, Q = (fun o F9 G9 => o = (oI r.1) ∧ F9 = r.2 ∧ G9 = G) := ⟨_, rfl⟩
  have hq : Q (oI r.1) r.2 G := by rw [hQ]; exact ⟨rfl, rfl, rfl⟩
  rw [← hQ]
  clear hQ
  rw [s_X8_tick] at h
  refine aw_iload_n (pc := 0) (i := 1) (x := p0) hM dX8_tick_0 rfl rfl ?_
  refine aw_iconst (pc := 1) (v := 1) hM dX8_tick_1 (by decide) ?_
  refine aw_bipush (pc := 2) (v := 50) hM dX8_tick_2 (by decide) ?_
  rcases tbW_some h with ⟨u2, h1, h⟩ | ⟨E3, h1, rfl⟩
  rotate_left
  · exact aw_csX (pc := 4) (n := 3) (As := [.int p0, .int 1, .int 50]) (st := []) (E := E3) hM (k_X8_requireRange h1) rfl cw_X8_63 (by decide +kernel) rfl rfl ⟨(Nat.le_of_ble_eq_true rfl), (Nat.le_of_ble_eq_true rfl)⟩ (Nat.le_of_ble_eq_true rfl) ⟨(Nat.le_of_ble_eq_true rfl), (Nat.le_of_ble_eq_true rfl)⟩ dX8_tick_4 (ax_out hM hT (Nat.le_of_ble_eq_true rfl) (Nat.le_of_ble_eq_true rfl) hq)
  refine aw_cs1 (pc := 4) (n := 3) (As := [.int p0, .int 1, .int 50]) (st := []) (vo := none) (c2 := 1) (s2 := 6) hM (k_X8_requireRange h1) rfl cw_X8_63 (by decide +kernel) rfl rfl ⟨(Nat.le_of_ble_eq_true rfl), (Nat.le_of_ble_eq_true rfl)⟩ (Nat.le_of_ble_eq_true rfl) ⟨(Nat.le_of_ble_eq_true rfl), (Nat.le_of_ble_eq_true rfl)⟩ dX8_tick_4 rfl rfl ?_
  refine aw_aload_n (pc := 7) (i := 0) (x := 0) hM dX8_tick_7 rfl rfl ?_
  refine aw_getR (pc := 8) (r := 32) hM fd_X8_51 sk_0 rfl dX8_tick_8 ?_
  refine aw_aload_n (pc := 11) (i := 0) (x := 0) hM dX8_tick_11 rfl rfl ?_
  refine aw_getR (pc := 12) (r := 16) hM fd_X8_41 sk_0 rfl dX8_tick_12 ?_
  obtain ⟨F5, h4, h⟩ := bind_some h
  refine aw_cv1 (pc := 15) (n := 1) (As := [.ref 16]) (st := []) (b := 32) (vo := none) (c2 := 1) (s2 := 6) hM (k_X2_remember is_16 h4) rfl cw_X8_167 sk_32 rfl rfl (by decide +kernel) rfl rfl ⟨(Nat.le_of_ble_eq_true rfl), (Nat.le_of_ble_eq_true rfl)⟩ (Nat.le_of_ble_eq_true rfl) ⟨(Nat.le_of_ble_eq_true rfl), (Nat.le_of_ble_eq_true rfl)⟩ dX8_tick_15 rfl rfl ?_
  refine aw_aload_n (pc := 18) (i := 0) (x := 0) hM dX8_tick_18 rfl rfl ?_
  refine aw_getR (pc := 19) (r := 16) hM fd_X8_41 sk_0 rfl dX8_tick_19 ?_
  refine aw_getI (pc := 22) hM fd_X8_117 sk_16 rfl dX8_tick_22 ?_
  obtain ⟨y6, e7, h⟩ := bind_some h
  have e7 := Option.some.inj e7
  refine aw_topi e7 ?_
  refine aw_istore_n (pc := 25) (i := 2) (L' := [some (.ref 0), some (.int p0), some (.int y6)]) hM dX8_tick_25 rfl (by decide) rfl ?_
  refine aw_aload_n (pc := 26) (i := 0) (x := 0) hM dX8_tick_26 rfl rfl ?_
  refine aw_getR (pc := 27) (r := 16) hM fd_X8_41 sk_0 rfl dX8_tick_27 ?_
  refine aw_iload_n (pc := 30) (i := 1) (x := p0) hM dX8_tick_30 rfl rfl ?_
  obtain ⟨F9, h8, h⟩ := bind_some h
  refine aw_cv1 (pc := 31) (n := 1) (As := [.int p0]) (st := []) (b := 16) (vo := none) (c2 := 1) (s2 := 6) hM (k_X5_passTicks is_16 h8) rfl cw_X8_203 sk_16 rfl rfl (by decide +kernel) rfl rfl ⟨(Nat.le_of_ble_eq_true rfl), (Nat.le_of_ble_eq_true rfl)⟩ (Nat.le_of_ble_eq_true rfl) ⟨(Nat.le_of_ble_eq_true rfl), (Nat.le_of_ble_eq_true rfl)⟩ dX8_tick_31 rfl rfl ?_
  refine aw_aload_n (pc := 34) (i := 0) (x := 0) hM dX8_tick_34 rfl rfl ?_
  refine aw_getR (pc := 35) (r := 16) hM fd_X8_41 sk_0 rfl dX8_tick_35 ?_
  refine aw_getI (pc := 38) hM fd_X8_117 sk_16 rfl dX8_tick_38 ?_
  refine aw_iload_n (pc := 41) (i := 2) (x := y6) hM dX8_tick_41 rfl rfl ?_
  refine aw_isub (pc := 42) hM dX8_tick_42 ?_
  obtain rfl := Option.some.inj h
  exact aw_iret (pc := 43) hM dX8_tick_43 (Nat.le_of_ble_eq_true rfl) (Nat.le_of_ble_eq_true rfl) hq
def rmX8_undo : Room := { frames := 6, cells := 1, slots := 6, locals := 82 }
def s_X8_undo (F : MM) : Option ((Int32 ⊕ String) × MM) := if (F 32 2) = 0 then some (.inr ex_ise, F) else (s_X2_takeBack F 16).bind (fun F3 => some (.inl (F3 32 2), F3))
set_option maxRecDepth 20000 in
theorem k_X8_undo {C : CX} {F : MM} {G : GG} {r : ((Int32 ⊕ String) × MM)} (h : s_X8_undo F = some r) : AM C yX8_undo cX8_undo 1 (some .int) rmX8_undo [.ref 0] F G (fun o F9 G9 => o = (oI r.1) ∧ F9 = r.2 ∧ G9 = G) := by
  refine am_of (L := [some (.ref 0)]) (by decide) (Nat.le_of_ble_eq_true rfl) rfl (fun M hM hT => ?_)
  have hM : MOk C RX8 cX8_undo 1 (some .int) rmX8_undo M := hM
  obtain ⟨Q, hQ⟩ : ∃ Q : OUT → MM → GG → Prop, Q = (fun o F9 G9 => o = (oI r.1) ∧ F9 = r.2 ∧ G9 = G) := ⟨_, rfl⟩
  have hq : Q (oI r.1) r.2 G := by rw [hQ]; exact ⟨rfl, rfl, rfl⟩
  rw [← hQ]
  clear hQ
  rw [s_X8_undo] at h
  refine aw_aload_n (pc := 0) (i := 0) (x := 0) hM dX8_undo_0 rfl rfl ?_
  refine aw_getR (pc := 1) (r := 32) hM fd_X8_51 sk_0 rfl dX8_undo_1 ?_
  refine aw_getI (pc := 4) hM fd_X8_206 sk_32 rfl dX8_undo_4 ?_
  refine aw_if_ne (pc := 7) (tgt := 20) hM dX8_undo_7 (by decide) (fun c1 => ?_) (fun c1 => ?_)
  · rw [if_neg c1] at h
    refine aw_aload_n (pc := 20) (i := 0) (x := 0) hM dX8_undo_20 rfl rfl ?_
    refine aw_getR (pc := 21) (r := 32) hM fd_X8_51 sk_0 rfl dX8_undo_21 ?_
    refine aw_aload_n (pc := 24) (i := 0) (x := 0) hM dX8_undo_24 rfl rfl ?_
    refine aw_getR (pc := 25) (r := 16) hM fd_X8_41 sk_0 rfl dX8_undo_25 ?_
    obtain ⟨F3, h2, h⟩ := bind_some h
    refine aw_cv1 (pc := 28) (n := 1) (As := [.ref 16]) (st := []) (b := 32) (vo := none) (c2 := 0) (s2 := 0) hM (k_X2_takeBack is_16 h2) rfl cw_X8_209 sk_32 rfl rfl (by decide +kernel) rfl rfl ⟨(Nat.le_of_ble_eq_true rfl), (Nat.le_of_ble_eq_true rfl)⟩ (Nat.le_of_ble_eq_true rfl) ⟨(Nat.le_of_ble_eq_true rfl), (Nat.le_of_ble_eq_true rfl)⟩ dX8_undo_28 rfl rfl ?_
    refine aw_aload_n (pc := 31) (i := 0) (x := 0) hM dX8_undo_31 rfl rfl ?_
    refine aw_getR (pc := 32) (r := 32) hM fd_X8_51 sk_0 rfl dX8_undo_32 ?_
    refine aw_getI (pc := 35) hM fd_X8_206 sk_32 rfl dX8_undo_35 ?_
    obtain rfl := Option.some.inj h
    exact aw_iret (pc := 38) hM dX8_undo_38 (Nat.le_of_ble_eq_true rfl) (Nat.le_of_ble_eq_true rfl) hq
  · rw [if_pos c1] at h
    obtain rfl := Option.some.inj h
    exact aw_throwS (pc := 10) hM hT tr_X8_71_207_75 dX8_undo_10 dX8_undo_13 dX8_undo_14 dX8_undo_16 dX8_undo_19 (Nat.le_of_ble_eq_true rfl) (Nat.le_of_ble_eq_true rfl) (Nat.le_of_ble_eq_true rfl) (Nat.le_of_ble_eq_true rfl) (Nat.le_of_ble_eq_true rfl) (Nat.le_of_ble_eq_true rfl) hq
def rmX8_version : Room := { frames := 7, cells := 2, slots := 12, locals := 103 }
def s_X8_version (F : MM) (p0 : Int32) (p1 : Int32) (p2 : Int32) : Option (Int32 ⊕ String) := tbR (s_X8_requireNode F p0) (fun u2 => tbR (s_X8_requireComponent F p1) (fun u5 => if p2 = 0 then if inb p0 5 then ((s_X0_versionIn F (F 17 (ix p0)) p1).bind (fun r10 => some (.inl r10))) else none else if inb p0 5 then ((s_X0_versionIn F (F 18 (ix p0)) p1).bind (fun r13 => some (.inl r13))) else none))
set_option maxRecDepth 20000 in
theorem k_X8_version {C : CX} {F : MM} {G : GG} {p0 : Int32} {p1 : Int32} {p2 : Int32} {r : (Int32 ⊕ String)} (h : s_X8_version F p0 p1 p2 = some r) : AM C yX8_version cX8_version 4 (some .int) rmX8_version [.ref 0, .int p0, .int p1, .int p2] F G (fun o F9 G9 => o = (oI r) ∧ F9 = F ∧ G9 = G) := by
  refine am_of (L := [some (.ref 0), some (.int p0), some (.int p1), some (.int p2)]) (by decide) (Nat.le_of_ble_eq_true rfl) rfl (fun M hM hT => ?_)
  have hM : MOk C RX8 cX8_version 4 (some .int) rmX8_version M := hM
  obtain ⟨Q, hQ⟩ : ∃ Q : OUT → MM → GG → Prop, Q = (fun o F9 G9 => o = (oI r) ∧ F9 = F ∧ G9 = G) := ⟨_, rfl⟩
  have hq : Q (oI r) F G := by rw [hQ]; exact ⟨rfl, rfl, rfl⟩
  rw [← hQ]
  clear hQ
  rw [s_X8_version] at h
  refine aw_aload_n (pc := 0) (i := 0) (x := 0) hM dX8_version_0 rfl rfl ?_
  refine aw_iload_n (pc := 1) (i := 1) (x := p0) hM dX8_version_1 rfl rfl ?_
  rcases tbR_some h with ⟨u2, h1, h⟩ | ⟨E3, h1, rfl⟩
  rotate_left
  · exact aw_cvX (pc := 2) (n := 1) (As := [.int p0]) (st := []) (b := 0) (E := E3) hM (k_X8_requireNode h1) rfl cw_X8_129 sk_0 rfl rfl (by decide +kernel) rfl rfl ⟨(Nat.le_of_ble_eq_true rfl), (Nat.le_of_ble_eq_true rfl)⟩ (Nat.le_of_ble_eq_true rfl) ⟨(Nat.le_of_ble_eq_true rfl), (Nat.le_of_ble_eq_true rfl)⟩ dX8_version_2 (ax_out hM hT (Nat.le_of_ble_eq_true rfl) (Nat.le_of_ble_eq_true rfl) hq)
  refine aw_cv1 (pc := 2) (n := 1) (As := [.int p0]) (st := []) (b := 0) (vo := none) (c2 := 1) (s2 := 6) hM (k_X8_requireNode h1) rfl cw_X8_129 sk_0 rfl rfl (by decide +kernel) rfl rfl ⟨(Nat.le_of_ble_eq_true rfl), (Nat.le_of_ble_eq_true rfl)⟩ (Nat.le_of_ble_eq_true rfl) ⟨(Nat.le_of_ble_eq_true rfl), (Nat.le_of_ble_eq_true rfl)⟩ dX8_version_2 rfl rfl ?_
  refine aw_aload_n (pc := 5) (i := 0) (x := 0) hM dX8_version_5 rfl rfl ?_
  refine aw_iload_n (pc := 6) (i := 2) (x := p1) hM dX8_version_6 rfl rfl ?_
  rcases tbR_some h with ⟨u5, h4, h⟩ | ⟨E6, h4, rfl⟩
  rotate_left
  · exact aw_cvX (pc := 7) (n := 1) (As := [.int p1]) (st := []) (b := 0) (E := E6) hM (k_X8_requireComponent h4) rfl cw_X8_137 sk_0 rfl rfl (by decide +kernel) rfl rfl ⟨(Nat.le_of_ble_eq_true rfl), (Nat.le_of_ble_eq_true rfl)⟩ (Nat.le_of_ble_eq_true rfl) ⟨(Nat.le_of_ble_eq_true rfl), (Nat.le_of_ble_eq_true rfl)⟩ dX8_version_7 (ax_out hM hT (Nat.le_of_ble_eq_true rfl) (Nat.le_of_ble_eq_true rfl) hq)
  refine aw_cv1 (pc := 7) (n := 1) (As := [.int p1]) (st := []) (b := 0) (vo := none) (c2 := 2) (s2 := 12) hM (k_X8_requireComponent h4) rfl cw_X8_137 sk_0 rfl rfl (by decide +kernel) rfl rfl ⟨(Nat.le_of_ble_eq_true rfl), (Nat.le_of_ble_eq_true rfl)⟩ (Nat.le_of_ble_eq_true rfl) ⟨(Nat.le_of_ble_eq_true rfl), (Nat.le_of_ble_eq_true rfl)⟩ dX8_version_7 rfl rfl ?_
  refine aw_iload_n (pc := 10) (i := 3) (x := p2) hM dX8_version_10 rfl rfl ?_
  refine aw_if_eq (pc := 11) (tgt := 26) hM dX8_version_11 (by decide) (fun c7 => ?_) (fun c7 => ?_)
  · rw [if_pos c7] at h
    refine aw_aload_n (pc := 26) (i := 0) (x := 0) hM dX8_version_26 rfl rfl ?_
    refine aw_getR (pc := 27) (r := 16) hM fd_X8_41 sk_0 rfl dX8_version_27 ?_
    refine aw_getR (pc := 30) (r := 17) hM fd_X8_144 sk_16 rfl dX8_version_30 ?_
    refine aw_iload_n (pc := 33) (i := 1) (x := p0) hM dX8_version_33 rfl rfl ?_
    obtain ⟨c8, h⟩ := ite_some h
    refine aw_iald (pc := 34) hM sk_17 c8 dX8_version_34 ?_
    refine aw_iload_n (pc := 35) (i := 2) (x := p1) hM dX8_version_35 rfl rfl ?_
    obtain ⟨r10, h9, h⟩ := bind_some h
    refine aw_cs1 (pc := 36) (n := 2) (As := [.int (F 17 (ix p0)), .int p1]) (st := []) (vo := (some (.int r10))) (c2 := 2) (s2 := 12) hM (k_X0_versionIn h9) rfl cw_X8_147 (by decide +kernel) rfl rfl ⟨(Nat.le_of_ble_eq_true rfl), (Nat.le_of_ble_eq_true rfl)⟩ (Nat.le_of_ble_eq_true rfl) ⟨(Nat.le_of_ble_eq_true rfl), (Nat.le_of_ble_eq_true rfl)⟩ dX8_version_36 rfl rfl ?_
    obtain rfl := Option.some.inj h
    exact aw_iret (pc := 39) hM dX8_version_39 (Nat.le_of_ble_eq_true rfl) (Nat.le_of_ble_eq_true rfl) hq
  · rw [if_neg c7] at h
    refine aw_aload_n (pc := 14) (i := 0) (x := 0) hM dX8_version_14 rfl rfl ?_
    refine aw_getR (pc := 15) (r := 16) hM fd_X8_41 sk_0 rfl dX8_version_15 ?_
    refine aw_getR (pc := 18) (r := 18) hM fd_X8_140 sk_16 rfl dX8_version_18 ?_
    refine aw_iload_n (pc := 21) (i := 1) (x := p0) hM dX8_version_21 rfl rfl ?_
    obtain ⟨c11, h⟩ := ite_some h
    refine aw_iald (pc := 22) hM sk_18 c11 dX8_version_22 ?_
    refine aw_goto (pc := 23) (tgt := 35) hM dX8_version_23 (by decide) ?_
    refine aw_iload_n (pc := 35) (i := 2) (x := p1) hM dX8_version_35 rfl rfl ?_
    obtain ⟨r13, h12, h⟩ := bind_some h
    refine aw_cs1 (pc := 36) (n := 2) (As := [.int (F 18 (ix p0)), .int p1]) (st := []) (vo := (some (.int r13))) (c2 := 2) (s2 := 12) hM (k_X0_versionIn h12) rfl cw_X8_147 (by decide +kernel) rfl rfl ⟨(Nat.le_of_ble_eq_true rfl), (Nat.le_of_ble_eq_true rfl)⟩ (Nat.le_of_ble_eq_true rfl) ⟨(Nat.le_of_ble_eq_true rfl), (Nat.le_of_ble_eq_true rfl)⟩ dX8_version_36 rfl rfl ?_
    obtain rfl := Option.some.inj h
    exact aw_iret (pc := 39) hM dX8_version_39 (Nat.le_of_ble_eq_true rfl) (Nat.le_of_ble_eq_true rfl) hq
def rmX8_wish : Room := { frames := 7, cells := 3, slots := 18, locals := 104 }
def s_X8_wish (F : MM) (p0 : Int32) (p1 : Int32) (p2 : Int32) : Option ((Int32 ⊕ String) × MM) := tbW F (s_X8_requireNode F p0) (fun u2 => tbW F (s_X8_requireComponent F p1) (fun u5 => tbW F (s_X8_requireRange F p2 0 3) (fun u8 => (s_X2_remember F 16).bind (fun F11 => if inb p0 5 then ((s_X0_versionIn F11 (F11 18 (ix p0)) p1).bind (fun r14 => if inb p0 5 then ((s_X0_with F11 (F11 18 (ix p0)) p1 p2).bind (fun r17 => if inb p0 5 then ((some (mup F11 18 (ix p0) r17)).bind (fun F19 => some (.inl r14, F19))) else none)) else none)) else none))))
set_option maxRecDepth 20000 in
theorem k_X8_wish {C : CX} {F : MM} {G : GG} {p0 : Int32} {p1 : Int32} {p2 : Int32} {r : ((Int32 ⊕ String) × MM)} (h : s_X8_wish F p0 p1 p2 = some r) : AM C yX8_wish cX8_wish 5 (some .int) rmX8_wish [.ref 0, .int p0, .int p1, .int p2] F G (fun o F9 G9 => o = (oI r.1) ∧ F9 = r.2 ∧ G9 = G) := by
  refine am_of (L := [some (.ref 0), some (.int p0), some (.int p1), some (.int p2), none]) (by decide) (Nat.le_of_ble_eq_true rfl) rfl (fun M hM hT => ?_)
  have hM : MOk C RX8 cX8_wish 5 (some .int) rmX8_wish M := hM
  obtain ⟨Q, hQ⟩ : ∃ Q : OUT → MM → GG → Prop, Q = (fun o F9 G9 => o = (oI r.1) ∧ F9 = r.2 ∧ G9 = G) := ⟨_, rfl⟩
  have hq : Q (oI r.1) r.2 G := by rw [hQ]; exact ⟨rfl, rfl, rfl⟩
  rw [← hQ]
  clear hQ
  rw [s_X8_wish] at h
  refine aw_aload_n (pc := 0) (i := 0) (x := 0) hM dX8_wish_0 rfl rfl ?_
  refine aw_iload_n (pc := 1) (i := 1) (x := p0) hM dX8_wish_1 rfl rfl ?_
  rcases tbW_some h with ⟨u2, h1, h⟩ | ⟨E3, h1, rfl⟩
  rotate_left
  · exact aw_cvX (pc := 2) (n := 1) (As := [.int p0]) (st := []) (b := 0) (E := E3) hM (k_X8_requireNode h1) rfl cw_X8_129 sk_0 rfl rfl (by decide +kernel) rfl rfl ⟨(Nat.le_of_ble_eq_true rfl), (Nat.le_of_ble_eq_true rfl)⟩ (Nat.le_of_ble_eq_true rfl) ⟨(Nat.le_of_ble_eq_true rfl), (Nat.le_of_ble_eq_true rfl)⟩ dX8_wish_2 (ax_out hM hT (Nat.le_of_ble_eq_true rfl) (Nat.le_of_ble_eq_true rfl) hq)
  refine aw_cv1 (pc := 2) (n := 1) (As := [.int p0]) (st := []) (b := 0) (vo := none) (c2 := 1) (s2 := 6) hM (k_X8_requireNode h1) rfl cw_X8_129 sk_0 rfl rfl (by decide +kernel) rfl rfl ⟨(Nat.le_of_ble_eq_true rfl), (Nat.le_of_ble_eq_true rfl)⟩ (Nat.le_of_ble_eq_true rfl) ⟨(Nat.le_of_ble_eq_true rfl), (Nat.le_of_ble_eq_true rfl)⟩ dX8_wish_2 rfl rfl ?_
  refine aw_aload_n (pc := 5) (i := 0) (x := 0) hM dX8_wish_5 rfl rfl ?_
  refine aw_iload_n (pc := 6) (i := 2) (x := p1) hM dX8_wish_6 rfl rfl ?_
  rcases tbW_some h with ⟨u5, h4, h⟩ | ⟨E6, h4, rfl⟩
  rotate_left
  · exact aw_cvX (pc := 7) (n := 1) (As := [.int p1]) (st := []) (b := 0) (E := E6) hM (k_X8_requireComponent h4) rfl cw_X8_137 sk_0 rfl rfl (by decide +kernel) rfl rfl ⟨(Nat.le_of_ble_eq_true rfl), (Nat.le_of_ble_eq_true rfl)⟩ (Nat.le_of_ble_eq_true rfl) ⟨(Nat.le_of_ble_eq_true rfl), (Nat.le_of_ble_eq_true rfl)⟩ dX8_wish_7 (ax_out hM hT (Nat.le_of_ble_eq_true rfl) (Nat.le_of_ble_eq_true rfl) hq)
  refine aw_cv1 (pc := 7) (n := 1) (As := [.int p1]) (st := []) (b := 0) (vo := none) (c2 := 2) (s2 := 12) hM (k_X8_requireComponent h4) rfl cw_X8_137 sk_0 rfl rfl (by decide +kernel) rfl rfl ⟨(Nat.le_of_ble_eq_true rfl), (Nat.le_of_ble_eq_true rfl)⟩ (Nat.le_of_ble_eq_true rfl) ⟨(Nat.le_of_ble_eq_true rfl), (Nat.le_of_ble_eq_true rfl)⟩ dX8_wish_7 rfl rfl ?_
  refine aw_iload_n (pc := 10) (i := 3) (x := p2) hM dX8_wish_10 rfl rfl ?_
  refine aw_iconst (pc := 11) (v := 0) hM dX8_wish_11 (by decide) ?_
  refine aw_iconst (pc := 12) (v := 3) hM dX8_wish_12 (by decide) ?_
  rcases tbW_some h with ⟨u8, h7, h⟩ | ⟨E9, h7, rfl⟩
  rotate_left
  · exact aw_csX (pc := 13) (n := 3) (As := [.int p2, .int 0, .int 3]) (st := []) (E := E9) hM (k_X8_requireRange h7) rfl cw_X8_63 (by decide +kernel) rfl rfl ⟨(Nat.le_of_ble_eq_true rfl), (Nat.le_of_ble_eq_true rfl)⟩ (Nat.le_of_ble_eq_true rfl) ⟨(Nat.le_of_ble_eq_true rfl), (Nat.le_of_ble_eq_true rfl)⟩ dX8_wish_13 (ax_out hM hT (Nat.le_of_ble_eq_true rfl) (Nat.le_of_ble_eq_true rfl) hq)
  refine aw_cs1 (pc := 13) (n := 3) (As := [.int p2, .int 0, .int 3]) (st := []) (vo := none) (c2 := 3) (s2 := 18) hM (k_X8_requireRange h7) rfl cw_X8_63 (by decide +kernel) rfl rfl ⟨(Nat.le_of_ble_eq_true rfl), (Nat.le_of_ble_eq_true rfl)⟩ (Nat.le_of_ble_eq_true rfl) ⟨(Nat.le_of_ble_eq_true rfl), (Nat.le_of_ble_eq_true rfl)⟩ dX8_wish_13 rfl rfl ?_
  refine aw_aload_n (pc := 16) (i := 0) (x := 0) hM dX8_wish_16 rfl rfl ?_
  refine aw_getR (pc := 17) (r := 32) hM fd_X8_51 sk_0 rfl dX8_wish_17 ?_
  refine aw_aload_n (pc := 20) (i := 0) (x := 0) hM dX8_wish_20 rfl rfl ?_
  refine aw_getR (pc := 21) (r := 16) hM fd_X8_41 sk_0 rfl dX8_wish_21 ?_
  obtain ⟨F11, h10, h⟩ := bind_some h
  refine aw_cv1 (pc := 24) (n := 1) (As := [.ref 16]) (st := []) (b := 32) (vo := none) (c2 := 3) (s2 := 18) hM (k_X2_remember is_16 h10) rfl cw_X8_167 sk_32 rfl rfl (by decide +kernel) rfl rfl ⟨(Nat.le_of_ble_eq_true rfl), (Nat.le_of_ble_eq_true rfl)⟩ (Nat.le_of_ble_eq_true rfl) ⟨(Nat.le_of_ble_eq_true rfl), (Nat.le_of_ble_eq_true rfl)⟩ dX8_wish_24 rfl rfl ?_
  refine aw_aload_n (pc := 27) (i := 0) (x := 0) hM dX8_wish_27 rfl rfl ?_
  refine aw_getR (pc := 28) (r := 16) hM fd_X8_41 sk_0 rfl dX8_wish_28 ?_
  refine aw_getR (pc := 31) (r := 18) hM fd_X8_140 sk_16 rfl dX8_wish_31 ?_
  refine aw_iload_n (pc := 34) (i := 1) (x := p0) hM dX8_wish_34 rfl rfl ?_
  obtain ⟨c12, h⟩ := ite_some h
  refine aw_iald (pc := 35) hM sk_18 c12 dX8_wish_35 ?_
  refine aw_iload_n (pc := 36) (i := 2) (x := p1) hM dX8_wish_36 rfl rfl ?_
  obtain ⟨r14, h13, h⟩ := bind_some h
  refine aw_cs1 (pc := 37) (n := 2) (As := [.int (F11 18 (ix p0)), .int p1]) (st := []) (vo := (some (.int r14))) (c2 := 3) (s2 := 18) hM (k_X0_versionIn h13) rfl cw_X8_147 (by decide +kernel) rfl rfl ⟨(Nat.le_of_ble_eq_true rfl), (Nat.le_of_ble_eq_true rfl)⟩ (Nat.le_of_ble_eq_true rfl) ⟨(Nat.le_of_ble_eq_true rfl), (Nat.le_of_ble_eq_true rfl)⟩ dX8_wish_37 rfl rfl ?_
  refine aw_istore (pc := 40) (i := 4) (L' := [some (.ref 0), some (.int p0), some (.int p1), some (.int p2), some (.int r14)]) hM dX8_wish_40  (by decide) rfl ?_
  refine aw_aload_n (pc := 42) (i := 0) (x := 0) hM dX8_wish_42 rfl rfl ?_
  refine aw_getR (pc := 43) (r := 16) hM fd_X8_41 sk_0 rfl dX8_wish_43 ?_
  refine aw_getR (pc := 46) (r := 18) hM fd_X8_140 sk_16 rfl dX8_wish_46 ?_
  refine aw_iload_n (pc := 49) (i := 1) (x := p0) hM dX8_wish_49 rfl rfl ?_
  refine aw_aload_n (pc := 50) (i := 0) (x := 0) hM dX8_wish_50 rfl rfl ?_
  refine aw_getR (pc := 51) (r := 16) hM fd_X8_41 sk_0 rfl dX8_wish_51 ?_
  refine aw_getR (pc := 54) (r := 18) hM fd_X8_140 sk_16 rfl dX8_wish_54 ?_
  refine aw_iload_n (pc := 57) (i := 1) (x := p0) hM dX8_wish_57 rfl rfl ?_
  obtain ⟨c15, h⟩ := ite_some h
  refine aw_iald (pc := 58) hM sk_18 c15 dX8_wish_58 ?_
  refine aw_iload_n (pc := 59) (i := 2) (x := p1) hM dX8_wish_59 rfl rfl ?_
  refine aw_iload_n (pc := 60) (i := 3) (x := p2) hM dX8_wish_60 rfl rfl ?_
  obtain ⟨r17, h16, h⟩ := bind_some h
  refine aw_cs1 (pc := 61) (n := 3) (As := [.int (F11 18 (ix p0)), .int p1, .int p2]) (st := [.int p0, .ref 18]) (vo := (some (.int r17))) (c2 := 3) (s2 := 18) hM (k_X0_with h16) rfl cw_X8_171 (by decide +kernel) rfl rfl ⟨(Nat.le_of_ble_eq_true rfl), (Nat.le_of_ble_eq_true rfl)⟩ (Nat.le_of_ble_eq_true rfl) ⟨(Nat.le_of_ble_eq_true rfl), (Nat.le_of_ble_eq_true rfl)⟩ dX8_wish_61 rfl rfl ?_
  obtain ⟨c18, h⟩ := ite_some h
  obtain ⟨F19, e20, h⟩ := bind_some h
  have e20 := Option.some.inj e20
  refine aw_iast (pc := 64) hM sk_18 c18 dX8_wish_64 ?_
  refine aw_mem e20 ?_
  refine aw_iload (pc := 65) (i := 4) (x := r14) hM dX8_wish_65  rfl ?_
  obtain rfl := Option.some.inj h
  exact aw_iret (pc := 67) hM dX8_wish_67 (Nat.le_of_ble_eq_true rfl) (Nat.le_of_ble_eq_true rfl) hq
def rmX8_wishRing : Room := { frames := 7, cells := 3, slots := 18, locals := 104 }
def s_X8_wishRing_b34 : Nat → MM → Int32 → Int32 → Int32 → Int32 → Int32 → Option ((Int32 ⊕ String) × MM)
  | 0, _, _, _, _, _, _ => none
  | n + 1, F, x1, x2, x3, x4, x5 => if (F 8 0) ≤ x5 then some (.inl x4, F) else if inb x5 5 then (if (F 9 (ix x5)) = x1 then if inb x5 5 then ((s_X0_with F (F 18 (ix x5)) x2 x3).bind (fun r19 => if inb x5 5 then ((some (mup F 18 (ix x5) r19)).bind (fun F21 => (some (x4 + 1 : Int32)).bind (fun y23 => (some (x5 + 1 : Int32)).bind (fun y25 => s_X8_wishRing_b34 n F21 x1 x2 x3 y23 y25)))) else none)) else none else (some (x5 + 1 : Int32)).bind (fun y15 => s_X8_wishRing_b34 n F x1 x2 x3 x4 y15)) else none
def s_X8_wishRing (F : MM) (p0 : Int32) (p1 : Int32) (p2 : Int32) : Option ((Int32 ⊕ String) × MM) := tbW F (s_X8_requireComponent F p1) (fun u2 => tbW F (s_X8_requireRange F p0 0 2) (fun u5 => tbW F (s_X8_requireRange F p2 0 3) (fun u8 => (s_X2_remember F 16).bind (fun F11 => s_X8_wishRing_b34 fu_ F11 p0 p1 p2 0 0))))
set_option maxRecDepth 20000 in
theorem k_X8_wishRing_b34 {C : CX} {M : MX} {G : GG} {Q : OUT → MM → GG → Prop} {r : ((Int32 ⊕ String) × MM)} (hM : MOk C RX8 cX8_wishRing 6 (some .int) rmX8_wishRing M) (hT : MNoT M) (hq : Q (oI r.1) r.2 G) : ∀ (n : Nat) (F : MM) (x1 : Int32) (x2 : Int32) (x3 : Int32) (x4 : Int32) (x5 : Int32), s_X8_wishRing_b34 n F x1 x2 x3 x4 x5 = some r → AW C 6 (ZM C rmX8_wishRing Q M) M 3 18 34 [some (.ref 0), some (.int x1), some (.int x2), some (.int x3), some (.int x4), some (.int x5)] [] F G := by
  intro n
  induction n with
  | zero => intro F x1 x2 x3 x4 x5 h; exact nomatch h
  | succ n ih =>
    intro F x1 x2 x3 x4 x5 h
    rw [s_X8_wishRing_b34] at h
    refine aw_iload (pc := 34) (i := 5) (x := x5) hM dX8_wishRing_34  rfl ?_
    refine aw_aload_n (pc := 36) (i := 0) (x := 0) hM dX8_wishRing_36 rfl rfl ?_
    refine aw_getR (pc := 37) (r := 8) hM fd_X8_25 sk_0 rfl dX8_wishRing_37 ?_
    refine aw_getI (pc := 40) hM fd_X8_102 sk_8 rfl dX8_wishRing_40 ?_
    refine aw_icmp_ge (pc := 43) (tgt := 94) hM dX8_wishRing_43 (by decide) (fun c12 => ?_) (fun c12 => ?_)
    · rw [if_pos c12] at h
      refine aw_iload (pc := 94) (i := 4) (x := x4) hM dX8_wishRing_94  rfl ?_
      obtain rfl := Option.some.inj h
      exact aw_iret (pc := 96) hM dX8_wishRing_96 (Nat.le_of_ble_eq_true rfl) (Nat.le_of_ble_eq_true rfl) hq
    · rw [if_neg c12] at h
      refine aw_aload_n (pc := 46) (i := 0) (x := 0) hM dX8_wishRing_46 rfl rfl ?_
      refine aw_getR (pc := 47) (r := 8) hM fd_X8_25 sk_0 rfl dX8_wishRing_47 ?_
      refine aw_getR (pc := 50) (r := 9) hM fd_X8_175 sk_8 rfl dX8_wishRing_50 ?_
      refine aw_iload (pc := 53) (i := 5) (x := x5) hM dX8_wishRing_53  rfl ?_
      obtain ⟨c13, h⟩ := ite_some h
      refine aw_iald (pc := 55) hM sk_9 c13 dX8_wishRing_55 ?_
      refine aw_iload_n (pc := 56) (i := 1) (x := x1) hM dX8_wishRing_56 rfl rfl ?_
      refine aw_icmp_ne (pc := 57) (tgt := 88) hM dX8_wishRing_57 (by decide) (fun c14 => ?_) (fun c14 => ?_)
      · rw [if_neg c14] at h
        obtain ⟨y15, e16, h⟩ := bind_some h
        have e16 := Option.some.inj e16
        refine aw_iinc (pc := 88) (v := y15) (L' := [some (.ref 0), some (.int x1), some (.int x2), some (.int x3), some (.int x4), some (.int y15)]) hM dX8_wishRing_88 rfl e16 (by decide) rfl ?_
        refine aw_goto (pc := 91) (tgt := 34) hM dX8_wishRing_91 (by decide) ?_
        exact ih F x1 x2 x3 x4 y15 h
      · rw [if_pos c14] at h
        refine aw_aload_n (pc := 60) (i := 0) (x := 0) hM dX8_wishRing_60 rfl rfl ?_
        refine aw_getR (pc := 61) (r := 16) hM fd_X8_41 sk_0 rfl dX8_wishRing_61 ?_
        refine aw_getR (pc := 64) (r := 18) hM fd_X8_140 sk_16 rfl dX8_wishRing_64 ?_
        refine aw_iload (pc := 67) (i := 5) (x := x5) hM dX8_wishRing_67  rfl ?_
        refine aw_aload_n (pc := 69) (i := 0) (x := 0) hM dX8_wishRing_69 rfl rfl ?_
        refine aw_getR (pc := 70) (r := 16) hM fd_X8_41 sk_0 rfl dX8_wishRing_70 ?_
        refine aw_getR (pc := 73) (r := 18) hM fd_X8_140 sk_16 rfl dX8_wishRing_73 ?_
        refine aw_iload (pc := 76) (i := 5) (x := x5) hM dX8_wishRing_76  rfl ?_
        obtain ⟨c17, h⟩ := ite_some h
        refine aw_iald (pc := 78) hM sk_18 c17 dX8_wishRing_78 ?_
        refine aw_iload_n (pc := 79) (i := 2) (x := x2) hM dX8_wishRing_79 rfl rfl ?_
        refine aw_iload_n (pc := 80) (i := 3) (x := x3) hM dX8_wishRing_80 rfl rfl ?_
        obtain ⟨r19, h18, h⟩ := bind_some h
        refine aw_cs1 (pc := 81) (n := 3) (As := [.int (F 18 (ix x5)), .int x2, .int x3]) (st := [.int x5, .ref 18]) (vo := (some (.int r19))) (c2 := 3) (s2 := 18) hM (k_X0_with h18) rfl cw_X8_171 (by decide +kernel) rfl rfl ⟨(Nat.le_of_ble_eq_true rfl), (Nat.le_of_ble_eq_true rfl)⟩ (Nat.le_of_ble_eq_true rfl) ⟨(Nat.le_of_ble_eq_true rfl), (Nat.le_of_ble_eq_true rfl)⟩ dX8_wishRing_81 rfl rfl ?_
        obtain ⟨c20, h⟩ := ite_some h
        obtain ⟨F21, e22, h⟩ := bind_some h
        have e22 := Option.some.inj e22
        refine aw_iast (pc := 84) hM sk_18 c20 dX8_wishRing_84 ?_
        refine aw_mem e22 ?_
        obtain ⟨y23, e24, h⟩ := bind_some h
        have e24 := Option.some.inj e24
        refine aw_iinc (pc := 85) (v := y23) (L' := [some (.ref 0), some (.int x1), some (.int x2), some (.int x3), some (.int y23), some (.int x5)]) hM dX8_wishRing_85 rfl e24 (by decide) rfl ?_
        obtain ⟨y25, e26, h⟩ := bind_some h
        have e26 := Option.some.inj e26
        refine aw_iinc (pc := 88) (v := y25) (L' := [some (.ref 0), some (.int x1), some (.int x2), some (.int x3), some (.int y23), some (.int y25)]) hM dX8_wishRing_88 rfl e26 (by decide) rfl ?_
        refine aw_goto (pc := 91) (tgt := 34) hM dX8_wishRing_91 (by decide) ?_
        exact ih F21 x1 x2 x3 y23 y25 h
set_option maxRecDepth 20000 in
theorem k_X8_wishRing {C : CX} {F : MM} {G : GG} {p0 : Int32} {p1 : Int32} {p2 : Int32} {r : ((Int32 ⊕ String) × MM)} (h : s_X8_wishRing F p0 p1 p2 = some r) : AM C yX8_wishRing cX8_wishRing 6 (some .int) rmX8_wishRing [.ref 0, .int p0, .int p1, .int p2] F G (fun o F9 G9 => o = (oI r.1) ∧ F9 = r.2 ∧ G9 = G) := by
  refine am_of (L := [some (.ref 0), some (.int p0), some (.int p1), some (.int p2), none, none]) (by decide) (Nat.le_of_ble_eq_true rfl) rfl (fun M hM hT => ?_)
  have hM : MOk C RX8 cX8_wishRing 6 (some .int) rmX8_wishRing M := hM
  obtain ⟨Q, hQ⟩ : ∃ Q : OUT → MM → GG → Prop, Q = (fun o F9 G9 => o = (oI r.1) ∧ F9 = r.2 ∧ G9 = G) := ⟨_, rfl⟩
  have hq : Q (oI r.1) r.2 G := by rw [hQ]; exact ⟨rfl, rfl, rfl⟩
  rw [← hQ]
  clear hQ
  rw [s_X8_wishRing] at h
  refine aw_aload_n (pc := 0) (i := 0) (x := 0) hM dX8_wishRing_0 rfl rfl ?_
  refine aw_iload_n (pc := 1) (i := 2) (x := p1) hM dX8_wishRing_1 rfl rfl ?_
  rcases tbW_some h with ⟨u2, h1, h⟩ | ⟨E3, h1, rfl⟩
  rotate_left
  · exact aw_cvX (pc := 2) (n := 1) (As := [.int p1]) (st := []) (b := 0) (E := E3) hM (k_X8_requireComponent h1) rfl cw_X8_137 sk_0 rfl rfl (by decide +kernel) rfl rfl ⟨(Nat.le_of_ble_eq_true rfl), (Nat.le_of_ble_eq_true rfl)⟩ (Nat.le_of_ble_eq_true rfl) ⟨(Nat.le_of_ble_eq_true rfl), (Nat.le_of_ble_eq_true rfl)⟩ dX8_wishRing_2 (ax_out hM hT (Nat.le_of_ble_eq_true rfl) (Nat.le_of_ble_eq_true rfl) hq)
  refine aw_cv1 (pc := 2) (n := 1) (As := [.int p1]) (st := []) (b := 0) (vo := none) (c2 := 1) (s2 := 6) hM (k_X8_requireComponent h1) rfl cw_X8_137 sk_0 rfl rfl (by decide +kernel) rfl rfl ⟨(Nat.le_of_ble_eq_true rfl), (Nat.le_of_ble_eq_true rfl)⟩ (Nat.le_of_ble_eq_true rfl) ⟨(Nat.le_of_ble_eq_true rfl), (Nat.le_of_ble_eq_true rfl)⟩ dX8_wishRing_2 rfl rfl ?_
  refine aw_iload_n (pc := 5) (i := 1) (x := p0) hM dX8_wishRing_5 rfl rfl ?_
  refine aw_iconst (pc := 6) (v := 0) hM dX8_wishRing_6 (by decide) ?_
  refine aw_iconst (pc := 7) (v := 2) hM dX8_wishRing_7 (by decide) ?_
  rcases tbW_some h with ⟨u5, h4, h⟩ | ⟨E6, h4, rfl⟩
  rotate_left
  · exact aw_csX (pc := 8) (n := 3) (As := [.int p0, .int 0, .int 2]) (st := []) (E := E6) hM (k_X8_requireRange h4) rfl cw_X8_63 (by decide +kernel) rfl rfl ⟨(Nat.le_of_ble_eq_true rfl), (Nat.le_of_ble_eq_true rfl)⟩ (Nat.le_of_ble_eq_true rfl) ⟨(Nat.le_of_ble_eq_true rfl), (Nat.le_of_ble_eq_true rfl)⟩ dX8_wishRing_8 (ax_out hM hT (Nat.le_of_ble_eq_true rfl) (Nat.le_of_ble_eq_true rfl) hq)
  refine aw_cs1 (pc := 8) (n := 3) (As := [.int p0, .int 0, .int 2]) (st := []) (vo := none) (c2 := 2) (s2 := 12) hM (k_X8_requireRange h4) rfl cw_X8_63 (by decide +kernel) rfl rfl ⟨(Nat.le_of_ble_eq_true rfl), (Nat.le_of_ble_eq_true rfl)⟩ (Nat.le_of_ble_eq_true rfl) ⟨(Nat.le_of_ble_eq_true rfl), (Nat.le_of_ble_eq_true rfl)⟩ dX8_wishRing_8 rfl rfl ?_
  refine aw_iload_n (pc := 11) (i := 3) (x := p2) hM dX8_wishRing_11 rfl rfl ?_
  refine aw_iconst (pc := 12) (v := 0) hM dX8_wishRing_12 (by decide) ?_
  refine aw_iconst (pc := 13) (v := 3) hM dX8_wishRing_13 (by decide) ?_
  rcases tbW_some h with ⟨u8, h7, h⟩ | ⟨E9, h7, rfl⟩
  rotate_left
  · exact aw_csX (pc := 14) (n := 3) (As := [.int p2, .int 0, .int 3]) (st := []) (E := E9) hM (k_X8_requireRange h7) rfl cw_X8_63 (by decide +kernel) rfl rfl ⟨(Nat.le_of_ble_eq_true rfl), (Nat.le_of_ble_eq_true rfl)⟩ (Nat.le_of_ble_eq_true rfl) ⟨(Nat.le_of_ble_eq_true rfl), (Nat.le_of_ble_eq_true rfl)⟩ dX8_wishRing_14 (ax_out hM hT (Nat.le_of_ble_eq_true rfl) (Nat.le_of_ble_eq_true rfl) hq)
  refine aw_cs1 (pc := 14) (n := 3) (As := [.int p2, .int 0, .int 3]) (st := []) (vo := none) (c2 := 3) (s2 := 18) hM (k_X8_requireRange h7) rfl cw_X8_63 (by decide +kernel) rfl rfl ⟨(Nat.le_of_ble_eq_true rfl), (Nat.le_of_ble_eq_true rfl)⟩ (Nat.le_of_ble_eq_true rfl) ⟨(Nat.le_of_ble_eq_true rfl), (Nat.le_of_ble_eq_true rfl)⟩ dX8_wishRing_14 rfl rfl ?_
  refine aw_aload_n (pc := 17) (i := 0) (x := 0) hM dX8_wishRing_17 rfl rfl ?_
  refine aw_getR (pc := 18) (r := 32) hM fd_X8_51 sk_0 rfl dX8_wishRing_18 ?_
  refine aw_aload_n (pc := 21) (i := 0) (x := 0) hM dX8_wishRing_21 rfl rfl ?_
  refine aw_getR (pc := 22) (r := 16) hM fd_X8_41 sk_0 rfl dX8_wishRing_22 ?_
  obtain ⟨F11, h10, h⟩ := bind_some h
  refine aw_cv1 (pc := 25) (n := 1) (As := [.ref 16]) (st := []) (b := 32) (vo := none) (c2 := 3) (s2 := 18) hM (k_X2_remember is_16 h10) rfl cw_X8_167 sk_32 rfl rfl (by decide +kernel) rfl rfl ⟨(Nat.le_of_ble_eq_true rfl), (Nat.le_of_ble_eq_true rfl)⟩ (Nat.le_of_ble_eq_true rfl) ⟨(Nat.le_of_ble_eq_true rfl), (Nat.le_of_ble_eq_true rfl)⟩ dX8_wishRing_25 rfl rfl ?_
  refine aw_iconst (pc := 28) (v := 0) hM dX8_wishRing_28 (by decide) ?_
  refine aw_istore (pc := 29) (i := 4) (L' := [some (.ref 0), some (.int p0), some (.int p1), some (.int p2), some (.int 0), none]) hM dX8_wishRing_29  (by decide) rfl ?_
  refine aw_iconst (pc := 31) (v := 0) hM dX8_wishRing_31 (by decide) ?_
  refine aw_istore (pc := 32) (i := 5) (L' := [some (.ref 0), some (.int p0), some (.int p1), some (.int p2), some (.int 0), some (.int 0)]) hM dX8_wishRing_32  (by decide) rfl ?_
  exact k_X8_wishRing_b34 hM hT hq fu_ F11 p0 p1 p2 0 0 h
