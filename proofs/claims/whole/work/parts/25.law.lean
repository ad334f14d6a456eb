/-! THE CLAIM OUT OF ONE WALK OF THE LAW'S BODY. Your part is whole_start (and what it stands on); all else here is the same for every law, but numbers. -/
def R_law : String := "DesiredStateKeeperLaw"
def lw_P (b : Addr) (xs : List Int32) (args : Array Value) (s : State) : Prop := args = #[.ref b] ∧ s.IntsAt b xs ∧ xs.length ≤ 2048 ∧ (Jvm.Cond.and given_1 narrow_1).before args s = true
def lw_Q (_ : Array Value) (s : State) (o : Outcome) (t : State) : Prop := o = .returned (some (.int 1)) ∧ Framed s o t [] 601024 7293034
def lw_Z (below : List Frame) (a : Array Value) (s : State) : State → Prop := fun t => ∃ o, t.status = .running ∧ Ended t below o ∧ lw_Q a s o t
/-- the law's own end, with 1 on the stack, nothing written that was there before, its room as the claim has it -/
theorem lw_ret {p : Program} {l : Launch} {e : Env} {s : State} {m : MethodId} {below : List Frame} {meth : Method} {c : Code} {b : Nat} (hx : p.tables.exec = Jvm.exec) (hb : c.code = code) (hr : meth.sig.returnType = ret) (hlocks : meth.locks = false) {pc : Nat} {H : Heap} {ls : Array Slot} (hdg : decode code pc = .ok (.ireturn, 1)) : W p l e room_1 s m #[Value.ref b] below meth c H [] 601024 7293034 (lw_Z below #[Value.ref b] s) (F0 m pc ls [.int 1]) := by
  intro T hT X
  obtain ⟨fs, hret, hrun, hended, hW, hframe⟩ := X.leave (v := some (.int 1)) (hlocks := hlocks) (fun h => by rw [hr] at h; cases h)
  have hmeth' : T.vm.method? m = some meth := X.method'
  refine ⟨T.setFrames fs, ?_, .returned (some (.int 1)), hrun, hended, rfl, ⟨_, rfl⟩, hW, hframe⟩
  jvm_step X.here [X.here.top, hx, hb, hdg, hmeth', hr, ret, narrow_b1]
  (try refine ⟨rfl, ?_⟩); (try refine ⟨rfl, ?_⟩)
  first | (intro acts; rw [hret _ acts rfl rfl rfl]) | rw [hret _ _ rfl rfl rfl]
  exact Steps.refl _
/-- what holds at the law's entry: the machine, the code, the tables' words (any of lw_tbl by 'hts w (by decide +kernel)'), the script of L ints xs at the cell b, what the Statement gives of the start (any of its parts by flat_of_before) -/
def lw_At (p : Program) (s : State) (m : MethodId) (meth : Method) (c : Code) (b L : Nat) (xs : Nat → Int32) : Prop :=
  p.tables.exec = Jvm.exec ∧ c.code = code ∧ meth.sig.returnType = ret ∧ c.maxLocals = 7 ∧ s.vm.findClass R_law = some m.cls ∧ (∀ w ∈ lw_tbl, w.before #[Value.ref b] s = true) ∧ va_X b L xs s s.heap ∧ b < s.heap.size ∧ meth.locks = false ∧ (Jvm.Cond.and given_1 narrow_1).before #[Value.ref b] s = true
/-! ===== the law's loop ===== -/
def ZL : MX → State → Prop
  | (p, e, R', s, m, args, below, meth, c) => lw_Z below args s
def LawX (C : CX) (M : MX) (Len : Nat) (xs : Nat → Int32) : Prop := match M with
  | (p, e, R', s, m, args, below, meth, c) => va_X (C.2.2.1 181) Len xs s s.heap ∧ C.2.2.1 181 < s.heap.size ∧ C.2.1 = s.heap.size ∧ args = #[Value.ref (C.2.2.1 181)]
section AWS
variable {C : CX} {own : String} {cc : ByteArray} {nL : Nat} {rt : Option FieldType} {R : Room} {M : MX} {Z : State → Prop} {cells slots pc Len : Nat} {xs : Nat → Int32} {L : List (Option Value)} {st : List Value} {F : MM} {G : GG}
theorem aw_memG {G' : GG} (e : G = G') (h : AW C nL Z M cells slots pc L st F G') : AW C nL Z M cells slots pc L st F G := e ▸ h
theorem aw_sld {i : Int32} (hM : MOk C own cc nL rt R M) (hX : LawX C M Len xs) (hi : inb i Len = true) (hd : decode cc pc = .ok (.iaload, 1)) (h : AW C nL Z M cells slots (pc + 1) L (.int (xs (ix i)) :: st) F G) : AW C nL Z M cells slots pc L (.int i :: .ref 181 :: st) F G := by
  obtain ⟨p, e, R', s, m, args, below, meth, c⟩ := M
  obtain ⟨rfl, hx, hb, -⟩ := hM
  obtain ⟨h1, h2, h3, -⟩ := hX
  intro H locs ls hH hS hl
  exact va_sld hx hb h1 h2 (by show ¬ C.2.1 ≤ _; omega) hS (inb_in hi) hd (h H locs ls hH hS hl)
theorem aw_slen (hM : MOk C own cc nL rt R M) (hX : LawX C M Len xs) (hd : decode cc pc = .ok (.arraylength, 1)) (h : AW C nL Z M cells slots (pc + 1) L (.int (Int32.ofNat Len) :: st) F G) : AW C nL Z M cells slots pc L (.ref 181 :: st) F G := by
  obtain ⟨p, e, R', s, m, args, below, meth, c⟩ := M
  obtain ⟨rfl, hx, hb, -⟩ := hM
  obtain ⟨h1, h2, h3, -⟩ := hX
  intro H locs ls hH hS hl
  exact va_slen hx hb h1 h2 (by show ¬ C.2.1 ≤ _; omega) hS hd (h H locs ls hH hS hl)
theorem aw_lawret (hM : MOk C RL cL_law nL ret room_1 M) (hX : LawX C M Len xs) (hd : decode cL_law pc = .ok (.ireturn, 1)) (h1 : cells ≤ 601024) (h2 : slots ≤ 7293034) : AW C nL (ZL M) M cells slots pc L [.int 1] F G := by
  obtain ⟨p, e, R', s, m, args, below, meth, c⟩ := M
  obtain ⟨rfl, hx, hb, hml, hown, hts, hr, hlk, hK⟩ := hM
  obtain ⟨-, -, h3, rfl⟩ := hX
  intro H locs ls hH hS hl
  refine va_forget (fun q hq => by have := hS.2.2 q hq; rw [h3] at this; exact this) ?_
  refine W.widen h1 h2 ?_
  exact lw_ret hx hb hr hlk hd
end AWS
def s_L_law_b200 (Len : Nat) (xs : Nat → Int32) (k23 : MM → GG → Int32 → Option Int32) (F : MM) (G : GG) (x4 : Int32) : Option Int32 := if inb (x4 + 1) Len then ((s_X8_append F (xs (ix (x4 + 1)))).bind (fun z790 => (wcd [ex_iae, ex_ise] z790.1).bind (fun k791 => (some (gupI G z790.1 : GG)).bind (fun G794 => if inb (x4 + 1) Len then ((s_X9_append z790.2 (xs (ix (x4 + 1)))).bind (fun z799 => (s_X9_thrown z799.2).bind (fun r801 => if r801 = k791 then if k791 = 0 then if (lg_cmp (G794 (ix 0)) (Int32.toInt64 z799.1)) = 0 then (some (x4 + 4 : Int32)).bind (fun y807 => k23 z799.2 G794 y807) else some 0 else (some (x4 + 4 : Int32)).bind (fun y804 => k23 z799.2 G794 y804) else some 0))) else none)))) else none
def s_L_law_b256 (Len : Nat) (xs : Nat → Int32) (k23 : MM → GG → Int32 → Option Int32) (F : MM) (G : GG) (x4 : Int32) : Option Int32 := (s_X8_clearText F).bind (fun z782 => (s_X9_clearText z782.2).bind (fun z785 => if z782.1 = z785.1 then (some (x4 + 4 : Int32)).bind (fun y787 => k23 z785.2 G y787) else some 0))
def s_L_law_b269 (Len : Nat) (xs : Nat → Int32) (k23 : MM → GG → Int32 → Option Int32) (F : MM) (G : GG) (x4 : Int32) : Option Int32 := (s_X8_errorPosition F).bind (fun z773 => (s_X9_errorPosition z773.2).bind (fun z776 => if z773.1 = z776.1 then (some (x4 + 4 : Int32)).bind (fun y778 => k23 z776.2 G y778) else some 0))
def s_L_law_b282 (Len : Nat) (xs : Nat → Int32) (k23 : MM → GG → Int32 → Option Int32) (F : MM) (G : GG) (x4 : Int32) : Option Int32 := (s_X8_load F).bind (fun z753 => (wcd [ex_ise] z753.1).bind (fun k754 => (some (gupI G z753.1 : GG)).bind (fun G757 => (s_X9_load z753.2).bind (fun z761 => (s_X9_thrown z761.2).bind (fun r763 => if r763 = k754 then if k754 = 0 then if (lg_cmp (G757 (ix 0)) (Int32.toInt64 z761.1)) = 0 then (some (x4 + 4 : Int32)).bind (fun y769 => k23 z761.2 G757 y769) else some 0 else (some (x4 + 4 : Int32)).bind (fun y766 => k23 z761.2 G757 y766) else some 0)))))
def s_L_law_b326 (Len : Nat) (xs : Nat → Int32) (k23 : MM → GG → Int32 → Option Int32) (F : MM) (G : GG) (x4 : Int32) : Option Int32 := if inb (x4 + 1) Len then ((s_X8_about F (xs (ix (x4 + 1)))).bind (fun z734 => (wcd [ex_iae] z734).bind (fun k735 => (some (gupI G z734 : GG)).bind (fun G738 => if inb (x4 + 1) Len then ((s_X9_about F (xs (ix (x4 + 1)))).bind (fun z743 => (s_X9_thrown z743.2).bind (fun r745 => if r745 = k735 then if k735 = 0 then if (lg_cmp (G738 (ix 0)) (Int32.toInt64 z743.1)) = 0 then (some (x4 + 4 : Int32)).bind (fun y751 => k23 z743.2 G738 y751) else some 0 else (some (x4 + 4 : Int32)).bind (fun y748 => k23 z743.2 G738 y748) else some 0))) else none)))) else none
def s_L_law_b382 (Len : Nat) (xs : Nat → Int32) (k23 : MM → GG → Int32 → Option Int32) (F : MM) (G : GG) (x4 : Int32) : Option Int32 := if inb (x4 + 1) Len then (if inb (x4 + 2) Len then ((s_X8_node F (xs (ix (x4 + 1))) (xs (ix (x4 + 2)))).bind (fun z713 => (wcd [ex_ioo, ex_iae] z713).bind (fun k714 => (some (gupI G z713 : GG)).bind (fun G717 => if inb (x4 + 1) Len then (if inb (x4 + 2) Len then ((s_X9_node F (xs (ix (x4 + 1))) (xs (ix (x4 + 2)))).bind (fun z723 => (s_X9_thrown z723.2).bind (fun r725 => if r725 = k714 then if k714 = 0 then if (lg_cmp (G717 (ix 0)) (Int32.toInt64 z723.1)) = 0 then (some (x4 + 4 : Int32)).bind (fun y731 => k23 z723.2 G717 y731) else some 0 else (some (x4 + 4 : Int32)).bind (fun y728 => k23 z723.2 G717 y728) else some 0))) else none) else none)))) else none) else none
def s_L_law_b510 (Len : Nat) (xs : Nat → Int32) (k23 : MM → GG → Int32 → Option Int32) (F : MM) (G : GG) (x4 : Int32) (x5 : Int32) (t0 : Int32) (t1 : Int32) (t2 : Int32) : Option Int32 := (s_X9_version F t2 t1 t0).bind (fun z701 => (s_X9_thrown z701.2).bind (fun r703 => if r703 = x5 then if x5 = 0 then if (lg_cmp (G (ix 0)) (Int32.toInt64 z701.1)) = 0 then (some (x4 + 4 : Int32)).bind (fun y709 => k23 z701.2 G y709) else some 0 else (some (x4 + 4 : Int32)).bind (fun y706 => k23 z701.2 G y706) else some 0))
def s_L_law_b477 (Len : Nat) (xs : Nat → Int32) (k23 : MM → GG → Int32 → Option Int32) (F : MM) (G : GG) (x4 : Int32) (t0 : Int32) (t1 : Int32) (t2 : Int32) : Option Int32 := (s_X8_version F t2 t1 t0).bind (fun z689 => (wcd [ex_ioo] z689).bind (fun k690 => (some (gupI G z689 : GG)).bind (fun G693 => if inb (x4 + 1) Len then (if inb (x4 + 2) Len then (if inb (x4 + 3) Len then (if (xs (ix (x4 + 3))) = 0 then s_L_law_b510 Len xs k23 F G693 x4 k690 0 (xs (ix (x4 + 2))) (xs (ix (x4 + 1))) else s_L_law_b510 Len xs k23 F G693 x4 k690 1 (xs (ix (x4 + 2))) (xs (ix (x4 + 1)))) else none) else none) else none)))
def s_L_law_b450 (Len : Nat) (xs : Nat → Int32) (k23 : MM → GG → Int32 → Option Int32) (F : MM) (G : GG) (x4 : Int32) : Option Int32 := if inb (x4 + 1) Len then (if inb (x4 + 2) Len then (if inb (x4 + 3) Len then (if (xs (ix (x4 + 3))) = 0 then s_L_law_b477 Len xs k23 F G x4 0 (xs (ix (x4 + 2))) (xs (ix (x4 + 1))) else s_L_law_b477 Len xs k23 F G x4 1 (xs (ix (x4 + 2))) (xs (ix (x4 + 1)))) else none) else none) else none
def s_L_law_b546 (Len : Nat) (xs : Nat → Int32) (k23 : MM → GG → Int32 → Option Int32) (F : MM) (G : GG) (x4 : Int32) : Option Int32 := if inb (x4 + 1) Len then (if inb (x4 + 2) Len then ((s_X8_rule F (xs (ix (x4 + 1))) (xs (ix (x4 + 2)))).bind (fun z665 => (wcd [ex_ioo, ex_iae] z665).bind (fun k666 => (some (gupI G z665 : GG)).bind (fun G669 => if inb (x4 + 1) Len then (if inb (x4 + 2) Len then ((s_X9_rule F (xs (ix (x4 + 1))) (xs (ix (x4 + 2)))).bind (fun z675 => (s_X9_thrown z675.2).bind (fun r677 => if r677 = k666 then if k666 = 0 then if (lg_cmp (G669 (ix 0)) (Int32.toInt64 z675.1)) = 0 then (some (x4 + 4 : Int32)).bind (fun y683 => k23 z675.2 G669 y683) else some 0 else (some (x4 + 4 : Int32)).bind (fun y680 => k23 z675.2 G669 y680) else some 0))) else none) else none)))) else none) else none
def s_L_law_b614 (Len : Nat) (xs : Nat → Int32) (k23 : MM → GG → Int32 → Option Int32) (F : MM) (G : GG) (x4 : Int32) : Option Int32 := if inb (x4 + 1) Len then (if inb (x4 + 2) Len then ((s_X8_approvals F (xs (ix (x4 + 1))) (xs (ix (x4 + 2)))).bind (fun z643 => (wcd [ex_ioo, ex_iae] z643).bind (fun k644 => (some (gupI G z643 : GG)).bind (fun G647 => if inb (x4 + 1) Len then (if inb (x4 + 2) Len then ((s_X9_approvals F (xs (ix (x4 + 1))) (xs (ix (x4 + 2)))).bind (fun z653 => (s_X9_thrown z653.2).bind (fun r655 => if r655 = k644 then if k644 = 0 then if (lg_cmp (G647 (ix 0)) (Int32.toInt64 z653.1)) = 0 then (some (x4 + 4 : Int32)).bind (fun y661 => k23 z653.2 G647 y661) else some 0 else (some (x4 + 4 : Int32)).bind (fun y658 => k23 z653.2 G647 y658) else some 0))) else none) else none)))) else none) else none
def s_L_law_b682 (Len : Nat) (xs : Nat → Int32) (k23 : MM → GG → Int32 → Option Int32) (F : MM) (G : GG) (x4 : Int32) : Option Int32 := if inb (x4 + 1) Len then ((s_X8_quorum F (xs (ix (x4 + 1)))).bind (fun z622 => (wcd [ex_ioo] z622).bind (fun k623 => (some (gupI G z622 : GG)).bind (fun G626 => if inb (x4 + 1) Len then ((s_X9_quorum F (xs (ix (x4 + 1)))).bind (fun z631 => (s_X9_thrown z631.2).bind (fun r633 => if r633 = k623 then if k623 = 0 then if (lg_cmp (G626 (ix 0)) (Int32.toInt64 z631.1)) = 0 then (some (x4 + 4 : Int32)).bind (fun y639 => k23 z631.2 G626 y639) else some 0 else (some (x4 + 4 : Int32)).bind (fun y636 => k23 z631.2 G626 y636) else some 0))) else none)))) else none
def s_L_law_b738 (Len : Nat) (xs : Nat → Int32) (k23 : MM → GG → Int32 → Option Int32) (F : MM) (G : GG) (x4 : Int32) : Option Int32 := if inb (x4 + 1) Len then (if inb (x4 + 2) Len then (if inb (x4 + 3) Len then ((s_X8_wish F (xs (ix (x4 + 1))) (xs (ix (x4 + 2))) (xs (ix (x4 + 3)))).bind (fun z600 => (wcd [ex_ioo, ex_iae] z600.1).bind (fun k601 => (some (gupI G z600.1 : GG)).bind (fun G604 => if inb (x4 + 1) Len then (if inb (x4 + 2) Len then (if inb (x4 + 3) Len then ((s_X9_wish z600.2 (xs (ix (x4 + 1))) (xs (ix (x4 + 2))) (xs (ix (x4 + 3)))).bind (fun z611 => (s_X9_thrown z611.2).bind (fun r613 => if r613 = k601 then if k601 = 0 then if (lg_cmp (G604 (ix 0)) (Int32.toInt64 z611.1)) = 0 then (some (x4 + 4 : Int32)).bind (fun y619 => k23 z611.2 G604 y619) else some 0 else (some (x4 + 4 : Int32)).bind (fun y616 => k23 z611.2 G604 y616) else some 0))) else none) else none) else none)))) else none) else none) else none
def s_L_law_b818 (Len : Nat) (xs : Nat → Int32) (k23 : MM → GG → Int32 → Option Int32) (F : MM) (G : GG) (x4 : Int32) : Option Int32 := if inb (x4 + 1) Len then (if inb (x4 + 2) Len then (if inb (x4 + 3) Len then ((s_X8_wishRing F (xs (ix (x4 + 1))) (xs (ix (x4 + 2))) (xs (ix (x4 + 3)))).bind (fun z576 => (wcd [ex_ioo, ex_iae] z576.1).bind (fun k577 => (some (gupI G z576.1 : GG)).bind (fun G580 => if inb (x4 + 1) Len then (if inb (x4 + 2) Len then (if inb (x4 + 3) Len then ((s_X9_wishRing z576.2 (xs (ix (x4 + 1))) (xs (ix (x4 + 2))) (xs (ix (x4 + 3)))).bind (fun z587 => (s_X9_thrown z587.2).bind (fun r589 => if r589 = k577 then if k577 = 0 then if (lg_cmp (G580 (ix 0)) (Int32.toInt64 z587.1)) = 0 then (some (x4 + 4 : Int32)).bind (fun y595 => k23 z587.2 G580 y595) else some 0 else (some (x4 + 4 : Int32)).bind (fun y592 => k23 z587.2 G580 y592) else some 0))) else none) else none) else none)))) else none) else none) else none
def s_L_law_b898 (Len : Nat) (xs : Nat → Int32) (k23 : MM → GG → Int32 → Option Int32) (F : MM) (G : GG) (x4 : Int32) : Option Int32 := if inb (x4 + 1) Len then (if inb (x4 + 2) Len then (if inb (x4 + 3) Len then ((s_X8_drift F (xs (ix (x4 + 1))) (xs (ix (x4 + 2))) (xs (ix (x4 + 3)))).bind (fun z552 => (wcd [ex_ioo, ex_iae] z552.1).bind (fun k553 => (some (gupI G z552.1 : GG)).bind (fun G556 => if inb (x4 + 1) Len then (if inb (x4 + 2) Len then (if inb (x4 + 3) Len then ((s_X9_drift z552.2 (xs (ix (x4 + 1))) (xs (ix (x4 + 2))) (xs (ix (x4 + 3)))).bind (fun z563 => (s_X9_thrown z563.2).bind (fun r565 => if r565 = k553 then if k553 = 0 then if (lg_cmp (G556 (ix 0)) (Int32.toInt64 z563.1)) = 0 then (some (x4 + 4 : Int32)).bind (fun y571 => k23 z563.2 G556 y571) else some 0 else (some (x4 + 4 : Int32)).bind (fun y568 => k23 z563.2 G556 y568) else some 0))) else none) else none) else none)))) else none) else none) else none
def s_L_law_b978 (Len : Nat) (xs : Nat → Int32) (k23 : MM → GG → Int32 → Option Int32) (F : MM) (G : GG) (x4 : Int32) : Option Int32 := if inb (x4 + 1) Len then (if inb (x4 + 2) Len then (if inb (x4 + 3) Len then ((s_X8_approve F (xs (ix (x4 + 1))) (xs (ix (x4 + 2))) (xs (ix (x4 + 3)))).bind (fun z528 => (wcd [ex_ioo, ex_iae, ex_ise] z528.1).bind (fun k529 => (some (gupI G z528.1 : GG)).bind (fun G532 => if inb (x4 + 1) Len then (if inb (x4 + 2) Len then (if inb (x4 + 3) Len then ((s_X9_approve z528.2 (xs (ix (x4 + 1))) (xs (ix (x4 + 2))) (xs (ix (x4 + 3)))).bind (fun z539 => (s_X9_thrown z539.2).bind (fun r541 => if r541 = k529 then if k529 = 0 then if (lg_cmp (G532 (ix 0)) (Int32.toInt64 z539.1)) = 0 then (some (x4 + 4 : Int32)).bind (fun y547 => k23 z539.2 G532 y547) else some 0 else (some (x4 + 4 : Int32)).bind (fun y544 => k23 z539.2 G532 y544) else some 0))) else none) else none) else none)))) else none) else none) else none
def s_L_law_b1058 (Len : Nat) (xs : Nat → Int32) (k23 : MM → GG → Int32 → Option Int32) (F : MM) (G : GG) (x4 : Int32) : Option Int32 := if inb (x4 + 1) Len then ((s_X8_dismiss F (xs (ix (x4 + 1)))).bind (fun z506 => (wcd [ex_ioo] z506.1).bind (fun k507 => (some (gupI G z506.1 : GG)).bind (fun G510 => if inb (x4 + 1) Len then ((s_X9_dismiss z506.2 (xs (ix (x4 + 1)))).bind (fun z515 => (s_X9_thrown z515.2).bind (fun r517 => if r517 = k507 then if k507 = 0 then if (lg_cmp (G510 (ix 0)) (Int32.toInt64 z515.1)) = 0 then (some (x4 + 4 : Int32)).bind (fun y523 => k23 z515.2 G510 y523) else some 0 else (some (x4 + 4 : Int32)).bind (fun y520 => k23 z515.2 G510 y520) else some 0))) else none)))) else none
def s_L_law_b1114 (Len : Nat) (xs : Nat → Int32) (k23 : MM → GG → Int32 → Option Int32) (F : MM) (G : GG) (x4 : Int32) : Option Int32 := if inb (x4 + 1) Len then (if inb (x4 + 2) Len then ((s_X8_setQuorum F (xs (ix (x4 + 1))) (xs (ix (x4 + 2)))).bind (fun z485 => (wcd [ex_ioo, ex_iae] z485.1).bind (fun k486 => (some (gupI G z485.1 : GG)).bind (fun G489 => if inb (x4 + 1) Len then (if inb (x4 + 2) Len then ((s_X9_setQuorum z485.2 (xs (ix (x4 + 1))) (xs (ix (x4 + 2)))).bind (fun z495 => (s_X9_thrown z495.2).bind (fun r497 => if r497 = k486 then if k486 = 0 then if (lg_cmp (G489 (ix 0)) (Int32.toInt64 z495.1)) = 0 then (some (x4 + 4 : Int32)).bind (fun y503 => k23 z495.2 G489 y503) else some 0 else (some (x4 + 4 : Int32)).bind (fun y500 => k23 z495.2 G489 y500) else some 0))) else none) else none)))) else none) else none
def s_L_law_b1182 (Len : Nat) (xs : Nat → Int32) (k23 : MM → GG → Int32 → Option Int32) (F : MM) (G : GG) (x4 : Int32) : Option Int32 := if inb (x4 + 1) Len then (if inb (x4 + 2) Len then ((s_X8_setFaults F (xs (ix (x4 + 1))) (xs (ix (x4 + 2)))).bind (fun z463 => (wcd [ex_ioo, ex_iae] z463.1).bind (fun k464 => (some (gupI G z463.1 : GG)).bind (fun G467 => if inb (x4 + 1) Len then (if inb (x4 + 2) Len then ((s_X9_setFaults z463.2 (xs (ix (x4 + 1))) (xs (ix (x4 + 2)))).bind (fun z473 => (s_X9_thrown z473.2).bind (fun r475 => if r475 = k464 then if k464 = 0 then if (lg_cmp (G467 (ix 0)) (Int32.toInt64 z473.1)) = 0 then (some (x4 + 4 : Int32)).bind (fun y481 => k23 z473.2 G467 y481) else some 0 else (some (x4 + 4 : Int32)).bind (fun y478 => k23 z473.2 G467 y478) else some 0))) else none) else none)))) else none) else none
def s_L_law_b1250 (Len : Nat) (xs : Nat → Int32) (k23 : MM → GG → Int32 → Option Int32) (F : MM) (G : GG) (x4 : Int32) : Option Int32 := if inb (x4 + 1) Len then ((s_X8_pardon F (xs (ix (x4 + 1)))).bind (fun z442 => (wcd [ex_ioo, ex_ise] z442.1).bind (fun k443 => (some (gupI G z442.1 : GG)).bind (fun G446 => if inb (x4 + 1) Len then ((s_X9_pardon z442.2 (xs (ix (x4 + 1)))).bind (fun z451 => (s_X9_thrown z451.2).bind (fun r453 => if r453 = k443 then if k443 = 0 then if (lg_cmp (G446 (ix 0)) (Int32.toInt64 z451.1)) = 0 then (some (x4 + 4 : Int32)).bind (fun y459 => k23 z451.2 G446 y459) else some 0 else (some (x4 + 4 : Int32)).bind (fun y456 => k23 z451.2 G446 y456) else some 0))) else none)))) else none
def s_L_law_b1306 (Len : Nat) (xs : Nat → Int32) (k23 : MM → GG → Int32 → Option Int32) (F : MM) (G : GG) (x4 : Int32) : Option Int32 := if inb (x4 + 1) Len then ((s_X8_tick F (xs (ix (x4 + 1)))).bind (fun z422 => (wcd [ex_iae] z422.1).bind (fun k423 => (some (gupI G z422.1 : GG)).bind (fun G426 => if inb (x4 + 1) Len then ((s_X9_tick z422.2 (xs (ix (x4 + 1)))).bind (fun z431 => (s_X9_thrown z431.2).bind (fun r433 => if r433 = k423 then if k423 = 0 then if (lg_cmp (G426 (ix 0)) (Int32.toInt64 z431.1)) = 0 then (some (x4 + 4 : Int32)).bind (fun y439 => k23 z431.2 G426 y439) else some 0 else (some (x4 + 4 : Int32)).bind (fun y436 => k23 z431.2 G426 y436) else some 0))) else none)))) else none
def s_L_law_b1362 (Len : Nat) (xs : Nat → Int32) (k23 : MM → GG → Int32 → Option Int32) (F : MM) (G : GG) (x4 : Int32) : Option Int32 := (s_X8_undo F).bind (fun z403 => (wcd [ex_ise] z403.1).bind (fun k404 => (some (gupI G z403.1 : GG)).bind (fun G407 => (s_X9_undo z403.2).bind (fun z411 => (s_X9_thrown z411.2).bind (fun r413 => if r413 = k404 then if k404 = 0 then if (lg_cmp (G407 (ix 0)) (Int32.toInt64 z411.1)) = 0 then (some (x4 + 4 : Int32)).bind (fun y419 => k23 z411.2 G407 y419) else some 0 else (some (x4 + 4 : Int32)).bind (fun y416 => k23 z411.2 G407 y416) else some 0)))))
def s_L_law_b1406 (Len : Nat) (xs : Nat → Int32) (k23 : MM → GG → Int32 → Option Int32) (F : MM) (G : GG) (x4 : Int32) : Option Int32 := if inb (x4 + 1) Len then (if inb (x4 + 2) Len then ((s_X8_state F (xs (ix (x4 + 1))) (xs (ix (x4 + 2)))).bind (fun z383 => (wcd [ex_ioo] z383).bind (fun k384 => (some (gupI G z383 : GG)).bind (fun G387 => if inb (x4 + 1) Len then (if inb (x4 + 2) Len then ((s_X9_state F (xs (ix (x4 + 1))) (xs (ix (x4 + 2)))).bind (fun z393 => (s_X9_thrown z393.2).bind (fun r395 => if r395 = k384 then if k384 = 0 then if (lg_cmp (G387 (ix 0)) (Int32.toInt64 z393.1)) = 0 then (some (x4 + 4 : Int32)).bind (fun y401 => k23 z393.2 G387 y401) else some 0 else (some (x4 + 4 : Int32)).bind (fun y398 => k23 z393.2 G387 y398) else some 0))) else none) else none)))) else none) else none
def s_L_law_b1474 (Len : Nat) (xs : Nat → Int32) (k23 : MM → GG → Int32 → Option Int32) (F : MM) (G : GG) (x4 : Int32) : Option Int32 := if inb (x4 + 1) Len then ((s_X8_next F (xs (ix (x4 + 1)))).bind (fun z362 => (wcd [ex_ioo] z362).bind (fun k363 => (some (gupI G z362 : GG)).bind (fun G366 => if inb (x4 + 1) Len then ((s_X9_next F (xs (ix (x4 + 1)))).bind (fun z371 => (s_X9_thrown z371.2).bind (fun r373 => if r373 = k363 then if k363 = 0 then if (lg_cmp (G366 (ix 0)) (Int32.toInt64 z371.1)) = 0 then (some (x4 + 4 : Int32)).bind (fun y379 => k23 z371.2 G366 y379) else some 0 else (some (x4 + 4 : Int32)).bind (fun y376 => k23 z371.2 G366 y376) else some 0))) else none)))) else none
def s_L_law_b1530 (Len : Nat) (xs : Nat → Int32) (k23 : MM → GG → Int32 → Option Int32) (F : MM) (G : GG) (x4 : Int32) : Option Int32 := if inb (x4 + 1) Len then (if inb (x4 + 2) Len then (if inb (x4 + 3) Len then ((s_X8_breaks F (xs (ix (x4 + 1))) (xs (ix (x4 + 2))) (xs (ix (x4 + 3)))).bind (fun z340 => (wcd [ex_ioo, ex_iae] z340).bind (fun k341 => (some (gupI G z340 : GG)).bind (fun G344 => if inb (x4 + 1) Len then (if inb (x4 + 2) Len then (if inb (x4 + 3) Len then ((s_X9_breaks F (xs (ix (x4 + 1))) (xs (ix (x4 + 2))) (xs (ix (x4 + 3)))).bind (fun z351 => (s_X9_thrown z351.2).bind (fun r353 => if r353 = k341 then if k341 = 0 then if (lg_cmp (G344 (ix 0)) (Int32.toInt64 z351.1)) = 0 then (some (x4 + 4 : Int32)).bind (fun y359 => k23 z351.2 G344 y359) else some 0 else (some (x4 + 4 : Int32)).bind (fun y356 => k23 z351.2 G344 y356) else some 0))) else none) else none) else none)))) else none) else none) else none
def s_L_law_b1610 (Len : Nat) (xs : Nat → Int32) (k23 : MM → GG → Int32 → Option Int32) (F : MM) (G : GG) (x4 : Int32) : Option Int32 := if inb (x4 + 1) Len then ((s_X8_holdsUp F (xs (ix (x4 + 1)))).bind (fun z318 => (wcd [ex_ioo] z318).bind (fun k319 => (some (gupI G z318 : GG)).bind (fun G322 => if inb (x4 + 1) Len then ((s_X9_holdsUp F (xs (ix (x4 + 1)))).bind (fun z327 => (s_X9_thrown z327.2).bind (fun r329 => if r329 = k319 then if k319 = 0 then if (lg_cmp (G322 (ix 0)) (Int32.toInt64 z327.1)) = 0 then (some (x4 + 4 : Int32)).bind (fun y335 => k23 z327.2 G322 y335) else some 0 else (some (x4 + 4 : Int32)).bind (fun y332 => k23 z327.2 G322 y332) else some 0))) else none)))) else none
def s_L_law_b1666 (Len : Nat) (xs : Nat → Int32) (k23 : MM → GG → Int32 → Option Int32) (F : MM) (G : GG) (x4 : Int32) : Option Int32 := if inb (x4 + 1) Len then ((s_X8_missing F (xs (ix (x4 + 1)))).bind (fun z298 => (wcd [ex_ioo] z298).bind (fun k299 => (some (gupI G z298 : GG)).bind (fun G302 => if inb (x4 + 1) Len then ((s_X9_missing F (xs (ix (x4 + 1)))).bind (fun z307 => (s_X9_thrown z307.2).bind (fun r309 => if r309 = k299 then if k299 = 0 then if (lg_cmp (G302 (ix 0)) (Int32.toInt64 z307.1)) = 0 then (some (x4 + 4 : Int32)).bind (fun y315 => k23 z307.2 G302 y315) else some 0 else (some (x4 + 4 : Int32)).bind (fun y312 => k23 z307.2 G302 y312) else some 0))) else none)))) else none
def s_L_law_b1722 (Len : Nat) (xs : Nat → Int32) (k23 : MM → GG → Int32 → Option Int32) (F : MM) (G : GG) (x4 : Int32) : Option Int32 := if inb (x4 + 1) Len then (if inb (x4 + 2) Len then (if inb (x4 + 3) Len then ((s_X8_ahead F (xs (ix (x4 + 1))) (xs (ix (x4 + 2))) (xs (ix (x4 + 3)))).bind (fun z276 => (wcd [ex_ioo, ex_iae] z276.1).bind (fun k277 => (some (gupI G z276.1 : GG)).bind (fun G280 => if inb (x4 + 1) Len then (if inb (x4 + 2) Len then (if inb (x4 + 3) Len then ((s_X9_ahead z276.2 (xs (ix (x4 + 1))) (xs (ix (x4 + 2))) (xs (ix (x4 + 3)))).bind (fun z287 => (s_X9_thrown z287.2).bind (fun r289 => if r289 = k277 then if k277 = 0 then if (lg_cmp (G280 (ix 0)) (Int32.toInt64 z287.1)) = 0 then (some (x4 + 4 : Int32)).bind (fun y295 => k23 z287.2 G280 y295) else some 0 else (some (x4 + 4 : Int32)).bind (fun y292 => k23 z287.2 G280 y292) else some 0))) else none) else none) else none)))) else none) else none) else none
def s_L_law_b1802 (Len : Nat) (xs : Nat → Int32) (k23 : MM → GG → Int32 → Option Int32) (F : MM) (G : GG) (x4 : Int32) : Option Int32 := (s_X8_calmAfter F).bind (fun z266 => (s_X9_calmAfter z266.2).bind (fun z269 => if z266.1 = z269.1 then (some (x4 + 4 : Int32)).bind (fun y271 => k23 z269.2 G y271) else some 0))
def s_L_law_b1815 (Len : Nat) (xs : Nat → Int32) (k23 : MM → GG → Int32 → Option Int32) (F : MM) (G : GG) (x4 : Int32) : Option Int32 := if inb (x4 + 1) Len then ((s_X8_fewest F (xs (ix (x4 + 1)))).bind (fun z245 => (wcd [ex_ioo] z245.1).bind (fun k246 => (some (gupI G z245.1 : GG)).bind (fun G249 => if inb (x4 + 1) Len then ((s_X9_fewest z245.2 (xs (ix (x4 + 1)))).bind (fun z254 => (s_X9_thrown z254.2).bind (fun r256 => if r256 = k246 then if k246 = 0 then if (lg_cmp (G249 (ix 0)) (Int32.toInt64 z254.1)) = 0 then (some (x4 + 4 : Int32)).bind (fun y262 => k23 z254.2 G249 y262) else some 0 else (some (x4 + 4 : Int32)).bind (fun y259 => k23 z254.2 G249 y259) else some 0))) else none)))) else none
def s_L_law_b1871 (Len : Nat) (xs : Nat → Int32) (k23 : MM → GG → Int32 → Option Int32) (F : MM) (G : GG) (x4 : Int32) : Option Int32 := if inb (x4 + 1) Len then (if inb (x4 + 2) Len then ((s_X8_step F (xs (ix (x4 + 1))) (xs (ix (x4 + 2)))).bind (fun z224 => (wcd [ex_ioo, ex_iae] z224.1).bind (fun k225 => (some (gupI G z224.1 : GG)).bind (fun G228 => if inb (x4 + 1) Len then (if inb (x4 + 2) Len then ((s_X9_step z224.2 (xs (ix (x4 + 1))) (xs (ix (x4 + 2)))).bind (fun z234 => (s_X9_thrown z234.2).bind (fun r236 => if r236 = k225 then if k225 = 0 then if (lg_cmp (G228 (ix 0)) (Int32.toInt64 z234.1)) = 0 then (some (x4 + 4 : Int32)).bind (fun y242 => k23 z234.2 G228 y242) else some 0 else (some (x4 + 4 : Int32)).bind (fun y239 => k23 z234.2 G228 y239) else some 0))) else none) else none)))) else none) else none
def s_L_law_b1939 (Len : Nat) (xs : Nat → Int32) (k23 : MM → GG → Int32 → Option Int32) (F : MM) (G : GG) (x4 : Int32) : Option Int32 := if inb (x4 + 1) Len then (if inb (x4 + 2) Len then (if inb (x4 + 3) Len then ((s_X8_needed F (xs (ix (x4 + 1))) (xs (ix (x4 + 2))) (xs (ix (x4 + 3)))).bind (fun z201 => (wcd [ex_ioo, ex_iae] z201).bind (fun k202 => (some (gupI G z201 : GG)).bind (fun G205 => if inb (x4 + 1) Len then (if inb (x4 + 2) Len then (if inb (x4 + 3) Len then ((s_X9_needed F (xs (ix (x4 + 1))) (xs (ix (x4 + 2))) (xs (ix (x4 + 3)))).bind (fun z212 => (s_X9_thrown z212.2).bind (fun r214 => if r214 = k202 then if k202 = 0 then if (lg_cmp (G205 (ix 0)) (Int32.toInt64 z212.1)) = 0 then (some (x4 + 4 : Int32)).bind (fun y220 => k23 z212.2 G205 y220) else some 0 else (some (x4 + 4 : Int32)).bind (fun y217 => k23 z212.2 G205 y217) else some 0))) else none) else none) else none)))) else none) else none) else none
def s_L_law_b2019 (Len : Nat) (xs : Nat → Int32) (k23 : MM → GG → Int32 → Option Int32) (F : MM) (G : GG) (x4 : Int32) : Option Int32 := if inb (x4 + 1) Len then (if inb (x4 + 2) Len then ((s_X8_isPossible F (xs (ix (x4 + 1))) (xs (ix (x4 + 2)))).bind (fun z174 => (wcd [ex_ioo, ex_iae] z174).bind (fun k175 => (some (gupZ G z174 : GG)).bind (fun G178 => if inb (x4 + 1) Len then (if inb (x4 + 2) Len then ((s_X9_isPossible F (xs (ix (x4 + 1))) (xs (ix (x4 + 2)))).bind (fun z184 => (s_X9_thrown z184.2).bind (fun r186 => if r186 = k175 then if k175 = 0 then if z184.1 = 0 then if (lg_cmp (G178 (ix 0)) 0) = 0 then (some (x4 + 4 : Int32)).bind (fun y193 => k23 z184.2 G178 y193) else some 0 else if (lg_cmp (G178 (ix 0)) 1) = 0 then (some (x4 + 4 : Int32)).bind (fun y196 => k23 z184.2 G178 y196) else some 0 else (some (x4 + 4 : Int32)).bind (fun y189 => k23 z184.2 G178 y189) else some 0))) else none) else none)))) else none) else none
def s_L_law_b2094 (Len : Nat) (xs : Nat → Int32) (k23 : MM → GG → Int32 → Option Int32) (F : MM) (G : GG) (x4 : Int32) : Option Int32 := if inb (x4 + 1) Len then (if inb (x4 + 2) Len then ((s_X8_explains F (xs (ix (x4 + 1))) (xs (ix (x4 + 2)))).bind (fun z152 => (wcd [ex_ioo, ex_iae] z152).bind (fun k153 => (some (gupI G z152 : GG)).bind (fun G156 => if inb (x4 + 1) Len then (if inb (x4 + 2) Len then ((s_X9_explains F (xs (ix (x4 + 1))) (xs (ix (x4 + 2)))).bind (fun z162 => (s_X9_thrown z162.2).bind (fun r164 => if r164 = k153 then if k153 = 0 then if (lg_cmp (G156 (ix 0)) (Int32.toInt64 z162.1)) = 0 then (some (x4 + 4 : Int32)).bind (fun y170 => k23 z162.2 G156 y170) else some 0 else (some (x4 + 4 : Int32)).bind (fun y167 => k23 z162.2 G156 y167) else some 0))) else none) else none)))) else none) else none
def s_L_law_b2162 (Len : Nat) (xs : Nat → Int32) (k23 : MM → GG → Int32 → Option Int32) (F : MM) (G : GG) (x4 : Int32) : Option Int32 := if inb (x4 + 1) Len then ((s_X8_ranked F (xs (ix (x4 + 1)))).bind (fun z131 => (wcd [ex_ioo] z131).bind (fun k132 => (some (gupI G z131 : GG)).bind (fun G135 => if inb (x4 + 1) Len then ((s_X9_ranked F (xs (ix (x4 + 1)))).bind (fun z140 => (s_X9_thrown z140.2).bind (fun r142 => if r142 = k132 then if k132 = 0 then if (lg_cmp (G135 (ix 0)) (Int32.toInt64 z140.1)) = 0 then (some (x4 + 4 : Int32)).bind (fun y148 => k23 z140.2 G135 y148) else some 0 else (some (x4 + 4 : Int32)).bind (fun y145 => k23 z140.2 G135 y145) else some 0))) else none)))) else none
def s_L_law_b2218 (Len : Nat) (xs : Nat → Int32) (k23 : MM → GG → Int32 → Option Int32) (F : MM) (G : GG) (x4 : Int32) : Option Int32 := if inb (x4 + 1) Len then (if inb (x4 + 2) Len then (if inb (x4 + 3) Len then ((s_X8_runScript F (xs (ix (x4 + 1))) (((Int32.toInt64 (xs (ix (x4 + 2)))) <<< ((Int32.toInt64 32) &&& 63)) ||| ((Int32.toInt64 (xs (ix (x4 + 3)))) &&& 4294967295))).bind (fun z109 => (wcd [ex_iae] z109.1).bind (fun k110 => (some (gupI G z109.1 : GG)).bind (fun G113 => if inb (x4 + 1) Len then (if inb (x4 + 2) Len then (if inb (x4 + 3) Len then ((s_X9_runScript z109.2 (xs (ix (x4 + 1))) (((Int32.toInt64 (xs (ix (x4 + 2)))) <<< ((Int32.toInt64 32) &&& 63)) ||| ((Int32.toInt64 (xs (ix (x4 + 3)))) &&& 4294967295))).bind (fun z120 => (s_X9_thrown z120.2).bind (fun r122 => if r122 = k110 then if k110 = 0 then if (lg_cmp (G113 (ix 0)) (Int32.toInt64 z120.1)) = 0 then (some (x4 + 4 : Int32)).bind (fun y128 => k23 z120.2 G113 y128) else some 0 else (some (x4 + 4 : Int32)).bind (fun y125 => k23 z120.2 G113 y125) else some 0))) else none) else none) else none)))) else none) else none) else none
def s_L_law_b2318 (Len : Nat) (xs : Nat → Int32) (k23 : MM → GG → Int32 → Option Int32) (F : MM) (G : GG) (x4 : Int32) : Option Int32 := if inb (x4 + 1) Len then (if inb (x4 + 2) Len then (if inb (x4 + 3) Len then ((s_X8_simulate F (((Int32.toInt64 (xs (ix (x4 + 1)))) <<< ((Int32.toInt64 32) &&& 63)) ||| ((Int32.toInt64 (xs (ix (x4 + 2)))) &&& 4294967295)) (xs (ix (x4 + 3)))).bind (fun z85 => (wcd [ex_iae] z85.1).bind (fun k86 => (some (gupI G z85.1 : GG)).bind (fun G89 => if inb (x4 + 1) Len then (if inb (x4 + 2) Len then (if inb (x4 + 3) Len then ((s_X9_simulate z85.2 (((Int32.toInt64 (xs (ix (x4 + 1)))) <<< ((Int32.toInt64 32) &&& 63)) ||| ((Int32.toInt64 (xs (ix (x4 + 2)))) &&& 4294967295)) (xs (ix (x4 + 3)))).bind (fun z96 => (s_X9_thrown z96.2).bind (fun r98 => if r98 = k86 then if k86 = 0 then if (lg_cmp (G89 (ix 0)) (Int32.toInt64 z96.1)) = 0 then (some (x4 + 4 : Int32)).bind (fun y104 => k23 z96.2 G89 y104) else some 0 else (some (x4 + 4 : Int32)).bind (fun y101 => k23 z96.2 G89 y101) else some 0))) else none) else none) else none)))) else none) else none) else none
def s_L_law_b2418 (Len : Nat) (xs : Nat → Int32) (k23 : MM → GG → Int32 → Option Int32) (F : MM) (G : GG) (x4 : Int32) : Option Int32 := if inb (x4 + 1) Len then ((s_X8_save F (xs (ix (x4 + 1)))).bind (fun z63 => (wcd [ex_ioo] z63.1).bind (fun k64 => (some (gupI G z63.1 : GG)).bind (fun G67 => if inb (x4 + 1) Len then ((s_X9_save z63.2 (xs (ix (x4 + 1)))).bind (fun z72 => (s_X9_thrown z72.2).bind (fun r74 => if r74 = k64 then if k64 = 0 then if (lg_cmp (G67 (ix 0)) (Int32.toInt64 z72.1)) = 0 then (some (x4 + 4 : Int32)).bind (fun y80 => k23 z72.2 G67 y80) else some 0 else (some (x4 + 4 : Int32)).bind (fun y77 => k23 z72.2 G67 y77) else some 0))) else none)))) else none
def s_L_law_b2474 (Len : Nat) (xs : Nat → Int32) (k23 : MM → GG → Int32 → Option Int32) (F : MM) (G : GG) (x4 : Int32) : Option Int32 := if inb (x4 + 1) Len then ((s_X8_restore F (xs (ix (x4 + 1)))).bind (fun z43 => (wcd [ex_ioo, ex_ise] z43.1).bind (fun k44 => (some (gupI G z43.1 : GG)).bind (fun G47 => if inb (x4 + 1) Len then ((s_X9_restore z43.2 (xs (ix (x4 + 1)))).bind (fun z52 => (s_X9_thrown z52.2).bind (fun r54 => if r54 = k44 then if k44 = 0 then if (lg_cmp (G47 (ix 0)) (Int32.toInt64 z52.1)) = 0 then (some (x4 + 4 : Int32)).bind (fun y60 => k23 z52.2 G47 y60) else some 0 else (some (x4 + 4 : Int32)).bind (fun y57 => k23 z52.2 G47 y57) else some 0))) else none)))) else none
def s_L_law_b23 (Len : Nat) (xs : Nat → Int32) : Nat → MM → GG → Int32 → Option Int32
  | 0, _, _, _ => none
  | n + 1, F, G, x4 => if ((Int32.ofNat Len) - 4) < x4 then some 1 else if inb x4 Len then (if ((xs (ix x4)) &&& 63) = 0 then s_L_law_b200 Len xs (s_L_law_b23 Len xs n) F G x4 else if ((xs (ix x4)) &&& 63) = 1 then s_L_law_b256 Len xs (s_L_law_b23 Len xs n) F G x4 else if ((xs (ix x4)) &&& 63) = 2 then s_L_law_b269 Len xs (s_L_law_b23 Len xs n) F G x4 else if ((xs (ix x4)) &&& 63) = 3 then s_L_law_b282 Len xs (s_L_law_b23 Len xs n) F G x4 else if ((xs (ix x4)) &&& 63) = 4 then s_L_law_b326 Len xs (s_L_law_b23 Len xs n) F G x4 else if ((xs (ix x4)) &&& 63) = 5 then s_L_law_b382 Len xs (s_L_law_b23 Len xs n) F G x4 else if ((xs (ix x4)) &&& 63) = 6 then s_L_law_b450 Len xs (s_L_law_b23 Len xs n) F G x4 else if ((xs (ix x4)) &&& 63) = 7 then s_L_law_b546 Len xs (s_L_law_b23 Len xs n) F G x4 else if ((xs (ix x4)) &&& 63) = 8 then s_L_law_b614 Len xs (s_L_law_b23 Len xs n) F G x4 else if ((xs (ix x4)) &&& 63) = 9 then s_L_law_b682 Len xs (s_L_law_b23 Len xs n) F G x4 else if ((xs (ix x4)) &&& 63) = 10 then s_L_law_b738 Len xs (s_L_law_b23 Len xs n) F G x4 else if ((xs (ix x4)) &&& 63) = 11 then s_L_law_b818 Len xs (s_L_law_b23 Len xs n) F G x4 else if ((xs (ix x4)) &&& 63) = 12 then s_L_law_b898 Len xs (s_L_law_b23 Len xs n) F G x4 else if ((xs (ix x4)) &&& 63) = 13 then s_L_law_b978 Len xs (s_L_law_b23 Len xs n) F G x4 else if ((xs (ix x4)) &&& 63) = 14 then s_L_law_b1058 Len xs (s_L_law_b23 Len xs n) F G x4 else if ((xs (ix x4)) &&& 63) = 15 then s_L_law_b1114 Len xs (s_L_law_b23 Len xs n) F G x4 else if ((xs (ix x4)) &&& 63) = 16 then s_L_law_b1182 Len xs (s_L_law_b23 Len xs n) F G x4 else if ((xs (ix x4)) &&& 63) = 17 then s_L_law_b1250 Len xs (s_L_law_b23 Len xs n) F G x4 else if ((xs (ix x4)) &&& 63) = 18 then s_L_law_b1306 Len xs (s_L_law_b23 Len xs n) F G x4 else if ((xs (ix x4)) &&& 63) = 19 then s_L_law_b1362 Len xs (s_L_law_b23 Len xs n) F G x4 else if ((xs (ix x4)) &&& 63) = 20 then s_L_law_b1406 Len xs (s_L_law_b23 Len xs n) F G x4 else if ((xs (ix x4)) &&& 63) = 21 then s_L_law_b1474 Len xs (s_L_law_b23 Len xs n) F G x4 else if ((xs (ix x4)) &&& 63) = 22 then s_L_law_b1530 Len xs (s_L_law_b23 Len xs n) F G x4 else if ((xs (ix x4)) &&& 63) = 23 then s_L_law_b1610 Len xs (s_L_law_b23 Len xs n) F G x4 else if ((xs (ix x4)) &&& 63) = 24 then s_L_law_b1666 Len xs (s_L_law_b23 Len xs n) F G x4 else if ((xs (ix x4)) &&& 63) = 25 then s_L_law_b1722 Len xs (s_L_law_b23 Len xs n) F G x4 else if ((xs (ix x4)) &&& 63) = 26 then s_L_law_b1802 Len xs (s_L_law_b23 Len xs n) F G x4 else if ((xs (ix x4)) &&& 63) = 27 then s_L_law_b1815 Len xs (s_L_law_b23 Len xs n) F G x4 else if ((xs (ix x4)) &&& 63) = 28 then s_L_law_b1871 Len xs (s_L_law_b23 Len xs n) F G x4 else if ((xs (ix x4)) &&& 63) = 29 then s_L_law_b1939 Len xs (s_L_law_b23 Len xs n) F G x4 else if ((xs (ix x4)) &&& 63) = 30 then s_L_law_b2019 Len xs (s_L_law_b23 Len xs n) F G x4 else if ((xs (ix x4)) &&& 63) = 31 then s_L_law_b2094 Len xs (s_L_law_b23 Len xs n) F G x4 else if ((xs (ix x4)) &&& 63) = 32 then s_L_law_b2162 Len xs (s_L_law_b23 Len xs n) F G x4 else if ((xs (ix x4)) &&& 63) = 33 then s_L_law_b2218 Len xs (s_L_law_b23 Len xs n) F G x4 else if ((xs (ix x4)) &&& 63) = 34 then s_L_law_b2318 Len xs (s_L_law_b23 Len xs n) F G x4 else if ((xs (ix x4)) &&& 63) = 35 then s_L_law_b2418 Len xs (s_L_law_b23 Len xs n) F G x4 else if ((xs (ix x4)) &&& 63) = 36 then s_L_law_b2474 Len xs (s_L_law_b23 Len xs n) F G x4 else (some (x4 + 4 : Int32)).bind (fun y40 => s_L_law_b23 Len xs n F G y40)) else none
set_option maxRecDepth 20000 in
set_option maxHeartbeats 4000000 in
theorem k_L_law_b200 {C : CX} {M : MX} {Len : Nat} {xs : Nat → Int32} {k23 : MM → GG → Int32 → Option Int32} {n c0 s0 : Nat} (hM : MOk C RL cL_law 7 ret room_1 M) (hX : LawX C M Len xs) (hk23 : ∀ (wF : MM) (wG : GG) (w0 : Int32) (c1 s1 : Nat), c1 + 60 * n ≤ 601024 → s1 + 600 * n ≤ 7293034 → k23 wF wG w0 = some 1 → AW C 7 (ZL M) M c1 s1 23 [some (.ref 181), some (.ref 0), some (.ref 164), some (.ref 180), some (.int w0), none, none] [] wF wG) (hc0 : c0 + 60 * n + 50 ≤ 601024) (hs0 : s0 + 600 * n + 500 ≤ 7293034) (F : MM) (G : GG) (x4 : Int32) (h : s_L_law_b200 Len xs k23 F G x4 = some 1) : AW C 7 (ZL M) M (c0 + 0) (s0 + 0) 200 [some (.ref 181), some (.ref 0), some (.ref 164), some (.ref 180), some (.int x4), none, none] [] F G := by
  rw [s_L_law_b200] at h
  refine aw_aload_n (pc := 200) (i := 1) (x := 0) hM dL_law_200 rfl rfl ?_
  refine aw_aload_n (pc := 201) (i := 0) (x := 181) hM dL_law_201 rfl rfl ?_
  refine aw_iload (pc := 202) (i := 4) (x := x4) hM dL_law_202  rfl ?_
  refine aw_iconst (pc := 204) (v := 1) hM dL_law_204 (by decide) ?_
  refine aw_iadd (pc := 205) hM dL_law_205 ?_
  obtain ⟨c789, h⟩ := ite_some h
  refine aw_sld (pc := 206) hM hX c789 dL_law_206 ?_
  refine aw_aload_n (pc := 207) (i := 3) (x := 180) hM dL_law_207 rfl rfl ?_
  obtain ⟨z790, h792, h⟩ := bind_some h
  obtain ⟨k791, h793, h⟩ := bind_some h
  refine aw_csW (pc := 208) (n := 3) (As := [.ref 0, .int (xs (ix (x4 + 1))), .ref 180]) (st := []) (vo := some (.int k791)) (c2 := (c0 + 2)) (s2 := (s0 + 12)) hM (k_L_append h792 h793) cw_L_129 (by decide +kernel) rfl rfl ⟨(Nat.le_of_ble_eq_true rfl), (Nat.le_of_ble_eq_true rfl)⟩ (Nat.le_of_ble_eq_true rfl) ⟨by show (c0 + 0) + 2 ≤ 601024; omega, by show (s0 + 0) + 12 ≤ 7293034; omega⟩ dL_law_208 rfl rfl ?_
  obtain ⟨G794, e795, h⟩ := bind_some h
  have e795 := Option.some.inj e795
  refine aw_memG e795 ?_
  refine aw_istore (pc := 211) (i := 5) (L' := [some (.ref 181), some (.ref 0), some (.ref 164), some (.ref 180), some (.int x4), some (.int k791), none]) hM dL_law_211  (by decide) rfl ?_
  refine aw_aload_n (pc := 213) (i := 2) (x := 164) hM dL_law_213 rfl rfl ?_
  refine aw_aload_n (pc := 214) (i := 0) (x := 181) hM dL_law_214 rfl rfl ?_
  refine aw_iload (pc := 215) (i := 4) (x := x4) hM dL_law_215  rfl ?_
  refine aw_iconst (pc := 217) (v := 1) hM dL_law_217 (by decide) ?_
  refine aw_iadd (pc := 218) hM dL_law_218 ?_
  obtain ⟨c796, h⟩ := ite_some h
  refine aw_sld (pc := 219) hM hX c796 dL_law_219 ?_
  obtain ⟨z799, h797, h⟩ := bind_some h
  refine aw_cv1 (pc := 220) (n := 1) (As := [.int (xs (ix (x4 + 1)))]) (st := []) (b := 164) (vo := (some (.int z799.1))) (c2 := (c0 + 2)) (s2 := (s0 + 12)) hM (k_X9_append h797) rfl cw_L_134 sk_164 rfl rfl (by decide +kernel) rfl rfl ⟨(Nat.le_of_ble_eq_true rfl), (Nat.le_of_ble_eq_true rfl)⟩ (Nat.le_of_ble_eq_true rfl) ⟨by show (c0 + 2) + 0 ≤ 601024; omega, by show (s0 + 12) + 0 ≤ 7293034; omega⟩ dL_law_220 rfl rfl ?_
  refine aw_istore (pc := 223) (i := 6) (L' := [some (.ref 181), some (.ref 0), some (.ref 164), some (.ref 180), some (.int x4), some (.int k791), some (.int z799.1)]) hM dL_law_223  (by decide) rfl ?_
  refine aw_aload_n (pc := 225) (i := 2) (x := 164) hM dL_law_225 rfl rfl ?_
  obtain ⟨r801, h800, h⟩ := bind_some h
  refine aw_cv1 (pc := 226) (n := 0) (As := []) (st := []) (b := 164) (vo := (some (.int r801))) (c2 := (c0 + 2)) (s2 := (s0 + 12)) hM (k_X9_thrown h800) rfl cw_L_135 sk_164 rfl rfl (by decide +kernel) rfl rfl ⟨(Nat.le_of_ble_eq_true rfl), (Nat.le_of_ble_eq_true rfl)⟩ (Nat.le_of_ble_eq_true rfl) ⟨by show (c0 + 2) + 0 ≤ 601024; omega, by show (s0 + 12) + 0 ≤ 7293034; omega⟩ dL_law_226 rfl rfl ?_
  refine aw_iload (pc := 229) (i := 5) (x := k791) hM dL_law_229  rfl ?_
  refine aw_icmp_eq (pc := 231) (tgt := 236) hM dL_law_231 (by decide) (fun c802 => ?_) (fun c802 => ?_)
  · rw [if_pos c802] at h
    refine aw_iload (pc := 236) (i := 5) (x := k791) hM dL_law_236  rfl ?_
    refine aw_if_ne (pc := 238) (tgt := 253) hM dL_law_238 (by decide) (fun c803 => ?_) (fun c803 => ?_)
    · rw [if_neg c803] at h
      refine aw_goto (pc := 253) (tgt := 2530) hM dL_law_253 (by decide) ?_
      obtain ⟨y804, e805, h⟩ := bind_some h
      have e805 := Option.some.inj e805
      refine aw_iinc (pc := 2530) (v := y804) (L' := [some (.ref 181), some (.ref 0), some (.ref 164), some (.ref 180), some (.int y804), some (.int k791), some (.int z799.1)]) hM dL_law_2530 rfl e805 (by decide) rfl ?_
      refine aw_goto (pc := 2533) (tgt := 23) hM dL_law_2533 (by decide) ?_
      refine aw_weak (L' := [some (.ref 181), some (.ref 0), some (.ref 164), some (.ref 180), some (.int y804), none, none]) ?_ (lw_of [true, true, true, true, true, false, false] rfl)
      exact hk23 z799.2 G794 y804 _ _ (by omega) (by omega) h
    · rw [if_pos c803] at h
      refine aw_aload_n (pc := 241) (i := 3) (x := 180) hM dL_law_241 rfl rfl ?_
      refine aw_iconst (pc := 242) (v := 0) hM dL_law_242 (by decide) ?_
      refine aw_lald (pc := 243) hM sk_180 (by decide) dL_law_243 ?_
      refine aw_iload (pc := 244) (i := 6) (x := z799.1) hM dL_law_244  rfl ?_
      refine aw_i2l (pc := 246) hM dL_law_246 ?_
      refine aw_lcmp (pc := 247) hM dL_law_247 ?_
      refine aw_if_eq (pc := 248) (tgt := 253) hM dL_law_248 (by decide) (fun c806 => ?_) (fun c806 => ?_)
      · rw [if_pos c806] at h
        refine aw_goto (pc := 253) (tgt := 2530) hM dL_law_253 (by decide) ?_
        obtain ⟨y807, e808, h⟩ := bind_some h
        have e808 := Option.some.inj e808
        refine aw_iinc (pc := 2530) (v := y807) (L' := [some (.ref 181), some (.ref 0), some (.ref 164), some (.ref 180), some (.int y807), some (.int k791), some (.int z799.1)]) hM dL_law_2530 rfl e808 (by decide) rfl ?_
        refine aw_goto (pc := 2533) (tgt := 23) hM dL_law_2533 (by decide) ?_
        refine aw_weak (L' := [some (.ref 181), some (.ref 0), some (.ref 164), some (.ref 180), some (.int y807), none, none]) ?_ (lw_of [true, true, true, true, true, false, false] rfl)
        exact hk23 z799.2 G794 y807 _ _ (by omega) (by omega) h
      · rw [if_neg c806] at h
        refine aw_iconst (pc := 251) (v := 0) hM dL_law_251 (by decide) ?_
        exact absurd h (by decide)
  · rw [if_neg c802] at h
    refine aw_iconst (pc := 234) (v := 0) hM dL_law_234 (by decide) ?_
    exact absurd h (by decide)
set_option maxRecDepth 20000 in
set_option maxHeartbeats 4000000 in
theorem k_L_law_b256 {C : CX} {M : MX} {Len : Nat} {xs : Nat → Int32} {k23 : MM → GG → Int32 → Option Int32} {n c0 s0 : Nat} (hM : MOk C RL cL_law 7 ret room_1 M) (hX : LawX C M Len xs) (hk23 : ∀ (wF : MM) (wG : GG) (w0 : Int32) (c1 s1 : Nat), c1 + 60 * n ≤ 601024 → s1 + 600 * n ≤ 7293034 → k23 wF wG w0 = some 1 → AW C 7 (ZL M) M c1 s1 23 [some (.ref 181), some (.ref 0), some (.ref 164), some (.ref 180), some (.int w0), none, none] [] wF wG) (hc0 : c0 + 60 * n + 50 ≤ 601024) (hs0 : s0 + 600 * n + 500 ≤ 7293034) (F : MM) (G : GG) (x4 : Int32) (h : s_L_law_b256 Len xs k23 F G x4 = some 1) : AW C 7 (ZL M) M (c0 + 0) (s0 + 0) 256 [some (.ref 181), some (.ref 0), some (.ref 164), some (.ref 180), some (.int x4), none, none] [] F G := by
  rw [s_L_law_b256] at h
  refine aw_aload_n (pc := 256) (i := 1) (x := 0) hM dL_law_256 rfl rfl ?_
  obtain ⟨z782, h780, h⟩ := bind_some h
  refine aw_cv1 (pc := 257) (n := 0) (As := []) (st := []) (b := 0) (vo := (some (.int z782.1))) (c2 := (c0 + 0)) (s2 := (s0 + 0)) hM (k_X8_clearText h780) rfl cw_L_138 sk_0 rfl rfl (by decide +kernel) rfl rfl ⟨(Nat.le_of_ble_eq_true rfl), (Nat.le_of_ble_eq_true rfl)⟩ (Nat.le_of_ble_eq_true rfl) ⟨by show (c0 + 0) + 0 ≤ 601024; omega, by show (s0 + 0) + 0 ≤ 7293034; omega⟩ dL_law_257 rfl rfl ?_
  refine aw_aload_n (pc := 260) (i := 2) (x := 164) hM dL_law_260 rfl rfl ?_
  obtain ⟨z785, h783, h⟩ := bind_some h
  refine aw_cv1 (pc := 261) (n := 0) (As := []) (st := [.int z782.1]) (b := 164) (vo := (some (.int z785.1))) (c2 := (c0 + 0)) (s2 := (s0 + 0)) hM (k_X9_clearText h783) rfl cw_L_141 sk_164 rfl rfl (by decide +kernel) rfl rfl ⟨(Nat.le_of_ble_eq_true rfl), (Nat.le_of_ble_eq_true rfl)⟩ (Nat.le_of_ble_eq_true rfl) ⟨by show (c0 + 0) + 0 ≤ 601024; omega, by show (s0 + 0) + 0 ≤ 7293034; omega⟩ dL_law_261 rfl rfl ?_
  refine aw_icmp_eq (pc := 264) (tgt := 2530) hM dL_law_264 (by decide) (fun c786 => ?_) (fun c786 => ?_)
  · rw [if_pos c786] at h
    obtain ⟨y787, e788, h⟩ := bind_some h
    have e788 := Option.some.inj e788
    refine aw_iinc (pc := 2530) (v := y787) (L' := [some (.ref 181), some (.ref 0), some (.ref 164), some (.ref 180), some (.int y787), none, none]) hM dL_law_2530 rfl e788 (by decide) rfl ?_
    refine aw_goto (pc := 2533) (tgt := 23) hM dL_law_2533 (by decide) ?_
    exact hk23 z785.2 G y787 _ _ (by omega) (by omega) h
  · rw [if_neg c786] at h
    refine aw_iconst (pc := 267) (v := 0) hM dL_law_267 (by decide) ?_
    exact absurd h (by decide)
set_option maxRecDepth 20000 in
set_option maxHeartbeats 4000000 in
theorem k_L_law_b269 {C : CX} {M : MX} {Len : Nat} {xs : Nat → Int32} {k23 : MM → GG → Int32 → Option Int32} {n c0 s0 : Nat} (hM : MOk C RL cL_law 7 ret room_1 M) (hX : LawX C M Len xs) (hk23 : ∀ (wF : MM) (wG : GG) (w0 : Int32) (c1 s1 : Nat), c1 + 60 * n ≤ 601024 → s1 + 600 * n ≤ 7293034 → k23 wF wG w0 = some 1 → AW C 7 (ZL M) M c1 s1 23 [some (.ref 181), some (.ref 0), some (.ref 164), some (.ref 180), some (.int w0), none, none] [] wF wG) (hc0 : c0 + 60 * n + 50 ≤ 601024) (hs0 : s0 + 600 * n + 500 ≤ 7293034) (F : MM) (G : GG) (x4 : Int32) (h : s_L_law_b269 Len xs k23 F G x4 = some 1) : AW C 7 (ZL M) M (c0 + 0) (s0 + 0) 269 [some (.ref 181), some (.ref 0), some (.ref 164), some (.ref 180), some (.int x4), none, none] [] F G := by
  rw [s_L_law_b269] at h
  refine aw_aload_n (pc := 269) (i := 1) (x := 0) hM dL_law_269 rfl rfl ?_
  obtain ⟨z773, h771, h⟩ := bind_some h
  refine aw_cv1 (pc := 270) (n := 0) (As := []) (st := []) (b := 0) (vo := (some (.int z773.1))) (c2 := (c0 + 0)) (s2 := (s0 + 0)) hM (k_X8_errorPosition h771) rfl cw_L_142 sk_0 rfl rfl (by decide +kernel) rfl rfl ⟨(Nat.le_of_ble_eq_true rfl), (Nat.le_of_ble_eq_true rfl)⟩ (Nat.le_of_ble_eq_true rfl) ⟨by show (c0 + 0) + 0 ≤ 601024; omega, by show (s0 + 0) + 0 ≤ 7293034; omega⟩ dL_law_270 rfl rfl ?_
  refine aw_aload_n (pc := 273) (i := 2) (x := 164) hM dL_law_273 rfl rfl ?_
  obtain ⟨z776, h774, h⟩ := bind_some h
  refine aw_cv1 (pc := 274) (n := 0) (As := []) (st := [.int z773.1]) (b := 164) (vo := (some (.int z776.1))) (c2 := (c0 + 0)) (s2 := (s0 + 0)) hM (k_X9_errorPosition h774) rfl cw_L_145 sk_164 rfl rfl (by decide +kernel) rfl rfl ⟨(Nat.le_of_ble_eq_true rfl), (Nat.le_of_ble_eq_true rfl)⟩ (Nat.le_of_ble_eq_true rfl) ⟨by show (c0 + 0) + 0 ≤ 601024; omega, by show (s0 + 0) + 0 ≤ 7293034; omega⟩ dL_law_274 rfl rfl ?_
  refine aw_icmp_eq (pc := 277) (tgt := 2530) hM dL_law_277 (by decide) (fun c777 => ?_) (fun c777 => ?_)
  · rw [if_pos c777] at h
    obtain ⟨y778, e779, h⟩ := bind_some h
    have e779 := Option.some.inj e779
    refine aw_iinc (pc := 2530) (v := y778) (L' := [some (.ref 181), some (.ref 0), some (.ref 164), some (.ref 180), some (.int y778), none, none]) hM dL_law_2530 rfl e779 (by decide) rfl ?_
    refine aw_goto (pc := 2533) (tgt := 23) hM dL_law_2533 (by decide) ?_
    exact hk23 z776.2 G y778 _ _ (by omega) (by omega) h
  · rw [if_neg c777] at h
    refine aw_iconst (pc := 280) (v := 0) hM dL_law_280 (by decide) ?_
    exact absurd h (by decide)
set_option maxRecDepth 20000 in
set_option maxHeartbeats 4000000 in
theorem k_L_law_b282 {C : CX} {M : MX} {Len : Nat} {xs : Nat → Int32} {k23 : MM → GG → Int32 → Option Int32} {n c0 s0 : Nat} (hM : MOk C RL cL_law 7 ret room_1 M) (hX : LawX C M Len xs) (hk23 : ∀ (wF : MM) (wG : GG) (w0 : Int32) (c1 s1 : Nat), c1 + 60 * n ≤ 601024 → s1 + 600 * n ≤ 7293034 → k23 wF wG w0 = some 1 → AW C 7 (ZL M) M c1 s1 23 [some (.ref 181), some (.ref 0), some (.ref 164), some (.ref 180), some (.int w0), none, none] [] wF wG) (hc0 : c0 + 60 * n + 50 ≤ 601024) (hs0 : s0 + 600 * n + 500 ≤ 7293034) (F : MM) (G : GG) (x4 : Int32) (h : s_L_law_b282 Len xs k23 F G x4 = some 1) : AW C 7 (ZL M) M (c0 + 0) (s0 + 0) 282 [some (.ref 181), some (.ref 0), some (.ref 164), some (.ref 180), some (.int x4), none, none] [] F G := by
  rw [s_L_law_b282] at h
  refine aw_aload_n (pc := 282) (i := 1) (x := 0) hM dL_law_282 rfl rfl ?_
  refine aw_aload_n (pc := 283) (i := 3) (x := 180) hM dL_law_283 rfl rfl ?_
  obtain ⟨z753, h755, h⟩ := bind_some h
  obtain ⟨k754, h756, h⟩ := bind_some h
  refine aw_csW (pc := 284) (n := 2) (As := [.ref 0, .ref 180]) (st := []) (vo := some (.int k754)) (c2 := (c0 + 1)) (s2 := (s0 + 6)) hM (k_L_load h755 h756) cw_L_146 (by decide +kernel) rfl rfl ⟨(Nat.le_of_ble_eq_true rfl), (Nat.le_of_ble_eq_true rfl)⟩ (Nat.le_of_ble_eq_true rfl) ⟨by show (c0 + 0) + 1 ≤ 601024; omega, by show (s0 + 0) + 6 ≤ 7293034; omega⟩ dL_law_284 rfl rfl ?_
  obtain ⟨G757, e758, h⟩ := bind_some h
  have e758 := Option.some.inj e758
  refine aw_memG e758 ?_
  refine aw_istore (pc := 287) (i := 5) (L' := [some (.ref 181), some (.ref 0), some (.ref 164), some (.ref 180), some (.int x4), some (.int k754), none]) hM dL_law_287  (by decide) rfl ?_
  refine aw_aload_n (pc := 289) (i := 2) (x := 164) hM dL_law_289 rfl rfl ?_
  obtain ⟨z761, h759, h⟩ := bind_some h
  refine aw_cv1 (pc := 290) (n := 0) (As := []) (st := []) (b := 164) (vo := (some (.int z761.1))) (c2 := (c0 + 1)) (s2 := (s0 + 6)) hM (k_X9_load h759) rfl cw_L_149 sk_164 rfl rfl (by decide +kernel) rfl rfl ⟨(Nat.le_of_ble_eq_true rfl), (Nat.le_of_ble_eq_true rfl)⟩ (Nat.le_of_ble_eq_true rfl) ⟨by show (c0 + 1) + 0 ≤ 601024; omega, by show (s0 + 6) + 0 ≤ 7293034; omega⟩ dL_law_290 rfl rfl ?_
  refine aw_istore (pc := 293) (i := 6) (L' := [some (.ref 181), some (.ref 0), some (.ref 164), some (.ref 180), some (.int x4), some (.int k754), some (.int z761.1)]) hM dL_law_293  (by decide) rfl ?_
  refine aw_aload_n (pc := 295) (i := 2) (x := 164) hM dL_law_295 rfl rfl ?_
  obtain ⟨r763, h762, h⟩ := bind_some h
  refine aw_cv1 (pc := 296) (n := 0) (As := []) (st := []) (b := 164) (vo := (some (.int r763))) (c2 := (c0 + 1)) (s2 := (s0 + 6)) hM (k_X9_thrown h762) rfl cw_L_135 sk_164 rfl rfl (by decide +kernel) rfl rfl ⟨(Nat.le_of_ble_eq_true rfl), (Nat.le_of_ble_eq_true rfl)⟩ (Nat.le_of_ble_eq_true rfl) ⟨by show (c0 + 1) + 0 ≤ 601024; omega, by show (s0 + 6) + 0 ≤ 7293034; omega⟩ dL_law_296 rfl rfl ?_
  refine aw_iload (pc := 299) (i := 5) (x := k754) hM dL_law_299  rfl ?_
  refine aw_icmp_eq (pc := 301) (tgt := 306) hM dL_law_301 (by decide) (fun c764 => ?_) (fun c764 => ?_)
  · rw [if_pos c764] at h
    refine aw_iload (pc := 306) (i := 5) (x := k754) hM dL_law_306  rfl ?_
    refine aw_if_ne (pc := 308) (tgt := 323) hM dL_law_308 (by decide) (fun c765 => ?_) (fun c765 => ?_)
    · rw [if_neg c765] at h
      refine aw_goto (pc := 323) (tgt := 2530) hM dL_law_323 (by decide) ?_
      obtain ⟨y766, e767, h⟩ := bind_some h
      have e767 := Option.some.inj e767
      refine aw_iinc (pc := 2530) (v := y766) (L' := [some (.ref 181), some (.ref 0), some (.ref 164), some (.ref 180), some (.int y766), some (.int k754), some (.int z761.1)]) hM dL_law_2530 rfl e767 (by decide) rfl ?_
      refine aw_goto (pc := 2533) (tgt := 23) hM dL_law_2533 (by decide) ?_
      refine aw_weak (L' := [some (.ref 181), some (.ref 0), some (.ref 164), some (.ref 180), some (.int y766), none, none]) ?_ (lw_of [true, true, true, true, true, false, false] rfl)
      exact hk23 z761.2 G757 y766 _ _ (by omega) (by omega) h
    · rw [if_pos c765] at h
      refine aw_aload_n (pc := 311) (i := 3) (x := 180) hM dL_law_311 rfl rfl ?_
      refine aw_iconst (pc := 312) (v := 0) hM dL_law_312 (by decide) ?_
      refine aw_lald (pc := 313) hM sk_180 (by decide) dL_law_313 ?_
      refine aw_iload (pc := 314) (i := 6) (x := z761.1) hM dL_law_314  rfl ?_
      refine aw_i2l (pc := 316) hM dL_law_316 ?_
      refine aw_lcmp (pc := 317) hM dL_law_317 ?_
      refine aw_if_eq (pc := 318) (tgt := 323) hM dL_law_318 (by decide) (fun c768 => ?_) (fun c768 => ?_)
      · rw [if_pos c768] at h
        refine aw_goto (pc := 323) (tgt := 2530) hM dL_law_323 (by decide) ?_
        obtain ⟨y769, e770, h⟩ := bind_some h
        have e770 := Option.some.inj e770
        refine aw_iinc (pc := 2530) (v := y769) (L' := [some (.ref 181), some (.ref 0), some (.ref 164), some (.ref 180), some (.int y769), some (.int k754), some (.int z761.1)]) hM dL_law_2530 rfl e770 (by decide) rfl ?_
        refine aw_goto (pc := 2533) (tgt := 23) hM dL_law_2533 (by decide) ?_
        refine aw_weak (L' := [some (.ref 181), some (.ref 0), some (.ref 164), some (.ref 180), some (.int y769), none, none]) ?_ (lw_of [true, true, true, true, true, false, false] rfl)
        exact hk23 z761.2 G757 y769 _ _ (by omega) (by omega) h
      · rw [if_neg c768] at h
        refine aw_iconst (pc := 321) (v := 0) hM dL_law_321 (by decide) ?_
        exact absurd h (by decide)
  · rw [if_neg c764] at h
    refine aw_iconst (pc := 304) (v := 0) hM dL_law_304 (by decide) ?_
    exact absurd h (by decide)
set_option maxRecDepth 20000 in
set_option maxHeartbeats 4000000 in
theorem k_L_law_b326 {C : CX} {M : MX} {Len : Nat} {xs : Nat → Int32} {k23 : MM → GG → Int32 → Option Int32} {n c0 s0 : Nat} (hM : MOk C RL cL_law 7 ret room_1 M) (hX : LawX C M Len xs) (hk23 : ∀ (wF : MM) (wG : GG) (w0 : Int32) (c1 s1 : Nat), c1 + 60 * n ≤ 601024 → s1 + 600 * n ≤ 7293034 → k23 wF wG w0 = some 1 → AW C 7 (ZL M) M c1 s1 23 [some (.ref 181), some (.ref 0), some (.ref 164), some (.ref 180), some (.int w0), none, none] [] wF wG) (hc0 : c0 + 60 * n + 50 ≤ 601024) (hs0 : s0 + 600 * n + 500 ≤ 7293034) (F : MM) (G : GG) (x4 : Int32) (h : s_L_law_b326 Len xs k23 F G x4 = some 1) : AW C 7 (ZL M) M (c0 + 0) (s0 + 0) 326 [some (.ref 181), some (.ref 0), some (.ref 164), some (.ref 180), some (.int x4), none, none] [] F G := by
  rw [s_L_law_b326] at h
  refine aw_aload_n (pc := 326) (i := 1) (x := 0) hM dL_law_326 rfl rfl ?_
  refine aw_aload_n (pc := 327) (i := 0) (x := 181) hM dL_law_327 rfl rfl ?_
  refine aw_iload (pc := 328) (i := 4) (x := x4) hM dL_law_328  rfl ?_
  refine aw_iconst (pc := 330) (v := 1) hM dL_law_330 (by decide) ?_
  refine aw_iadd (pc := 331) hM dL_law_331 ?_
  obtain ⟨c733, h⟩ := ite_some h
  refine aw_sld (pc := 332) hM hX c733 dL_law_332 ?_
  refine aw_aload_n (pc := 333) (i := 3) (x := 180) hM dL_law_333 rfl rfl ?_
  obtain ⟨z734, h736, h⟩ := bind_some h
  obtain ⟨k735, h737, h⟩ := bind_some h
  refine aw_csW (pc := 334) (n := 3) (As := [.ref 0, .int (xs (ix (x4 + 1))), .ref 180]) (st := []) (vo := some (.int k735)) (c2 := (c0 + 1)) (s2 := (s0 + 6)) hM (k_L_about h736 h737) cw_L_150 (by decide +kernel) rfl rfl ⟨(Nat.le_of_ble_eq_true rfl), (Nat.le_of_ble_eq_true rfl)⟩ (Nat.le_of_ble_eq_true rfl) ⟨by show (c0 + 0) + 1 ≤ 601024; omega, by show (s0 + 0) + 6 ≤ 7293034; omega⟩ dL_law_334 rfl rfl ?_
  obtain ⟨G738, e739, h⟩ := bind_some h
  have e739 := Option.some.inj e739
  refine aw_memG e739 ?_
  refine aw_istore (pc := 337) (i := 5) (L' := [some (.ref 181), some (.ref 0), some (.ref 164), some (.ref 180), some (.int x4), some (.int k735), none]) hM dL_law_337  (by decide) rfl ?_
  refine aw_aload_n (pc := 339) (i := 2) (x := 164) hM dL_law_339 rfl rfl ?_
  refine aw_aload_n (pc := 340) (i := 0) (x := 181) hM dL_law_340 rfl rfl ?_
  refine aw_iload (pc := 341) (i := 4) (x := x4) hM dL_law_341  rfl ?_
  refine aw_iconst (pc := 343) (v := 1) hM dL_law_343 (by decide) ?_
  refine aw_iadd (pc := 344) hM dL_law_344 ?_
  obtain ⟨c740, h⟩ := ite_some h
  refine aw_sld (pc := 345) hM hX c740 dL_law_345 ?_
  obtain ⟨z743, h741, h⟩ := bind_some h
  refine aw_cv1 (pc := 346) (n := 1) (As := [.int (xs (ix (x4 + 1)))]) (st := []) (b := 164) (vo := (some (.int z743.1))) (c2 := (c0 + 1)) (s2 := (s0 + 6)) hM (k_X9_about h741) rfl cw_L_152 sk_164 rfl rfl (by decide +kernel) rfl rfl ⟨(Nat.le_of_ble_eq_true rfl), (Nat.le_of_ble_eq_true rfl)⟩ (Nat.le_of_ble_eq_true rfl) ⟨by show (c0 + 1) + 0 ≤ 601024; omega, by show (s0 + 6) + 0 ≤ 7293034; omega⟩ dL_law_346 rfl rfl ?_
  refine aw_istore (pc := 349) (i := 6) (L' := [some (.ref 181), some (.ref 0), some (.ref 164), some (.ref 180), some (.int x4), some (.int k735), some (.int z743.1)]) hM dL_law_349  (by decide) rfl ?_
  refine aw_aload_n (pc := 351) (i := 2) (x := 164) hM dL_law_351 rfl rfl ?_
  obtain ⟨r745, h744, h⟩ := bind_some h
  refine aw_cv1 (pc := 352) (n := 0) (As := []) (st := []) (b := 164) (vo := (some (.int r745))) (c2 := (c0 + 1)) (s2 := (s0 + 6)) hM (k_X9_thrown h744) rfl cw_L_135 sk_164 rfl rfl (by decide +kernel) rfl rfl ⟨(Nat.le_of_ble_eq_true rfl), (Nat.le_of_ble_eq_true rfl)⟩ (Nat.le_of_ble_eq_true rfl) ⟨by show (c0 + 1) + 0 ≤ 601024; omega, by show (s0 + 6) + 0 ≤ 7293034; omega⟩ dL_law_352 rfl rfl ?_
  refine aw_iload (pc := 355) (i := 5) (x := k735) hM dL_law_355  rfl ?_
  refine aw_icmp_eq (pc := 357) (tgt := 362) hM dL_law_357 (by decide) (fun c746 => ?_) (fun c746 => ?_)
  · rw [if_pos c746] at h
    refine aw_iload (pc := 362) (i := 5) (x := k735) hM dL_law_362  rfl ?_
    refine aw_if_ne (pc := 364) (tgt := 379) hM dL_law_364 (by decide) (fun c747 => ?_) (fun c747 => ?_)
    · rw [if_neg c747] at h
      refine aw_goto (pc := 379) (tgt := 2530) hM dL_law_379 (by decide) ?_
      obtain ⟨y748, e749, h⟩ := bind_some h
      have e749 := Option.some.inj e749
      refine aw_iinc (pc := 2530) (v := y748) (L' := [some (.ref 181), some (.ref 0), some (.ref 164), some (.ref 180), some (.int y748), some (.int k735), some (.int z743.1)]) hM dL_law_2530 rfl e749 (by decide) rfl ?_
      refine aw_goto (pc := 2533) (tgt := 23) hM dL_law_2533 (by decide) ?_
      refine aw_weak (L' := [some (.ref 181), some (.ref 0), some (.ref 164), some (.ref 180), some (.int y748), none, none]) ?_ (lw_of [true, true, true, true, true, false, false] rfl)
      exact hk23 z743.2 G738 y748 _ _ (by omega) (by omega) h
    · rw [if_pos c747] at h
      refine aw_aload_n (pc := 367) (i := 3) (x := 180) hM dL_law_367 rfl rfl ?_
      refine aw_iconst (pc := 368) (v := 0) hM dL_law_368 (by decide) ?_
      refine aw_lald (pc := 369) hM sk_180 (by decide) dL_law_369 ?_
      refine aw_iload (pc := 370) (i := 6) (x := z743.1) hM dL_law_370  rfl ?_
      refine aw_i2l (pc := 372) hM dL_law_372 ?_
      refine aw_lcmp (pc := 373) hM dL_law_373 ?_
      refine aw_if_eq (pc := 374) (tgt := 379) hM dL_law_374 (by decide) (fun c750 => ?_) (fun c750 => ?_)
      · rw [if_pos c750] at h
        refine aw_goto (pc := 379) (tgt := 2530) hM dL_law_379 (by decide) ?_
        obtain ⟨y751, e752, h⟩ := bind_some h
        have e752 := Option.some.inj e752
        refine aw_iinc (pc := 2530) (v := y751) (L' := [some (.ref 181), some (.ref 0), some (.ref 164), some (.ref 180), some (.int y751), some (.int k735), some (.int z743.1)]) hM dL_law_2530 rfl e752 (by decide) rfl ?_
        refine aw_goto (pc := 2533) (tgt := 23) hM dL_law_2533 (by decide) ?_
        refine aw_weak (L' := [some (.ref 181), some (.ref 0), some (.ref 164), some (.ref 180), some (.int y751), none, none]) ?_ (lw_of [true, true, true, true, true, false, false] rfl)
        exact hk23 z743.2 G738 y751 _ _ (by omega) (by omega) h
      · rw [if_neg c750] at h
        refine aw_iconst (pc := 377) (v := 0) hM dL_law_377 (by decide) ?_
        exact absurd h (by decide)
  · rw [if_neg c746] at h
    refine aw_iconst (pc := 360) (v := 0) hM dL_law_360 (by decide) ?_
    exact absurd h (by decide)
set_option maxRecDepth 20000 in
set_option maxHeartbeats 4000000 in
theorem k_L_law_b382 {C : CX} {M : MX} {Len : Nat} {xs : Nat → Int32} {k23 : MM → GG → Int32 → Option Int32} {n c0 s0 : Nat} (hM : MOk C RL cL_law 7 ret room_1 M) (hX : LawX C M Len xs) (hk23 : ∀ (wF : MM) (wG : GG) (w0 : Int32) (c1 s1 : Nat), c1 + 60 * n ≤ 601024 → s1 + 600 * n ≤ 7293034 → k23 wF wG w0 = some 1 → AW C 7 (ZL M) M c1 s1 23 [some (.ref 181), some (.ref 0), some (.ref 164), some (.ref 180), some (.int w0), none, none] [] wF wG) (hc0 : c0 + 60 * n + 50 ≤ 601024) (hs0 : s0 + 600 * n + 500 ≤ 7293034) (F : MM) (G : GG) (x4 : Int32) (h : s_L_law_b382 Len xs k23 F G x4 = some 1) : AW C 7 (ZL M) M (c0 + 0) (s0 + 0) 382 [some (.ref 181), some (.ref 0), some (.ref 164), some (.ref 180), some (.int x4), none, none] [] F G := by
  rw [s_L_law_b382] at h
  refine aw_aload_n (pc := 382) (i := 1) (x := 0) hM dL_law_382 rfl rfl ?_
  refine aw_aload_n (pc := 383) (i := 0) (x := 181) hM dL_law_383 rfl rfl ?_
  refine aw_iload (pc := 384) (i := 4) (x := x4) hM dL_law_384  rfl ?_
  refine aw_iconst (pc := 386) (v := 1) hM dL_law_386 (by decide) ?_
  refine aw_iadd (pc := 387) hM dL_law_387 ?_
  obtain ⟨c711, h⟩ := ite_some h
  refine aw_sld (pc := 388) hM hX c711 dL_law_388 ?_
  refine aw_aload_n (pc := 389) (i := 0) (x := 181) hM dL_law_389 rfl rfl ?_
  refine aw_iload (pc := 390) (i := 4) (x := x4) hM dL_law_390  rfl ?_
  refine aw_iconst (pc := 392) (v := 2) hM dL_law_392 (by decide) ?_
  refine aw_iadd (pc := 393) hM dL_law_393 ?_
  obtain ⟨c712, h⟩ := ite_some h
  refine aw_sld (pc := 394) hM hX c712 dL_law_394 ?_
  refine aw_aload_n (pc := 395) (i := 3) (x := 180) hM dL_law_395 rfl rfl ?_
  obtain ⟨z713, h715, h⟩ := bind_some h
  obtain ⟨k714, h716, h⟩ := bind_some h
  refine aw_csW (pc := 396) (n := 4) (As := [.ref 0, .int (xs (ix (x4 + 1))), .int (xs (ix (x4 + 2))), .ref 180]) (st := []) (vo := some (.int k714)) (c2 := (c0 + 2)) (s2 := (s0 + 12)) hM (k_L_node h715 h716) cw_L_153 (by decide +kernel) rfl rfl ⟨(Nat.le_of_ble_eq_true rfl), (Nat.le_of_ble_eq_true rfl)⟩ (Nat.le_of_ble_eq_true rfl) ⟨by show (c0 + 0) + 2 ≤ 601024; omega, by show (s0 + 0) + 12 ≤ 7293034; omega⟩ dL_law_396 rfl rfl ?_
  obtain ⟨G717, e718, h⟩ := bind_some h
  have e718 := Option.some.inj e718
  refine aw_memG e718 ?_
  refine aw_istore (pc := 399) (i := 5) (L' := [some (.ref 181), some (.ref 0), some (.ref 164), some (.ref 180), some (.int x4), some (.int k714), none]) hM dL_law_399  (by decide) rfl ?_
  refine aw_aload_n (pc := 401) (i := 2) (x := 164) hM dL_law_401 rfl rfl ?_
  refine aw_aload_n (pc := 402) (i := 0) (x := 181) hM dL_law_402 rfl rfl ?_
  refine aw_iload (pc := 403) (i := 4) (x := x4) hM dL_law_403  rfl ?_
  refine aw_iconst (pc := 405) (v := 1) hM dL_law_405 (by decide) ?_
  refine aw_iadd (pc := 406) hM dL_law_406 ?_
  obtain ⟨c719, h⟩ := ite_some h
  refine aw_sld (pc := 407) hM hX c719 dL_law_407 ?_
  refine aw_aload_n (pc := 408) (i := 0) (x := 181) hM dL_law_408 rfl rfl ?_
  refine aw_iload (pc := 409) (i := 4) (x := x4) hM dL_law_409  rfl ?_
  refine aw_iconst (pc := 411) (v := 2) hM dL_law_411 (by decide) ?_
  refine aw_iadd (pc := 412) hM dL_law_412 ?_
  obtain ⟨c720, h⟩ := ite_some h
  refine aw_sld (pc := 413) hM hX c720 dL_law_413 ?_
  obtain ⟨z723, h721, h⟩ := bind_some h
  refine aw_cv1 (pc := 414) (n := 2) (As := [.int (xs (ix (x4 + 1))), .int (xs (ix (x4 + 2)))]) (st := []) (b := 164) (vo := (some (.int z723.1))) (c2 := (c0 + 2)) (s2 := (s0 + 12)) hM (k_X9_node h721) rfl cw_L_156 sk_164 rfl rfl (by decide +kernel) rfl rfl ⟨(Nat.le_of_ble_eq_true rfl), (Nat.le_of_ble_eq_true rfl)⟩ (Nat.le_of_ble_eq_true rfl) ⟨by show (c0 + 2) + 0 ≤ 601024; omega, by show (s0 + 12) + 0 ≤ 7293034; omega⟩ dL_law_414 rfl rfl ?_
  refine aw_istore (pc := 417) (i := 6) (L' := [some (.ref 181), some (.ref 0), some (.ref 164), some (.ref 180), some (.int x4), some (.int k714), some (.int z723.1)]) hM dL_law_417  (by decide) rfl ?_
  refine aw_aload_n (pc := 419) (i := 2) (x := 164) hM dL_law_419 rfl rfl ?_
  obtain ⟨r725, h724, h⟩ := bind_some h
  refine aw_cv1 (pc := 420) (n := 0) (As := []) (st := []) (b := 164) (vo := (some (.int r725))) (c2 := (c0 + 2)) (s2 := (s0 + 12)) hM (k_X9_thrown h724) rfl cw_L_135 sk_164 rfl rfl (by decide +kernel) rfl rfl ⟨(Nat.le_of_ble_eq_true rfl), (Nat.le_of_ble_eq_true rfl)⟩ (Nat.le_of_ble_eq_true rfl) ⟨by show (c0 + 2) + 0 ≤ 601024; omega, by show (s0 + 12) + 0 ≤ 7293034; omega⟩ dL_law_420 rfl rfl ?_
  refine aw_iload (pc := 423) (i := 5) (x := k714) hM dL_law_423  rfl ?_
  refine aw_icmp_eq (pc := 425) (tgt := 430) hM dL_law_425 (by decide) (fun c726 => ?_) (fun c726 => ?_)
  · rw [if_pos c726] at h
    refine aw_iload (pc := 430) (i := 5) (x := k714) hM dL_law_430  rfl ?_
    refine aw_if_ne (pc := 432) (tgt := 447) hM dL_law_432 (by decide) (fun c727 => ?_) (fun c727 => ?_)
    · rw [if_neg c727] at h
      refine aw_goto (pc := 447) (tgt := 2530) hM dL_law_447 (by decide) ?_
      obtain ⟨y728, e729, h⟩ := bind_some h
      have e729 := Option.some.inj e729
      refine aw_iinc (pc := 2530) (v := y728) (L' := [some (.ref 181), some (.ref 0), some (.ref 164), some (.ref 180), some (.int y728), some (.int k714), some (.int z723.1)]) hM dL_law_2530 rfl e729 (by decide) rfl ?_
      refine aw_goto (pc := 2533) (tgt := 23) hM dL_law_2533 (by decide) ?_
      refine aw_weak (L' := [some (.ref 181), some (.ref 0), some (.ref 164), some (.ref 180), some (.int y728), none, none]) ?_ (lw_of [true, true, true, true, true, false, false] rfl)
      exact hk23 z723.2 G717 y728 _ _ (by omega) (by omega) h
    · rw [if_pos c727] at h
      refine aw_aload_n (pc := 435) (i := 3) (x := 180) hM dL_law_435 rfl rfl ?_
      refine aw_iconst (pc := 436) (v := 0) hM dL_law_436 (by decide) ?_
      refine aw_lald (pc := 437) hM sk_180 (by decide) dL_law_437 ?_
      refine aw_iload (pc := 438) (i := 6) (x := z723.1) hM dL_law_438  rfl ?_
      refine aw_i2l (pc := 440) hM dL_law_440 ?_
      refine aw_lcmp (pc := 441) hM dL_law_441 ?_
      refine aw_if_eq (pc := 442) (tgt := 447) hM dL_law_442 (by decide) (fun c730 => ?_) (fun c730 => ?_)
      · rw [if_pos c730] at h
        refine aw_goto (pc := 447) (tgt := 2530) hM dL_law_447 (by decide) ?_
        obtain ⟨y731, e732, h⟩ := bind_some h
        have e732 := Option.some.inj e732
        refine aw_iinc (pc := 2530) (v := y731) (L' := [some (.ref 181), some (.ref 0), some (.ref 164), some (.ref 180), some (.int y731), some (.int k714), some (.int z723.1)]) hM dL_law_2530 rfl e732 (by decide) rfl ?_
        refine aw_goto (pc := 2533) (tgt := 23) hM dL_law_2533 (by decide) ?_
        refine aw_weak (L' := [some (.ref 181), some (.ref 0), some (.ref 164), some (.ref 180), some (.int y731), none, none]) ?_ (lw_of [true, true, true, true, true, false, false] rfl)
        exact hk23 z723.2 G717 y731 _ _ (by omega) (by omega) h
      · rw [if_neg c730] at h
        refine aw_iconst (pc := 445) (v := 0) hM dL_law_445 (by decide) ?_
        exact absurd h (by decide)
  · rw [if_neg c726] at h
    refine aw_iconst (pc := 428) (v := 0) hM dL_law_428 (by decide) ?_
    exact absurd h (by decide)
set_option maxRecDepth 20000 in
set_option maxHeartbeats 4000000 in
theorem k_L_law_b510 {C : CX} {M : MX} {Len : Nat} {xs : Nat → Int32} {k23 : MM → GG → Int32 → Option Int32} {n c0 s0 : Nat} (hM : MOk C RL cL_law 7 ret room_1 M) (hX : LawX C M Len xs) (hk23 : ∀ (wF : MM) (wG : GG) (w0 : Int32) (c1 s1 : Nat), c1 + 60 * n ≤ 601024 → s1 + 600 * n ≤ 7293034 → k23 wF wG w0 = some 1 → AW C 7 (ZL M) M c1 s1 23 [some (.ref 181), some (.ref 0), some (.ref 164), some (.ref 180), some (.int w0), none, none] [] wF wG) (hc0 : c0 + 60 * n + 36 ≤ 601024) (hs0 : s0 + 600 * n + 360 ≤ 7293034) (F : MM) (G : GG) (x4 : Int32) (x5 : Int32) (t0 : Int32) (t1 : Int32) (t2 : Int32) (h : s_L_law_b510 Len xs k23 F G x4 x5 t0 t1 t2 = some 1) : AW C 7 (ZL M) M (c0 + 0) (s0 + 0) 510 [some (.ref 181), some (.ref 0), some (.ref 164), some (.ref 180), some (.int x4), some (.int x5), none] [.int t0, .int t1, .int t2, .ref 164] F G := by
  rw [s_L_law_b510] at h
  obtain ⟨z701, h699, h⟩ := bind_some h
  refine aw_cv1 (pc := 510) (n := 3) (As := [.int t2, .int t1, .int t0]) (st := []) (b := 164) (vo := (some (.int z701.1))) (c2 := (c0 + 0)) (s2 := (s0 + 0)) hM (k_X9_version h699) rfl cw_L_160 sk_164 rfl rfl (by decide +kernel) rfl rfl ⟨(Nat.le_of_ble_eq_true rfl), (Nat.le_of_ble_eq_true rfl)⟩ (Nat.le_of_ble_eq_true rfl) ⟨by show (c0 + 0) + 0 ≤ 601024; omega, by show (s0 + 0) + 0 ≤ 7293034; omega⟩ dL_law_510 rfl rfl ?_
  refine aw_istore (pc := 513) (i := 6) (L' := [some (.ref 181), some (.ref 0), some (.ref 164), some (.ref 180), some (.int x4), some (.int x5), some (.int z701.1)]) hM dL_law_513  (by decide) rfl ?_
  refine aw_aload_n (pc := 515) (i := 2) (x := 164) hM dL_law_515 rfl rfl ?_
  obtain ⟨r703, h702, h⟩ := bind_some h
  refine aw_cv1 (pc := 516) (n := 0) (As := []) (st := []) (b := 164) (vo := (some (.int r703))) (c2 := (c0 + 0)) (s2 := (s0 + 0)) hM (k_X9_thrown h702) rfl cw_L_135 sk_164 rfl rfl (by decide +kernel) rfl rfl ⟨(Nat.le_of_ble_eq_true rfl), (Nat.le_of_ble_eq_true rfl)⟩ (Nat.le_of_ble_eq_true rfl) ⟨by show (c0 + 0) + 0 ≤ 601024; omega, by show (s0 + 0) + 0 ≤ 7293034; omega⟩ dL_law_516 rfl rfl ?_
  refine aw_iload (pc := 519) (i := 5) (x := x5) hM dL_law_519  rfl ?_
  refine aw_icmp_eq (pc := 521) (tgt := 526) hM dL_law_521 (by decide) (fun c704 => ?_) (fun c704 => ?_)
  · rw [if_pos c704] at h
    refine aw_iload (pc := 526) (i := 5) (x := x5) hM dL_law_526  rfl ?_
    refine aw_if_ne (pc := 528) (tgt := 543) hM dL_law_528 (by decide) (fun c705 => ?_) (fun c705 => ?_)
    · rw [if_neg c705] at h
      refine aw_goto (pc := 543) (tgt := 2530) hM dL_law_543 (by decide) ?_
      obtain ⟨y706, e707, h⟩ := bind_some h
      have e707 := Option.some.inj e707
      refine aw_iinc (pc := 2530) (v := y706) (L' := [some (.ref 181), some (.ref 0), some (.ref 164), some (.ref 180), some (.int y706), some (.int x5), some (.int z701.1)]) hM dL_law_2530 rfl e707 (by decide) rfl ?_
      refine aw_goto (pc := 2533) (tgt := 23) hM dL_law_2533 (by decide) ?_
      refine aw_weak (L' := [some (.ref 181), some (.ref 0), some (.ref 164), some (.ref 180), some (.int y706), none, none]) ?_ (lw_of [true, true, true, true, true, false, false] rfl)
      exact hk23 z701.2 G y706 _ _ (by omega) (by omega) h
    · rw [if_pos c705] at h
      refine aw_aload_n (pc := 531) (i := 3) (x := 180) hM dL_law_531 rfl rfl ?_
      refine aw_iconst (pc := 532) (v := 0) hM dL_law_532 (by decide) ?_
      refine aw_lald (pc := 533) hM sk_180 (by decide) dL_law_533 ?_
      refine aw_iload (pc := 534) (i := 6) (x := z701.1) hM dL_law_534  rfl ?_
      refine aw_i2l (pc := 536) hM dL_law_536 ?_
      refine aw_lcmp (pc := 537) hM dL_law_537 ?_
      refine aw_if_eq (pc := 538) (tgt := 543) hM dL_law_538 (by decide) (fun c708 => ?_) (fun c708 => ?_)
      · rw [if_pos c708] at h
        refine aw_goto (pc := 543) (tgt := 2530) hM dL_law_543 (by decide) ?_
        obtain ⟨y709, e710, h⟩ := bind_some h
        have e710 := Option.some.inj e710
        refine aw_iinc (pc := 2530) (v := y709) (L' := [some (.ref 181), some (.ref 0), some (.ref 164), some (.ref 180), some (.int y709), some (.int x5), some (.int z701.1)]) hM dL_law_2530 rfl e710 (by decide) rfl ?_
        refine aw_goto (pc := 2533) (tgt := 23) hM dL_law_2533 (by decide) ?_
        refine aw_weak (L' := [some (.ref 181), some (.ref 0), some (.ref 164), some (.ref 180), some (.int y709), none, none]) ?_ (lw_of [true, true, true, true, true, false, false] rfl)
        exact hk23 z701.2 G y709 _ _ (by omega) (by omega) h
      · rw [if_neg c708] at h
        refine aw_iconst (pc := 541) (v := 0) hM dL_law_541 (by decide) ?_
        exact absurd h (by decide)
  · rw [if_neg c704] at h
    refine aw_iconst (pc := 524) (v := 0) hM dL_law_524 (by decide) ?_
    exact absurd h (by decide)
set_option maxRecDepth 20000 in
set_option maxHeartbeats 4000000 in
theorem k_L_law_b477 {C : CX} {M : MX} {Len : Nat} {xs : Nat → Int32} {k23 : MM → GG → Int32 → Option Int32} {n c0 s0 : Nat} (hM : MOk C RL cL_law 7 ret room_1 M) (hX : LawX C M Len xs) (hk23 : ∀ (wF : MM) (wG : GG) (w0 : Int32) (c1 s1 : Nat), c1 + 60 * n ≤ 601024 → s1 + 600 * n ≤ 7293034 → k23 wF wG w0 = some 1 → AW C 7 (ZL M) M c1 s1 23 [some (.ref 181), some (.ref 0), some (.ref 164), some (.ref 180), some (.int w0), none, none] [] wF wG) (hc0 : c0 + 60 * n + 40 ≤ 601024) (hs0 : s0 + 600 * n + 400 ≤ 7293034) (F : MM) (G : GG) (x4 : Int32) (t0 : Int32) (t1 : Int32) (t2 : Int32) (h : s_L_law_b477 Len xs k23 F G x4 t0 t1 t2 = some 1) : AW C 7 (ZL M) M (c0 + 0) (s0 + 0) 477 [some (.ref 181), some (.ref 0), some (.ref 164), some (.ref 180), some (.int x4), none, none] [.int t0, .int t1, .int t2, .ref 0] F G := by
  rw [s_L_law_b477] at h
  refine aw_aload_n (pc := 477) (i := 3) (x := 180) hM dL_law_477 rfl rfl ?_
  obtain ⟨z689, h691, h⟩ := bind_some h
  obtain ⟨k690, h692, h⟩ := bind_some h
  refine aw_csW (pc := 478) (n := 5) (As := [.ref 0, .int t2, .int t1, .int t0, .ref 180]) (st := []) (vo := some (.int k690)) (c2 := (c0 + 2)) (s2 := (s0 + 12)) hM (k_L_version h691 h692) cw_L_157 (by decide +kernel) rfl rfl ⟨(Nat.le_of_ble_eq_true rfl), (Nat.le_of_ble_eq_true rfl)⟩ (Nat.le_of_ble_eq_true rfl) ⟨by show (c0 + 0) + 2 ≤ 601024; omega, by show (s0 + 0) + 12 ≤ 7293034; omega⟩ dL_law_478 rfl rfl ?_
  obtain ⟨G693, e694, h⟩ := bind_some h
  have e694 := Option.some.inj e694
  refine aw_memG e694 ?_
  refine aw_istore (pc := 481) (i := 5) (L' := [some (.ref 181), some (.ref 0), some (.ref 164), some (.ref 180), some (.int x4), some (.int k690), none]) hM dL_law_481  (by decide) rfl ?_
  refine aw_aload_n (pc := 483) (i := 2) (x := 164) hM dL_law_483 rfl rfl ?_
  refine aw_aload_n (pc := 484) (i := 0) (x := 181) hM dL_law_484 rfl rfl ?_
  refine aw_iload (pc := 485) (i := 4) (x := x4) hM dL_law_485  rfl ?_
  refine aw_iconst (pc := 487) (v := 1) hM dL_law_487 (by decide) ?_
  refine aw_iadd (pc := 488) hM dL_law_488 ?_
  obtain ⟨c695, h⟩ := ite_some h
  refine aw_sld (pc := 489) hM hX c695 dL_law_489 ?_
  refine aw_aload_n (pc := 490) (i := 0) (x := 181) hM dL_law_490 rfl rfl ?_
  refine aw_iload (pc := 491) (i := 4) (x := x4) hM dL_law_491  rfl ?_
  refine aw_iconst (pc := 493) (v := 2) hM dL_law_493 (by decide) ?_
  refine aw_iadd (pc := 494) hM dL_law_494 ?_
  obtain ⟨c696, h⟩ := ite_some h
  refine aw_sld (pc := 495) hM hX c696 dL_law_495 ?_
  refine aw_aload_n (pc := 496) (i := 0) (x := 181) hM dL_law_496 rfl rfl ?_
  refine aw_iload (pc := 497) (i := 4) (x := x4) hM dL_law_497  rfl ?_
  refine aw_iconst (pc := 499) (v := 3) hM dL_law_499 (by decide) ?_
  refine aw_iadd (pc := 500) hM dL_law_500 ?_
  obtain ⟨c697, h⟩ := ite_some h
  refine aw_sld (pc := 501) hM hX c697 dL_law_501 ?_
  refine aw_if_eq (pc := 502) (tgt := 509) hM dL_law_502 (by decide) (fun c698 => ?_) (fun c698 => ?_)
  · rw [if_pos c698] at h
    refine aw_iconst (pc := 509) (v := 0) hM dL_law_509 (by decide) ?_
    exact k_L_law_b510 (c0 := c0 + 2) (s0 := s0 + 12) hM hX hk23 (by omega) (by omega) F G693 x4 k690 0 (xs (ix (x4 + 2))) (xs (ix (x4 + 1))) h
  · rw [if_neg c698] at h
    refine aw_iconst (pc := 505) (v := 1) hM dL_law_505 (by decide) ?_
    refine aw_goto (pc := 506) (tgt := 510) hM dL_law_506 (by decide) ?_
    exact k_L_law_b510 (c0 := c0 + 2) (s0 := s0 + 12) hM hX hk23 (by omega) (by omega) F G693 x4 k690 1 (xs (ix (x4 + 2))) (xs (ix (x4 + 1))) h
set_option maxRecDepth 20000 in
set_option maxHeartbeats 4000000 in
theorem k_L_law_b450 {C : CX} {M : MX} {Len : Nat} {xs : Nat → Int32} {k23 : MM → GG → Int32 → Option Int32} {n c0 s0 : Nat} (hM : MOk C RL cL_law 7 ret room_1 M) (hX : LawX C M Len xs) (hk23 : ∀ (wF : MM) (wG : GG) (w0 : Int32) (c1 s1 : Nat), c1 + 60 * n ≤ 601024 → s1 + 600 * n ≤ 7293034 → k23 wF wG w0 = some 1 → AW C 7 (ZL M) M c1 s1 23 [some (.ref 181), some (.ref 0), some (.ref 164), some (.ref 180), some (.int w0), none, none] [] wF wG) (hc0 : c0 + 60 * n + 50 ≤ 601024) (hs0 : s0 + 600 * n + 500 ≤ 7293034) (F : MM) (G : GG) (x4 : Int32) (h : s_L_law_b450 Len xs k23 F G x4 = some 1) : AW C 7 (ZL M) M (c0 + 0) (s0 + 0) 450 [some (.ref 181), some (.ref 0), some (.ref 164), some (.ref 180), some (.int x4), none, none] [] F G := by
  rw [s_L_law_b450] at h
  refine aw_aload_n (pc := 450) (i := 1) (x := 0) hM dL_law_450 rfl rfl ?_
  refine aw_aload_n (pc := 451) (i := 0) (x := 181) hM dL_law_451 rfl rfl ?_
  refine aw_iload (pc := 452) (i := 4) (x := x4) hM dL_law_452  rfl ?_
  refine aw_iconst (pc := 454) (v := 1) hM dL_law_454 (by decide) ?_
  refine aw_iadd (pc := 455) hM dL_law_455 ?_
  obtain ⟨c685, h⟩ := ite_some h
  refine aw_sld (pc := 456) hM hX c685 dL_law_456 ?_
  refine aw_aload_n (pc := 457) (i := 0) (x := 181) hM dL_law_457 rfl rfl ?_
  refine aw_iload (pc := 458) (i := 4) (x := x4) hM dL_law_458  rfl ?_
  refine aw_iconst (pc := 460) (v := 2) hM dL_law_460 (by decide) ?_
  refine aw_iadd (pc := 461) hM dL_law_461 ?_
  obtain ⟨c686, h⟩ := ite_some h
  refine aw_sld (pc := 462) hM hX c686 dL_law_462 ?_
  refine aw_aload_n (pc := 463) (i := 0) (x := 181) hM dL_law_463 rfl rfl ?_
  refine aw_iload (pc := 464) (i := 4) (x := x4) hM dL_law_464  rfl ?_
  refine aw_iconst (pc := 466) (v := 3) hM dL_law_466 (by decide) ?_
  refine aw_iadd (pc := 467) hM dL_law_467 ?_
  obtain ⟨c687, h⟩ := ite_some h
  refine aw_sld (pc := 468) hM hX c687 dL_law_468 ?_
  refine aw_if_eq (pc := 469) (tgt := 476) hM dL_law_469 (by decide) (fun c688 => ?_) (fun c688 => ?_)
  · rw [if_pos c688] at h
    refine aw_iconst (pc := 476) (v := 0) hM dL_law_476 (by decide) ?_
    exact k_L_law_b477 (c0 := c0 + 0) (s0 := s0 + 0) hM hX hk23 (by omega) (by omega) F G x4 0 (xs (ix (x4 + 2))) (xs (ix (x4 + 1))) h
  · rw [if_neg c688] at h
    refine aw_iconst (pc := 472) (v := 1) hM dL_law_472 (by decide) ?_
    refine aw_goto (pc := 473) (tgt := 477) hM dL_law_473 (by decide) ?_
    exact k_L_law_b477 (c0 := c0 + 0) (s0 := s0 + 0) hM hX hk23 (by omega) (by omega) F G x4 1 (xs (ix (x4 + 2))) (xs (ix (x4 + 1))) h
set_option maxRecDepth 20000 in
set_option maxHeartbeats 4000000 in
theorem k_L_law_b546 {C : CX} {M : MX} {Len : Nat} {xs : Nat → Int32} {k23 : MM → GG → Int32 → Option Int32} {n c0 s0 : Nat} (hM : MOk C RL cL_law 7 ret room_1 M) (hX : LawX C M Len xs) (hk23 : ∀ (wF : MM) (wG : GG) (w0 : Int32) (c1 s1 : Nat), c1 + 60 * n ≤ 601024 → s1 + 600 * n ≤ 7293034 → k23 wF wG w0 = some 1 → AW C 7 (ZL M) M c1 s1 23 [some (.ref 181), some (.ref 0), some (.ref 164), some (.ref 180), some (.int w0), none, none] [] wF wG) (hc0 : c0 + 60 * n + 50 ≤ 601024) (hs0 : s0 + 600 * n + 500 ≤ 7293034) (F : MM) (G : GG) (x4 : Int32) (h : s_L_law_b546 Len xs k23 F G x4 = some 1) : AW C 7 (ZL M) M (c0 + 0) (s0 + 0) 546 [some (.ref 181), some (.ref 0), some (.ref 164), some (.ref 180), some (.int x4), none, none] [] F G := by
  rw [s_L_law_b546] at h
  refine aw_aload_n (pc := 546) (i := 1) (x := 0) hM dL_law_546 rfl rfl ?_
  refine aw_aload_n (pc := 547) (i := 0) (x := 181) hM dL_law_547 rfl rfl ?_
  refine aw_iload (pc := 548) (i := 4) (x := x4) hM dL_law_548  rfl ?_
  refine aw_iconst (pc := 550) (v := 1) hM dL_law_550 (by decide) ?_
  refine aw_iadd (pc := 551) hM dL_law_551 ?_
  obtain ⟨c663, h⟩ := ite_some h
  refine aw_sld (pc := 552) hM hX c663 dL_law_552 ?_
  refine aw_aload_n (pc := 553) (i := 0) (x := 181) hM dL_law_553 rfl rfl ?_
  refine aw_iload (pc := 554) (i := 4) (x := x4) hM dL_law_554  rfl ?_
  refine aw_iconst (pc := 556) (v := 2) hM dL_law_556 (by decide) ?_
  refine aw_iadd (pc := 557) hM dL_law_557 ?_
  obtain ⟨c664, h⟩ := ite_some h
  refine aw_sld (pc := 558) hM hX c664 dL_law_558 ?_
  refine aw_aload_n (pc := 559) (i := 3) (x := 180) hM dL_law_559 rfl rfl ?_
  obtain ⟨z665, h667, h⟩ := bind_some h
  obtain ⟨k666, h668, h⟩ := bind_some h
  refine aw_csW (pc := 560) (n := 4) (As := [.ref 0, .int (xs (ix (x4 + 1))), .int (xs (ix (x4 + 2))), .ref 180]) (st := []) (vo := some (.int k666)) (c2 := (c0 + 2)) (s2 := (s0 + 12)) hM (k_L_rule h667 h668) cw_L_161 (by decide +kernel) rfl rfl ⟨(Nat.le_of_ble_eq_true rfl), (Nat.le_of_ble_eq_true rfl)⟩ (Nat.le_of_ble_eq_true rfl) ⟨by show (c0 + 0) + 2 ≤ 601024; omega, by show (s0 + 0) + 12 ≤ 7293034; omega⟩ dL_law_560 rfl rfl ?_
  obtain ⟨G669, e670, h⟩ := bind_some h
  have e670 := Option.some.inj e670
  refine aw_memG e670 ?_
  refine aw_istore (pc := 563) (i := 5) (L' := [some (.ref 181), some (.ref 0), some (.ref 164), some (.ref 180), some (.int x4), some (.int k666), none]) hM dL_law_563  (by decide) rfl ?_
  refine aw_aload_n (pc := 565) (i := 2) (x := 164) hM dL_law_565 rfl rfl ?_
  refine aw_aload_n (pc := 566) (i := 0) (x := 181) hM dL_law_566 rfl rfl ?_
  refine aw_iload (pc := 567) (i := 4) (x := x4) hM dL_law_567  rfl ?_
  refine aw_iconst (pc := 569) (v := 1) hM dL_law_569 (by decide) ?_
  refine aw_iadd (pc := 570) hM dL_law_570 ?_
  obtain ⟨c671, h⟩ := ite_some h
  refine aw_sld (pc := 571) hM hX c671 dL_law_571 ?_
  refine aw_aload_n (pc := 572) (i := 0) (x := 181) hM dL_law_572 rfl rfl ?_
  refine aw_iload (pc := 573) (i := 4) (x := x4) hM dL_law_573  rfl ?_
  refine aw_iconst (pc := 575) (v := 2) hM dL_law_575 (by decide) ?_
  refine aw_iadd (pc := 576) hM dL_law_576 ?_
  obtain ⟨c672, h⟩ := ite_some h
  refine aw_sld (pc := 577) hM hX c672 dL_law_577 ?_
  obtain ⟨z675, h673, h⟩ := bind_some h
  refine aw_cv1 (pc := 578) (n := 2) (As := [.int (xs (ix (x4 + 1))), .int (xs (ix (x4 + 2)))]) (st := []) (b := 164) (vo := (some (.int z675.1))) (c2 := (c0 + 2)) (s2 := (s0 + 12)) hM (k_X9_rule h673) rfl cw_L_163 sk_164 rfl rfl (by decide +kernel) rfl rfl ⟨(Nat.le_of_ble_eq_true rfl), (Nat.le_of_ble_eq_true rfl)⟩ (Nat.le_of_ble_eq_true rfl) ⟨by show (c0 + 2) + 0 ≤ 601024; omega, by show (s0 + 12) + 0 ≤ 7293034; omega⟩ dL_law_578 rfl rfl ?_
  refine aw_istore (pc := 581) (i := 6) (L' := [some (.ref 181), some (.ref 0), some (.ref 164), some (.ref 180), some (.int x4), some (.int k666), some (.int z675.1)]) hM dL_law_581  (by decide) rfl ?_
  refine aw_aload_n (pc := 583) (i := 2) (x := 164) hM dL_law_583 rfl rfl ?_
  obtain ⟨r677, h676, h⟩ := bind_some h
  refine aw_cv1 (pc := 584) (n := 0) (As := []) (st := []) (b := 164) (vo := (some (.int r677))) (c2 := (c0 + 2)) (s2 := (s0 + 12)) hM (k_X9_thrown h676) rfl cw_L_135 sk_164 rfl rfl (by decide +kernel) rfl rfl ⟨(Nat.le_of_ble_eq_true rfl), (Nat.le_of_ble_eq_true rfl)⟩ (Nat.le_of_ble_eq_true rfl) ⟨by show (c0 + 2) + 0 ≤ 601024; omega, by show (s0 + 12) + 0 ≤ 7293034; omega⟩ dL_law_584 rfl rfl ?_
  refine aw_iload (pc := 587) (i := 5) (x := k666) hM dL_law_587  rfl ?_
  refine aw_icmp_eq (pc := 589) (tgt := 594) hM dL_law_589 (by decide) (fun c678 => ?_) (fun c678 => ?_)
  · rw [if_pos c678] at h
    refine aw_iload (pc := 594) (i := 5) (x := k666) hM dL_law_594  rfl ?_
    refine aw_if_ne (pc := 596) (tgt := 611) hM dL_law_596 (by decide) (fun c679 => ?_) (fun c679 => ?_)
    · rw [if_neg c679] at h
      refine aw_goto (pc := 611) (tgt := 2530) hM dL_law_611 (by decide) ?_
      obtain ⟨y680, e681, h⟩ := bind_some h
      have e681 := Option.some.inj e681
      refine aw_iinc (pc := 2530) (v := y680) (L' := [some (.ref 181), some (.ref 0), some (.ref 164), some (.ref 180), some (.int y680), some (.int k666), some (.int z675.1)]) hM dL_law_2530 rfl e681 (by decide) rfl ?_
      refine aw_goto (pc := 2533) (tgt := 23) hM dL_law_2533 (by decide) ?_
      refine aw_weak (L' := [some (.ref 181), some (.ref 0), some (.ref 164), some (.ref 180), some (.int y680), none, none]) ?_ (lw_of [true, true, true, true, true, false, false] rfl)
      exact hk23 z675.2 G669 y680 _ _ (by omega) (by omega) h
    · rw [if_pos c679] at h
      refine aw_aload_n (pc := 599) (i := 3) (x := 180) hM dL_law_599 rfl rfl ?_
      refine aw_iconst (pc := 600) (v := 0) hM dL_law_600 (by decide) ?_
      refine aw_lald (pc := 601) hM sk_180 (by decide) dL_law_601 ?_
      refine aw_iload (pc := 602) (i := 6) (x := z675.1) hM dL_law_602  rfl ?_
      refine aw_i2l (pc := 604) hM dL_law_604 ?_
      refine aw_lcmp (pc := 605) hM dL_law_605 ?_
      refine aw_if_eq (pc := 606) (tgt := 611) hM dL_law_606 (by decide) (fun c682 => ?_) (fun c682 => ?_)
      · rw [if_pos c682] at h
        refine aw_goto (pc := 611) (tgt := 2530) hM dL_law_611 (by decide) ?_
        obtain ⟨y683, e684, h⟩ := bind_some h
        have e684 := Option.some.inj e684
        refine aw_iinc (pc := 2530) (v := y683) (L' := [some (.ref 181), some (.ref 0), some (.ref 164), some (.ref 180), some (.int y683), some (.int k666), some (.int z675.1)]) hM dL_law_2530 rfl e684 (by decide) rfl ?_
        refine aw_goto (pc := 2533) (tgt := 23) hM dL_law_2533 (by decide) ?_
        refine aw_weak (L' := [some (.ref 181), some (.ref 0), some (.ref 164), some (.ref 180), some (.int y683), none, none]) ?_ (lw_of [true, true, true, true, true, false, false] rfl)
        exact hk23 z675.2 G669 y683 _ _ (by omega) (by omega) h
      · rw [if_neg c682] at h
        refine aw_iconst (pc := 609) (v := 0) hM dL_law_609 (by decide) ?_
        exact absurd h (by decide)
  · rw [if_neg c678] at h
    refine aw_iconst (pc := 592) (v := 0) hM dL_law_592 (by decide) ?_
    exact absurd h (by decide)
set_option maxRecDepth 20000 in
set_option maxHeartbeats 4000000 in
theorem k_L_law_b614 {C : CX} {M : MX} {Len : Nat} {xs : Nat → Int32} {k23 : MM → GG → Int32 → Option Int32} {n c0 s0 : Nat} (hM : MOk C RL cL_law 7 ret room_1 M) (hX : LawX C M Len xs) (hk23 : ∀ (wF : MM) (wG : GG) (w0 : Int32) (c1 s1 : Nat), c1 + 60 * n ≤ 601024 → s1 + 600 * n ≤ 7293034 → k23 wF wG w0 = some 1 → AW C 7 (ZL M) M c1 s1 23 [some (.ref 181), some (.ref 0), some (.ref 164), some (.ref 180), some (.int w0), none, none] [] wF wG) (hc0 : c0 + 60 * n + 50 ≤ 601024) (hs0 : s0 + 600 * n + 500 ≤ 7293034) (F : MM) (G : GG) (x4 : Int32) (h : s_L_law_b614 Len xs k23 F G x4 = some 1) : AW C 7 (ZL M) M (c0 + 0) (s0 + 0) 614 [some (.ref 181), some (.ref 0), some (.ref 164), some (.ref 180), some (.int x4), none, none] [] F G := by
  rw [s_L_law_b614] at h
  refine aw_aload_n (pc := 614) (i := 1) (x := 0) hM dL_law_614 rfl rfl ?_
  refine aw_aload_n (pc := 615) (i := 0) (x := 181) hM dL_law_615 rfl rfl ?_
  refine aw_iload (pc := 616) (i := 4) (x := x4) hM dL_law_616  rfl ?_
  refine aw_iconst (pc := 618) (v := 1) hM dL_law_618 (by decide) ?_
  refine aw_iadd (pc := 619) hM dL_law_619 ?_
  obtain ⟨c641, h⟩ := ite_some h
  refine aw_sld (pc := 620) hM hX c641 dL_law_620 ?_
  refine aw_aload_n (pc := 621) (i := 0) (x := 181) hM dL_law_621 rfl rfl ?_
  refine aw_iload (pc := 622) (i := 4) (x := x4) hM dL_law_622  rfl ?_
  refine aw_iconst (pc := 624) (v := 2) hM dL_law_624 (by decide) ?_
  refine aw_iadd (pc := 625) hM dL_law_625 ?_
  obtain ⟨c642, h⟩ := ite_some h
  refine aw_sld (pc := 626) hM hX c642 dL_law_626 ?_
  refine aw_aload_n (pc := 627) (i := 3) (x := 180) hM dL_law_627 rfl rfl ?_
  obtain ⟨z643, h645, h⟩ := bind_some h
  obtain ⟨k644, h646, h⟩ := bind_some h
  refine aw_csW (pc := 628) (n := 4) (As := [.ref 0, .int (xs (ix (x4 + 1))), .int (xs (ix (x4 + 2))), .ref 180]) (st := []) (vo := some (.int k644)) (c2 := (c0 + 2)) (s2 := (s0 + 12)) hM (k_L_approvals h645 h646) cw_L_164 (by decide +kernel) rfl rfl ⟨(Nat.le_of_ble_eq_true rfl), (Nat.le_of_ble_eq_true rfl)⟩ (Nat.le_of_ble_eq_true rfl) ⟨by show (c0 + 0) + 2 ≤ 601024; omega, by show (s0 + 0) + 12 ≤ 7293034; omega⟩ dL_law_628 rfl rfl ?_
  obtain ⟨G647, e648, h⟩ := bind_some h
  have e648 := Option.some.inj e648
  refine aw_memG e648 ?_
  refine aw_istore (pc := 631) (i := 5) (L' := [some (.ref 181), some (.ref 0), some (.ref 164), some (.ref 180), some (.int x4), some (.int k644), none]) hM dL_law_631  (by decide) rfl ?_
  refine aw_aload_n (pc := 633) (i := 2) (x := 164) hM dL_law_633 rfl rfl ?_
  refine aw_aload_n (pc := 634) (i := 0) (x := 181) hM dL_law_634 rfl rfl ?_
  refine aw_iload (pc := 635) (i := 4) (x := x4) hM dL_law_635  rfl ?_
  refine aw_iconst (pc := 637) (v := 1) hM dL_law_637 (by decide) ?_
  refine aw_iadd (pc := 638) hM dL_law_638 ?_
  obtain ⟨c649, h⟩ := ite_some h
  refine aw_sld (pc := 639) hM hX c649 dL_law_639 ?_
  refine aw_aload_n (pc := 640) (i := 0) (x := 181) hM dL_law_640 rfl rfl ?_
  refine aw_iload (pc := 641) (i := 4) (x := x4) hM dL_law_641  rfl ?_
  refine aw_iconst (pc := 643) (v := 2) hM dL_law_643 (by decide) ?_
  refine aw_iadd (pc := 644) hM dL_law_644 ?_
  obtain ⟨c650, h⟩ := ite_some h
  refine aw_sld (pc := 645) hM hX c650 dL_law_645 ?_
  obtain ⟨z653, h651, h⟩ := bind_some h
  refine aw_cv1 (pc := 646) (n := 2) (As := [.int (xs (ix (x4 + 1))), .int (xs (ix (x4 + 2)))]) (st := []) (b := 164) (vo := (some (.int z653.1))) (c2 := (c0 + 2)) (s2 := (s0 + 12)) hM (k_X9_approvals h651) rfl cw_L_166 sk_164 rfl rfl (by decide +kernel) rfl rfl ⟨(Nat.le_of_ble_eq_true rfl), (Nat.le_of_ble_eq_true rfl)⟩ (Nat.le_of_ble_eq_true rfl) ⟨by show (c0 + 2) + 0 ≤ 601024; omega, by show (s0 + 12) + 0 ≤ 7293034; omega⟩ dL_law_646 rfl rfl ?_
  refine aw_istore (pc := 649) (i := 6) (L' := [some (.ref 181), some (.ref 0), some (.ref 164), some (.ref 180), some (.int x4), some (.int k644), some (.int z653.1)]) hM dL_law_649  (by decide) rfl ?_
  refine aw_aload_n (pc := 651) (i := 2) (x := 164) hM dL_law_651 rfl rfl ?_
  obtain ⟨r655, h654, h⟩ := bind_some h
  refine aw_cv1 (pc := 652) (n := 0) (As := []) (st := []) (b := 164) (vo := (some (.int r655))) (c2 := (c0 + 2)) (s2 := (s0 + 12)) hM (k_X9_thrown h654) rfl cw_L_135 sk_164 rfl rfl (by decide +kernel) rfl rfl ⟨(Nat.le_of_ble_eq_true rfl), (Nat.le_of_ble_eq_true rfl)⟩ (Nat.le_of_ble_eq_true rfl) ⟨by show (c0 + 2) + 0 ≤ 601024; omega, by show (s0 + 12) + 0 ≤ 7293034; omega⟩ dL_law_652 rfl rfl ?_
  refine aw_iload (pc := 655) (i := 5) (x := k644) hM dL_law_655  rfl ?_
  refine aw_icmp_eq (pc := 657) (tgt := 662) hM dL_law_657 (by decide) (fun c656 => ?_) (fun c656 => ?_)
  · rw [if_pos c656] at h
    refine aw_iload (pc := 662) (i := 5) (x := k644) hM dL_law_662  rfl ?_
    refine aw_if_ne (pc := 664) (tgt := 679) hM dL_law_664 (by decide) (fun c657 => ?_) (fun c657 => ?_)
    · rw [if_neg c657] at h
      refine aw_goto (pc := 679) (tgt := 2530) hM dL_law_679 (by decide) ?_
      obtain ⟨y658, e659, h⟩ := bind_some h
      have e659 := Option.some.inj e659
      refine aw_iinc (pc := 2530) (v := y658) (L' := [some (.ref 181), some (.ref 0), some (.ref 164), some (.ref 180), some (.int y658), some (.int k644), some (.int z653.1)]) hM dL_law_2530 rfl e659 (by decide) rfl ?_
      refine aw_goto (pc := 2533) (tgt := 23) hM dL_law_2533 (by decide) ?_
      refine aw_weak (L' := [some (.ref 181), some (.ref 0), some (.ref 164), some (.ref 180), some (.int y658), none, none]) ?_ (lw_of [true, true, true, true, true, false, false] rfl)
      exact hk23 z653.2 G647 y658 _ _ (by omega) (by omega) h
    · rw [if_pos c657] at h
      refine aw_aload_n (pc := 667) (i := 3) (x := 180) hM dL_law_667 rfl rfl ?_
      refine aw_iconst (pc := 668) (v := 0) hM dL_law_668 (by decide) ?_
      refine aw_lald (pc := 669) hM sk_180 (by decide) dL_law_669 ?_
      refine aw_iload (pc := 670) (i := 6) (x := z653.1) hM dL_law_670  rfl ?_
      refine aw_i2l (pc := 672) hM dL_law_672 ?_
      refine aw_lcmp (pc := 673) hM dL_law_673 ?_
      refine aw_if_eq (pc := 674) (tgt := 679) hM dL_law_674 (by decide) (fun c660 => ?_) (fun c660 => ?_)
      · rw [if_pos c660] at h
        refine aw_goto (pc := 679) (tgt := 2530) hM dL_law_679 (by decide) ?_
        obtain ⟨y661, e662, h⟩ := bind_some h
        have e662 := Option.some.inj e662
        refine aw_iinc (pc := 2530) (v := y661) (L' := [some (.ref 181), some (.ref 0), some (.ref 164), some (.ref 180), some (.int y661), some (.int k644), some (.int z653.1)]) hM dL_law_2530 rfl e662 (by decide) rfl ?_
        refine aw_goto (pc := 2533) (tgt := 23) hM dL_law_2533 (by decide) ?_
        refine aw_weak (L' := [some (.ref 181), some (.ref 0), some (.ref 164), some (.ref 180), some (.int y661), none, none]) ?_ (lw_of [true, true, true, true, true, false, false] rfl)
        exact hk23 z653.2 G647 y661 _ _ (by omega) (by omega) h
      · rw [if_neg c660] at h
        refine aw_iconst (pc := 677) (v := 0) hM dL_law_677 (by decide) ?_
        exact absurd h (by decide)
  · rw [if_neg c656] at h
    refine aw_iconst (pc := 660) (v := 0) hM dL_law_660 (by decide) ?_
    exact absurd h (by decide)
set_option maxRecDepth 20000 in
set_option maxHeartbeats 4000000 in
theorem k_L_law_b682 {C : CX} {M : MX} {Len : Nat} {xs : Nat → Int32} {k23 : MM → GG → Int32 → Option Int32} {n c0 s0 : Nat} (hM : MOk C RL cL_law 7 ret room_1 M) (hX : LawX C M Len xs) (hk23 : ∀ (wF : MM) (wG : GG) (w0 : Int32) (c1 s1 : Nat), c1 + 60 * n ≤ 601024 → s1 + 600 * n ≤ 7293034 → k23 wF wG w0 = some 1 → AW C 7 (ZL M) M c1 s1 23 [some (.ref 181), some (.ref 0), some (.ref 164), some (.ref 180), some (.int w0), none, none] [] wF wG) (hc0 : c0 + 60 * n + 50 ≤ 601024) (hs0 : s0 + 600 * n + 500 ≤ 7293034) (F : MM) (G : GG) (x4 : Int32) (h : s_L_law_b682 Len xs k23 F G x4 = some 1) : AW C 7 (ZL M) M (c0 + 0) (s0 + 0) 682 [some (.ref 181), some (.ref 0), some (.ref 164), some (.ref 180), some (.int x4), none, none] [] F G := by
  rw [s_L_law_b682] at h
  refine aw_aload_n (pc := 682) (i := 1) (x := 0) hM dL_law_682 rfl rfl ?_
  refine aw_aload_n (pc := 683) (i := 0) (x := 181) hM dL_law_683 rfl rfl ?_
  refine aw_iload (pc := 684) (i := 4) (x := x4) hM dL_law_684  rfl ?_
  refine aw_iconst (pc := 686) (v := 1) hM dL_law_686 (by decide) ?_
  refine aw_iadd (pc := 687) hM dL_law_687 ?_
  obtain ⟨c621, h⟩ := ite_some h
  refine aw_sld (pc := 688) hM hX c621 dL_law_688 ?_
  refine aw_aload_n (pc := 689) (i := 3) (x := 180) hM dL_law_689 rfl rfl ?_
  obtain ⟨z622, h624, h⟩ := bind_some h
  obtain ⟨k623, h625, h⟩ := bind_some h
  refine aw_csW (pc := 690) (n := 3) (As := [.ref 0, .int (xs (ix (x4 + 1))), .ref 180]) (st := []) (vo := some (.int k623)) (c2 := (c0 + 1)) (s2 := (s0 + 6)) hM (k_L_quorum h624 h625) cw_L_167 (by decide +kernel) rfl rfl ⟨(Nat.le_of_ble_eq_true rfl), (Nat.le_of_ble_eq_true rfl)⟩ (Nat.le_of_ble_eq_true rfl) ⟨by show (c0 + 0) + 1 ≤ 601024; omega, by show (s0 + 0) + 6 ≤ 7293034; omega⟩ dL_law_690 rfl rfl ?_
  obtain ⟨G626, e627, h⟩ := bind_some h
  have e627 := Option.some.inj e627
  refine aw_memG e627 ?_
  refine aw_istore (pc := 693) (i := 5) (L' := [some (.ref 181), some (.ref 0), some (.ref 164), some (.ref 180), some (.int x4), some (.int k623), none]) hM dL_law_693  (by decide) rfl ?_
  refine aw_aload_n (pc := 695) (i := 2) (x := 164) hM dL_law_695 rfl rfl ?_
  refine aw_aload_n (pc := 696) (i := 0) (x := 181) hM dL_law_696 rfl rfl ?_
  refine aw_iload (pc := 697) (i := 4) (x := x4) hM dL_law_697  rfl ?_
  refine aw_iconst (pc := 699) (v := 1) hM dL_law_699 (by decide) ?_
  refine aw_iadd (pc := 700) hM dL_law_700 ?_
  obtain ⟨c628, h⟩ := ite_some h
  refine aw_sld (pc := 701) hM hX c628 dL_law_701 ?_
  obtain ⟨z631, h629, h⟩ := bind_some h
  refine aw_cv1 (pc := 702) (n := 1) (As := [.int (xs (ix (x4 + 1)))]) (st := []) (b := 164) (vo := (some (.int z631.1))) (c2 := (c0 + 1)) (s2 := (s0 + 6)) hM (k_X9_quorum h629) rfl cw_L_169 sk_164 rfl rfl (by decide +kernel) rfl rfl ⟨(Nat.le_of_ble_eq_true rfl), (Nat.le_of_ble_eq_true rfl)⟩ (Nat.le_of_ble_eq_true rfl) ⟨by show (c0 + 1) + 0 ≤ 601024; omega, by show (s0 + 6) + 0 ≤ 7293034; omega⟩ dL_law_702 rfl rfl ?_
  refine aw_istore (pc := 705) (i := 6) (L' := [some (.ref 181), some (.ref 0), some (.ref 164), some (.ref 180), some (.int x4), some (.int k623), some (.int z631.1)]) hM dL_law_705  (by decide) rfl ?_
  refine aw_aload_n (pc := 707) (i := 2) (x := 164) hM dL_law_707 rfl rfl ?_
  obtain ⟨r633, h632, h⟩ := bind_some h
  refine aw_cv1 (pc := 708) (n := 0) (As := []) (st := []) (b := 164) (vo := (some (.int r633))) (c2 := (c0 + 1)) (s2 := (s0 + 6)) hM (k_X9_thrown h632) rfl cw_L_135 sk_164 rfl rfl (by decide +kernel) rfl rfl ⟨(Nat.le_of_ble_eq_true rfl), (Nat.le_of_ble_eq_true rfl)⟩ (Nat.le_of_ble_eq_true rfl) ⟨by show (c0 + 1) + 0 ≤ 601024; omega, by show (s0 + 6) + 0 ≤ 7293034; omega⟩ dL_law_708 rfl rfl ?_
  refine aw_iload (pc := 711) (i := 5) (x := k623) hM dL_law_711  rfl ?_
  refine aw_icmp_eq (pc := 713) (tgt := 718) hM dL_law_713 (by decide) (fun c634 => ?_) (fun c634 => ?_)
  · rw [if_pos c634] at h
    refine aw_iload (pc := 718) (i := 5) (x := k623) hM dL_law_718  rfl ?_
    refine aw_if_ne (pc := 720) (tgt := 735) hM dL_law_720 (by decide) (fun c635 => ?_) (fun c635 => ?_)
    · rw [if_neg c635] at h
      refine aw_goto (pc := 735) (tgt := 2530) hM dL_law_735 (by decide) ?_
      obtain ⟨y636, e637, h⟩ := bind_some h
      have e637 := Option.some.inj e637
      refine aw_iinc (pc := 2530) (v := y636) (L' := [some (.ref 181), some (.ref 0), some (.ref 164), some (.ref 180), some (.int y636), some (.int k623), some (.int z631.1)]) hM dL_law_2530 rfl e637 (by decide) rfl ?_
      refine aw_goto (pc := 2533) (tgt := 23) hM dL_law_2533 (by decide) ?_
      refine aw_weak (L' := [some (.ref 181), some (.ref 0), some (.ref 164), some (.ref 180), some (.int y636), none, none]) ?_ (lw_of [true, true, true, true, true, false, false] rfl)
      exact hk23 z631.2 G626 y636 _ _ (by omega) (by omega) h
    · rw [if_pos c635] at h
      refine aw_aload_n (pc := 723) (i := 3) (x := 180) hM dL_law_723 rfl rfl ?_
      refine aw_iconst (pc := 724) (v := 0) hM dL_law_724 (by decide) ?_
      refine aw_lald (pc := 725) hM sk_180 (by decide) dL_law_725 ?_
      refine aw_iload (pc := 726) (i := 6) (x := z631.1) hM dL_law_726  rfl ?_
      refine aw_i2l (pc := 728) hM dL_law_728 ?_
      refine aw_lcmp (pc := 729) hM dL_law_729 ?_
      refine aw_if_eq (pc := 730) (tgt := 735) hM dL_law_730 (by decide) (fun c638 => ?_) (fun c638 => ?_)
      · rw [if_pos c638] at h
        refine aw_goto (pc := 735) (tgt := 2530) hM dL_law_735 (by decide) ?_
        obtain ⟨y639, e640, h⟩ := bind_some h
        have e640 := Option.some.inj e640
        refine aw_iinc (pc := 2530) (v := y639) (L' := [some (.ref 181), some (.ref 0), some (.ref 164), some (.ref 180), some (.int y639), some (.int k623), some (.int z631.1)]) hM dL_law_2530 rfl e640 (by decide) rfl ?_
        refine aw_goto (pc := 2533) (tgt := 23) hM dL_law_2533 (by decide) ?_
        refine aw_weak (L' := [some (.ref 181), some (.ref 0), some (.ref 164), some (.ref 180), some (.int y639), none, none]) ?_ (lw_of [true, true, true, true, true, false, false] rfl)
        exact hk23 z631.2 G626 y639 _ _ (by omega) (by omega) h
      · rw [if_neg c638] at h
        refine aw_iconst (pc := 733) (v := 0) hM dL_law_733 (by decide) ?_
        exact absurd h (by decide)
  · rw [if_neg c634] at h
    refine aw_iconst (pc := 716) (v := 0) hM dL_law_716 (by decide) ?_
    exact absurd h (by decide)
set_option maxRecDepth 20000 in
set_option maxHeartbeats 4000000 in
theorem k_L_law_b738 {C : CX} {M : MX} {Len : Nat} {xs : Nat → Int32} {k23 : MM → GG → Int32 → Option Int32} {n c0 s0 : Nat} (hM : MOk C RL cL_law 7 ret room_1 M) (hX : LawX C M Len xs) (hk23 : ∀ (wF : MM) (wG : GG) (w0 : Int32) (c1 s1 : Nat), c1 + 60 * n ≤ 601024 → s1 + 600 * n ≤ 7293034 → k23 wF wG w0 = some 1 → AW C 7 (ZL M) M c1 s1 23 [some (.ref 181), some (.ref 0), some (.ref 164), some (.ref 180), some (.int w0), none, none] [] wF wG) (hc0 : c0 + 60 * n + 50 ≤ 601024) (hs0 : s0 + 600 * n + 500 ≤ 7293034) (F : MM) (G : GG) (x4 : Int32) (h : s_L_law_b738 Len xs k23 F G x4 = some 1) : AW C 7 (ZL M) M (c0 + 0) (s0 + 0) 738 [some (.ref 181), some (.ref 0), some (.ref 164), some (.ref 180), some (.int x4), none, none] [] F G := by
  rw [s_L_law_b738] at h
  refine aw_aload_n (pc := 738) (i := 1) (x := 0) hM dL_law_738 rfl rfl ?_
  refine aw_aload_n (pc := 739) (i := 0) (x := 181) hM dL_law_739 rfl rfl ?_
  refine aw_iload (pc := 740) (i := 4) (x := x4) hM dL_law_740  rfl ?_
  refine aw_iconst (pc := 742) (v := 1) hM dL_law_742 (by decide) ?_
  refine aw_iadd (pc := 743) hM dL_law_743 ?_
  obtain ⟨c597, h⟩ := ite_some h
  refine aw_sld (pc := 744) hM hX c597 dL_law_744 ?_
  refine aw_aload_n (pc := 745) (i := 0) (x := 181) hM dL_law_745 rfl rfl ?_
  refine aw_iload (pc := 746) (i := 4) (x := x4) hM dL_law_746  rfl ?_
  refine aw_iconst (pc := 748) (v := 2) hM dL_law_748 (by decide) ?_
  refine aw_iadd (pc := 749) hM dL_law_749 ?_
  obtain ⟨c598, h⟩ := ite_some h
  refine aw_sld (pc := 750) hM hX c598 dL_law_750 ?_
  refine aw_aload_n (pc := 751) (i := 0) (x := 181) hM dL_law_751 rfl rfl ?_
  refine aw_iload (pc := 752) (i := 4) (x := x4) hM dL_law_752  rfl ?_
  refine aw_iconst (pc := 754) (v := 3) hM dL_law_754 (by decide) ?_
  refine aw_iadd (pc := 755) hM dL_law_755 ?_
  obtain ⟨c599, h⟩ := ite_some h
  refine aw_sld (pc := 756) hM hX c599 dL_law_756 ?_
  refine aw_aload_n (pc := 757) (i := 3) (x := 180) hM dL_law_757 rfl rfl ?_
  obtain ⟨z600, h602, h⟩ := bind_some h
  obtain ⟨k601, h603, h⟩ := bind_some h
  refine aw_csW (pc := 758) (n := 5) (As := [.ref 0, .int (xs (ix (x4 + 1))), .int (xs (ix (x4 + 2))), .int (xs (ix (x4 + 3))), .ref 180]) (st := []) (vo := some (.int k601)) (c2 := (c0 + 3)) (s2 := (s0 + 18)) hM (k_L_wish h602 h603) cw_L_170 (by decide +kernel) rfl rfl ⟨(Nat.le_of_ble_eq_true rfl), (Nat.le_of_ble_eq_true rfl)⟩ (Nat.le_of_ble_eq_true rfl) ⟨by show (c0 + 0) + 3 ≤ 601024; omega, by show (s0 + 0) + 18 ≤ 7293034; omega⟩ dL_law_758 rfl rfl ?_
  obtain ⟨G604, e605, h⟩ := bind_some h
  have e605 := Option.some.inj e605
  refine aw_memG e605 ?_
  refine aw_istore (pc := 761) (i := 5) (L' := [some (.ref 181), some (.ref 0), some (.ref 164), some (.ref 180), some (.int x4), some (.int k601), none]) hM dL_law_761  (by decide) rfl ?_
  refine aw_aload_n (pc := 763) (i := 2) (x := 164) hM dL_law_763 rfl rfl ?_
  refine aw_aload_n (pc := 764) (i := 0) (x := 181) hM dL_law_764 rfl rfl ?_
  refine aw_iload (pc := 765) (i := 4) (x := x4) hM dL_law_765  rfl ?_
  refine aw_iconst (pc := 767) (v := 1) hM dL_law_767 (by decide) ?_
  refine aw_iadd (pc := 768) hM dL_law_768 ?_
  obtain ⟨c606, h⟩ := ite_some h
  refine aw_sld (pc := 769) hM hX c606 dL_law_769 ?_
  refine aw_aload_n (pc := 770) (i := 0) (x := 181) hM dL_law_770 rfl rfl ?_
  refine aw_iload (pc := 771) (i := 4) (x := x4) hM dL_law_771  rfl ?_
  refine aw_iconst (pc := 773) (v := 2) hM dL_law_773 (by decide) ?_
  refine aw_iadd (pc := 774) hM dL_law_774 ?_
  obtain ⟨c607, h⟩ := ite_some h
  refine aw_sld (pc := 775) hM hX c607 dL_law_775 ?_
  refine aw_aload_n (pc := 776) (i := 0) (x := 181) hM dL_law_776 rfl rfl ?_
  refine aw_iload (pc := 777) (i := 4) (x := x4) hM dL_law_777  rfl ?_
  refine aw_iconst (pc := 779) (v := 3) hM dL_law_779 (by decide) ?_
  refine aw_iadd (pc := 780) hM dL_law_780 ?_
  obtain ⟨c608, h⟩ := ite_some h
  refine aw_sld (pc := 781) hM hX c608 dL_law_781 ?_
  obtain ⟨z611, h609, h⟩ := bind_some h
  refine aw_cv1 (pc := 782) (n := 3) (As := [.int (xs (ix (x4 + 1))), .int (xs (ix (x4 + 2))), .int (xs (ix (x4 + 3)))]) (st := []) (b := 164) (vo := (some (.int z611.1))) (c2 := (c0 + 3)) (s2 := (s0 + 18)) hM (k_X9_wish h609) rfl cw_L_173 sk_164 rfl rfl (by decide +kernel) rfl rfl ⟨(Nat.le_of_ble_eq_true rfl), (Nat.le_of_ble_eq_true rfl)⟩ (Nat.le_of_ble_eq_true rfl) ⟨by show (c0 + 3) + 0 ≤ 601024; omega, by show (s0 + 18) + 0 ≤ 7293034; omega⟩ dL_law_782 rfl rfl ?_
  refine aw_istore (pc := 785) (i := 6) (L' := [some (.ref 181), some (.ref 0), some (.ref 164), some (.ref 180), some (.int x4), some (.int k601), some (.int z611.1)]) hM dL_law_785  (by decide) rfl ?_
  refine aw_aload_n (pc := 787) (i := 2) (x := 164) hM dL_law_787 rfl rfl ?_
  obtain ⟨r613, h612, h⟩ := bind_some h
  refine aw_cv1 (pc := 788) (n := 0) (As := []) (st := []) (b := 164) (vo := (some (.int r613))) (c2 := (c0 + 3)) (s2 := (s0 + 18)) hM (k_X9_thrown h612) rfl cw_L_135 sk_164 rfl rfl (by decide +kernel) rfl rfl ⟨(Nat.le_of_ble_eq_true rfl), (Nat.le_of_ble_eq_true rfl)⟩ (Nat.le_of_ble_eq_true rfl) ⟨by show (c0 + 3) + 0 ≤ 601024; omega, by show (s0 + 18) + 0 ≤ 7293034; omega⟩ dL_law_788 rfl rfl ?_
  refine aw_iload (pc := 791) (i := 5) (x := k601) hM dL_law_791  rfl ?_
  refine aw_icmp_eq (pc := 793) (tgt := 798) hM dL_law_793 (by decide) (fun c614 => ?_) (fun c614 => ?_)
  · rw [if_pos c614] at h
    refine aw_iload (pc := 798) (i := 5) (x := k601) hM dL_law_798  rfl ?_
    refine aw_if_ne (pc := 800) (tgt := 815) hM dL_law_800 (by decide) (fun c615 => ?_) (fun c615 => ?_)
    · rw [if_neg c615] at h
      refine aw_goto (pc := 815) (tgt := 2530) hM dL_law_815 (by decide) ?_
      obtain ⟨y616, e617, h⟩ := bind_some h
      have e617 := Option.some.inj e617
      refine aw_iinc (pc := 2530) (v := y616) (L' := [some (.ref 181), some (.ref 0), some (.ref 164), some (.ref 180), some (.int y616), some (.int k601), some (.int z611.1)]) hM dL_law_2530 rfl e617 (by decide) rfl ?_
      refine aw_goto (pc := 2533) (tgt := 23) hM dL_law_2533 (by decide) ?_
      refine aw_weak (L' := [some (.ref 181), some (.ref 0), some (.ref 164), some (.ref 180), some (.int y616), none, none]) ?_ (lw_of [true, true, true, true, true, false, false] rfl)
      exact hk23 z611.2 G604 y616 _ _ (by omega) (by omega) h
    · rw [if_pos c615] at h
      refine aw_aload_n (pc := 803) (i := 3) (x := 180) hM dL_law_803 rfl rfl ?_
      refine aw_iconst (pc := 804) (v := 0) hM dL_law_804 (by decide) ?_
      refine aw_lald (pc := 805) hM sk_180 (by decide) dL_law_805 ?_
      refine aw_iload (pc := 806) (i := 6) (x := z611.1) hM dL_law_806  rfl ?_
      refine aw_i2l (pc := 808) hM dL_law_808 ?_
      refine aw_lcmp (pc := 809) hM dL_law_809 ?_
      refine aw_if_eq (pc := 810) (tgt := 815) hM dL_law_810 (by decide) (fun c618 => ?_) (fun c618 => ?_)
      · rw [if_pos c618] at h
        refine aw_goto (pc := 815) (tgt := 2530) hM dL_law_815 (by decide) ?_
        obtain ⟨y619, e620, h⟩ := bind_some h
        have e620 := Option.some.inj e620
        refine aw_iinc (pc := 2530) (v := y619) (L' := [some (.ref 181), some (.ref 0), some (.ref 164), some (.ref 180), some (.int y619), some (.int k601), some (.int z611.1)]) hM dL_law_2530 rfl e620 (by decide) rfl ?_
        refine aw_goto (pc := 2533) (tgt := 23) hM dL_law_2533 (by decide) ?_
        refine aw_weak (L' := [some (.ref 181), some (.ref 0), some (.ref 164), some (.ref 180), some (.int y619), none, none]) ?_ (lw_of [true, true, true, true, true, false, false] rfl)
        exact hk23 z611.2 G604 y619 _ _ (by omega) (by omega) h
      · rw [if_neg c618] at h
        refine aw_iconst (pc := 813) (v := 0) hM dL_law_813 (by decide) ?_
        exact absurd h (by decide)
  · rw [if_neg c614] at h
    refine aw_iconst (pc := 796) (v := 0) hM dL_law_796 (by decide) ?_
    exact absurd h (by decide)
set_option maxRecDepth 20000 in
set_option maxHeartbeats 4000000 in
theorem k_L_law_b818 {C : CX} {M : MX} {Len : Nat} {xs : Nat → Int32} {k23 : MM → GG → Int32 → Option Int32} {n c0 s0 : Nat} (hM : MOk C RL cL_law 7 ret room_1 M) (hX : LawX C M Len xs) (hk23 : ∀ (wF : MM) (wG : GG) (w0 : Int32) (c1 s1 : Nat), c1 + 60 * n ≤ 601024 → s1 + 600 * n ≤ 7293034 → k23 wF wG w0 = some 1 → AW C 7 (ZL M) M c1 s1 23 [some (.ref 181), some (.ref 0), some (.ref 164), some (.ref 180), some (.int w0), none, none] [] wF wG) (hc0 : c0 + 60 * n + 50 ≤ 601024) (hs0 : s0 + 600 * n + 500 ≤ 7293034) (F : MM) (G : GG) (x4 : Int32) (h : s_L_law_b818 Len xs k23 F G x4 = some 1) : AW C 7 (ZL M) M (c0 + 0) (s0 + 0) 818 [some (.ref 181), some (.ref 0), some (.ref 164), some (.ref 180), some (.int x4), none, none] [] F G := by
  rw [s_L_law_b818] at h
  refine aw_aload_n (pc := 818) (i := 1) (x := 0) hM dL_law_818 rfl rfl ?_
  refine aw_aload_n (pc := 819) (i := 0) (x := 181) hM dL_law_819 rfl rfl ?_
  refine aw_iload (pc := 820) (i := 4) (x := x4) hM dL_law_820  rfl ?_
  refine aw_iconst (pc := 822) (v := 1) hM dL_law_822 (by decide) ?_
  refine aw_iadd (pc := 823) hM dL_law_823 ?_
  obtain ⟨c573, h⟩ := ite_some h
  refine aw_sld (pc := 824) hM hX c573 dL_law_824 ?_
  refine aw_aload_n (pc := 825) (i := 0) (x := 181) hM dL_law_825 rfl rfl ?_
  refine aw_iload (pc := 826) (i := 4) (x := x4) hM dL_law_826  rfl ?_
  refine aw_iconst (pc := 828) (v := 2) hM dL_law_828 (by decide) ?_
  refine aw_iadd (pc := 829) hM dL_law_829 ?_
  obtain ⟨c574, h⟩ := ite_some h
  refine aw_sld (pc := 830) hM hX c574 dL_law_830 ?_
  refine aw_aload_n (pc := 831) (i := 0) (x := 181) hM dL_law_831 rfl rfl ?_
  refine aw_iload (pc := 832) (i := 4) (x := x4) hM dL_law_832  rfl ?_
  refine aw_iconst (pc := 834) (v := 3) hM dL_law_834 (by decide) ?_
  refine aw_iadd (pc := 835) hM dL_law_835 ?_
  obtain ⟨c575, h⟩ := ite_some h
  refine aw_sld (pc := 836) hM hX c575 dL_law_836 ?_
  refine aw_aload_n (pc := 837) (i := 3) (x := 180) hM dL_law_837 rfl rfl ?_
  obtain ⟨z576, h578, h⟩ := bind_some h
  obtain ⟨k577, h579, h⟩ := bind_some h
  refine aw_csW (pc := 838) (n := 5) (As := [.ref 0, .int (xs (ix (x4 + 1))), .int (xs (ix (x4 + 2))), .int (xs (ix (x4 + 3))), .ref 180]) (st := []) (vo := some (.int k577)) (c2 := (c0 + 3)) (s2 := (s0 + 18)) hM (k_L_wishRing h578 h579) cw_L_174 (by decide +kernel) rfl rfl ⟨(Nat.le_of_ble_eq_true rfl), (Nat.le_of_ble_eq_true rfl)⟩ (Nat.le_of_ble_eq_true rfl) ⟨by show (c0 + 0) + 3 ≤ 601024; omega, by show (s0 + 0) + 18 ≤ 7293034; omega⟩ dL_law_838 rfl rfl ?_
  obtain ⟨G580, e581, h⟩ := bind_some h
  have e581 := Option.some.inj e581
  refine aw_memG e581 ?_
  refine aw_istore (pc := 841) (i := 5) (L' := [some (.ref 181), some (.ref 0), some (.ref 164), some (.ref 180), some (.int x4), some (.int k577), none]) hM dL_law_841  (by decide) rfl ?_
  refine aw_aload_n (pc := 843) (i := 2) (x := 164) hM dL_law_843 rfl rfl ?_
  refine aw_aload_n (pc := 844) (i := 0) (x := 181) hM dL_law_844 rfl rfl ?_
  refine aw_iload (pc := 845) (i := 4) (x := x4) hM dL_law_845  rfl ?_
  refine aw_iconst (pc := 847) (v := 1) hM dL_law_847 (by decide) ?_
  refine aw_iadd (pc := 848) hM dL_law_848 ?_
  obtain ⟨c582, h⟩ := ite_some h
  refine aw_sld (pc := 849) hM hX c582 dL_law_849 ?_
  refine aw_aload_n (pc := 850) (i := 0) (x := 181) hM dL_law_850 rfl rfl ?_
  refine aw_iload (pc := 851) (i := 4) (x := x4) hM dL_law_851  rfl ?_
  refine aw_iconst (pc := 853) (v := 2) hM dL_law_853 (by decide) ?_
  refine aw_iadd (pc := 854) hM dL_law_854 ?_
  obtain ⟨c583, h⟩ := ite_some h
  refine aw_sld (pc := 855) hM hX c583 dL_law_855 ?_
  refine aw_aload_n (pc := 856) (i := 0) (x := 181) hM dL_law_856 rfl rfl ?_
  refine aw_iload (pc := 857) (i := 4) (x := x4) hM dL_law_857  rfl ?_
  refine aw_iconst (pc := 859) (v := 3) hM dL_law_859 (by decide) ?_
  refine aw_iadd (pc := 860) hM dL_law_860 ?_
  obtain ⟨c584, h⟩ := ite_some h
  refine aw_sld (pc := 861) hM hX c584 dL_law_861 ?_
  obtain ⟨z587, h585, h⟩ := bind_some h
  refine aw_cv1 (pc := 862) (n := 3) (As := [.int (xs (ix (x4 + 1))), .int (xs (ix (x4 + 2))), .int (xs (ix (x4 + 3)))]) (st := []) (b := 164) (vo := (some (.int z587.1))) (c2 := (c0 + 3)) (s2 := (s0 + 18)) hM (k_X9_wishRing h585) rfl cw_L_176 sk_164 rfl rfl (by decide +kernel) rfl rfl ⟨(Nat.le_of_ble_eq_true rfl), (Nat.le_of_ble_eq_true rfl)⟩ (Nat.le_of_ble_eq_true rfl) ⟨by show (c0 + 3) + 0 ≤ 601024; omega, by show (s0 + 18) + 0 ≤ 7293034; omega⟩ dL_law_862 rfl rfl ?_
  refine aw_istore (pc := 865) (i := 6) (L' := [some (.ref 181), some (.ref 0), some (.ref 164), some (.ref 180), some (.int x4), some (.int k577), some (.int z587.1)]) hM dL_law_865  (by decide) rfl ?_
  refine aw_aload_n (pc := 867) (i := 2) (x := 164) hM dL_law_867 rfl rfl ?_
  obtain ⟨r589, h588, h⟩ := bind_some h
  refine aw_cv1 (pc := 868) (n := 0) (As := []) (st := []) (b := 164) (vo := (some (.int r589))) (c2 := (c0 + 3)) (s2 := (s0 + 18)) hM (k_X9_thrown h588) rfl cw_L_135 sk_164 rfl rfl (by decide +kernel) rfl rfl ⟨(Nat.le_of_ble_eq_true rfl), (Nat.le_of_ble_eq_true rfl)⟩ (Nat.le_of_ble_eq_true rfl) ⟨by show (c0 + 3) + 0 ≤ 601024; omega, by show (s0 + 18) + 0 ≤ 7293034; omega⟩ dL_law_868 rfl rfl ?_
  refine aw_iload (pc := 871) (i := 5) (x := k577) hM dL_law_871  rfl ?_
  refine aw_icmp_eq (pc := 873) (tgt := 878) hM dL_law_873 (by decide) (fun c590 => ?_) (fun c590 => ?_)
  · rw [if_pos c590] at h
    refine aw_iload (pc := 878) (i := 5) (x := k577) hM dL_law_878  rfl ?_
    refine aw_if_ne (pc := 880) (tgt := 895) hM dL_law_880 (by decide) (fun c591 => ?_) (fun c591 => ?_)
    · rw [if_neg c591] at h
      refine aw_goto (pc := 895) (tgt := 2530) hM dL_law_895 (by decide) ?_
      obtain ⟨y592, e593, h⟩ := bind_some h
      have e593 := Option.some.inj e593
      refine aw_iinc (pc := 2530) (v := y592) (L' := [some (.ref 181), some (.ref 0), some (.ref 164), some (.ref 180), some (.int y592), some (.int k577), some (.int z587.1)]) hM dL_law_2530 rfl e593 (by decide) rfl ?_
      refine aw_goto (pc := 2533) (tgt := 23) hM dL_law_2533 (by decide) ?_
      refine aw_weak (L' := [some (.ref 181), some (.ref 0), some (.ref 164), some (.ref 180), some (.int y592), none, none]) ?_ (lw_of [true, true, true, true, true, false, false] rfl)
      exact hk23 z587.2 G580 y592 _ _ (by omega) (by omega) h
    · rw [if_pos c591] at h
      refine aw_aload_n (pc := 883) (i := 3) (x := 180) hM dL_law_883 rfl rfl ?_
      refine aw_iconst (pc := 884) (v := 0) hM dL_law_884 (by decide) ?_
      refine aw_lald (pc := 885) hM sk_180 (by decide) dL_law_885 ?_
      refine aw_iload (pc := 886) (i := 6) (x := z587.1) hM dL_law_886  rfl ?_
      refine aw_i2l (pc := 888) hM dL_law_888 ?_
      refine aw_lcmp (pc := 889) hM dL_law_889 ?_
      refine aw_if_eq (pc := 890) (tgt := 895) hM dL_law_890 (by decide) (fun c594 => ?_) (fun c594 => ?_)
      · rw [if_pos c594] at h
        refine aw_goto (pc := 895) (tgt := 2530) hM dL_law_895 (by decide) ?_
        obtain ⟨y595, e596, h⟩ := bind_some h
        have e596 := Option.some.inj e596
        refine aw_iinc (pc := 2530) (v := y595) (L' := [some (.ref 181), some (.ref 0), some (.ref 164), some (.ref 180), some (.int y595), some (.int k577), some (.int z587.1)]) hM dL_law_2530 rfl e596 (by decide) rfl ?_
        refine aw_goto (pc := 2533) (tgt := 23) hM dL_law_2533 (by decide) ?_
        refine aw_weak (L' := [some (.ref 181), some (.ref 0), some (.ref 164), some (.ref 180), some (.int y595), none, none]) ?_ (lw_of [true, true, true, true, true, false, false] rfl)
        exact hk23 z587.2 G580 y595 _ _ (by omega) (by omega) h
      · rw [if_neg c594] at h
        refine aw_iconst (pc := 893) (v := 0) hM dL_law_893 (by decide) ?_
        exact absurd h (by decide)
  · rw [if_neg c590] at h
    refine aw_iconst (pc := 876) (v := 0) hM dL_law_876 (by decide) ?_
    exact absurd h (by decide)
set_option maxRecDepth 20000 in
set_option maxHeartbeats 4000000 in
theorem k_L_law_b898 {C : CX} {M : MX} {Len : Nat} {xs : Nat → Int32} {k23 : MM → GG → Int32 → Option Int32} {n c0 s0 : Nat} (hM : MOk C RL cL_law 7 ret room_1 M) (hX : LawX C M Len xs) (hk23 : ∀ (wF : MM) (wG : GG) (w0 : Int32) (c1 s1 : Nat), c1 + 60 * n ≤ 601024 → s1 + 600 * n ≤ 7293034 → k23 wF wG w0 = some 1 → AW C 7 (ZL M) M c1 s1 23 [some (.ref 181), some (.ref 0), some (.ref 164), some (.ref 180), some (.int w0), none, none] [] wF wG) (hc0 : c0 + 60 * n + 50 ≤ 601024) (hs0 : s0 + 600 * n + 500 ≤ 7293034) (F : MM) (G : GG) (x4 : Int32) (h : s_L_law_b898 Len xs k23 F G x4 = some 1) : AW C 7 (ZL M) M (c0 + 0) (s0 + 0) 898 [some (.ref 181), some (.ref 0), some (.ref 164), some (.ref 180), some (.int x4), none, none] [] F G := by
  rw [s_L_law_b898] at h
  refine aw_aload_n (pc := 898) (i := 1) (x := 0) hM dL_law_898 rfl rfl ?_
  refine aw_aload_n (pc := 899) (i := 0) (x := 181) hM dL_law_899 rfl rfl ?_
  refine aw_iload (pc := 900) (i := 4) (x := x4) hM dL_law_900  rfl ?_
  refine aw_iconst (pc := 902) (v := 1) hM dL_law_902 (by decide) ?_
  refine aw_iadd (pc := 903) hM dL_law_903 ?_
  obtain ⟨c549, h⟩ := ite_some h
  refine aw_sld (pc := 904) hM hX c549 dL_law_904 ?_
  refine aw_aload_n (pc := 905) (i := 0) (x := 181) hM dL_law_905 rfl rfl ?_
  refine aw_iload (pc := 906) (i := 4) (x := x4) hM dL_law_906  rfl ?_
  refine aw_iconst (pc := 908) (v := 2) hM dL_law_908 (by decide) ?_
  refine aw_iadd (pc := 909) hM dL_law_909 ?_
  obtain ⟨c550, h⟩ := ite_some h
  refine aw_sld (pc := 910) hM hX c550 dL_law_910 ?_
  refine aw_aload_n (pc := 911) (i := 0) (x := 181) hM dL_law_911 rfl rfl ?_
  refine aw_iload (pc := 912) (i := 4) (x := x4) hM dL_law_912  rfl ?_
  refine aw_iconst (pc := 914) (v := 3) hM dL_law_914 (by decide) ?_
  refine aw_iadd (pc := 915) hM dL_law_915 ?_
  obtain ⟨c551, h⟩ := ite_some h
  refine aw_sld (pc := 916) hM hX c551 dL_law_916 ?_
  refine aw_aload_n (pc := 917) (i := 3) (x := 180) hM dL_law_917 rfl rfl ?_
  obtain ⟨z552, h554, h⟩ := bind_some h
  obtain ⟨k553, h555, h⟩ := bind_some h
  refine aw_csW (pc := 918) (n := 5) (As := [.ref 0, .int (xs (ix (x4 + 1))), .int (xs (ix (x4 + 2))), .int (xs (ix (x4 + 3))), .ref 180]) (st := []) (vo := some (.int k553)) (c2 := (c0 + 3)) (s2 := (s0 + 18)) hM (k_L_drift h554 h555) cw_L_177 (by decide +kernel) rfl rfl ⟨(Nat.le_of_ble_eq_true rfl), (Nat.le_of_ble_eq_true rfl)⟩ (Nat.le_of_ble_eq_true rfl) ⟨by show (c0 + 0) + 3 ≤ 601024; omega, by show (s0 + 0) + 18 ≤ 7293034; omega⟩ dL_law_918 rfl rfl ?_
  obtain ⟨G556, e557, h⟩ := bind_some h
  have e557 := Option.some.inj e557
  refine aw_memG e557 ?_
  refine aw_istore (pc := 921) (i := 5) (L' := [some (.ref 181), some (.ref 0), some (.ref 164), some (.ref 180), some (.int x4), some (.int k553), none]) hM dL_law_921  (by decide) rfl ?_
  refine aw_aload_n (pc := 923) (i := 2) (x := 164) hM dL_law_923 rfl rfl ?_
  refine aw_aload_n (pc := 924) (i := 0) (x := 181) hM dL_law_924 rfl rfl ?_
  refine aw_iload (pc := 925) (i := 4) (x := x4) hM dL_law_925  rfl ?_
  refine aw_iconst (pc := 927) (v := 1) hM dL_law_927 (by decide) ?_
  refine aw_iadd (pc := 928) hM dL_law_928 ?_
  obtain ⟨c558, h⟩ := ite_some h
  refine aw_sld (pc := 929) hM hX c558 dL_law_929 ?_
  refine aw_aload_n (pc := 930) (i := 0) (x := 181) hM dL_law_930 rfl rfl ?_
  refine aw_iload (pc := 931) (i := 4) (x := x4) hM dL_law_931  rfl ?_
  refine aw_iconst (pc := 933) (v := 2) hM dL_law_933 (by decide) ?_
  refine aw_iadd (pc := 934) hM dL_law_934 ?_
  obtain ⟨c559, h⟩ := ite_some h
  refine aw_sld (pc := 935) hM hX c559 dL_law_935 ?_
  refine aw_aload_n (pc := 936) (i := 0) (x := 181) hM dL_law_936 rfl rfl ?_
  refine aw_iload (pc := 937) (i := 4) (x := x4) hM dL_law_937  rfl ?_
  refine aw_iconst (pc := 939) (v := 3) hM dL_law_939 (by decide) ?_
  refine aw_iadd (pc := 940) hM dL_law_940 ?_
  obtain ⟨c560, h⟩ := ite_some h
  refine aw_sld (pc := 941) hM hX c560 dL_law_941 ?_
  obtain ⟨z563, h561, h⟩ := bind_some h
  refine aw_cv1 (pc := 942) (n := 3) (As := [.int (xs (ix (x4 + 1))), .int (xs (ix (x4 + 2))), .int (xs (ix (x4 + 3)))]) (st := []) (b := 164) (vo := (some (.int z563.1))) (c2 := (c0 + 3)) (s2 := (s0 + 18)) hM (k_X9_drift h561) rfl cw_L_179 sk_164 rfl rfl (by decide +kernel) rfl rfl ⟨(Nat.le_of_ble_eq_true rfl), (Nat.le_of_ble_eq_true rfl)⟩ (Nat.le_of_ble_eq_true rfl) ⟨by show (c0 + 3) + 0 ≤ 601024; omega, by show (s0 + 18) + 0 ≤ 7293034; omega⟩ dL_law_942 rfl rfl ?_
  refine aw_istore (pc := 945) (i := 6) (L' := [some (.ref 181), some (.ref 0), some (.ref 164), some (.ref 180), some (.int x4), some (.int k553), some (.int z563.1)]) hM dL_law_945  (by decide) rfl ?_
  refine aw_aload_n (pc := 947) (i := 2) (x := 164) hM dL_law_947 rfl rfl ?_
  obtain ⟨r565, h564, h⟩ := bind_some h
  refine aw_cv1 (pc := 948) (n := 0) (As := []) (st := []) (b := 164) (vo := (some (.int r565))) (c2 := (c0 + 3)) (s2 := (s0 + 18)) hM (k_X9_thrown h564) rfl cw_L_135 sk_164 rfl rfl (by decide +kernel) rfl rfl ⟨(Nat.le_of_ble_eq_true rfl), (Nat.le_of_ble_eq_true rfl)⟩ (Nat.le_of_ble_eq_true rfl) ⟨by show (c0 + 3) + 0 ≤ 601024; omega, by show (s0 + 18) + 0 ≤ 7293034; omega⟩ dL_law_948 rfl rfl ?_
  refine aw_iload (pc := 951) (i := 5) (x := k553) hM dL_law_951  rfl ?_
  refine aw_icmp_eq (pc := 953) (tgt := 958) hM dL_law_953 (by decide) (fun c566 => ?_) (fun c566 => ?_)
  · rw [if_pos c566] at h
    refine aw_iload (pc := 958) (i := 5) (x := k553) hM dL_law_958  rfl ?_
    refine aw_if_ne (pc := 960) (tgt := 975) hM dL_law_960 (by decide) (fun c567 => ?_) (fun c567 => ?_)
    · rw [if_neg c567] at h
      refine aw_goto (pc := 975) (tgt := 2530) hM dL_law_975 (by decide) ?_
      obtain ⟨y568, e569, h⟩ := bind_some h
      have e569 := Option.some.inj e569
      refine aw_iinc (pc := 2530) (v := y568) (L' := [some (.ref 181), some (.ref 0), some (.ref 164), some (.ref 180), some (.int y568), some (.int k553), some (.int z563.1)]) hM dL_law_2530 rfl e569 (by decide) rfl ?_
      refine aw_goto (pc := 2533) (tgt := 23) hM dL_law_2533 (by decide) ?_
      refine aw_weak (L' := [some (.ref 181), some (.ref 0), some (.ref 164), some (.ref 180), some (.int y568), none, none]) ?_ (lw_of [true, true, true, true, true, false, false] rfl)
      exact hk23 z563.2 G556 y568 _ _ (by omega) (by omega) h
    · rw [if_pos c567] at h
      refine aw_aload_n (pc := 963) (i := 3) (x := 180) hM dL_law_963 rfl rfl ?_
      refine aw_iconst (pc := 964) (v := 0) hM dL_law_964 (by decide) ?_
      refine aw_lald (pc := 965) hM sk_180 (by decide) dL_law_965 ?_
      refine aw_iload (pc := 966) (i := 6) (x := z563.1) hM dL_law_966  rfl ?_
      refine aw_i2l (pc := 968) hM dL_law_968 ?_
      refine aw_lcmp (pc := 969) hM dL_law_969 ?_
      refine aw_if_eq (pc := 970) (tgt := 975) hM dL_law_970 (by decide) (fun c570 => ?_) (fun c570 => ?_)
      · rw [if_pos c570] at h
        refine aw_goto (pc := 975) (tgt := 2530) hM dL_law_975 (by decide) ?_
        obtain ⟨y571, e572, h⟩ := bind_some h
        have e572 := Option.some.inj e572
        refine aw_iinc (pc := 2530) (v := y571) (L' := [some (.ref 181), some (.ref 0), some (.ref 164), some (.ref 180), some (.int y571), some (.int k553), some (.int z563.1)]) hM dL_law_2530 rfl e572 (by decide) rfl ?_
        refine aw_goto (pc := 2533) (tgt := 23) hM dL_law_2533 (by decide) ?_
        refine aw_weak (L' := [some (.ref 181), some (.ref 0), some (.ref 164), some (.ref 180), some (.int y571), none, none]) ?_ (lw_of [true, true, true, true, true, false, false] rfl)
        exact hk23 z563.2 G556 y571 _ _ (by omega) (by omega) h
      · rw [if_neg c570] at h
        refine aw_iconst (pc := 973) (v := 0) hM dL_law_973 (by decide) ?_
        exact absurd h (by decide)
  · rw [if_neg c566] at h
    refine aw_iconst (pc := 956) (v := 0) hM dL_law_956 (by decide) ?_
    exact absurd h (by decide)
set_option maxRecDepth 20000 in
set_option maxHeartbeats 4000000 in
theorem k_L_law_b978 {C : CX} {M : MX} {Len : Nat} {xs : Nat → Int32} {k23 : MM → GG → Int32 → Option Int32} {n c0 s0 : Nat} (hM : MOk C RL cL_law 7 ret room_1 M) (hX : LawX C M Len xs) (hk23 : ∀ (wF : MM) (wG : GG) (w0 : Int32) (c1 s1 : Nat), c1 + 60 * n ≤ 601024 → s1 + 600 * n ≤ 7293034 → k23 wF wG w0 = some 1 → AW C 7 (ZL M) M c1 s1 23 [some (.ref 181), some (.ref 0), some (.ref 164), some (.ref 180), some (.int w0), none, none] [] wF wG) (hc0 : c0 + 60 * n + 50 ≤ 601024) (hs0 : s0 + 600 * n + 500 ≤ 7293034) (F : MM) (G : GG) (x4 : Int32) (h : s_L_law_b978 Len xs k23 F G x4 = some 1) : AW C 7 (ZL M) M (c0 + 0) (s0 + 0) 978 [some (.ref 181), some (.ref 0), some (.ref 164), some (.ref 180), some (.int x4), none, none] [] F G := by
  rw [s_L_law_b978] at h
  refine aw_aload_n (pc := 978) (i := 1) (x := 0) hM dL_law_978 rfl rfl ?_
  refine aw_aload_n (pc := 979) (i := 0) (x := 181) hM dL_law_979 rfl rfl ?_
  refine aw_iload (pc := 980) (i := 4) (x := x4) hM dL_law_980  rfl ?_
  refine aw_iconst (pc := 982) (v := 1) hM dL_law_982 (by decide) ?_
  refine aw_iadd (pc := 983) hM dL_law_983 ?_
  obtain ⟨c525, h⟩ := ite_some h
  refine aw_sld (pc := 984) hM hX c525 dL_law_984 ?_
  refine aw_aload_n (pc := 985) (i := 0) (x := 181) hM dL_law_985 rfl rfl ?_
  refine aw_iload (pc := 986) (i := 4) (x := x4) hM dL_law_986  rfl ?_
  refine aw_iconst (pc := 988) (v := 2) hM dL_law_988 (by decide) ?_
  refine aw_iadd (pc := 989) hM dL_law_989 ?_
  obtain ⟨c526, h⟩ := ite_some h
  refine aw_sld (pc := 990) hM hX c526 dL_law_990 ?_
  refine aw_aload_n (pc := 991) (i := 0) (x := 181) hM dL_law_991 rfl rfl ?_
  refine aw_iload (pc := 992) (i := 4) (x := x4) hM dL_law_992  rfl ?_
  refine aw_iconst (pc := 994) (v := 3) hM dL_law_994 (by decide) ?_
  refine aw_iadd (pc := 995) hM dL_law_995 ?_
  obtain ⟨c527, h⟩ := ite_some h
  refine aw_sld (pc := 996) hM hX c527 dL_law_996 ?_
  refine aw_aload_n (pc := 997) (i := 3) (x := 180) hM dL_law_997 rfl rfl ?_
  obtain ⟨z528, h530, h⟩ := bind_some h
  obtain ⟨k529, h531, h⟩ := bind_some h
  refine aw_csW (pc := 998) (n := 5) (As := [.ref 0, .int (xs (ix (x4 + 1))), .int (xs (ix (x4 + 2))), .int (xs (ix (x4 + 3))), .ref 180]) (st := []) (vo := some (.int k529)) (c2 := (c0 + 4)) (s2 := (s0 + 24)) hM (k_L_approve h530 h531) cw_L_180 (by decide +kernel) rfl rfl ⟨(Nat.le_of_ble_eq_true rfl), (Nat.le_of_ble_eq_true rfl)⟩ (Nat.le_of_ble_eq_true rfl) ⟨by show (c0 + 0) + 4 ≤ 601024; omega, by show (s0 + 0) + 24 ≤ 7293034; omega⟩ dL_law_998 rfl rfl ?_
  obtain ⟨G532, e533, h⟩ := bind_some h
  have e533 := Option.some.inj e533
  refine aw_memG e533 ?_
  refine aw_istore (pc := 1001) (i := 5) (L' := [some (.ref 181), some (.ref 0), some (.ref 164), some (.ref 180), some (.int x4), some (.int k529), none]) hM dL_law_1001  (by decide) rfl ?_
  refine aw_aload_n (pc := 1003) (i := 2) (x := 164) hM dL_law_1003 rfl rfl ?_
  refine aw_aload_n (pc := 1004) (i := 0) (x := 181) hM dL_law_1004 rfl rfl ?_
  refine aw_iload (pc := 1005) (i := 4) (x := x4) hM dL_law_1005  rfl ?_
  refine aw_iconst (pc := 1007) (v := 1) hM dL_law_1007 (by decide) ?_
  refine aw_iadd (pc := 1008) hM dL_law_1008 ?_
  obtain ⟨c534, h⟩ := ite_some h
  refine aw_sld (pc := 1009) hM hX c534 dL_law_1009 ?_
  refine aw_aload_n (pc := 1010) (i := 0) (x := 181) hM dL_law_1010 rfl rfl ?_
  refine aw_iload (pc := 1011) (i := 4) (x := x4) hM dL_law_1011  rfl ?_
  refine aw_iconst (pc := 1013) (v := 2) hM dL_law_1013 (by decide) ?_
  refine aw_iadd (pc := 1014) hM dL_law_1014 ?_
  obtain ⟨c535, h⟩ := ite_some h
  refine aw_sld (pc := 1015) hM hX c535 dL_law_1015 ?_
  refine aw_aload_n (pc := 1016) (i := 0) (x := 181) hM dL_law_1016 rfl rfl ?_
  refine aw_iload (pc := 1017) (i := 4) (x := x4) hM dL_law_1017  rfl ?_
  refine aw_iconst (pc := 1019) (v := 3) hM dL_law_1019 (by decide) ?_
  refine aw_iadd (pc := 1020) hM dL_law_1020 ?_
  obtain ⟨c536, h⟩ := ite_some h
  refine aw_sld (pc := 1021) hM hX c536 dL_law_1021 ?_
  obtain ⟨z539, h537, h⟩ := bind_some h
  refine aw_cv1 (pc := 1022) (n := 3) (As := [.int (xs (ix (x4 + 1))), .int (xs (ix (x4 + 2))), .int (xs (ix (x4 + 3)))]) (st := []) (b := 164) (vo := (some (.int z539.1))) (c2 := (c0 + 4)) (s2 := (s0 + 24)) hM (k_X9_approve h537) rfl cw_L_182 sk_164 rfl rfl (by decide +kernel) rfl rfl ⟨(Nat.le_of_ble_eq_true rfl), (Nat.le_of_ble_eq_true rfl)⟩ (Nat.le_of_ble_eq_true rfl) ⟨by show (c0 + 4) + 0 ≤ 601024; omega, by show (s0 + 24) + 0 ≤ 7293034; omega⟩ dL_law_1022 rfl rfl ?_
  refine aw_istore (pc := 1025) (i := 6) (L' := [some (.ref 181), some (.ref 0), some (.ref 164), some (.ref 180), some (.int x4), some (.int k529), some (.int z539.1)]) hM dL_law_1025  (by decide) rfl ?_
  refine aw_aload_n (pc := 1027) (i := 2) (x := 164) hM dL_law_1027 rfl rfl ?_
  obtain ⟨r541, h540, h⟩ := bind_some h
  refine aw_cv1 (pc := 1028) (n := 0) (As := []) (st := []) (b := 164) (vo := (some (.int r541))) (c2 := (c0 + 4)) (s2 := (s0 + 24)) hM (k_X9_thrown h540) rfl cw_L_135 sk_164 rfl rfl (by decide +kernel) rfl rfl ⟨(Nat.le_of_ble_eq_true rfl), (Nat.le_of_ble_eq_true rfl)⟩ (Nat.le_of_ble_eq_true rfl) ⟨by show (c0 + 4) + 0 ≤ 601024; omega, by show (s0 + 24) + 0 ≤ 7293034; omega⟩ dL_law_1028 rfl rfl ?_
  refine aw_iload (pc := 1031) (i := 5) (x := k529) hM dL_law_1031  rfl ?_
  refine aw_icmp_eq (pc := 1033) (tgt := 1038) hM dL_law_1033 (by decide) (fun c542 => ?_) (fun c542 => ?_)
  · rw [if_pos c542] at h
    refine aw_iload (pc := 1038) (i := 5) (x := k529) hM dL_law_1038  rfl ?_
    refine aw_if_ne (pc := 1040) (tgt := 1055) hM dL_law_1040 (by decide) (fun c543 => ?_) (fun c543 => ?_)
    · rw [if_neg c543] at h
      refine aw_goto (pc := 1055) (tgt := 2530) hM dL_law_1055 (by decide) ?_
      obtain ⟨y544, e545, h⟩ := bind_some h
      have e545 := Option.some.inj e545
      refine aw_iinc (pc := 2530) (v := y544) (L' := [some (.ref 181), some (.ref 0), some (.ref 164), some (.ref 180), some (.int y544), some (.int k529), some (.int z539.1)]) hM dL_law_2530 rfl e545 (by decide) rfl ?_
      refine aw_goto (pc := 2533) (tgt := 23) hM dL_law_2533 (by decide) ?_
      refine aw_weak (L' := [some (.ref 181), some (.ref 0), some (.ref 164), some (.ref 180), some (.int y544), none, none]) ?_ (lw_of [true, true, true, true, true, false, false] rfl)
      exact hk23 z539.2 G532 y544 _ _ (by omega) (by omega) h
    · rw [if_pos c543] at h
      refine aw_aload_n (pc := 1043) (i := 3) (x := 180) hM dL_law_1043 rfl rfl ?_
      refine aw_iconst (pc := 1044) (v := 0) hM dL_law_1044 (by decide) ?_
      refine aw_lald (pc := 1045) hM sk_180 (by decide) dL_law_1045 ?_
      refine aw_iload (pc := 1046) (i := 6) (x := z539.1) hM dL_law_1046  rfl ?_
      refine aw_i2l (pc := 1048) hM dL_law_1048 ?_
      refine aw_lcmp (pc := 1049) hM dL_law_1049 ?_
      refine aw_if_eq (pc := 1050) (tgt := 1055) hM dL_law_1050 (by decide) (fun c546 => ?_) (fun c546 => ?_)
      · rw [if_pos c546] at h
        refine aw_goto (pc := 1055) (tgt := 2530) hM dL_law_1055 (by decide) ?_
        obtain ⟨y547, e548, h⟩ := bind_some h
        have e548 := Option.some.inj e548
        refine aw_iinc (pc := 2530) (v := y547) (L' := [some (.ref 181), some (.ref 0), some (.ref 164), some (.ref 180), some (.int y547), some (.int k529), some (.int z539.1)]) hM dL_law_2530 rfl e548 (by decide) rfl ?_
        refine aw_goto (pc := 2533) (tgt := 23) hM dL_law_2533 (by decide) ?_
        refine aw_weak (L' := [some (.ref 181), some (.ref 0), some (.ref 164), some (.ref 180), some (.int y547), none, none]) ?_ (lw_of [true, true, true, true, true, false, false] rfl)
        exact hk23 z539.2 G532 y547 _ _ (by omega) (by omega) h
      · rw [if_neg c546] at h
        refine aw_iconst (pc := 1053) (v := 0) hM dL_law_1053 (by decide) ?_
        exact absurd h (by decide)
  · rw [if_neg c542] at h
    refine aw_iconst (pc := 1036) (v := 0) hM dL_law_1036 (by decide) ?_
    exact absurd h (by decide)
set_option maxRecDepth 20000 in
set_option maxHeartbeats 4000000 in
theorem k_L_law_b1058 {C : CX} {M : MX} {Len : Nat} {xs : Nat → Int32} {k23 : MM → GG → Int32 → Option Int32} {n c0 s0 : Nat} (hM : MOk C RL cL_law 7 ret room_1 M) (hX : LawX C M Len xs) (hk23 : ∀ (wF : MM) (wG : GG) (w0 : Int32) (c1 s1 : Nat), c1 + 60 * n ≤ 601024 → s1 + 600 * n ≤ 7293034 → k23 wF wG w0 = some 1 → AW C 7 (ZL M) M c1 s1 23 [some (.ref 181), some (.ref 0), some (.ref 164), some (.ref 180), some (.int w0), none, none] [] wF wG) (hc0 : c0 + 60 * n + 50 ≤ 601024) (hs0 : s0 + 600 * n + 500 ≤ 7293034) (F : MM) (G : GG) (x4 : Int32) (h : s_L_law_b1058 Len xs k23 F G x4 = some 1) : AW C 7 (ZL M) M (c0 + 0) (s0 + 0) 1058 [some (.ref 181), some (.ref 0), some (.ref 164), some (.ref 180), some (.int x4), none, none] [] F G := by
  rw [s_L_law_b1058] at h
  refine aw_aload_n (pc := 1058) (i := 1) (x := 0) hM dL_law_1058 rfl rfl ?_
  refine aw_aload_n (pc := 1059) (i := 0) (x := 181) hM dL_law_1059 rfl rfl ?_
  refine aw_iload (pc := 1060) (i := 4) (x := x4) hM dL_law_1060  rfl ?_
  refine aw_iconst (pc := 1062) (v := 1) hM dL_law_1062 (by decide) ?_
  refine aw_iadd (pc := 1063) hM dL_law_1063 ?_
  obtain ⟨c505, h⟩ := ite_some h
  refine aw_sld (pc := 1064) hM hX c505 dL_law_1064 ?_
  refine aw_aload_n (pc := 1065) (i := 3) (x := 180) hM dL_law_1065 rfl rfl ?_
  obtain ⟨z506, h508, h⟩ := bind_some h
  obtain ⟨k507, h509, h⟩ := bind_some h
  refine aw_csW (pc := 1066) (n := 3) (As := [.ref 0, .int (xs (ix (x4 + 1))), .ref 180]) (st := []) (vo := some (.int k507)) (c2 := (c0 + 1)) (s2 := (s0 + 6)) hM (k_L_dismiss h508 h509) cw_L_183 (by decide +kernel) rfl rfl ⟨(Nat.le_of_ble_eq_true rfl), (Nat.le_of_ble_eq_true rfl)⟩ (Nat.le_of_ble_eq_true rfl) ⟨by show (c0 + 0) + 1 ≤ 601024; omega, by show (s0 + 0) + 6 ≤ 7293034; omega⟩ dL_law_1066 rfl rfl ?_
  obtain ⟨G510, e511, h⟩ := bind_some h
  have e511 := Option.some.inj e511
  refine aw_memG e511 ?_
  refine aw_istore (pc := 1069) (i := 5) (L' := [some (.ref 181), some (.ref 0), some (.ref 164), some (.ref 180), some (.int x4), some (.int k507), none]) hM dL_law_1069  (by decide) rfl ?_
  refine aw_aload_n (pc := 1071) (i := 2) (x := 164) hM dL_law_1071 rfl rfl ?_
  refine aw_aload_n (pc := 1072) (i := 0) (x := 181) hM dL_law_1072 rfl rfl ?_
  refine aw_iload (pc := 1073) (i := 4) (x := x4) hM dL_law_1073  rfl ?_
  refine aw_iconst (pc := 1075) (v := 1) hM dL_law_1075 (by decide) ?_
  refine aw_iadd (pc := 1076) hM dL_law_1076 ?_
  obtain ⟨c512, h⟩ := ite_some h
  refine aw_sld (pc := 1077) hM hX c512 dL_law_1077 ?_
  obtain ⟨z515, h513, h⟩ := bind_some h
  refine aw_cv1 (pc := 1078) (n := 1) (As := [.int (xs (ix (x4 + 1)))]) (st := []) (b := 164) (vo := (some (.int z515.1))) (c2 := (c0 + 1)) (s2 := (s0 + 6)) hM (k_X9_dismiss h513) rfl cw_L_185 sk_164 rfl rfl (by decide +kernel) rfl rfl ⟨(Nat.le_of_ble_eq_true rfl), (Nat.le_of_ble_eq_true rfl)⟩ (Nat.le_of_ble_eq_true rfl) ⟨by show (c0 + 1) + 0 ≤ 601024; omega, by show (s0 + 6) + 0 ≤ 7293034; omega⟩ dL_law_1078 rfl rfl ?_
  refine aw_istore (pc := 1081) (i := 6) (L' := [some (.ref 181), some (.ref 0), some (.ref 164), some (.ref 180), some (.int x4), some (.int k507), some (.int z515.1)]) hM dL_law_1081  (by decide) rfl ?_
  refine aw_aload_n (pc := 1083) (i := 2) (x := 164) hM dL_law_1083 rfl rfl ?_
  obtain ⟨r517, h516, h⟩ := bind_some h
  refine aw_cv1 (pc := 1084) (n := 0) (As := []) (st := []) (b := 164) (vo := (some (.int r517))) (c2 := (c0 + 1)) (s2 := (s0 + 6)) hM (k_X9_thrown h516) rfl cw_L_135 sk_164 rfl rfl (by decide +kernel) rfl rfl ⟨(Nat.le_of_ble_eq_true rfl), (Nat.le_of_ble_eq_true rfl)⟩ (Nat.le_of_ble_eq_true rfl) ⟨by show (c0 + 1) + 0 ≤ 601024; omega, by show (s0 + 6) + 0 ≤ 7293034; omega⟩ dL_law_1084 rfl rfl ?_
  refine aw_iload (pc := 1087) (i := 5) (x := k507) hM dL_law_1087  rfl ?_
  refine aw_icmp_eq (pc := 1089) (tgt := 1094) hM dL_law_1089 (by decide) (fun c518 => ?_) (fun c518 => ?_)
  · rw [if_pos c518] at h
    refine aw_iload (pc := 1094) (i := 5) (x := k507) hM dL_law_1094  rfl ?_
    refine aw_if_ne (pc := 1096) (tgt := 1111) hM dL_law_1096 (by decide) (fun c519 => ?_) (fun c519 => ?_)
    · rw [if_neg c519] at h
      refine aw_goto (pc := 1111) (tgt := 2530) hM dL_law_1111 (by decide) ?_
      obtain ⟨y520, e521, h⟩ := bind_some h
      have e521 := Option.some.inj e521
      refine aw_iinc (pc := 2530) (v := y520) (L' := [some (.ref 181), some (.ref 0), some (.ref 164), some (.ref 180), some (.int y520), some (.int k507), some (.int z515.1)]) hM dL_law_2530 rfl e521 (by decide) rfl ?_
      refine aw_goto (pc := 2533) (tgt := 23) hM dL_law_2533 (by decide) ?_
      refine aw_weak (L' := [some (.ref 181), some (.ref 0), some (.ref 164), some (.ref 180), some (.int y520), none, none]) ?_ (lw_of [true, true, true, true, true, false, false] rfl)
      exact hk23 z515.2 G510 y520 _ _ (by omega) (by omega) h
    · rw [if_pos c519] at h
      refine aw_aload_n (pc := 1099) (i := 3) (x := 180) hM dL_law_1099 rfl rfl ?_
      refine aw_iconst (pc := 1100) (v := 0) hM dL_law_1100 (by decide) ?_
      refine aw_lald (pc := 1101) hM sk_180 (by decide) dL_law_1101 ?_
      refine aw_iload (pc := 1102) (i := 6) (x := z515.1) hM dL_law_1102  rfl ?_
      refine aw_i2l (pc := 1104) hM dL_law_1104 ?_
      refine aw_lcmp (pc := 1105) hM dL_law_1105 ?_
      refine aw_if_eq (pc := 1106) (tgt := 1111) hM dL_law_1106 (by decide) (fun c522 => ?_) (fun c522 => ?_)
      · rw [if_pos c522] at h
        refine aw_goto (pc := 1111) (tgt := 2530) hM dL_law_1111 (by decide) ?_
        obtain ⟨y523, e524, h⟩ := bind_some h
        have e524 := Option.some.inj e524
        refine aw_iinc (pc := 2530) (v := y523) (L' := [some (.ref 181), some (.ref 0), some (.ref 164), some (.ref 180), some (.int y523), some (.int k507), some (.int z515.1)]) hM dL_law_2530 rfl e524 (by decide) rfl ?_
        refine aw_goto (pc := 2533) (tgt := 23) hM dL_law_2533 (by decide) ?_
        refine aw_weak (L' := [some (.ref 181), some (.ref 0), some (.ref 164), some (.ref 180), some (.int y523), none, none]) ?_ (lw_of [true, true, true, true, true, false, false] rfl)
        exact hk23 z515.2 G510 y523 _ _ (by omega) (by omega) h
      · rw [if_neg c522] at h
        refine aw_iconst (pc := 1109) (v := 0) hM dL_law_1109 (by decide) ?_
        exact absurd h (by decide)
  · rw [if_neg c518] at h
    refine aw_iconst (pc := 1092) (v := 0) hM dL_law_1092 (by decide) ?_
    exact absurd h (by decide)
set_option maxRecDepth 20000 in
set_option maxHeartbeats 4000000 in
theorem k_L_law_b1114 {C : CX} {M : MX} {Len : Nat} {xs : Nat → Int32} {k23 : MM → GG → Int32 → Option Int32} {n c0 s0 : Nat} (hM : MOk C RL cL_law 7 ret room_1 M) (hX : LawX C M Len xs) (hk23 : ∀ (wF : MM) (wG : GG) (w0 : Int32) (c1 s1 : Nat), c1 + 60 * n ≤ 601024 → s1 + 600 * n ≤ 7293034 → k23 wF wG w0 = some 1 → AW C 7 (ZL M) M c1 s1 23 [some (.ref 181), some (.ref 0), some (.ref 164), some (.ref 180), some (.int w0), none, none] [] wF wG) (hc0 : c0 + 60 * n + 50 ≤ 601024) (hs0 : s0 + 600 * n + 500 ≤ 7293034) (F : MM) (G : GG) (x4 : Int32) (h : s_L_law_b1114 Len xs k23 F G x4 = some 1) : AW C 7 (ZL M) M (c0 + 0) (s0 + 0) 1114 [some (.ref 181), some (.ref 0), some (.ref 164), some (.ref 180), some (.int x4), none, none] [] F G := by
  rw [s_L_law_b1114] at h
  refine aw_aload_n (pc := 1114) (i := 1) (x := 0) hM dL_law_1114 rfl rfl ?_
  refine aw_aload_n (pc := 1115) (i := 0) (x := 181) hM dL_law_1115 rfl rfl ?_
  refine aw_iload (pc := 1116) (i := 4) (x := x4) hM dL_law_1116  rfl ?_
  refine aw_iconst (pc := 1118) (v := 1) hM dL_law_1118 (by decide) ?_
  refine aw_iadd (pc := 1119) hM dL_law_1119 ?_
  obtain ⟨c483, h⟩ := ite_some h
  refine aw_sld (pc := 1120) hM hX c483 dL_law_1120 ?_
  refine aw_aload_n (pc := 1121) (i := 0) (x := 181) hM dL_law_1121 rfl rfl ?_
  refine aw_iload (pc := 1122) (i := 4) (x := x4) hM dL_law_1122  rfl ?_
  refine aw_iconst (pc := 1124) (v := 2) hM dL_law_1124 (by decide) ?_
  refine aw_iadd (pc := 1125) hM dL_law_1125 ?_
  obtain ⟨c484, h⟩ := ite_some h
  refine aw_sld (pc := 1126) hM hX c484 dL_law_1126 ?_
  refine aw_aload_n (pc := 1127) (i := 3) (x := 180) hM dL_law_1127 rfl rfl ?_
  obtain ⟨z485, h487, h⟩ := bind_some h
  obtain ⟨k486, h488, h⟩ := bind_some h
  refine aw_csW (pc := 1128) (n := 4) (As := [.ref 0, .int (xs (ix (x4 + 1))), .int (xs (ix (x4 + 2))), .ref 180]) (st := []) (vo := some (.int k486)) (c2 := (c0 + 2)) (s2 := (s0 + 12)) hM (k_L_setQuorum h487 h488) cw_L_186 (by decide +kernel) rfl rfl ⟨(Nat.le_of_ble_eq_true rfl), (Nat.le_of_ble_eq_true rfl)⟩ (Nat.le_of_ble_eq_true rfl) ⟨by show (c0 + 0) + 2 ≤ 601024; omega, by show (s0 + 0) + 12 ≤ 7293034; omega⟩ dL_law_1128 rfl rfl ?_
  obtain ⟨G489, e490, h⟩ := bind_some h
  have e490 := Option.some.inj e490
  refine aw_memG e490 ?_
  refine aw_istore (pc := 1131) (i := 5) (L' := [some (.ref 181), some (.ref 0), some (.ref 164), some (.ref 180), some (.int x4), some (.int k486), none]) hM dL_law_1131  (by decide) rfl ?_
  refine aw_aload_n (pc := 1133) (i := 2) (x := 164) hM dL_law_1133 rfl rfl ?_
  refine aw_aload_n (pc := 1134) (i := 0) (x := 181) hM dL_law_1134 rfl rfl ?_
  refine aw_iload (pc := 1135) (i := 4) (x := x4) hM dL_law_1135  rfl ?_
  refine aw_iconst (pc := 1137) (v := 1) hM dL_law_1137 (by decide) ?_
  refine aw_iadd (pc := 1138) hM dL_law_1138 ?_
  obtain ⟨c491, h⟩ := ite_some h
  refine aw_sld (pc := 1139) hM hX c491 dL_law_1139 ?_
  refine aw_aload_n (pc := 1140) (i := 0) (x := 181) hM dL_law_1140 rfl rfl ?_
  refine aw_iload (pc := 1141) (i := 4) (x := x4) hM dL_law_1141  rfl ?_
  refine aw_iconst (pc := 1143) (v := 2) hM dL_law_1143 (by decide) ?_
  refine aw_iadd (pc := 1144) hM dL_law_1144 ?_
  obtain ⟨c492, h⟩ := ite_some h
  refine aw_sld (pc := 1145) hM hX c492 dL_law_1145 ?_
  obtain ⟨z495, h493, h⟩ := bind_some h
  refine aw_cv1 (pc := 1146) (n := 2) (As := [.int (xs (ix (x4 + 1))), .int (xs (ix (x4 + 2)))]) (st := []) (b := 164) (vo := (some (.int z495.1))) (c2 := (c0 + 2)) (s2 := (s0 + 12)) hM (k_X9_setQuorum h493) rfl cw_L_188 sk_164 rfl rfl (by decide +kernel) rfl rfl ⟨(Nat.le_of_ble_eq_true rfl), (Nat.le_of_ble_eq_true rfl)⟩ (Nat.le_of_ble_eq_true rfl) ⟨by show (c0 + 2) + 0 ≤ 601024; omega, by show (s0 + 12) + 0 ≤ 7293034; omega⟩ dL_law_1146 rfl rfl ?_
  refine aw_istore (pc := 1149) (i := 6) (L' := [some (.ref 181), some (.ref 0), some (.ref 164), some (.ref 180), some (.int x4), some (.int k486), some (.int z495.1)]) hM dL_law_1149  (by decide) rfl ?_
  refine aw_aload_n (pc := 1151) (i := 2) (x := 164) hM dL_law_1151 rfl rfl ?_
  obtain ⟨r497, h496, h⟩ := bind_some h
  refine aw_cv1 (pc := 1152) (n := 0) (As := []) (st := []) (b := 164) (vo := (some (.int r497))) (c2 := (c0 + 2)) (s2 := (s0 + 12)) hM (k_X9_thrown h496) rfl cw_L_135 sk_164 rfl rfl (by decide +kernel) rfl rfl ⟨(Nat.le_of_ble_eq_true rfl), (Nat.le_of_ble_eq_true rfl)⟩ (Nat.le_of_ble_eq_true rfl) ⟨by show (c0 + 2) + 0 ≤ 601024; omega, by show (s0 + 12) + 0 ≤ 7293034; omega⟩ dL_law_1152 rfl rfl ?_
  refine aw_iload (pc := 1155) (i := 5) (x := k486) hM dL_law_1155  rfl ?_
  refine aw_icmp_eq (pc := 1157) (tgt := 1162) hM dL_law_1157 (by decide) (fun c498 => ?_) (fun c498 => ?_)
  · rw [if_pos c498] at h
    refine aw_iload (pc := 1162) (i := 5) (x := k486) hM dL_law_1162  rfl ?_
    refine aw_if_ne (pc := 1164) (tgt := 1179) hM dL_law_1164 (by decide) (fun c499 => ?_) (fun c499 => ?_)
    · rw [if_neg c499] at h
      refine aw_goto (pc := 1179) (tgt := 2530) hM dL_law_1179 (by decide) ?_
      obtain ⟨y500, e501, h⟩ := bind_some h
      have e501 := Option.some.inj e501
      refine aw_iinc (pc := 2530) (v := y500) (L' := [some (.ref 181), some (.ref 0), some (.ref 164), some (.ref 180), some (.int y500), some (.int k486), some (.int z495.1)]) hM dL_law_2530 rfl e501 (by decide) rfl ?_
      refine aw_goto (pc := 2533) (tgt := 23) hM dL_law_2533 (by decide) ?_
      refine aw_weak (L' := [some (.ref 181), some (.ref 0), some (.ref 164), some (.ref 180), some (.int y500), none, none]) ?_ (lw_of [true, true, true, true, true, false, false] rfl)
      exact hk23 z495.2 G489 y500 _ _ (by omega) (by omega) h
    · rw [if_pos c499] at h
      refine aw_aload_n (pc := 1167) (i := 3) (x := 180) hM dL_law_1167 rfl rfl ?_
      refine aw_iconst (pc := 1168) (v := 0) hM dL_law_1168 (by decide) ?_
      refine aw_lald (pc := 1169) hM sk_180 (by decide) dL_law_1169 ?_
      refine aw_iload (pc := 1170) (i := 6) (x := z495.1) hM dL_law_1170  rfl ?_
      refine aw_i2l (pc := 1172) hM dL_law_1172 ?_
      refine aw_lcmp (pc := 1173) hM dL_law_1173 ?_
      refine aw_if_eq (pc := 1174) (tgt := 1179) hM dL_law_1174 (by decide) (fun c502 => ?_) (fun c502 => ?_)
      · rw [if_pos c502] at h
        refine aw_goto (pc := 1179) (tgt := 2530) hM dL_law_1179 (by decide) ?_
        obtain ⟨y503, e504, h⟩ := bind_some h
        have e504 := Option.some.inj e504
        refine aw_iinc (pc := 2530) (v := y503) (L' := [some (.ref 181), some (.ref 0), some (.ref 164), some (.ref 180), some (.int y503), some (.int k486), some (.int z495.1)]) hM dL_law_2530 rfl e504 (by decide) rfl ?_
        refine aw_goto (pc := 2533) (tgt := 23) hM dL_law_2533 (by decide) ?_
        refine aw_weak (L' := [some (.ref 181), some (.ref 0), some (.ref 164), some (.ref 180), some (.int y503), none, none]) ?_ (lw_of [true, true, true, true, true, false, false] rfl)
        exact hk23 z495.2 G489 y503 _ _ (by omega) (by omega) h
      · rw [if_neg c502] at h
        refine aw_iconst (pc := 1177) (v := 0) hM dL_law_1177 (by decide) ?_
        exact absurd h (by decide)
  · rw [if_neg c498] at h
    refine aw_iconst (pc := 1160) (v := 0) hM dL_law_1160 (by decide) ?_
    exact absurd h (by decide)
set_option maxRecDepth 20000 in
set_option maxHeartbeats 4000000 in
theorem k_L_law_b1182 {C : CX} {M : MX} {Len : Nat} {xs : Nat → Int32} {k23 : MM → GG → Int32 → Option Int32} {n c0 s0 : Nat} (hM : MOk C RL cL_law 7 ret room_1 M) (hX : LawX C M Len xs) (hk23 : ∀ (wF : MM) (wG : GG) (w0 : Int32) (c1 s1 : Nat), c1 + 60 * n ≤ 601024 → s1 + 600 * n ≤ 7293034 → k23 wF wG w0 = some 1 → AW C 7 (ZL M) M c1 s1 23 [some (.ref 181), some (.ref 0), some (.ref 164), some (.ref 180), some (.int w0), none, none] [] wF wG) (hc0 : c0 + 60 * n + 50 ≤ 601024) (hs0 : s0 + 600 * n + 500 ≤ 7293034) (F : MM) (G : GG) (x4 : Int32) (h : s_L_law_b1182 Len xs k23 F G x4 = some 1) : AW C 7 (ZL M) M (c0 + 0) (s0 + 0) 1182 [some (.ref 181), some (.ref 0), some (.ref 164), some (.ref 180), some (.int x4), none, none] [] F G := by
  rw [s_L_law_b1182] at h
  refine aw_aload_n (pc := 1182) (i := 1) (x := 0) hM dL_law_1182 rfl rfl ?_
  refine aw_aload_n (pc := 1183) (i := 0) (x := 181) hM dL_law_1183 rfl rfl ?_
  refine aw_iload (pc := 1184) (i := 4) (x := x4) hM dL_law_1184  rfl ?_
  refine aw_iconst (pc := 1186) (v := 1) hM dL_law_1186 (by decide) ?_
  refine aw_iadd (pc := 1187) hM dL_law_1187 ?_
  obtain ⟨c461, h⟩ := ite_some h
  refine aw_sld (pc := 1188) hM hX c461 dL_law_1188 ?_
  refine aw_aload_n (pc := 1189) (i := 0) (x := 181) hM dL_law_1189 rfl rfl ?_
  refine aw_iload (pc := 1190) (i := 4) (x := x4) hM dL_law_1190  rfl ?_
  refine aw_iconst (pc := 1192) (v := 2) hM dL_law_1192 (by decide) ?_
  refine aw_iadd (pc := 1193) hM dL_law_1193 ?_
  obtain ⟨c462, h⟩ := ite_some h
  refine aw_sld (pc := 1194) hM hX c462 dL_law_1194 ?_
  refine aw_aload_n (pc := 1195) (i := 3) (x := 180) hM dL_law_1195 rfl rfl ?_
  obtain ⟨z463, h465, h⟩ := bind_some h
  obtain ⟨k464, h466, h⟩ := bind_some h
  refine aw_csW (pc := 1196) (n := 4) (As := [.ref 0, .int (xs (ix (x4 + 1))), .int (xs (ix (x4 + 2))), .ref 180]) (st := []) (vo := some (.int k464)) (c2 := (c0 + 2)) (s2 := (s0 + 12)) hM (k_L_setFaults h465 h466) cw_L_189 (by decide +kernel) rfl rfl ⟨(Nat.le_of_ble_eq_true rfl), (Nat.le_of_ble_eq_true rfl)⟩ (Nat.le_of_ble_eq_true rfl) ⟨by show (c0 + 0) + 2 ≤ 601024; omega, by show (s0 + 0) + 12 ≤ 7293034; omega⟩ dL_law_1196 rfl rfl ?_
  obtain ⟨G467, e468, h⟩ := bind_some h
  have e468 := Option.some.inj e468
  refine aw_memG e468 ?_
  refine aw_istore (pc := 1199) (i := 5) (L' := [some (.ref 181), some (.ref 0), some (.ref 164), some (.ref 180), some (.int x4), some (.int k464), none]) hM dL_law_1199  (by decide) rfl ?_
  refine aw_aload_n (pc := 1201) (i := 2) (x := 164) hM dL_law_1201 rfl rfl ?_
  refine aw_aload_n (pc := 1202) (i := 0) (x := 181) hM dL_law_1202 rfl rfl ?_
  refine aw_iload (pc := 1203) (i := 4) (x := x4) hM dL_law_1203  rfl ?_
  refine aw_iconst (pc := 1205) (v := 1) hM dL_law_1205 (by decide) ?_
  refine aw_iadd (pc := 1206) hM dL_law_1206 ?_
  obtain ⟨c469, h⟩ := ite_some h
  refine aw_sld (pc := 1207) hM hX c469 dL_law_1207 ?_
  refine aw_aload_n (pc := 1208) (i := 0) (x := 181) hM dL_law_1208 rfl rfl ?_
  refine aw_iload (pc := 1209) (i := 4) (x := x4) hM dL_law_1209  rfl ?_
  refine aw_iconst (pc := 1211) (v := 2) hM dL_law_1211 (by decide) ?_
  refine aw_iadd (pc := 1212) hM dL_law_1212 ?_
  obtain ⟨c470, h⟩ := ite_some h
  refine aw_sld (pc := 1213) hM hX c470 dL_law_1213 ?_
  obtain ⟨z473, h471, h⟩ := bind_some h
  refine aw_cv1 (pc := 1214) (n := 2) (As := [.int (xs (ix (x4 + 1))), .int (xs (ix (x4 + 2)))]) (st := []) (b := 164) (vo := (some (.int z473.1))) (c2 := (c0 + 2)) (s2 := (s0 + 12)) hM (k_X9_setFaults h471) rfl cw_L_191 sk_164 rfl rfl (by decide +kernel) rfl rfl ⟨(Nat.le_of_ble_eq_true rfl), (Nat.le_of_ble_eq_true rfl)⟩ (Nat.le_of_ble_eq_true rfl) ⟨by show (c0 + 2) + 0 ≤ 601024; omega, by show (s0 + 12) + 0 ≤ 7293034; omega⟩ dL_law_1214 rfl rfl ?_
  refine aw_istore (pc := 1217) (i := 6) (L' := [some (.ref 181), some (.ref 0), some (.ref 164), some (.ref 180), some (.int x4), some (.int k464), some (.int z473.1)]) hM dL_law_1217  (by decide) rfl ?_
  refine aw_aload_n (pc := 1219) (i := 2) (x := 164) hM dL_law_1219 rfl rfl ?_
  obtain ⟨r475, h474, h⟩ := bind_some h
  refine aw_cv1 (pc := 1220) (n := 0) (As := []) (st := []) (b := 164) (vo := (some (.int r475))) (c2 := (c0 + 2)) (s2 := (s0 + 12)) hM (k_X9_thrown h474) rfl cw_L_135 sk_164 rfl rfl (by decide +kernel) rfl rfl ⟨(Nat.le_of_ble_eq_true rfl), (Nat.le_of_ble_eq_true rfl)⟩ (Nat.le_of_ble_eq_true rfl) ⟨by show (c0 + 2) + 0 ≤ 601024; omega, by show (s0 + 12) + 0 ≤ 7293034; omega⟩ dL_law_1220 rfl rfl ?_
  refine aw_iload (pc := 1223) (i := 5) (x := k464) hM dL_law_1223  rfl ?_
  refine aw_icmp_eq (pc := 1225) (tgt := 1230) hM dL_law_1225 (by decide) (fun c476 => ?_) (fun c476 => ?_)
  · rw [if_pos c476] at h
    refine aw_iload (pc := 1230) (i := 5) (x := k464) hM dL_law_1230  rfl ?_
    refine aw_if_ne (pc := 1232) (tgt := 1247) hM dL_law_1232 (by decide) (fun c477 => ?_) (fun c477 => ?_)
    · rw [if_neg c477] at h
      refine aw_goto (pc := 1247) (tgt := 2530) hM dL_law_1247 (by decide) ?_
      obtain ⟨y478, e479, h⟩ := bind_some h
      have e479 := Option.some.inj e479
      refine aw_iinc (pc := 2530) (v := y478) (L' := [some (.ref 181), some (.ref 0), some (.ref 164), some (.ref 180), some (.int y478), some (.int k464), some (.int z473.1)]) hM dL_law_2530 rfl e479 (by decide) rfl ?_
      refine aw_goto (pc := 2533) (tgt := 23) hM dL_law_2533 (by decide) ?_
      refine aw_weak (L' := [some (.ref 181), some (.ref 0), some (.ref 164), some (.ref 180), some (.int y478), none, none]) ?_ (lw_of [true, true, true, true, true, false, false] rfl)
      exact hk23 z473.2 G467 y478 _ _ (by omega) (by omega) h
    · rw [if_pos c477] at h
      refine aw_aload_n (pc := 1235) (i := 3) (x := 180) hM dL_law_1235 rfl rfl ?_
      refine aw_iconst (pc := 1236) (v := 0) hM dL_law_1236 (by decide) ?_
      refine aw_lald (pc := 1237) hM sk_180 (by decide) dL_law_1237 ?_
      refine aw_iload (pc := 1238) (i := 6) (x := z473.1) hM dL_law_1238  rfl ?_
      refine aw_i2l (pc := 1240) hM dL_law_1240 ?_
      refine aw_lcmp (pc := 1241) hM dL_law_1241 ?_
      refine aw_if_eq (pc := 1242) (tgt := 1247) hM dL_law_1242 (by decide) (fun c480 => ?_) (fun c480 => ?_)
      · rw [if_pos c480] at h
        refine aw_goto (pc := 1247) (tgt := 2530) hM dL_law_1247 (by decide) ?_
        obtain ⟨y481, e482, h⟩ := bind_some h
        have e482 := Option.some.inj e482
        refine aw_iinc (pc := 2530) (v := y481) (L' := [some (.ref 181), some (.ref 0), some (.ref 164), some (.ref 180), some (.int y481), some (.int k464), some (.int z473.1)]) hM dL_law_2530 rfl e482 (by decide) rfl ?_
        refine aw_goto (pc := 2533) (tgt := 23) hM dL_law_2533 (by decide) ?_
        refine aw_weak (L' := [some (.ref 181), some (.ref 0), some (.ref 164), some (.ref 180), some (.int y481), none, none]) ?_ (lw_of [true, true, true, true, true, false, false] rfl)
        exact hk23 z473.2 G467 y481 _ _ (by omega) (by omega) h
      · rw [if_neg c480] at h
        refine aw_iconst (pc := 1245) (v := 0) hM dL_law_1245 (by decide) ?_
        exact absurd h (by decide)
  · rw [if_neg c476] at h
    refine aw_iconst (pc := 1228) (v := 0) hM dL_law_1228 (by decide) ?_
    exact absurd h (by decide)
set_option maxRecDepth 20000 in
set_option maxHeartbeats 4000000 in
theorem k_L_law_b1250 {C : CX} {M : MX} {Len : Nat} {xs : Nat → Int32} {k23 : MM → GG → Int32 → Option Int32} {n c0 s0 : Nat} (hM : MOk C RL cL_law 7 ret room_1 M) (hX : LawX C M Len xs) (hk23 : ∀ (wF : MM) (wG : GG) (w0 : Int32) (c1 s1 : Nat), c1 + 60 * n ≤ 601024 → s1 + 600 * n ≤ 7293034 → k23 wF wG w0 = some 1 → AW C 7 (ZL M) M c1 s1 23 [some (.ref 181), some (.ref 0), some (.ref 164), some (.ref 180), some (.int w0), none, none] [] wF wG) (hc0 : c0 + 60 * n + 50 ≤ 601024) (hs0 : s0 + 600 * n + 500 ≤ 7293034) (F : MM) (G : GG) (x4 : Int32) (h : s_L_law_b1250 Len xs k23 F G x4 = some 1) : AW C 7 (ZL M) M (c0 + 0) (s0 + 0) 1250 [some (.ref 181), some (.ref 0), some (.ref 164), some (.ref 180), some (.int x4), none, none] [] F G := by
  rw [s_L_law_b1250] at h
  refine aw_aload_n (pc := 1250) (i := 1) (x := 0) hM dL_law_1250 rfl rfl ?_
  refine aw_aload_n (pc := 1251) (i := 0) (x := 181) hM dL_law_1251 rfl rfl ?_
  refine aw_iload (pc := 1252) (i := 4) (x := x4) hM dL_law_1252  rfl ?_
  refine aw_iconst (pc := 1254) (v := 1) hM dL_law_1254 (by decide) ?_
  refine aw_iadd (pc := 1255) hM dL_law_1255 ?_
  obtain ⟨c441, h⟩ := ite_some h
  refine aw_sld (pc := 1256) hM hX c441 dL_law_1256 ?_
  refine aw_aload_n (pc := 1257) (i := 3) (x := 180) hM dL_law_1257 rfl rfl ?_
  obtain ⟨z442, h444, h⟩ := bind_some h
  obtain ⟨k443, h445, h⟩ := bind_some h
  refine aw_csW (pc := 1258) (n := 3) (As := [.ref 0, .int (xs (ix (x4 + 1))), .ref 180]) (st := []) (vo := some (.int k443)) (c2 := (c0 + 2)) (s2 := (s0 + 12)) hM (k_L_pardon h444 h445) cw_L_192 (by decide +kernel) rfl rfl ⟨(Nat.le_of_ble_eq_true rfl), (Nat.le_of_ble_eq_true rfl)⟩ (Nat.le_of_ble_eq_true rfl) ⟨by show (c0 + 0) + 2 ≤ 601024; omega, by show (s0 + 0) + 12 ≤ 7293034; omega⟩ dL_law_1258 rfl rfl ?_
  obtain ⟨G446, e447, h⟩ := bind_some h
  have e447 := Option.some.inj e447
  refine aw_memG e447 ?_
  refine aw_istore (pc := 1261) (i := 5) (L' := [some (.ref 181), some (.ref 0), some (.ref 164), some (.ref 180), some (.int x4), some (.int k443), none]) hM dL_law_1261  (by decide) rfl ?_
  refine aw_aload_n (pc := 1263) (i := 2) (x := 164) hM dL_law_1263 rfl rfl ?_
  refine aw_aload_n (pc := 1264) (i := 0) (x := 181) hM dL_law_1264 rfl rfl ?_
  refine aw_iload (pc := 1265) (i := 4) (x := x4) hM dL_law_1265  rfl ?_
  refine aw_iconst (pc := 1267) (v := 1) hM dL_law_1267 (by decide) ?_
  refine aw_iadd (pc := 1268) hM dL_law_1268 ?_
  obtain ⟨c448, h⟩ := ite_some h
  refine aw_sld (pc := 1269) hM hX c448 dL_law_1269 ?_
  obtain ⟨z451, h449, h⟩ := bind_some h
  refine aw_cv1 (pc := 1270) (n := 1) (As := [.int (xs (ix (x4 + 1)))]) (st := []) (b := 164) (vo := (some (.int z451.1))) (c2 := (c0 + 2)) (s2 := (s0 + 12)) hM (k_X9_pardon h449) rfl cw_L_194 sk_164 rfl rfl (by decide +kernel) rfl rfl ⟨(Nat.le_of_ble_eq_true rfl), (Nat.le_of_ble_eq_true rfl)⟩ (Nat.le_of_ble_eq_true rfl) ⟨by show (c0 + 2) + 0 ≤ 601024; omega, by show (s0 + 12) + 0 ≤ 7293034; omega⟩ dL_law_1270 rfl rfl ?_
  refine aw_istore (pc := 1273) (i := 6) (L' := [some (.ref 181), some (.ref 0), some (.ref 164), some (.ref 180), some (.int x4), some (.int k443), some (.int z451.1)]) hM dL_law_1273  (by decide) rfl ?_
  refine aw_aload_n (pc := 1275) (i := 2) (x := 164) hM dL_law_1275 rfl rfl ?_
  obtain ⟨r453, h452, h⟩ := bind_some h
  refine aw_cv1 (pc := 1276) (n := 0) (As := []) (st := []) (b := 164) (vo := (some (.int r453))) (c2 := (c0 + 2)) (s2 := (s0 + 12)) hM (k_X9_thrown h452) rfl cw_L_135 sk_164 rfl rfl (by decide +kernel) rfl rfl ⟨(Nat.le_of_ble_eq_true rfl), (Nat.le_of_ble_eq_true rfl)⟩ (Nat.le_of_ble_eq_true rfl) ⟨by show (c0 + 2) + 0 ≤ 601024; omega, by show (s0 + 12) + 0 ≤ 7293034; omega⟩ dL_law_1276 rfl rfl ?_
  refine aw_iload (pc := 1279) (i := 5) (x := k443) hM dL_law_1279  rfl ?_
  refine aw_icmp_eq (pc := 1281) (tgt := 1286) hM dL_law_1281 (by decide) (fun c454 => ?_) (fun c454 => ?_)
  · rw [if_pos c454] at h
    refine aw_iload (pc := 1286) (i := 5) (x := k443) hM dL_law_1286  rfl ?_
    refine aw_if_ne (pc := 1288) (tgt := 1303) hM dL_law_1288 (by decide) (fun c455 => ?_) (fun c455 => ?_)
    · rw [if_neg c455] at h
      refine aw_goto (pc := 1303) (tgt := 2530) hM dL_law_1303 (by decide) ?_
      obtain ⟨y456, e457, h⟩ := bind_some h
      have e457 := Option.some.inj e457
      refine aw_iinc (pc := 2530) (v := y456) (L' := [some (.ref 181), some (.ref 0), some (.ref 164), some (.ref 180), some (.int y456), some (.int k443), some (.int z451.1)]) hM dL_law_2530 rfl e457 (by decide) rfl ?_
      refine aw_goto (pc := 2533) (tgt := 23) hM dL_law_2533 (by decide) ?_
      refine aw_weak (L' := [some (.ref 181), some (.ref 0), some (.ref 164), some (.ref 180), some (.int y456), none, none]) ?_ (lw_of [true, true, true, true, true, false, false] rfl)
      exact hk23 z451.2 G446 y456 _ _ (by omega) (by omega) h
    · rw [if_pos c455] at h
      refine aw_aload_n (pc := 1291) (i := 3) (x := 180) hM dL_law_1291 rfl rfl ?_
      refine aw_iconst (pc := 1292) (v := 0) hM dL_law_1292 (by decide) ?_
      refine aw_lald (pc := 1293) hM sk_180 (by decide) dL_law_1293 ?_
      refine aw_iload (pc := 1294) (i := 6) (x := z451.1) hM dL_law_1294  rfl ?_
      refine aw_i2l (pc := 1296) hM dL_law_1296 ?_
      refine aw_lcmp (pc := 1297) hM dL_law_1297 ?_
      refine aw_if_eq (pc := 1298) (tgt := 1303) hM dL_law_1298 (by decide) (fun c458 => ?_) (fun c458 => ?_)
      · rw [if_pos c458] at h
        refine aw_goto (pc := 1303) (tgt := 2530) hM dL_law_1303 (by decide) ?_
        obtain ⟨y459, e460, h⟩ := bind_some h
        have e460 := Option.some.inj e460
        refine aw_iinc (pc := 2530) (v := y459) (L' := [some (.ref 181), some (.ref 0), some (.ref 164), some (.ref 180), some (.int y459), some (.int k443), some (.int z451.1)]) hM dL_law_2530 rfl e460 (by decide) rfl ?_
        refine aw_goto (pc := 2533) (tgt := 23) hM dL_law_2533 (by decide) ?_
        refine aw_weak (L' := [some (.ref 181), some (.ref 0), some (.ref 164), some (.ref 180), some (.int y459), none, none]) ?_ (lw_of [true, true, true, true, true, false, false] rfl)
        exact hk23 z451.2 G446 y459 _ _ (by omega) (by omega) h
      · rw [if_neg c458] at h
        refine aw_iconst (pc := 1301) (v := 0) hM dL_law_1301 (by decide) ?_
        exact absurd h (by decide)
  · rw [if_neg c454] at h
    refine aw_iconst (pc := 1284) (v := 0) hM dL_law_1284 (by decide) ?_
    exact absurd h (by decide)
set_option maxRecDepth 20000 in
set_option maxHeartbeats 4000000 in
theorem k_L_law_b1306 {C : CX} {M : MX} {Len : Nat} {xs : Nat → Int32} {k23 : MM → GG → Int32 → Option Int32} {n c0 s0 : Nat} (hM : MOk C RL cL_law 7 ret room_1 M) (hX : LawX C M Len xs) (hk23 : ∀ (wF : MM) (wG : GG) (w0 : Int32) (c1 s1 : Nat), c1 + 60 * n ≤ 601024 → s1 + 600 * n ≤ 7293034 → k23 wF wG w0 = some 1 → AW C 7 (ZL M) M c1 s1 23 [some (.ref 181), some (.ref 0), some (.ref 164), some (.ref 180), some (.int w0), none, none] [] wF wG) (hc0 : c0 + 60 * n + 50 ≤ 601024) (hs0 : s0 + 600 * n + 500 ≤ 7293034) (F : MM) (G : GG) (x4 : Int32) (h : s_L_law_b1306 Len xs k23 F G x4 = some 1) : AW C 7 (ZL M) M (c0 + 0) (s0 + 0) 1306 [some (.ref 181), some (.ref 0), some (.ref 164), some (.ref 180), some (.int x4), none, none] [] F G := by
  rw [s_L_law_b1306] at h
  refine aw_aload_n (pc := 1306) (i := 1) (x := 0) hM dL_law_1306 rfl rfl ?_
  refine aw_aload_n (pc := 1307) (i := 0) (x := 181) hM dL_law_1307 rfl rfl ?_
  refine aw_iload (pc := 1308) (i := 4) (x := x4) hM dL_law_1308  rfl ?_
  refine aw_iconst (pc := 1310) (v := 1) hM dL_law_1310 (by decide) ?_
  refine aw_iadd (pc := 1311) hM dL_law_1311 ?_
  obtain ⟨c421, h⟩ := ite_some h
  refine aw_sld (pc := 1312) hM hX c421 dL_law_1312 ?_
  refine aw_aload_n (pc := 1313) (i := 3) (x := 180) hM dL_law_1313 rfl rfl ?_
  obtain ⟨z422, h424, h⟩ := bind_some h
  obtain ⟨k423, h425, h⟩ := bind_some h
  refine aw_csW (pc := 1314) (n := 3) (As := [.ref 0, .int (xs (ix (x4 + 1))), .ref 180]) (st := []) (vo := some (.int k423)) (c2 := (c0 + 1)) (s2 := (s0 + 6)) hM (k_L_tick h424 h425) cw_L_195 (by decide +kernel) rfl rfl ⟨(Nat.le_of_ble_eq_true rfl), (Nat.le_of_ble_eq_true rfl)⟩ (Nat.le_of_ble_eq_true rfl) ⟨by show (c0 + 0) + 1 ≤ 601024; omega, by show (s0 + 0) + 6 ≤ 7293034; omega⟩ dL_law_1314 rfl rfl ?_
  obtain ⟨G426, e427, h⟩ := bind_some h
  have e427 := Option.some.inj e427
  refine aw_memG e427 ?_
  refine aw_istore (pc := 1317) (i := 5) (L' := [some (.ref 181), some (.ref 0), some (.ref 164), some (.ref 180), some (.int x4), some (.int k423), none]) hM dL_law_1317  (by decide) rfl ?_
  refine aw_aload_n (pc := 1319) (i := 2) (x := 164) hM dL_law_1319 rfl rfl ?_
  refine aw_aload_n (pc := 1320) (i := 0) (x := 181) hM dL_law_1320 rfl rfl ?_
  refine aw_iload (pc := 1321) (i := 4) (x := x4) hM dL_law_1321  rfl ?_
  refine aw_iconst (pc := 1323) (v := 1) hM dL_law_1323 (by decide) ?_
  refine aw_iadd (pc := 1324) hM dL_law_1324 ?_
  obtain ⟨c428, h⟩ := ite_some h
  refine aw_sld (pc := 1325) hM hX c428 dL_law_1325 ?_
  obtain ⟨z431, h429, h⟩ := bind_some h
  refine aw_cv1 (pc := 1326) (n := 1) (As := [.int (xs (ix (x4 + 1)))]) (st := []) (b := 164) (vo := (some (.int z431.1))) (c2 := (c0 + 1)) (s2 := (s0 + 6)) hM (k_X9_tick h429) rfl cw_L_197 sk_164 rfl rfl (by decide +kernel) rfl rfl ⟨(Nat.le_of_ble_eq_true rfl), (Nat.le_of_ble_eq_true rfl)⟩ (Nat.le_of_ble_eq_true rfl) ⟨by show (c0 + 1) + 0 ≤ 601024; omega, by show (s0 + 6) + 0 ≤ 7293034; omega⟩ dL_law_1326 rfl rfl ?_
  refine aw_istore (pc := 1329) (i := 6) (L' := [some (.ref 181), some (.ref 0), some (.ref 164), some (.ref 180), some (.int x4), some (.int k423), some (.int z431.1)]) hM dL_law_1329  (by decide) rfl ?_
  refine aw_aload_n (pc := 1331) (i := 2) (x := 164) hM dL_law_1331 rfl rfl ?_
  obtain ⟨r433, h432, h⟩ := bind_some h
  refine aw_cv1 (pc := 1332) (n := 0) (As := []) (st := []) (b := 164) (vo := (some (.int r433))) (c2 := (c0 + 1)) (s2 := (s0 + 6)) hM (k_X9_thrown h432) rfl cw_L_135 sk_164 rfl rfl (by decide +kernel) rfl rfl ⟨(Nat.le_of_ble_eq_true rfl), (Nat.le_of_ble_eq_true rfl)⟩ (Nat.le_of_ble_eq_true rfl) ⟨by show (c0 + 1) + 0 ≤ 601024; omega, by show (s0 + 6) + 0 ≤ 7293034; omega⟩ dL_law_1332 rfl rfl ?_
  refine aw_iload (pc := 1335) (i := 5) (x := k423) hM dL_law_1335  rfl ?_
  refine aw_icmp_eq (pc := 1337) (tgt := 1342) hM dL_law_1337 (by decide) (fun c434 => ?_) (fun c434 => ?_)
  · rw [if_pos c434] at h
    refine aw_iload (pc := 1342) (i := 5) (x := k423) hM dL_law_1342  rfl ?_
    refine aw_if_ne (pc := 1344) (tgt := 1359) hM dL_law_1344 (by decide) (fun c435 => ?_) (fun c435 => ?_)
    · rw [if_neg c435] at h
      refine aw_goto (pc := 1359) (tgt := 2530) hM dL_law_1359 (by decide) ?_
      obtain ⟨y436, e437, h⟩ := bind_some h
      have e437 := Option.some.inj e437
      refine aw_iinc (pc := 2530) (v := y436) (L' := [some (.ref 181), some (.ref 0), some (.ref 164), some (.ref 180), some (.int y436), some (.int k423), some (.int z431.1)]) hM dL_law_2530 rfl e437 (by decide) rfl ?_
      refine aw_goto (pc := 2533) (tgt := 23) hM dL_law_2533 (by decide) ?_
      refine aw_weak (L' := [some (.ref 181), some (.ref 0), some (.ref 164), some (.ref 180), some (.int y436), none, none]) ?_ (lw_of [true, true, true, true, true, false, false] rfl)
      exact hk23 z431.2 G426 y436 _ _ (by omega) (by omega) h
    · rw [if_pos c435] at h
      refine aw_aload_n (pc := 1347) (i := 3) (x := 180) hM dL_law_1347 rfl rfl ?_
      refine aw_iconst (pc := 1348) (v := 0) hM dL_law_1348 (by decide) ?_
      refine aw_lald (pc := 1349) hM sk_180 (by decide) dL_law_1349 ?_
      refine aw_iload (pc := 1350) (i := 6) (x := z431.1) hM dL_law_1350  rfl ?_
      refine aw_i2l (pc := 1352) hM dL_law_1352 ?_
      refine aw_lcmp (pc := 1353) hM dL_law_1353 ?_
      refine aw_if_eq (pc := 1354) (tgt := 1359) hM dL_law_1354 (by decide) (fun c438 => ?_) (fun c438 => ?_)
      · rw [if_pos c438] at h
        refine aw_goto (pc := 1359) (tgt := 2530) hM dL_law_1359 (by decide) ?_
        obtain ⟨y439, e440, h⟩ := bind_some h
        have e440 := Option.some.inj e440
        refine aw_iinc (pc := 2530) (v := y439) (L' := [some (.ref 181), some (.ref 0), some (.ref 164), some (.ref 180), some (.int y439), some (.int k423), some (.int z431.1)]) hM dL_law_2530 rfl e440 (by decide) rfl ?_
        refine aw_goto (pc := 2533) (tgt := 23) hM dL_law_2533 (by decide) ?_
        refine aw_weak (L' := [some (.ref 181), some (.ref 0), some (.ref 164), some (.ref 180), some (.int y439), none, none]) ?_ (lw_of [true, true, true, true, true, false, false] rfl)
        exact hk23 z431.2 G426 y439 _ _ (by omega) (by omega) h
      · rw [if_neg c438] at h
        refine aw_iconst (pc := 1357) (v := 0) hM dL_law_1357 (by decide) ?_
        exact absurd h (by decide)
  · rw [if_neg c434] at h
    refine aw_iconst (pc := 1340) (v := 0) hM dL_law_1340 (by decide) ?_
    exact absurd h (by decide)
set_option maxRecDepth 20000 in
set_option maxHeartbeats 4000000 in
theorem k_L_law_b1362 {C : CX} {M : MX} {Len : Nat} {xs : Nat → Int32} {k23 : MM → GG → Int32 → Option Int32} {n c0 s0 : Nat} (hM : MOk C RL cL_law 7 ret room_1 M) (hX : LawX C M Len xs) (hk23 : ∀ (wF : MM) (wG : GG) (w0 : Int32) (c1 s1 : Nat), c1 + 60 * n ≤ 601024 → s1 + 600 * n ≤ 7293034 → k23 wF wG w0 = some 1 → AW C 7 (ZL M) M c1 s1 23 [some (.ref 181), some (.ref 0), some (.ref 164), some (.ref 180), some (.int w0), none, none] [] wF wG) (hc0 : c0 + 60 * n + 50 ≤ 601024) (hs0 : s0 + 600 * n + 500 ≤ 7293034) (F : MM) (G : GG) (x4 : Int32) (h : s_L_law_b1362 Len xs k23 F G x4 = some 1) : AW C 7 (ZL M) M (c0 + 0) (s0 + 0) 1362 [some (.ref 181), some (.ref 0), some (.ref 164), some (.ref 180), some (.int x4), none, none] [] F G := by
  rw [s_L_law_b1362] at h
  refine aw_aload_n (pc := 1362) (i := 1) (x := 0) hM dL_law_1362 rfl rfl ?_
  refine aw_aload_n (pc := 1363) (i := 3) (x := 180) hM dL_law_1363 rfl rfl ?_
  obtain ⟨z403, h405, h⟩ := bind_some h
  obtain ⟨k404, h406, h⟩ := bind_some h
  refine aw_csW (pc := 1364) (n := 2) (As := [.ref 0, .ref 180]) (st := []) (vo := some (.int k404)) (c2 := (c0 + 1)) (s2 := (s0 + 6)) hM (k_L_undo h405 h406) cw_L_198 (by decide +kernel) rfl rfl ⟨(Nat.le_of_ble_eq_true rfl), (Nat.le_of_ble_eq_true rfl)⟩ (Nat.le_of_ble_eq_true rfl) ⟨by show (c0 + 0) + 1 ≤ 601024; omega, by show (s0 + 0) + 6 ≤ 7293034; omega⟩ dL_law_1364 rfl rfl ?_
  obtain ⟨G407, e408, h⟩ := bind_some h
  have e408 := Option.some.inj e408
  refine aw_memG e408 ?_
  refine aw_istore (pc := 1367) (i := 5) (L' := [some (.ref 181), some (.ref 0), some (.ref 164), some (.ref 180), some (.int x4), some (.int k404), none]) hM dL_law_1367  (by decide) rfl ?_
  refine aw_aload_n (pc := 1369) (i := 2) (x := 164) hM dL_law_1369 rfl rfl ?_
  obtain ⟨z411, h409, h⟩ := bind_some h
  refine aw_cv1 (pc := 1370) (n := 0) (As := []) (st := []) (b := 164) (vo := (some (.int z411.1))) (c2 := (c0 + 1)) (s2 := (s0 + 6)) hM (k_X9_undo h409) rfl cw_L_200 sk_164 rfl rfl (by decide +kernel) rfl rfl ⟨(Nat.le_of_ble_eq_true rfl), (Nat.le_of_ble_eq_true rfl)⟩ (Nat.le_of_ble_eq_true rfl) ⟨by show (c0 + 1) + 0 ≤ 601024; omega, by show (s0 + 6) + 0 ≤ 7293034; omega⟩ dL_law_1370 rfl rfl ?_
  refine aw_istore (pc := 1373) (i := 6) (L' := [some (.ref 181), some (.ref 0), some (.ref 164), some (.ref 180), some (.int x4), some (.int k404), some (.int z411.1)]) hM dL_law_1373  (by decide) rfl ?_
  refine aw_aload_n (pc := 1375) (i := 2) (x := 164) hM dL_law_1375 rfl rfl ?_
  obtain ⟨r413, h412, h⟩ := bind_some h
  refine aw_cv1 (pc := 1376) (n := 0) (As := []) (st := []) (b := 164) (vo := (some (.int r413))) (c2 := (c0 + 1)) (s2 := (s0 + 6)) hM (k_X9_thrown h412) rfl cw_L_135 sk_164 rfl rfl (by decide +kernel) rfl rfl ⟨(Nat.le_of_ble_eq_true rfl), (Nat.le_of_ble_eq_true rfl)⟩ (Nat.le_of_ble_eq_true rfl) ⟨by show (c0 + 1) + 0 ≤ 601024; omega, by show (s0 + 6) + 0 ≤ 7293034; omega⟩ dL_law_1376 rfl rfl ?_
  refine aw_iload (pc := 1379) (i := 5) (x := k404) hM dL_law_1379  rfl ?_
  refine aw_icmp_eq (pc := 1381) (tgt := 1386) hM dL_law_1381 (by decide) (fun c414 => ?_) (fun c414 => ?_)
  · rw [if_pos c414] at h
    refine aw_iload (pc := 1386) (i := 5) (x := k404) hM dL_law_1386  rfl ?_
    refine aw_if_ne (pc := 1388) (tgt := 1403) hM dL_law_1388 (by decide) (fun c415 => ?_) (fun c415 => ?_)
    · rw [if_neg c415] at h
      refine aw_goto (pc := 1403) (tgt := 2530) hM dL_law_1403 (by decide) ?_
      obtain ⟨y416, e417, h⟩ := bind_some h
      have e417 := Option.some.inj e417
      refine aw_iinc (pc := 2530) (v := y416) (L' := [some (.ref 181), some (.ref 0), some (.ref 164), some (.ref 180), some (.int y416), some (.int k404), some (.int z411.1)]) hM dL_law_2530 rfl e417 (by decide) rfl ?_
      refine aw_goto (pc := 2533) (tgt := 23) hM dL_law_2533 (by decide) ?_
      refine aw_weak (L' := [some (.ref 181), some (.ref 0), some (.ref 164), some (.ref 180), some (.int y416), none, none]) ?_ (lw_of [true, true, true, true, true, false, false] rfl)
      exact hk23 z411.2 G407 y416 _ _ (by omega) (by omega) h
    · rw [if_pos c415] at h
      refine aw_aload_n (pc := 1391) (i := 3) (x := 180) hM dL_law_1391 rfl rfl ?_
      refine aw_iconst (pc := 1392) (v := 0) hM dL_law_1392 (by decide) ?_
      refine aw_lald (pc := 1393) hM sk_180 (by decide) dL_law_1393 ?_
      refine aw_iload (pc := 1394) (i := 6) (x := z411.1) hM dL_law_1394  rfl ?_
      refine aw_i2l (pc := 1396) hM dL_law_1396 ?_
      refine aw_lcmp (pc := 1397) hM dL_law_1397 ?_
      refine aw_if_eq (pc := 1398) (tgt := 1403) hM dL_law_1398 (by decide) (fun c418 => ?_) (fun c418 => ?_)
      · rw [if_pos c418] at h
        refine aw_goto (pc := 1403) (tgt := 2530) hM dL_law_1403 (by decide) ?_
        obtain ⟨y419, e420, h⟩ := bind_some h
        have e420 := Option.some.inj e420
        refine aw_iinc (pc := 2530) (v := y419) (L' := [some (.ref 181), some (.ref 0), some (.ref 164), some (.ref 180), some (.int y419), some (.int k404), some (.int z411.1)]) hM dL_law_2530 rfl e420 (by decide) rfl ?_
        refine aw_goto (pc := 2533) (tgt := 23) hM dL_law_2533 (by decide) ?_
        refine aw_weak (L' := [some (.ref 181), some (.ref 0), some (.ref 164), some (.ref 180), some (.int y419), none, none]) ?_ (lw_of [true, true, true, true, true, false, false] rfl)
        exact hk23 z411.2 G407 y419 _ _ (by omega) (by omega) h
      · rw [if_neg c418] at h
        refine aw_iconst (pc := 1401) (v := 0) hM dL_law_1401 (by decide) ?_
        exact absurd h (by decide)
  · rw [if_neg c414] at h
    refine aw_iconst (pc := 1384) (v := 0) hM dL_law_1384 (by decide) ?_
    exact absurd h (by decide)
set_option maxRecDepth 20000 in
set_option maxHeartbeats 4000000 in
theorem k_L_law_b1406 {C : CX} {M : MX} {Len : Nat} {xs : Nat → Int32} {k23 : MM → GG → Int32 → Option Int32} {n c0 s0 : Nat} (hM : MOk C RL cL_law 7 ret room_1 M) (hX : LawX C M Len xs) (hk23 : ∀ (wF : MM) (wG : GG) (w0 : Int32) (c1 s1 : Nat), c1 + 60 * n ≤ 601024 → s1 + 600 * n ≤ 7293034 → k23 wF wG w0 = some 1 → AW C 7 (ZL M) M c1 s1 23 [some (.ref 181), some (.ref 0), some (.ref 164), some (.ref 180), some (.int w0), none, none] [] wF wG) (hc0 : c0 + 60 * n + 50 ≤ 601024) (hs0 : s0 + 600 * n + 500 ≤ 7293034) (F : MM) (G : GG) (x4 : Int32) (h : s_L_law_b1406 Len xs k23 F G x4 = some 1) : AW C 7 (ZL M) M (c0 + 0) (s0 + 0) 1406 [some (.ref 181), some (.ref 0), some (.ref 164), some (.ref 180), some (.int x4), none, none] [] F G := by
  rw [s_L_law_b1406] at h
  refine aw_aload_n (pc := 1406) (i := 1) (x := 0) hM dL_law_1406 rfl rfl ?_
  refine aw_aload_n (pc := 1407) (i := 0) (x := 181) hM dL_law_1407 rfl rfl ?_
  refine aw_iload (pc := 1408) (i := 4) (x := x4) hM dL_law_1408  rfl ?_
  refine aw_iconst (pc := 1410) (v := 1) hM dL_law_1410 (by decide) ?_
  refine aw_iadd (pc := 1411) hM dL_law_1411 ?_
  obtain ⟨c381, h⟩ := ite_some h
  refine aw_sld (pc := 1412) hM hX c381 dL_law_1412 ?_
  refine aw_aload_n (pc := 1413) (i := 0) (x := 181) hM dL_law_1413 rfl rfl ?_
  refine aw_iload (pc := 1414) (i := 4) (x := x4) hM dL_law_1414  rfl ?_
  refine aw_iconst (pc := 1416) (v := 2) hM dL_law_1416 (by decide) ?_
  refine aw_iadd (pc := 1417) hM dL_law_1417 ?_
  obtain ⟨c382, h⟩ := ite_some h
  refine aw_sld (pc := 1418) hM hX c382 dL_law_1418 ?_
  refine aw_aload_n (pc := 1419) (i := 3) (x := 180) hM dL_law_1419 rfl rfl ?_
  obtain ⟨z383, h385, h⟩ := bind_some h
  obtain ⟨k384, h386, h⟩ := bind_some h
  refine aw_csW (pc := 1420) (n := 4) (As := [.ref 0, .int (xs (ix (x4 + 1))), .int (xs (ix (x4 + 2))), .ref 180]) (st := []) (vo := some (.int k384)) (c2 := (c0 + 2)) (s2 := (s0 + 12)) hM (k_L_state h385 h386) cw_L_201 (by decide +kernel) rfl rfl ⟨(Nat.le_of_ble_eq_true rfl), (Nat.le_of_ble_eq_true rfl)⟩ (Nat.le_of_ble_eq_true rfl) ⟨by show (c0 + 0) + 2 ≤ 601024; omega, by show (s0 + 0) + 12 ≤ 7293034; omega⟩ dL_law_1420 rfl rfl ?_
  obtain ⟨G387, e388, h⟩ := bind_some h
  have e388 := Option.some.inj e388
  refine aw_memG e388 ?_
  refine aw_istore (pc := 1423) (i := 5) (L' := [some (.ref 181), some (.ref 0), some (.ref 164), some (.ref 180), some (.int x4), some (.int k384), none]) hM dL_law_1423  (by decide) rfl ?_
  refine aw_aload_n (pc := 1425) (i := 2) (x := 164) hM dL_law_1425 rfl rfl ?_
  refine aw_aload_n (pc := 1426) (i := 0) (x := 181) hM dL_law_1426 rfl rfl ?_
  refine aw_iload (pc := 1427) (i := 4) (x := x4) hM dL_law_1427  rfl ?_
  refine aw_iconst (pc := 1429) (v := 1) hM dL_law_1429 (by decide) ?_
  refine aw_iadd (pc := 1430) hM dL_law_1430 ?_
  obtain ⟨c389, h⟩ := ite_some h
  refine aw_sld (pc := 1431) hM hX c389 dL_law_1431 ?_
  refine aw_aload_n (pc := 1432) (i := 0) (x := 181) hM dL_law_1432 rfl rfl ?_
  refine aw_iload (pc := 1433) (i := 4) (x := x4) hM dL_law_1433  rfl ?_
  refine aw_iconst (pc := 1435) (v := 2) hM dL_law_1435 (by decide) ?_
  refine aw_iadd (pc := 1436) hM dL_law_1436 ?_
  obtain ⟨c390, h⟩ := ite_some h
  refine aw_sld (pc := 1437) hM hX c390 dL_law_1437 ?_
  obtain ⟨z393, h391, h⟩ := bind_some h
  refine aw_cv1 (pc := 1438) (n := 2) (As := [.int (xs (ix (x4 + 1))), .int (xs (ix (x4 + 2)))]) (st := []) (b := 164) (vo := (some (.int z393.1))) (c2 := (c0 + 2)) (s2 := (s0 + 12)) hM (k_X9_state h391) rfl cw_L_203 sk_164 rfl rfl (by decide +kernel) rfl rfl ⟨(Nat.le_of_ble_eq_true rfl), (Nat.le_of_ble_eq_true rfl)⟩ (Nat.le_of_ble_eq_true rfl) ⟨by show (c0 + 2) + 0 ≤ 601024; omega, by show (s0 + 12) + 0 ≤ 7293034; omega⟩ dL_law_1438 rfl rfl ?_
  refine aw_istore (pc := 1441) (i := 6) (L' := [some (.ref 181), some (.ref 0), some (.ref 164), some (.ref 180), some (.int x4), some (.int k384), some (.int z393.1)]) hM dL_law_1441  (by decide) rfl ?_
  refine aw_aload_n (pc := 1443) (i := 2) (x := 164) hM dL_law_1443 rfl rfl ?_
  obtain ⟨r395, h394, h⟩ := bind_some h
  refine aw_cv1 (pc := 1444) (n := 0) (As := []) (st := []) (b := 164) (vo := (some (.int r395))) (c2 := (c0 + 2)) (s2 := (s0 + 12)) hM (k_X9_thrown h394) rfl cw_L_135 sk_164 rfl rfl (by decide +kernel) rfl rfl ⟨(Nat.le_of_ble_eq_true rfl), (Nat.le_of_ble_eq_true rfl)⟩ (Nat.le_of_ble_eq_true rfl) ⟨by show (c0 + 2) + 0 ≤ 601024; omega, by show (s0 + 12) + 0 ≤ 7293034; omega⟩ dL_law_1444 rfl rfl ?_
  refine aw_iload (pc := 1447) (i := 5) (x := k384) hM dL_law_1447  rfl ?_
  refine aw_icmp_eq (pc := 1449) (tgt := 1454) hM dL_law_1449 (by decide) (fun c396 => ?_) (fun c396 => ?_)
  · rw [if_pos c396] at h
    refine aw_iload (pc := 1454) (i := 5) (x := k384) hM dL_law_1454  rfl ?_
    refine aw_if_ne (pc := 1456) (tgt := 1471) hM dL_law_1456 (by decide) (fun c397 => ?_) (fun c397 => ?_)
    · rw [if_neg c397] at h
      refine aw_goto (pc := 1471) (tgt := 2530) hM dL_law_1471 (by decide) ?_
      obtain ⟨y398, e399, h⟩ := bind_some h
      have e399 := Option.some.inj e399
      refine aw_iinc (pc := 2530) (v := y398) (L' := [some (.ref 181), some (.ref 0), some (.ref 164), some (.ref 180), some (.int y398), some (.int k384), some (.int z393.1)]) hM dL_law_2530 rfl e399 (by decide) rfl ?_
      refine aw_goto (pc := 2533) (tgt := 23) hM dL_law_2533 (by decide) ?_
      refine aw_weak (L' := [some (.ref 181), some (.ref 0), some (.ref 164), some (.ref 180), some (.int y398), none, none]) ?_ (lw_of [true, true, true, true, true, false, false] rfl)
      exact hk23 z393.2 G387 y398 _ _ (by omega) (by omega) h
    · rw [if_pos c397] at h
      refine aw_aload_n (pc := 1459) (i := 3) (x := 180) hM dL_law_1459 rfl rfl ?_
      refine aw_iconst (pc := 1460) (v := 0) hM dL_law_1460 (by decide) ?_
      refine aw_lald (pc := 1461) hM sk_180 (by decide) dL_law_1461 ?_
      refine aw_iload (pc := 1462) (i := 6) (x := z393.1) hM dL_law_1462  rfl ?_
      refine aw_i2l (pc := 1464) hM dL_law_1464 ?_
      refine aw_lcmp (pc := 1465) hM dL_law_1465 ?_
      refine aw_if_eq (pc := 1466) (tgt := 1471) hM dL_law_1466 (by decide) (fun c400 => ?_) (fun c400 => ?_)
      · rw [if_pos c400] at h
        refine aw_goto (pc := 1471) (tgt := 2530) hM dL_law_1471 (by decide) ?_
        obtain ⟨y401, e402, h⟩ := bind_some h
        have e402 := Option.some.inj e402
        refine aw_iinc (pc := 2530) (v := y401) (L' := [some (.ref 181), some (.ref 0), some (.ref 164), some (.ref 180), some (.int y401), some (.int k384), some (.int z393.1)]) hM dL_law_2530 rfl e402 (by decide) rfl ?_
        refine aw_goto (pc := 2533) (tgt := 23) hM dL_law_2533 (by decide) ?_
        refine aw_weak (L' := [some (.ref 181), some (.ref 0), some (.ref 164), some (.ref 180), some (.int y401), none, none]) ?_ (lw_of [true, true, true, true, true, false, false] rfl)
        exact hk23 z393.2 G387 y401 _ _ (by omega) (by omega) h
      · rw [if_neg c400] at h
        refine aw_iconst (pc := 1469) (v := 0) hM dL_law_1469 (by decide) ?_
        exact absurd h (by decide)
  · rw [if_neg c396] at h
    refine aw_iconst (pc := 1452) (v := 0) hM dL_law_1452 (by decide) ?_
    exact absurd h (by decide)
set_option maxRecDepth 20000 in
set_option maxHeartbeats 4000000 in
theorem k_L_law_b1474 {C : CX} {M : MX} {Len : Nat} {xs : Nat → Int32} {k23 : MM → GG → Int32 → Option Int32} {n c0 s0 : Nat} (hM : MOk C RL cL_law 7 ret room_1 M) (hX : LawX C M Len xs) (hk23 : ∀ (wF : MM) (wG : GG) (w0 : Int32) (c1 s1 : Nat), c1 + 60 * n ≤ 601024 → s1 + 600 * n ≤ 7293034 → k23 wF wG w0 = some 1 → AW C 7 (ZL M) M c1 s1 23 [some (.ref 181), some (.ref 0), some (.ref 164), some (.ref 180), some (.int w0), none, none] [] wF wG) (hc0 : c0 + 60 * n + 50 ≤ 601024) (hs0 : s0 + 600 * n + 500 ≤ 7293034) (F : MM) (G : GG) (x4 : Int32) (h : s_L_law_b1474 Len xs k23 F G x4 = some 1) : AW C 7 (ZL M) M (c0 + 0) (s0 + 0) 1474 [some (.ref 181), some (.ref 0), some (.ref 164), some (.ref 180), some (.int x4), none, none] [] F G := by
  rw [s_L_law_b1474] at h
  refine aw_aload_n (pc := 1474) (i := 1) (x := 0) hM dL_law_1474 rfl rfl ?_
  refine aw_aload_n (pc := 1475) (i := 0) (x := 181) hM dL_law_1475 rfl rfl ?_
  refine aw_iload (pc := 1476) (i := 4) (x := x4) hM dL_law_1476  rfl ?_
  refine aw_iconst (pc := 1478) (v := 1) hM dL_law_1478 (by decide) ?_
  refine aw_iadd (pc := 1479) hM dL_law_1479 ?_
  obtain ⟨c361, h⟩ := ite_some h
  refine aw_sld (pc := 1480) hM hX c361 dL_law_1480 ?_
  refine aw_aload_n (pc := 1481) (i := 3) (x := 180) hM dL_law_1481 rfl rfl ?_
  obtain ⟨z362, h364, h⟩ := bind_some h
  obtain ⟨k363, h365, h⟩ := bind_some h
  refine aw_csW (pc := 1482) (n := 3) (As := [.ref 0, .int (xs (ix (x4 + 1))), .ref 180]) (st := []) (vo := some (.int k363)) (c2 := (c0 + 1)) (s2 := (s0 + 6)) hM (k_L_next h364 h365) cw_L_204 (by decide +kernel) rfl rfl ⟨(Nat.le_of_ble_eq_true rfl), (Nat.le_of_ble_eq_true rfl)⟩ (Nat.le_of_ble_eq_true rfl) ⟨by show (c0 + 0) + 1 ≤ 601024; omega, by show (s0 + 0) + 6 ≤ 7293034; omega⟩ dL_law_1482 rfl rfl ?_
  obtain ⟨G366, e367, h⟩ := bind_some h
  have e367 := Option.some.inj e367
  refine aw_memG e367 ?_
  refine aw_istore (pc := 1485) (i := 5) (L' := [some (.ref 181), some (.ref 0), some (.ref 164), some (.ref 180), some (.int x4), some (.int k363), none]) hM dL_law_1485  (by decide) rfl ?_
  refine aw_aload_n (pc := 1487) (i := 2) (x := 164) hM dL_law_1487 rfl rfl ?_
  refine aw_aload_n (pc := 1488) (i := 0) (x := 181) hM dL_law_1488 rfl rfl ?_
  refine aw_iload (pc := 1489) (i := 4) (x := x4) hM dL_law_1489  rfl ?_
  refine aw_iconst (pc := 1491) (v := 1) hM dL_law_1491 (by decide) ?_
  refine aw_iadd (pc := 1492) hM dL_law_1492 ?_
  obtain ⟨c368, h⟩ := ite_some h
  refine aw_sld (pc := 1493) hM hX c368 dL_law_1493 ?_
  obtain ⟨z371, h369, h⟩ := bind_some h
  refine aw_cv1 (pc := 1494) (n := 1) (As := [.int (xs (ix (x4 + 1)))]) (st := []) (b := 164) (vo := (some (.int z371.1))) (c2 := (c0 + 1)) (s2 := (s0 + 6)) hM (k_X9_next h369) rfl cw_L_206 sk_164 rfl rfl (by decide +kernel) rfl rfl ⟨(Nat.le_of_ble_eq_true rfl), (Nat.le_of_ble_eq_true rfl)⟩ (Nat.le_of_ble_eq_true rfl) ⟨by show (c0 + 1) + 0 ≤ 601024; omega, by show (s0 + 6) + 0 ≤ 7293034; omega⟩ dL_law_1494 rfl rfl ?_
  refine aw_istore (pc := 1497) (i := 6) (L' := [some (.ref 181), some (.ref 0), some (.ref 164), some (.ref 180), some (.int x4), some (.int k363), some (.int z371.1)]) hM dL_law_1497  (by decide) rfl ?_
  refine aw_aload_n (pc := 1499) (i := 2) (x := 164) hM dL_law_1499 rfl rfl ?_
  obtain ⟨r373, h372, h⟩ := bind_some h
  refine aw_cv1 (pc := 1500) (n := 0) (As := []) (st := []) (b := 164) (vo := (some (.int r373))) (c2 := (c0 + 1)) (s2 := (s0 + 6)) hM (k_X9_thrown h372) rfl cw_L_135 sk_164 rfl rfl (by decide +kernel) rfl rfl ⟨(Nat.le_of_ble_eq_true rfl), (Nat.le_of_ble_eq_true rfl)⟩ (Nat.le_of_ble_eq_true rfl) ⟨by show (c0 + 1) + 0 ≤ 601024; omega, by show (s0 + 6) + 0 ≤ 7293034; omega⟩ dL_law_1500 rfl rfl ?_
  refine aw_iload (pc := 1503) (i := 5) (x := k363) hM dL_law_1503  rfl ?_
  refine aw_icmp_eq (pc := 1505) (tgt := 1510) hM dL_law_1505 (by decide) (fun c374 => ?_) (fun c374 => ?_)
  · rw [if_pos c374] at h
    refine aw_iload (pc := 1510) (i := 5) (x := k363) hM dL_law_1510  rfl ?_
    refine aw_if_ne (pc := 1512) (tgt := 1527) hM dL_law_1512 (by decide) (fun c375 => ?_) (fun c375 => ?_)
    · rw [if_neg c375] at h
      refine aw_goto (pc := 1527) (tgt := 2530) hM dL_law_1527 (by decide) ?_
      obtain ⟨y376, e377, h⟩ := bind_some h
      have e377 := Option.some.inj e377
      refine aw_iinc (pc := 2530) (v := y376) (L' := [some (.ref 181), some (.ref 0), some (.ref 164), some (.ref 180), some (.int y376), some (.int k363), some (.int z371.1)]) hM dL_law_2530 rfl e377 (by decide) rfl ?_
      refine aw_goto (pc := 2533) (tgt := 23) hM dL_law_2533 (by decide) ?_
      refine aw_weak (L' := [some (.ref 181), some (.ref 0), some (.ref 164), some (.ref 180), some (.int y376), none, none]) ?_ (lw_of [true, true, true, true, true, false, false] rfl)
      exact hk23 z371.2 G366 y376 _ _ (by omega) (by omega) h
    · rw [if_pos c375] at h
      refine aw_aload_n (pc := 1515) (i := 3) (x := 180) hM dL_law_1515 rfl rfl ?_
      refine aw_iconst (pc := 1516) (v := 0) hM dL_law_1516 (by decide) ?_
      refine aw_lald (pc := 1517) hM sk_180 (by decide) dL_law_1517 ?_
      refine aw_iload (pc := 1518) (i := 6) (x := z371.1) hM dL_law_1518  rfl ?_
      refine aw_i2l (pc := 1520) hM dL_law_1520 ?_
      refine aw_lcmp (pc := 1521) hM dL_law_1521 ?_
      refine aw_if_eq (pc := 1522) (tgt := 1527) hM dL_law_1522 (by decide) (fun c378 => ?_) (fun c378 => ?_)
      · rw [if_pos c378] at h
        refine aw_goto (pc := 1527) (tgt := 2530) hM dL_law_1527 (by decide) ?_
        obtain ⟨y379, e380, h⟩ := bind_some h
        have e380 := Option.some.inj e380
        refine aw_iinc (pc := 2530) (v := y379) (L' := [some (.ref 181), some (.ref 0), some (.ref 164), some (.ref 180), some (.int y379), some (.int k363), some (.int z371.1)]) hM dL_law_2530 rfl e380 (by decide) rfl ?_
        refine aw_goto (pc := 2533) (tgt := 23) hM dL_law_2533 (by decide) ?_
        refine aw_weak (L' := [some (.ref 181), some (.ref 0), some (.ref 164), some (.ref 180), some (.int y379), none, none]) ?_ (lw_of [true, true, true, true, true, false, false] rfl)
        exact hk23 z371.2 G366 y379 _ _ (by omega) (by omega) h
      · rw [if_neg c378] at h
        refine aw_iconst (pc := 1525) (v := 0) hM dL_law_1525 (by decide) ?_
        exact absurd h (by decide)
  · rw [if_neg c374] at h
    refine aw_iconst (pc := 1508) (v := 0) hM dL_law_1508 (by decide) ?_
    exact absurd h (by decide)
set_option maxRecDepth 20000 in
set_option maxHeartbeats 4000000 in
theorem k_L_law_b1530 {C : CX} {M : MX} {Len : Nat} {xs : Nat → Int32} {k23 : MM → GG → Int32 → Option Int32} {n c0 s0 : Nat} (hM : MOk C RL cL_law 7 ret room_1 M) (hX : LawX C M Len xs) (hk23 : ∀ (wF : MM) (wG : GG) (w0 : Int32) (c1 s1 : Nat), c1 + 60 * n ≤ 601024 → s1 + 600 * n ≤ 7293034 → k23 wF wG w0 = some 1 → AW C 7 (ZL M) M c1 s1 23 [some (.ref 181), some (.ref 0), some (.ref 164), some (.ref 180), some (.int w0), none, none] [] wF wG) (hc0 : c0 + 60 * n + 50 ≤ 601024) (hs0 : s0 + 600 * n + 500 ≤ 7293034) (F : MM) (G : GG) (x4 : Int32) (h : s_L_law_b1530 Len xs k23 F G x4 = some 1) : AW C 7 (ZL M) M (c0 + 0) (s0 + 0) 1530 [some (.ref 181), some (.ref 0), some (.ref 164), some (.ref 180), some (.int x4), none, none] [] F G := by
  rw [s_L_law_b1530] at h
  refine aw_aload_n (pc := 1530) (i := 1) (x := 0) hM dL_law_1530 rfl rfl ?_
  refine aw_aload_n (pc := 1531) (i := 0) (x := 181) hM dL_law_1531 rfl rfl ?_
  refine aw_iload (pc := 1532) (i := 4) (x := x4) hM dL_law_1532  rfl ?_
  refine aw_iconst (pc := 1534) (v := 1) hM dL_law_1534 (by decide) ?_
  refine aw_iadd (pc := 1535) hM dL_law_1535 ?_
  obtain ⟨c337, h⟩ := ite_some h
  refine aw_sld (pc := 1536) hM hX c337 dL_law_1536 ?_
  refine aw_aload_n (pc := 1537) (i := 0) (x := 181) hM dL_law_1537 rfl rfl ?_
  refine aw_iload (pc := 1538) (i := 4) (x := x4) hM dL_law_1538  rfl ?_
  refine aw_iconst (pc := 1540) (v := 2) hM dL_law_1540 (by decide) ?_
  refine aw_iadd (pc := 1541) hM dL_law_1541 ?_
  obtain ⟨c338, h⟩ := ite_some h
  refine aw_sld (pc := 1542) hM hX c338 dL_law_1542 ?_
  refine aw_aload_n (pc := 1543) (i := 0) (x := 181) hM dL_law_1543 rfl rfl ?_
  refine aw_iload (pc := 1544) (i := 4) (x := x4) hM dL_law_1544  rfl ?_
  refine aw_iconst (pc := 1546) (v := 3) hM dL_law_1546 (by decide) ?_
  refine aw_iadd (pc := 1547) hM dL_law_1547 ?_
  obtain ⟨c339, h⟩ := ite_some h
  refine aw_sld (pc := 1548) hM hX c339 dL_law_1548 ?_
  refine aw_aload_n (pc := 1549) (i := 3) (x := 180) hM dL_law_1549 rfl rfl ?_
  obtain ⟨z340, h342, h⟩ := bind_some h
  obtain ⟨k341, h343, h⟩ := bind_some h
  refine aw_csW (pc := 1550) (n := 5) (As := [.ref 0, .int (xs (ix (x4 + 1))), .int (xs (ix (x4 + 2))), .int (xs (ix (x4 + 3))), .ref 180]) (st := []) (vo := some (.int k341)) (c2 := (c0 + 3)) (s2 := (s0 + 18)) hM (k_L_breaks h342 h343) cw_L_207 (by decide +kernel) rfl rfl ⟨(Nat.le_of_ble_eq_true rfl), (Nat.le_of_ble_eq_true rfl)⟩ (Nat.le_of_ble_eq_true rfl) ⟨by show (c0 + 0) + 3 ≤ 601024; omega, by show (s0 + 0) + 18 ≤ 7293034; omega⟩ dL_law_1550 rfl rfl ?_
  obtain ⟨G344, e345, h⟩ := bind_some h
  have e345 := Option.some.inj e345
  refine aw_memG e345 ?_
  refine aw_istore (pc := 1553) (i := 5) (L' := [some (.ref 181), some (.ref 0), some (.ref 164), some (.ref 180), some (.int x4), some (.int k341), none]) hM dL_law_1553  (by decide) rfl ?_
  refine aw_aload_n (pc := 1555) (i := 2) (x := 164) hM dL_law_1555 rfl rfl ?_
  refine aw_aload_n (pc := 1556) (i := 0) (x := 181) hM dL_law_1556 rfl rfl ?_
  refine aw_iload (pc := 1557) (i := 4) (x := x4) hM dL_law_1557  rfl ?_
  refine aw_iconst (pc := 1559) (v := 1) hM dL_law_1559 (by decide) ?_
  refine aw_iadd (pc := 1560) hM dL_law_1560 ?_
  obtain ⟨c346, h⟩ := ite_some h
  refine aw_sld (pc := 1561) hM hX c346 dL_law_1561 ?_
  refine aw_aload_n (pc := 1562) (i := 0) (x := 181) hM dL_law_1562 rfl rfl ?_
  refine aw_iload (pc := 1563) (i := 4) (x := x4) hM dL_law_1563  rfl ?_
  refine aw_iconst (pc := 1565) (v := 2) hM dL_law_1565 (by decide) ?_
  refine aw_iadd (pc := 1566) hM dL_law_1566 ?_
  obtain ⟨c347, h⟩ := ite_some h
  refine aw_sld (pc := 1567) hM hX c347 dL_law_1567 ?_
  refine aw_aload_n (pc := 1568) (i := 0) (x := 181) hM dL_law_1568 rfl rfl ?_
  refine aw_iload (pc := 1569) (i := 4) (x := x4) hM dL_law_1569  rfl ?_
  refine aw_iconst (pc := 1571) (v := 3) hM dL_law_1571 (by decide) ?_
  refine aw_iadd (pc := 1572) hM dL_law_1572 ?_
  obtain ⟨c348, h⟩ := ite_some h
  refine aw_sld (pc := 1573) hM hX c348 dL_law_1573 ?_
  obtain ⟨z351, h349, h⟩ := bind_some h
  refine aw_cv1 (pc := 1574) (n := 3) (As := [.int (xs (ix (x4 + 1))), .int (xs (ix (x4 + 2))), .int (xs (ix (x4 + 3)))]) (st := []) (b := 164) (vo := (some (.int z351.1))) (c2 := (c0 + 3)) (s2 := (s0 + 18)) hM (k_X9_breaks h349) rfl cw_L_209 sk_164 rfl rfl (by decide +kernel) rfl rfl ⟨(Nat.le_of_ble_eq_true rfl), (Nat.le_of_ble_eq_true rfl)⟩ (Nat.le_of_ble_eq_true rfl) ⟨by show (c0 + 3) + 0 ≤ 601024; omega, by show (s0 + 18) + 0 ≤ 7293034; omega⟩ dL_law_1574 rfl rfl ?_
  refine aw_istore (pc := 1577) (i := 6) (L' := [some (.ref 181), some (.ref 0), some (.ref 164), some (.ref 180), some (.int x4), some (.int k341), some (.int z351.1)]) hM dL_law_1577  (by decide) rfl ?_
  refine aw_aload_n (pc := 1579) (i := 2) (x := 164) hM dL_law_1579 rfl rfl ?_
  obtain ⟨r353, h352, h⟩ := bind_some h
  refine aw_cv1 (pc := 1580) (n := 0) (As := []) (st := []) (b := 164) (vo := (some (.int r353))) (c2 := (c0 + 3)) (s2 := (s0 + 18)) hM (k_X9_thrown h352) rfl cw_L_135 sk_164 rfl rfl (by decide +kernel) rfl rfl ⟨(Nat.le_of_ble_eq_true rfl), (Nat.le_of_ble_eq_true rfl)⟩ (Nat.le_of_ble_eq_true rfl) ⟨by show (c0 + 3) + 0 ≤ 601024; omega, by show (s0 + 18) + 0 ≤ 7293034; omega⟩ dL_law_1580 rfl rfl ?_
  refine aw_iload (pc := 1583) (i := 5) (x := k341) hM dL_law_1583  rfl ?_
  refine aw_icmp_eq (pc := 1585) (tgt := 1590) hM dL_law_1585 (by decide) (fun c354 => ?_) (fun c354 => ?_)
  · rw [if_pos c354] at h
    refine aw_iload (pc := 1590) (i := 5) (x := k341) hM dL_law_1590  rfl ?_
    refine aw_if_ne (pc := 1592) (tgt := 1607) hM dL_law_1592 (by decide) (fun c355 => ?_) (fun c355 => ?_)
    · rw [if_neg c355] at h
      refine aw_goto (pc := 1607) (tgt := 2530) hM dL_law_1607 (by decide) ?_
      obtain ⟨y356, e357, h⟩ := bind_some h
      have e357 := Option.some.inj e357
      refine aw_iinc (pc := 2530) (v := y356) (L' := [some (.ref 181), some (.ref 0), some (.ref 164), some (.ref 180), some (.int y356), some (.int k341), some (.int z351.1)]) hM dL_law_2530 rfl e357 (by decide) rfl ?_
      refine aw_goto (pc := 2533) (tgt := 23) hM dL_law_2533 (by decide) ?_
      refine aw_weak (L' := [some (.ref 181), some (.ref 0), some (.ref 164), some (.ref 180), some (.int y356), none, none]) ?_ (lw_of [true, true, true, true, true, false, false] rfl)
      exact hk23 z351.2 G344 y356 _ _ (by omega) (by omega) h
    · rw [if_pos c355] at h
      refine aw_aload_n (pc := 1595) (i := 3) (x := 180) hM dL_law_1595 rfl rfl ?_
      refine aw_iconst (pc := 1596) (v := 0) hM dL_law_1596 (by decide) ?_
      refine aw_lald (pc := 1597) hM sk_180 (by decide) dL_law_1597 ?_
      refine aw_iload (pc := 1598) (i := 6) (x := z351.1) hM dL_law_1598  rfl ?_
      refine aw_i2l (pc := 1600) hM dL_law_1600 ?_
      refine aw_lcmp (pc := 1601) hM dL_law_1601 ?_
      refine aw_if_eq (pc := 1602) (tgt := 1607) hM dL_law_1602 (by decide) (fun c358 => ?_) (fun c358 => ?_)
      · rw [if_pos c358] at h
        refine aw_goto (pc := 1607) (tgt := 2530) hM dL_law_1607 (by decide) ?_
        obtain ⟨y359, e360, h⟩ := bind_some h
        have e360 := Option.some.inj e360
        refine aw_iinc (pc := 2530) (v := y359) (L' := [some (.ref 181), some (.ref 0), some (.ref 164), some (.ref 180), some (.int y359), some (.int k341), some (.int z351.1)]) hM dL_law_2530 rfl e360 (by decide) rfl ?_
        refine aw_goto (pc := 2533) (tgt := 23) hM dL_law_2533 (by decide) ?_
        refine aw_weak (L' := [some (.ref 181), some (.ref 0), some (.ref 164), some (.ref 180), some (.int y359), none, none]) ?_ (lw_of [true, true, true, true, true, false, false] rfl)
        exact hk23 z351.2 G344 y359 _ _ (by omega) (by omega) h
      · rw [if_neg c358] at h
        refine aw_iconst (pc := 1605) (v := 0) hM dL_law_1605 (by decide) ?_
        exact absurd h (by decide)
  · rw [if_neg c354] at h
    refine aw_iconst (pc := 1588) (v := 0) hM dL_law_1588 (by decide) ?_
    exact absurd h (by decide)
set_option maxRecDepth 20000 in
set_option maxHeartbeats 4000000 in
theorem k_L_law_b1610 {C : CX} {M : MX} {Len : Nat} {xs : Nat → Int32} {k23 : MM → GG → Int32 → Option Int32} {n c0 s0 : Nat} (hM : MOk C RL cL_law 7 ret room_1 M) (hX : LawX C M Len xs) (hk23 : ∀ (wF : MM) (wG : GG) (w0 : Int32) (c1 s1 : Nat), c1 + 60 * n ≤ 601024 → s1 + 600 * n ≤ 7293034 → k23 wF wG w0 = some 1 → AW C 7 (ZL M) M c1 s1 23 [some (.ref 181), some (.ref 0), some (.ref 164), some (.ref 180), some (.int w0), none, none] [] wF wG) (hc0 : c0 + 60 * n + 50 ≤ 601024) (hs0 : s0 + 600 * n + 500 ≤ 7293034) (F : MM) (G : GG) (x4 : Int32) (h : s_L_law_b1610 Len xs k23 F G x4 = some 1) : AW C 7 (ZL M) M (c0 + 0) (s0 + 0) 1610 [some (.ref 181), some (.ref 0), some (.ref 164), some (.ref 180), some (.int x4), none, none] [] F G := by
  rw [s_L_law_b1610] at h
  refine aw_aload_n (pc := 1610) (i := 1) (x := 0) hM dL_law_1610 rfl rfl ?_
  refine aw_aload_n (pc := 1611) (i := 0) (x := 181) hM dL_law_1611 rfl rfl ?_
  refine aw_iload (pc := 1612) (i := 4) (x := x4) hM dL_law_1612  rfl ?_
  refine aw_iconst (pc := 1614) (v := 1) hM dL_law_1614 (by decide) ?_
  refine aw_iadd (pc := 1615) hM dL_law_1615 ?_
  obtain ⟨c317, h⟩ := ite_some h
  refine aw_sld (pc := 1616) hM hX c317 dL_law_1616 ?_
  refine aw_aload_n (pc := 1617) (i := 3) (x := 180) hM dL_law_1617 rfl rfl ?_
  obtain ⟨z318, h320, h⟩ := bind_some h
  obtain ⟨k319, h321, h⟩ := bind_some h
  refine aw_csW (pc := 1618) (n := 3) (As := [.ref 0, .int (xs (ix (x4 + 1))), .ref 180]) (st := []) (vo := some (.int k319)) (c2 := (c0 + 1)) (s2 := (s0 + 6)) hM (k_L_holdsUp h320 h321) cw_L_210 (by decide +kernel) rfl rfl ⟨(Nat.le_of_ble_eq_true rfl), (Nat.le_of_ble_eq_true rfl)⟩ (Nat.le_of_ble_eq_true rfl) ⟨by show (c0 + 0) + 1 ≤ 601024; omega, by show (s0 + 0) + 6 ≤ 7293034; omega⟩ dL_law_1618 rfl rfl ?_
  obtain ⟨G322, e323, h⟩ := bind_some h
  have e323 := Option.some.inj e323
  refine aw_memG e323 ?_
  refine aw_istore (pc := 1621) (i := 5) (L' := [some (.ref 181), some (.ref 0), some (.ref 164), some (.ref 180), some (.int x4), some (.int k319), none]) hM dL_law_1621  (by decide) rfl ?_
  refine aw_aload_n (pc := 1623) (i := 2) (x := 164) hM dL_law_1623 rfl rfl ?_
  refine aw_aload_n (pc := 1624) (i := 0) (x := 181) hM dL_law_1624 rfl rfl ?_
  refine aw_iload (pc := 1625) (i := 4) (x := x4) hM dL_law_1625  rfl ?_
  refine aw_iconst (pc := 1627) (v := 1) hM dL_law_1627 (by decide) ?_
  refine aw_iadd (pc := 1628) hM dL_law_1628 ?_
  obtain ⟨c324, h⟩ := ite_some h
  refine aw_sld (pc := 1629) hM hX c324 dL_law_1629 ?_
  obtain ⟨z327, h325, h⟩ := bind_some h
  refine aw_cv1 (pc := 1630) (n := 1) (As := [.int (xs (ix (x4 + 1)))]) (st := []) (b := 164) (vo := (some (.int z327.1))) (c2 := (c0 + 1)) (s2 := (s0 + 6)) hM (k_X9_holdsUp h325) rfl cw_L_212 sk_164 rfl rfl (by decide +kernel) rfl rfl ⟨(Nat.le_of_ble_eq_true rfl), (Nat.le_of_ble_eq_true rfl)⟩ (Nat.le_of_ble_eq_true rfl) ⟨by show (c0 + 1) + 0 ≤ 601024; omega, by show (s0 + 6) + 0 ≤ 7293034; omega⟩ dL_law_1630 rfl rfl ?_
  refine aw_istore (pc := 1633) (i := 6) (L' := [some (.ref 181), some (.ref 0), some (.ref 164), some (.ref 180), some (.int x4), some (.int k319), some (.int z327.1)]) hM dL_law_1633  (by decide) rfl ?_
  refine aw_aload_n (pc := 1635) (i := 2) (x := 164) hM dL_law_1635 rfl rfl ?_
  obtain ⟨r329, h328, h⟩ := bind_some h
  refine aw_cv1 (pc := 1636) (n := 0) (As := []) (st := []) (b := 164) (vo := (some (.int r329))) (c2 := (c0 + 1)) (s2 := (s0 + 6)) hM (k_X9_thrown h328) rfl cw_L_135 sk_164 rfl rfl (by decide +kernel) rfl rfl ⟨(Nat.le_of_ble_eq_true rfl), (Nat.le_of_ble_eq_true rfl)⟩ (Nat.le_of_ble_eq_true rfl) ⟨by show (c0 + 1) + 0 ≤ 601024; omega, by show (s0 + 6) + 0 ≤ 7293034; omega⟩ dL_law_1636 rfl rfl ?_
  refine aw_iload (pc := 1639) (i := 5) (x := k319) hM dL_law_1639  rfl ?_
  refine aw_icmp_eq (pc := 1641) (tgt := 1646) hM dL_law_1641 (by decide) (fun c330 => ?_) (fun c330 => ?_)
  · rw [if_pos c330] at h
    refine aw_iload (pc := 1646) (i := 5) (x := k319) hM dL_law_1646  rfl ?_
    refine aw_if_ne (pc := 1648) (tgt := 1663) hM dL_law_1648 (by decide) (fun c331 => ?_) (fun c331 => ?_)
    · rw [if_neg c331] at h
      refine aw_goto (pc := 1663) (tgt := 2530) hM dL_law_1663 (by decide) ?_
      obtain ⟨y332, e333, h⟩ := bind_some h
      have e333 := Option.some.inj e333
      refine aw_iinc (pc := 2530) (v := y332) (L' := [some (.ref 181), some (.ref 0), some (.ref 164), some (.ref 180), some (.int y332), some (.int k319), some (.int z327.1)]) hM dL_law_2530 rfl e333 (by decide) rfl ?_
      refine aw_goto (pc := 2533) (tgt := 23) hM dL_law_2533 (by decide) ?_
      refine aw_weak (L' := [some (.ref 181), some (.ref 0), some (.ref 164), some (.ref 180), some (.int y332), none, none]) ?_ (lw_of [true, true, true, true, true, false, false] rfl)
      exact hk23 z327.2 G322 y332 _ _ (by omega) (by omega) h
    · rw [if_pos c331] at h
      refine aw_aload_n (pc := 1651) (i := 3) (x := 180) hM dL_law_1651 rfl rfl ?_
      refine aw_iconst (pc := 1652) (v := 0) hM dL_law_1652 (by decide) ?_
      refine aw_lald (pc := 1653) hM sk_180 (by decide) dL_law_1653 ?_
      refine aw_iload (pc := 1654) (i := 6) (x := z327.1) hM dL_law_1654  rfl ?_
      refine aw_i2l (pc := 1656) hM dL_law_1656 ?_
      refine aw_lcmp (pc := 1657) hM dL_law_1657 ?_
      refine aw_if_eq (pc := 1658) (tgt := 1663) hM dL_law_1658 (by decide) (fun c334 => ?_) (fun c334 => ?_)
      · rw [if_pos c334] at h
        refine aw_goto (pc := 1663) (tgt := 2530) hM dL_law_1663 (by decide) ?_
        obtain ⟨y335, e336, h⟩ := bind_some h
        have e336 := Option.some.inj e336
        refine aw_iinc (pc := 2530) (v := y335) (L' := [some (.ref 181), some (.ref 0), some (.ref 164), some (.ref 180), some (.int y335), some (.int k319), some (.int z327.1)]) hM dL_law_2530 rfl e336 (by decide) rfl ?_
        refine aw_goto (pc := 2533) (tgt := 23) hM dL_law_2533 (by decide) ?_
        refine aw_weak (L' := [some (.ref 181), some (.ref 0), some (.ref 164), some (.ref 180), some (.int y335), none, none]) ?_ (lw_of [true, true, true, true, true, false, false] rfl)
        exact hk23 z327.2 G322 y335 _ _ (by omega) (by omega) h
      · rw [if_neg c334] at h
        refine aw_iconst (pc := 1661) (v := 0) hM dL_law_1661 (by decide) ?_
        exact absurd h (by decide)
  · rw [if_neg c330] at h
    refine aw_iconst (pc := 1644) (v := 0) hM dL_law_1644 (by decide) ?_
    exact absurd h (by decide)
set_option maxRecDepth 20000 in
set_option maxHeartbeats 4000000 in
theorem k_L_law_b1666 {C : CX} {M : MX} {Len : Nat} {xs : Nat → Int32} {k23 : MM → GG → Int32 → Option Int32} {n c0 s0 : Nat} (hM : MOk C RL cL_law 7 ret room_1 M) (hX : LawX C M Len xs) (hk23 : ∀ (wF : MM) (wG : GG) (w0 : Int32) (c1 s1 : Nat), c1 + 60 * n ≤ 601024 → s1 + 600 * n ≤ 7293034 → k23 wF wG w0 = some 1 → AW C 7 (ZL M) M c1 s1 23 [some (.ref 181), some (.ref 0), some (.ref 164), some (.ref 180), some (.int w0), none, none] [] wF wG) (hc0 : c0 + 60 * n + 50 ≤ 601024) (hs0 : s0 + 600 * n + 500 ≤ 7293034) (F : MM) (G : GG) (x4 : Int32) (h : s_L_law_b1666 Len xs k23 F G x4 = some 1) : AW C 7 (ZL M) M (c0 + 0) (s0 + 0) 1666 [some (.ref 181), some (.ref 0), some (.ref 164), some (.ref 180), some (.int x4), none, none] [] F G := by
  rw [s_L_law_b1666] at h
  refine aw_aload_n (pc := 1666) (i := 1) (x := 0) hM dL_law_1666 rfl rfl ?_
  refine aw_aload_n (pc := 1667) (i := 0) (x := 181) hM dL_law_1667 rfl rfl ?_
  refine aw_iload (pc := 1668) (i := 4) (x := x4) hM dL_law_1668  rfl ?_
  refine aw_iconst (pc := 1670) (v := 1) hM dL_law_1670 (by decide) ?_
  refine aw_iadd (pc := 1671) hM dL_law_1671 ?_
  obtain ⟨c297, h⟩ := ite_some h
  refine aw_sld (pc := 1672) hM hX c297 dL_law_1672 ?_
  refine aw_aload_n (pc := 1673) (i := 3) (x := 180) hM dL_law_1673 rfl rfl ?_
  obtain ⟨z298, h300, h⟩ := bind_some h
  obtain ⟨k299, h301, h⟩ := bind_some h
  refine aw_csW (pc := 1674) (n := 3) (As := [.ref 0, .int (xs (ix (x4 + 1))), .ref 180]) (st := []) (vo := some (.int k299)) (c2 := (c0 + 1)) (s2 := (s0 + 6)) hM (k_L_missing h300 h301) cw_L_213 (by decide +kernel) rfl rfl ⟨(Nat.le_of_ble_eq_true rfl), (Nat.le_of_ble_eq_true rfl)⟩ (Nat.le_of_ble_eq_true rfl) ⟨by show (c0 + 0) + 1 ≤ 601024; omega, by show (s0 + 0) + 6 ≤ 7293034; omega⟩ dL_law_1674 rfl rfl ?_
  obtain ⟨G302, e303, h⟩ := bind_some h
  have e303 := Option.some.inj e303
  refine aw_memG e303 ?_
  refine aw_istore (pc := 1677) (i := 5) (L' := [some (.ref 181), some (.ref 0), some (.ref 164), some (.ref 180), some (.int x4), some (.int k299), none]) hM dL_law_1677  (by decide) rfl ?_
  refine aw_aload_n (pc := 1679) (i := 2) (x := 164) hM dL_law_1679 rfl rfl ?_
  refine aw_aload_n (pc := 1680) (i := 0) (x := 181) hM dL_law_1680 rfl rfl ?_
  refine aw_iload (pc := 1681) (i := 4) (x := x4) hM dL_law_1681  rfl ?_
  refine aw_iconst (pc := 1683) (v := 1) hM dL_law_1683 (by decide) ?_
  refine aw_iadd (pc := 1684) hM dL_law_1684 ?_
  obtain ⟨c304, h⟩ := ite_some h
  refine aw_sld (pc := 1685) hM hX c304 dL_law_1685 ?_
  obtain ⟨z307, h305, h⟩ := bind_some h
  refine aw_cv1 (pc := 1686) (n := 1) (As := [.int (xs (ix (x4 + 1)))]) (st := []) (b := 164) (vo := (some (.int z307.1))) (c2 := (c0 + 1)) (s2 := (s0 + 6)) hM (k_X9_missing h305) rfl cw_L_215 sk_164 rfl rfl (by decide +kernel) rfl rfl ⟨(Nat.le_of_ble_eq_true rfl), (Nat.le_of_ble_eq_true rfl)⟩ (Nat.le_of_ble_eq_true rfl) ⟨by show (c0 + 1) + 0 ≤ 601024; omega, by show (s0 + 6) + 0 ≤ 7293034; omega⟩ dL_law_1686 rfl rfl ?_
  refine aw_istore (pc := 1689) (i := 6) (L' := [some (.ref 181), some (.ref 0), some (.ref 164), some (.ref 180), some (.int x4), some (.int k299), some (.int z307.1)]) hM dL_law_1689  (by decide) rfl ?_
  refine aw_aload_n (pc := 1691) (i := 2) (x := 164) hM dL_law_1691 rfl rfl ?_
  obtain ⟨r309, h308, h⟩ := bind_some h
  refine aw_cv1 (pc := 1692) (n := 0) (As := []) (st := []) (b := 164) (vo := (some (.int r309))) (c2 := (c0 + 1)) (s2 := (s0 + 6)) hM (k_X9_thrown h308) rfl cw_L_135 sk_164 rfl rfl (by decide +kernel) rfl rfl ⟨(Nat.le_of_ble_eq_true rfl), (Nat.le_of_ble_eq_true rfl)⟩ (Nat.le_of_ble_eq_true rfl) ⟨by show (c0 + 1) + 0 ≤ 601024; omega, by show (s0 + 6) + 0 ≤ 7293034; omega⟩ dL_law_1692 rfl rfl ?_
  refine aw_iload (pc := 1695) (i := 5) (x := k299) hM dL_law_1695  rfl ?_
  refine aw_icmp_eq (pc := 1697) (tgt := 1702) hM dL_law_1697 (by decide) (fun c310 => ?_) (fun c310 => ?_)
  · rw [if_pos c310] at h
    refine aw_iload (pc := 1702) (i := 5) (x := k299) hM dL_law_1702  rfl ?_
    refine aw_if_ne (pc := 1704) (tgt := 1719) hM dL_law_1704 (by decide) (fun c311 => ?_) (fun c311 => ?_)
    · rw [if_neg c311] at h
      refine aw_goto (pc := 1719) (tgt := 2530) hM dL_law_1719 (by decide) ?_
      obtain ⟨y312, e313, h⟩ := bind_some h
      have e313 := Option.some.inj e313
      refine aw_iinc (pc := 2530) (v := y312) (L' := [some (.ref 181), some (.ref 0), some (.ref 164), some (.ref 180), some (.int y312), some (.int k299), some (.int z307.1)]) hM dL_law_2530 rfl e313 (by decide) rfl ?_
      refine aw_goto (pc := 2533) (tgt := 23) hM dL_law_2533 (by decide) ?_
      refine aw_weak (L' := [some (.ref 181), some (.ref 0), some (.ref 164), some (.ref 180), some (.int y312), none, none]) ?_ (lw_of [true, true, true, true, true, false, false] rfl)
      exact hk23 z307.2 G302 y312 _ _ (by omega) (by omega) h
    · rw [if_pos c311] at h
      refine aw_aload_n (pc := 1707) (i := 3) (x := 180) hM dL_law_1707 rfl rfl ?_
      refine aw_iconst (pc := 1708) (v := 0) hM dL_law_1708 (by decide) ?_
      refine aw_lald (pc := 1709) hM sk_180 (by decide) dL_law_1709 ?_
      refine aw_iload (pc := 1710) (i := 6) (x := z307.1) hM dL_law_1710  rfl ?_
      refine aw_i2l (pc := 1712) hM dL_law_1712 ?_
      refine aw_lcmp (pc := 1713) hM dL_law_1713 ?_
      refine aw_if_eq (pc := 1714) (tgt := 1719) hM dL_law_1714 (by decide) (fun c314 => ?_) (fun c314 => ?_)
      · rw [if_pos c314] at h
        refine aw_goto (pc := 1719) (tgt := 2530) hM dL_law_1719 (by decide) ?_
        obtain ⟨y315, e316, h⟩ := bind_some h
        have e316 := Option.some.inj e316
        refine aw_iinc (pc := 2530) (v := y315) (L' := [some (.ref 181), some (.ref 0), some (.ref 164), some (.ref 180), some (.int y315), some (.int k299), some (.int z307.1)]) hM dL_law_2530 rfl e316 (by decide) rfl ?_
        refine aw_goto (pc := 2533) (tgt := 23) hM dL_law_2533 (by decide) ?_
        refine aw_weak (L' := [some (.ref 181), some (.ref 0), some (.ref 164), some (.ref 180), some (.int y315), none, none]) ?_ (lw_of [true, true, true, true, true, false, false] rfl)
        exact hk23 z307.2 G302 y315 _ _ (by omega) (by omega) h
      · rw [if_neg c314] at h
        refine aw_iconst (pc := 1717) (v := 0) hM dL_law_1717 (by decide) ?_
        exact absurd h (by decide)
  · rw [if_neg c310] at h
    refine aw_iconst (pc := 1700) (v := 0) hM dL_law_1700 (by decide) ?_
    exact absurd h (by decide)
set_option maxRecDepth 20000 in
set_option maxHeartbeats 4000000 in
theorem k_L_law_b1722 {C : CX} {M : MX} {Len : Nat} {xs : Nat → Int32} {k23 : MM → GG → Int32 → Option Int32} {n c0 s0 : Nat} (hM : MOk C RL cL_law 7 ret room_1 M) (hX : LawX C M Len xs) (hk23 : ∀ (wF : MM) (wG : GG) (w0 : Int32) (c1 s1 : Nat), c1 + 60 * n ≤ 601024 → s1 + 600 * n ≤ 7293034 → k23 wF wG w0 = some 1 → AW C 7 (ZL M) M c1 s1 23 [some (.ref 181), some (.ref 0), some (.ref 164), some (.ref 180), some (.int w0), none, none] [] wF wG) (hc0 : c0 + 60 * n + 50 ≤ 601024) (hs0 : s0 + 600 * n + 500 ≤ 7293034) (F : MM) (G : GG) (x4 : Int32) (h : s_L_law_b1722 Len xs k23 F G x4 = some 1) : AW C 7 (ZL M) M (c0 + 0) (s0 + 0) 1722 [some (.ref 181), some (.ref 0), some (.ref 164), some (.ref 180), some (.int x4), none, none] [] F G := by
  rw [s_L_law_b1722] at h
  refine aw_aload_n (pc := 1722) (i := 1) (x := 0) hM dL_law_1722 rfl rfl ?_
  refine aw_aload_n (pc := 1723) (i := 0) (x := 181) hM dL_law_1723 rfl rfl ?_
  refine aw_iload (pc := 1724) (i := 4) (x := x4) hM dL_law_1724  rfl ?_
  refine aw_iconst (pc := 1726) (v := 1) hM dL_law_1726 (by decide) ?_
  refine aw_iadd (pc := 1727) hM dL_law_1727 ?_
  obtain ⟨c273, h⟩ := ite_some h
  refine aw_sld (pc := 1728) hM hX c273 dL_law_1728 ?_
  refine aw_aload_n (pc := 1729) (i := 0) (x := 181) hM dL_law_1729 rfl rfl ?_
  refine aw_iload (pc := 1730) (i := 4) (x := x4) hM dL_law_1730  rfl ?_
  refine aw_iconst (pc := 1732) (v := 2) hM dL_law_1732 (by decide) ?_
  refine aw_iadd (pc := 1733) hM dL_law_1733 ?_
  obtain ⟨c274, h⟩ := ite_some h
  refine aw_sld (pc := 1734) hM hX c274 dL_law_1734 ?_
  refine aw_aload_n (pc := 1735) (i := 0) (x := 181) hM dL_law_1735 rfl rfl ?_
  refine aw_iload (pc := 1736) (i := 4) (x := x4) hM dL_law_1736  rfl ?_
  refine aw_iconst (pc := 1738) (v := 3) hM dL_law_1738 (by decide) ?_
  refine aw_iadd (pc := 1739) hM dL_law_1739 ?_
  obtain ⟨c275, h⟩ := ite_some h
  refine aw_sld (pc := 1740) hM hX c275 dL_law_1740 ?_
  refine aw_aload_n (pc := 1741) (i := 3) (x := 180) hM dL_law_1741 rfl rfl ?_
  obtain ⟨z276, h278, h⟩ := bind_some h
  obtain ⟨k277, h279, h⟩ := bind_some h
  refine aw_csW (pc := 1742) (n := 5) (As := [.ref 0, .int (xs (ix (x4 + 1))), .int (xs (ix (x4 + 2))), .int (xs (ix (x4 + 3))), .ref 180]) (st := []) (vo := some (.int k277)) (c2 := (c0 + 3)) (s2 := (s0 + 18)) hM (k_L_ahead h278 h279) cw_L_216 (by decide +kernel) rfl rfl ⟨(Nat.le_of_ble_eq_true rfl), (Nat.le_of_ble_eq_true rfl)⟩ (Nat.le_of_ble_eq_true rfl) ⟨by show (c0 + 0) + 3 ≤ 601024; omega, by show (s0 + 0) + 18 ≤ 7293034; omega⟩ dL_law_1742 rfl rfl ?_
  obtain ⟨G280, e281, h⟩ := bind_some h
  have e281 := Option.some.inj e281
  refine aw_memG e281 ?_
  refine aw_istore (pc := 1745) (i := 5) (L' := [some (.ref 181), some (.ref 0), some (.ref 164), some (.ref 180), some (.int x4), some (.int k277), none]) hM dL_law_1745  (by decide) rfl ?_
  refine aw_aload_n (pc := 1747) (i := 2) (x := 164) hM dL_law_1747 rfl rfl ?_
  refine aw_aload_n (pc := 1748) (i := 0) (x := 181) hM dL_law_1748 rfl rfl ?_
  refine aw_iload (pc := 1749) (i := 4) (x := x4) hM dL_law_1749  rfl ?_
  refine aw_iconst (pc := 1751) (v := 1) hM dL_law_1751 (by decide) ?_
  refine aw_iadd (pc := 1752) hM dL_law_1752 ?_
  obtain ⟨c282, h⟩ := ite_some h
  refine aw_sld (pc := 1753) hM hX c282 dL_law_1753 ?_
  refine aw_aload_n (pc := 1754) (i := 0) (x := 181) hM dL_law_1754 rfl rfl ?_
  refine aw_iload (pc := 1755) (i := 4) (x := x4) hM dL_law_1755  rfl ?_
  refine aw_iconst (pc := 1757) (v := 2) hM dL_law_1757 (by decide) ?_
  refine aw_iadd (pc := 1758) hM dL_law_1758 ?_
  obtain ⟨c283, h⟩ := ite_some h
  refine aw_sld (pc := 1759) hM hX c283 dL_law_1759 ?_
  refine aw_aload_n (pc := 1760) (i := 0) (x := 181) hM dL_law_1760 rfl rfl ?_
  refine aw_iload (pc := 1761) (i := 4) (x := x4) hM dL_law_1761  rfl ?_
  refine aw_iconst (pc := 1763) (v := 3) hM dL_law_1763 (by decide) ?_
  refine aw_iadd (pc := 1764) hM dL_law_1764 ?_
  obtain ⟨c284, h⟩ := ite_some h
  refine aw_sld (pc := 1765) hM hX c284 dL_law_1765 ?_
  obtain ⟨z287, h285, h⟩ := bind_some h
  refine aw_cv1 (pc := 1766) (n := 3) (As := [.int (xs (ix (x4 + 1))), .int (xs (ix (x4 + 2))), .int (xs (ix (x4 + 3)))]) (st := []) (b := 164) (vo := (some (.int z287.1))) (c2 := (c0 + 3)) (s2 := (s0 + 18)) hM (k_X9_ahead h285) rfl cw_L_218 sk_164 rfl rfl (by decide +kernel) rfl rfl ⟨(Nat.le_of_ble_eq_true rfl), (Nat.le_of_ble_eq_true rfl)⟩ (Nat.le_of_ble_eq_true rfl) ⟨by show (c0 + 3) + 0 ≤ 601024; omega, by show (s0 + 18) + 0 ≤ 7293034; omega⟩ dL_law_1766 rfl rfl ?_
  refine aw_istore (pc := 1769) (i := 6) (L' := [some (.ref 181), some (.ref 0), some (.ref 164), some (.ref 180), some (.int x4), some (.int k277), some (.int z287.1)]) hM dL_law_1769  (by decide) rfl ?_
  refine aw_aload_n (pc := 1771) (i := 2) (x := 164) hM dL_law_1771 rfl rfl ?_
  obtain ⟨r289, h288, h⟩ := bind_some h
  refine aw_cv1 (pc := 1772) (n := 0) (As := []) (st := []) (b := 164) (vo := (some (.int r289))) (c2 := (c0 + 3)) (s2 := (s0 + 18)) hM (k_X9_thrown h288) rfl cw_L_135 sk_164 rfl rfl (by decide +kernel) rfl rfl ⟨(Nat.le_of_ble_eq_true rfl), (Nat.le_of_ble_eq_true rfl)⟩ (Nat.le_of_ble_eq_true rfl) ⟨by show (c0 + 3) + 0 ≤ 601024; omega, by show (s0 + 18) + 0 ≤ 7293034; omega⟩ dL_law_1772 rfl rfl ?_
  refine aw_iload (pc := 1775) (i := 5) (x := k277) hM dL_law_1775  rfl ?_
  refine aw_icmp_eq (pc := 1777) (tgt := 1782) hM dL_law_1777 (by decide) (fun c290 => ?_) (fun c290 => ?_)
  · rw [if_pos c290] at h
    refine aw_iload (pc := 1782) (i := 5) (x := k277) hM dL_law_1782  rfl ?_
    refine aw_if_ne (pc := 1784) (tgt := 1799) hM dL_law_1784 (by decide) (fun c291 => ?_) (fun c291 => ?_)
    · rw [if_neg c291] at h
      refine aw_goto (pc := 1799) (tgt := 2530) hM dL_law_1799 (by decide) ?_
      obtain ⟨y292, e293, h⟩ := bind_some h
      have e293 := Option.some.inj e293
      refine aw_iinc (pc := 2530) (v := y292) (L' := [some (.ref 181), some (.ref 0), some (.ref 164), some (.ref 180), some (.int y292), some (.int k277), some (.int z287.1)]) hM dL_law_2530 rfl e293 (by decide) rfl ?_
      refine aw_goto (pc := 2533) (tgt := 23) hM dL_law_2533 (by decide) ?_
      refine aw_weak (L' := [some (.ref 181), some (.ref 0), some (.ref 164), some (.ref 180), some (.int y292), none, none]) ?_ (lw_of [true, true, true, true, true, false, false] rfl)
      exact hk23 z287.2 G280 y292 _ _ (by omega) (by omega) h
    · rw [if_pos c291] at h
      refine aw_aload_n (pc := 1787) (i := 3) (x := 180) hM dL_law_1787 rfl rfl ?_
      refine aw_iconst (pc := 1788) (v := 0) hM dL_law_1788 (by decide) ?_
      refine aw_lald (pc := 1789) hM sk_180 (by decide) dL_law_1789 ?_
      refine aw_iload (pc := 1790) (i := 6) (x := z287.1) hM dL_law_1790  rfl ?_
      refine aw_i2l (pc := 1792) hM dL_law_1792 ?_
      refine aw_lcmp (pc := 1793) hM dL_law_1793 ?_
      refine aw_if_eq (pc := 1794) (tgt := 1799) hM dL_law_1794 (by decide) (fun c294 => ?_) (fun c294 => ?_)
      · rw [if_pos c294] at h
        refine aw_goto (pc := 1799) (tgt := 2530) hM dL_law_1799 (by decide) ?_
        obtain ⟨y295, e296, h⟩ := bind_some h
        have e296 := Option.some.inj e296
        refine aw_iinc (pc := 2530) (v := y295) (L' := [some (.ref 181), some (.ref 0), some (.ref 164), some (.ref 180), some (.int y295), some (.int k277), some (.int z287.1)]) hM dL_law_2530 rfl e296 (by decide) rfl ?_
        refine aw_goto (pc := 2533) (tgt := 23) hM dL_law_2533 (by decide) ?_
        refine aw_weak (L' := [some (.ref 181), some (.ref 0), some (.ref 164), some (.ref 180), some (.int y295), none, none]) ?_ (lw_of [true, true, true, true, true, false, false] rfl)
        exact hk23 z287.2 G280 y295 _ _ (by omega) (by omega) h
      · rw [if_neg c294] at h
        refine aw_iconst (pc := 1797) (v := 0) hM dL_law_1797 (by decide) ?_
        exact absurd h (by decide)
  · rw [if_neg c290] at h
    refine aw_iconst (pc := 1780) (v := 0) hM dL_law_1780 (by decide) ?_
    exact absurd h (by decide)
set_option maxRecDepth 20000 in
set_option maxHeartbeats 4000000 in
theorem k_L_law_b1802 {C : CX} {M : MX} {Len : Nat} {xs : Nat → Int32} {k23 : MM → GG → Int32 → Option Int32} {n c0 s0 : Nat} (hM : MOk C RL cL_law 7 ret room_1 M) (hX : LawX C M Len xs) (hk23 : ∀ (wF : MM) (wG : GG) (w0 : Int32) (c1 s1 : Nat), c1 + 60 * n ≤ 601024 → s1 + 600 * n ≤ 7293034 → k23 wF wG w0 = some 1 → AW C 7 (ZL M) M c1 s1 23 [some (.ref 181), some (.ref 0), some (.ref 164), some (.ref 180), some (.int w0), none, none] [] wF wG) (hc0 : c0 + 60 * n + 50 ≤ 601024) (hs0 : s0 + 600 * n + 500 ≤ 7293034) (F : MM) (G : GG) (x4 : Int32) (h : s_L_law_b1802 Len xs k23 F G x4 = some 1) : AW C 7 (ZL M) M (c0 + 0) (s0 + 0) 1802 [some (.ref 181), some (.ref 0), some (.ref 164), some (.ref 180), some (.int x4), none, none] [] F G := by
  rw [s_L_law_b1802] at h
  refine aw_aload_n (pc := 1802) (i := 1) (x := 0) hM dL_law_1802 rfl rfl ?_
  obtain ⟨z266, h264, h⟩ := bind_some h
  refine aw_cv1 (pc := 1803) (n := 0) (As := []) (st := []) (b := 0) (vo := (some (.int z266.1))) (c2 := (c0 + 0)) (s2 := (s0 + 0)) hM (k_X8_calmAfter h264) rfl cw_L_219 sk_0 rfl rfl (by decide +kernel) rfl rfl ⟨(Nat.le_of_ble_eq_true rfl), (Nat.le_of_ble_eq_true rfl)⟩ (Nat.le_of_ble_eq_true rfl) ⟨by show (c0 + 0) + 0 ≤ 601024; omega, by show (s0 + 0) + 0 ≤ 7293034; omega⟩ dL_law_1803 rfl rfl ?_
  refine aw_aload_n (pc := 1806) (i := 2) (x := 164) hM dL_law_1806 rfl rfl ?_
  obtain ⟨z269, h267, h⟩ := bind_some h
  refine aw_cv1 (pc := 1807) (n := 0) (As := []) (st := [.int z266.1]) (b := 164) (vo := (some (.int z269.1))) (c2 := (c0 + 0)) (s2 := (s0 + 0)) hM (k_X9_calmAfter h267) rfl cw_L_222 sk_164 rfl rfl (by decide +kernel) rfl rfl ⟨(Nat.le_of_ble_eq_true rfl), (Nat.le_of_ble_eq_true rfl)⟩ (Nat.le_of_ble_eq_true rfl) ⟨by show (c0 + 0) + 0 ≤ 601024; omega, by show (s0 + 0) + 0 ≤ 7293034; omega⟩ dL_law_1807 rfl rfl ?_
  refine aw_icmp_eq (pc := 1810) (tgt := 2530) hM dL_law_1810 (by decide) (fun c270 => ?_) (fun c270 => ?_)
  · rw [if_pos c270] at h
    obtain ⟨y271, e272, h⟩ := bind_some h
    have e272 := Option.some.inj e272
    refine aw_iinc (pc := 2530) (v := y271) (L' := [some (.ref 181), some (.ref 0), some (.ref 164), some (.ref 180), some (.int y271), none, none]) hM dL_law_2530 rfl e272 (by decide) rfl ?_
    refine aw_goto (pc := 2533) (tgt := 23) hM dL_law_2533 (by decide) ?_
    exact hk23 z269.2 G y271 _ _ (by omega) (by omega) h
  · rw [if_neg c270] at h
    refine aw_iconst (pc := 1813) (v := 0) hM dL_law_1813 (by decide) ?_
    exact absurd h (by decide)
set_option maxRecDepth 20000 in
set_option maxHeartbeats 4000000 in
theorem k_L_law_b1815 {C : CX} {M : MX} {Len : Nat} {xs : Nat → Int32} {k23 : MM → GG → Int32 → Option Int32} {n c0 s0 : Nat} (hM : MOk C RL cL_law 7 ret room_1 M) (hX : LawX C M Len xs) (hk23 : ∀ (wF : MM) (wG : GG) (w0 : Int32) (c1 s1 : Nat), c1 + 60 * n ≤ 601024 → s1 + 600 * n ≤ 7293034 → k23 wF wG w0 = some 1 → AW C 7 (ZL M) M c1 s1 23 [some (.ref 181), some (.ref 0), some (.ref 164), some (.ref 180), some (.int w0), none, none] [] wF wG) (hc0 : c0 + 60 * n + 50 ≤ 601024) (hs0 : s0 + 600 * n + 500 ≤ 7293034) (F : MM) (G : GG) (x4 : Int32) (h : s_L_law_b1815 Len xs k23 F G x4 = some 1) : AW C 7 (ZL M) M (c0 + 0) (s0 + 0) 1815 [some (.ref 181), some (.ref 0), some (.ref 164), some (.ref 180), some (.int x4), none, none] [] F G := by
  rw [s_L_law_b1815] at h
  refine aw_aload_n (pc := 1815) (i := 1) (x := 0) hM dL_law_1815 rfl rfl ?_
  refine aw_aload_n (pc := 1816) (i := 0) (x := 181) hM dL_law_1816 rfl rfl ?_
  refine aw_iload (pc := 1817) (i := 4) (x := x4) hM dL_law_1817  rfl ?_
  refine aw_iconst (pc := 1819) (v := 1) hM dL_law_1819 (by decide) ?_
  refine aw_iadd (pc := 1820) hM dL_law_1820 ?_
  obtain ⟨c244, h⟩ := ite_some h
  refine aw_sld (pc := 1821) hM hX c244 dL_law_1821 ?_
  refine aw_aload_n (pc := 1822) (i := 3) (x := 180) hM dL_law_1822 rfl rfl ?_
  obtain ⟨z245, h247, h⟩ := bind_some h
  obtain ⟨k246, h248, h⟩ := bind_some h
  refine aw_csW (pc := 1823) (n := 3) (As := [.ref 0, .int (xs (ix (x4 + 1))), .ref 180]) (st := []) (vo := some (.int k246)) (c2 := (c0 + 1)) (s2 := (s0 + 6)) hM (k_L_fewest h247 h248) cw_L_223 (by decide +kernel) rfl rfl ⟨(Nat.le_of_ble_eq_true rfl), (Nat.le_of_ble_eq_true rfl)⟩ (Nat.le_of_ble_eq_true rfl) ⟨by show (c0 + 0) + 1 ≤ 601024; omega, by show (s0 + 0) + 6 ≤ 7293034; omega⟩ dL_law_1823 rfl rfl ?_
  obtain ⟨G249, e250, h⟩ := bind_some h
  have e250 := Option.some.inj e250
  refine aw_memG e250 ?_
  refine aw_istore (pc := 1826) (i := 5) (L' := [some (.ref 181), some (.ref 0), some (.ref 164), some (.ref 180), some (.int x4), some (.int k246), none]) hM dL_law_1826  (by decide) rfl ?_
  refine aw_aload_n (pc := 1828) (i := 2) (x := 164) hM dL_law_1828 rfl rfl ?_
  refine aw_aload_n (pc := 1829) (i := 0) (x := 181) hM dL_law_1829 rfl rfl ?_
  refine aw_iload (pc := 1830) (i := 4) (x := x4) hM dL_law_1830  rfl ?_
  refine aw_iconst (pc := 1832) (v := 1) hM dL_law_1832 (by decide) ?_
  refine aw_iadd (pc := 1833) hM dL_law_1833 ?_
  obtain ⟨c251, h⟩ := ite_some h
  refine aw_sld (pc := 1834) hM hX c251 dL_law_1834 ?_
  obtain ⟨z254, h252, h⟩ := bind_some h
  refine aw_cv1 (pc := 1835) (n := 1) (As := [.int (xs (ix (x4 + 1)))]) (st := []) (b := 164) (vo := (some (.int z254.1))) (c2 := (c0 + 1)) (s2 := (s0 + 6)) hM (k_X9_fewest h252) rfl cw_L_225 sk_164 rfl rfl (by decide +kernel) rfl rfl ⟨(Nat.le_of_ble_eq_true rfl), (Nat.le_of_ble_eq_true rfl)⟩ (Nat.le_of_ble_eq_true rfl) ⟨by show (c0 + 1) + 0 ≤ 601024; omega, by show (s0 + 6) + 0 ≤ 7293034; omega⟩ dL_law_1835 rfl rfl ?_
  refine aw_istore (pc := 1838) (i := 6) (L' := [some (.ref 181), some (.ref 0), some (.ref 164), some (.ref 180), some (.int x4), some (.int k246), some (.int z254.1)]) hM dL_law_1838  (by decide) rfl ?_
  refine aw_aload_n (pc := 1840) (i := 2) (x := 164) hM dL_law_1840 rfl rfl ?_
  obtain ⟨r256, h255, h⟩ := bind_some h
  refine aw_cv1 (pc := 1841) (n := 0) (As := []) (st := []) (b := 164) (vo := (some (.int r256))) (c2 := (c0 + 1)) (s2 := (s0 + 6)) hM (k_X9_thrown h255) rfl cw_L_135 sk_164 rfl rfl (by decide +kernel) rfl rfl ⟨(Nat.le_of_ble_eq_true rfl), (Nat.le_of_ble_eq_true rfl)⟩ (Nat.le_of_ble_eq_true rfl) ⟨by show (c0 + 1) + 0 ≤ 601024; omega, by show (s0 + 6) + 0 ≤ 7293034; omega⟩ dL_law_1841 rfl rfl ?_
  refine aw_iload (pc := 1844) (i := 5) (x := k246) hM dL_law_1844  rfl ?_
  refine aw_icmp_eq (pc := 1846) (tgt := 1851) hM dL_law_1846 (by decide) (fun c257 => ?_) (fun c257 => ?_)
  · rw [if_pos c257] at h
    refine aw_iload (pc := 1851) (i := 5) (x := k246) hM dL_law_1851  rfl ?_
    refine aw_if_ne (pc := 1853) (tgt := 1868) hM dL_law_1853 (by decide) (fun c258 => ?_) (fun c258 => ?_)
    · rw [if_neg c258] at h
      refine aw_goto (pc := 1868) (tgt := 2530) hM dL_law_1868 (by decide) ?_
      obtain ⟨y259, e260, h⟩ := bind_some h
      have e260 := Option.some.inj e260
      refine aw_iinc (pc := 2530) (v := y259) (L' := [some (.ref 181), some (.ref 0), some (.ref 164), some (.ref 180), some (.int y259), some (.int k246), some (.int z254.1)]) hM dL_law_2530 rfl e260 (by decide) rfl ?_
      refine aw_goto (pc := 2533) (tgt := 23) hM dL_law_2533 (by decide) ?_
      refine aw_weak (L' := [some (.ref 181), some (.ref 0), some (.ref 164), some (.ref 180), some (.int y259), none, none]) ?_ (lw_of [true, true, true, true, true, false, false] rfl)
      exact hk23 z254.2 G249 y259 _ _ (by omega) (by omega) h
    · rw [if_pos c258] at h
      refine aw_aload_n (pc := 1856) (i := 3) (x := 180) hM dL_law_1856 rfl rfl ?_
      refine aw_iconst (pc := 1857) (v := 0) hM dL_law_1857 (by decide) ?_
      refine aw_lald (pc := 1858) hM sk_180 (by decide) dL_law_1858 ?_
      refine aw_iload (pc := 1859) (i := 6) (x := z254.1) hM dL_law_1859  rfl ?_
      refine aw_i2l (pc := 1861) hM dL_law_1861 ?_
      refine aw_lcmp (pc := 1862) hM dL_law_1862 ?_
      refine aw_if_eq (pc := 1863) (tgt := 1868) hM dL_law_1863 (by decide) (fun c261 => ?_) (fun c261 => ?_)
      · rw [if_pos c261] at h
        refine aw_goto (pc := 1868) (tgt := 2530) hM dL_law_1868 (by decide) ?_
        obtain ⟨y262, e263, h⟩ := bind_some h
        have e263 := Option.some.inj e263
        refine aw_iinc (pc := 2530) (v := y262) (L' := [some (.ref 181), some (.ref 0), some (.ref 164), some (.ref 180), some (.int y262), some (.int k246), some (.int z254.1)]) hM dL_law_2530 rfl e263 (by decide) rfl ?_
        refine aw_goto (pc := 2533) (tgt := 23) hM dL_law_2533 (by decide) ?_
        refine aw_weak (L' := [some (.ref 181), some (.ref 0), some (.ref 164), some (.ref 180), some (.int y262), none, none]) ?_ (lw_of [true, true, true, true, true, false, false] rfl)
        exact hk23 z254.2 G249 y262 _ _ (by omega) (by omega) h
      · rw [if_neg c261] at h
        refine aw_iconst (pc := 1866) (v := 0) hM dL_law_1866 (by decide) ?_
        exact absurd h (by decide)
  · rw [if_neg c257] at h
    refine aw_iconst (pc := 1849) (v := 0) hM dL_law_1849 (by decide) ?_
    exact absurd h (by decide)
set_option maxRecDepth 20000 in
set_option maxHeartbeats 4000000 in
theorem k_L_law_b1871 {C : CX} {M : MX} {Len : Nat} {xs : Nat → Int32} {k23 : MM → GG → Int32 → Option Int32} {n c0 s0 : Nat} (hM : MOk C RL cL_law 7 ret room_1 M) (hX : LawX C M Len xs) (hk23 : ∀ (wF : MM) (wG : GG) (w0 : Int32) (c1 s1 : Nat), c1 + 60 * n ≤ 601024 → s1 + 600 * n ≤ 7293034 → k23 wF wG w0 = some 1 → AW C 7 (ZL M) M c1 s1 23 [some (.ref 181), some (.ref 0), some (.ref 164), some (.ref 180), some (.int w0), none, none] [] wF wG) (hc0 : c0 + 60 * n + 50 ≤ 601024) (hs0 : s0 + 600 * n + 500 ≤ 7293034) (F : MM) (G : GG) (x4 : Int32) (h : s_L_law_b1871 Len xs k23 F G x4 = some 1) : AW C 7 (ZL M) M (c0 + 0) (s0 + 0) 1871 [some (.ref 181), some (.ref 0), some (.ref 164), some (.ref 180), some (.int x4), none, none] [] F G := by
  rw [s_L_law_b1871] at h
  refine aw_aload_n (pc := 1871) (i := 1) (x := 0) hM dL_law_1871 rfl rfl ?_
  refine aw_aload_n (pc := 1872) (i := 0) (x := 181) hM dL_law_1872 rfl rfl ?_
  refine aw_iload (pc := 1873) (i := 4) (x := x4) hM dL_law_1873  rfl ?_
  refine aw_iconst (pc := 1875) (v := 1) hM dL_law_1875 (by decide) ?_
  refine aw_iadd (pc := 1876) hM dL_law_1876 ?_
  obtain ⟨c222, h⟩ := ite_some h
  refine aw_sld (pc := 1877) hM hX c222 dL_law_1877 ?_
  refine aw_aload_n (pc := 1878) (i := 0) (x := 181) hM dL_law_1878 rfl rfl ?_
  refine aw_iload (pc := 1879) (i := 4) (x := x4) hM dL_law_1879  rfl ?_
  refine aw_iconst (pc := 1881) (v := 2) hM dL_law_1881 (by decide) ?_
  refine aw_iadd (pc := 1882) hM dL_law_1882 ?_
  obtain ⟨c223, h⟩ := ite_some h
  refine aw_sld (pc := 1883) hM hX c223 dL_law_1883 ?_
  refine aw_aload_n (pc := 1884) (i := 3) (x := 180) hM dL_law_1884 rfl rfl ?_
  obtain ⟨z224, h226, h⟩ := bind_some h
  obtain ⟨k225, h227, h⟩ := bind_some h
  refine aw_csW (pc := 1885) (n := 4) (As := [.ref 0, .int (xs (ix (x4 + 1))), .int (xs (ix (x4 + 2))), .ref 180]) (st := []) (vo := some (.int k225)) (c2 := (c0 + 2)) (s2 := (s0 + 12)) hM (k_L_step h226 h227) cw_L_226 (by decide +kernel) rfl rfl ⟨(Nat.le_of_ble_eq_true rfl), (Nat.le_of_ble_eq_true rfl)⟩ (Nat.le_of_ble_eq_true rfl) ⟨by show (c0 + 0) + 2 ≤ 601024; omega, by show (s0 + 0) + 12 ≤ 7293034; omega⟩ dL_law_1885 rfl rfl ?_
  obtain ⟨G228, e229, h⟩ := bind_some h
  have e229 := Option.some.inj e229
  refine aw_memG e229 ?_
  refine aw_istore (pc := 1888) (i := 5) (L' := [some (.ref 181), some (.ref 0), some (.ref 164), some (.ref 180), some (.int x4), some (.int k225), none]) hM dL_law_1888  (by decide) rfl ?_
  refine aw_aload_n (pc := 1890) (i := 2) (x := 164) hM dL_law_1890 rfl rfl ?_
  refine aw_aload_n (pc := 1891) (i := 0) (x := 181) hM dL_law_1891 rfl rfl ?_
  refine aw_iload (pc := 1892) (i := 4) (x := x4) hM dL_law_1892  rfl ?_
  refine aw_iconst (pc := 1894) (v := 1) hM dL_law_1894 (by decide) ?_
  refine aw_iadd (pc := 1895) hM dL_law_1895 ?_
  obtain ⟨c230, h⟩ := ite_some h
  refine aw_sld (pc := 1896) hM hX c230 dL_law_1896 ?_
  refine aw_aload_n (pc := 1897) (i := 0) (x := 181) hM dL_law_1897 rfl rfl ?_
  refine aw_iload (pc := 1898) (i := 4) (x := x4) hM dL_law_1898  rfl ?_
  refine aw_iconst (pc := 1900) (v := 2) hM dL_law_1900 (by decide) ?_
  refine aw_iadd (pc := 1901) hM dL_law_1901 ?_
  obtain ⟨c231, h⟩ := ite_some h
  refine aw_sld (pc := 1902) hM hX c231 dL_law_1902 ?_
  obtain ⟨z234, h232, h⟩ := bind_some h
  refine aw_cv1 (pc := 1903) (n := 2) (As := [.int (xs (ix (x4 + 1))), .int (xs (ix (x4 + 2)))]) (st := []) (b := 164) (vo := (some (.int z234.1))) (c2 := (c0 + 2)) (s2 := (s0 + 12)) hM (k_X9_step h232) rfl cw_L_228 sk_164 rfl rfl (by decide +kernel) rfl rfl ⟨(Nat.le_of_ble_eq_true rfl), (Nat.le_of_ble_eq_true rfl)⟩ (Nat.le_of_ble_eq_true rfl) ⟨by show (c0 + 2) + 0 ≤ 601024; omega, by show (s0 + 12) + 0 ≤ 7293034; omega⟩ dL_law_1903 rfl rfl ?_
  refine aw_istore (pc := 1906) (i := 6) (L' := [some (.ref 181), some (.ref 0), some (.ref 164), some (.ref 180), some (.int x4), some (.int k225), some (.int z234.1)]) hM dL_law_1906  (by decide) rfl ?_
  refine aw_aload_n (pc := 1908) (i := 2) (x := 164) hM dL_law_1908 rfl rfl ?_
  obtain ⟨r236, h235, h⟩ := bind_some h
  refine aw_cv1 (pc := 1909) (n := 0) (As := []) (st := []) (b := 164) (vo := (some (.int r236))) (c2 := (c0 + 2)) (s2 := (s0 + 12)) hM (k_X9_thrown h235) rfl cw_L_135 sk_164 rfl rfl (by decide +kernel) rfl rfl ⟨(Nat.le_of_ble_eq_true rfl), (Nat.le_of_ble_eq_true rfl)⟩ (Nat.le_of_ble_eq_true rfl) ⟨by show (c0 + 2) + 0 ≤ 601024; omega, by show (s0 + 12) + 0 ≤ 7293034; omega⟩ dL_law_1909 rfl rfl ?_
  refine aw_iload (pc := 1912) (i := 5) (x := k225) hM dL_law_1912  rfl ?_
  refine aw_icmp_eq (pc := 1914) (tgt := 1919) hM dL_law_1914 (by decide) (fun c237 => ?_) (fun c237 => ?_)
  · rw [if_pos c237] at h
    refine aw_iload (pc := 1919) (i := 5) (x := k225) hM dL_law_1919  rfl ?_
    refine aw_if_ne (pc := 1921) (tgt := 1936) hM dL_law_1921 (by decide) (fun c238 => ?_) (fun c238 => ?_)
    · rw [if_neg c238] at h
      refine aw_goto (pc := 1936) (tgt := 2530) hM dL_law_1936 (by decide) ?_
      obtain ⟨y239, e240, h⟩ := bind_some h
      have e240 := Option.some.inj e240
      refine aw_iinc (pc := 2530) (v := y239) (L' := [some (.ref 181), some (.ref 0), some (.ref 164), some (.ref 180), some (.int y239), some (.int k225), some (.int z234.1)]) hM dL_law_2530 rfl e240 (by decide) rfl ?_
      refine aw_goto (pc := 2533) (tgt := 23) hM dL_law_2533 (by decide) ?_
      refine aw_weak (L' := [some (.ref 181), some (.ref 0), some (.ref 164), some (.ref 180), some (.int y239), none, none]) ?_ (lw_of [true, true, true, true, true, false, false] rfl)
      exact hk23 z234.2 G228 y239 _ _ (by omega) (by omega) h
    · rw [if_pos c238] at h
      refine aw_aload_n (pc := 1924) (i := 3) (x := 180) hM dL_law_1924 rfl rfl ?_
      refine aw_iconst (pc := 1925) (v := 0) hM dL_law_1925 (by decide) ?_
      refine aw_lald (pc := 1926) hM sk_180 (by decide) dL_law_1926 ?_
      refine aw_iload (pc := 1927) (i := 6) (x := z234.1) hM dL_law_1927  rfl ?_
      refine aw_i2l (pc := 1929) hM dL_law_1929 ?_
      refine aw_lcmp (pc := 1930) hM dL_law_1930 ?_
      refine aw_if_eq (pc := 1931) (tgt := 1936) hM dL_law_1931 (by decide) (fun c241 => ?_) (fun c241 => ?_)
      · rw [if_pos c241] at h
        refine aw_goto (pc := 1936) (tgt := 2530) hM dL_law_1936 (by decide) ?_
        obtain ⟨y242, e243, h⟩ := bind_some h
        have e243 := Option.some.inj e243
        refine aw_iinc (pc := 2530) (v := y242) (L' := [some (.ref 181), some (.ref 0), some (.ref 164), some (.ref 180), some (.int y242), some (.int k225), some (.int z234.1)]) hM dL_law_2530 rfl e243 (by decide) rfl ?_
        refine aw_goto (pc := 2533) (tgt := 23) hM dL_law_2533 (by decide) ?_
        refine aw_weak (L' := [some (.ref 181), some (.ref 0), some (.ref 164), some (.ref 180), some (.int y242), none, none]) ?_ (lw_of [true, true, true, true, true, false, false] rfl)
        exact hk23 z234.2 G228 y242 _ _ (by omega) (by omega) h
      · rw [if_neg c241] at h
        refine aw_iconst (pc := 1934) (v := 0) hM dL_law_1934 (by decide) ?_
        exact absurd h (by decide)
  · rw [if_neg c237] at h
    refine aw_iconst (pc := 1917) (v := 0) hM dL_law_1917 (by decide) ?_
    exact absurd h (by decide)
set_option maxRecDepth 20000 in
set_option maxHeartbeats 4000000 in
theorem k_L_law_b1939 {C : CX} {M : MX} {Len : Nat} {xs : Nat → Int32} {k23 : MM → GG → Int32 → Option Int32} {n c0 s0 : Nat} (hM : MOk C RL cL_law 7 ret room_1 M) (hX : LawX C M Len xs) (hk23 : ∀ (wF : MM) (wG : GG) (w0 : Int32) (c1 s1 : Nat), c1 + 60 * n ≤ 601024 → s1 + 600 * n ≤ 7293034 → k23 wF wG w0 = some 1 → AW C 7 (ZL M) M c1 s1 23 [some (.ref 181), some (.ref 0), some (.ref 164), some (.ref 180), some (.int w0), none, none] [] wF wG) (hc0 : c0 + 60 * n + 50 ≤ 601024) (hs0 : s0 + 600 * n + 500 ≤ 7293034) (F : MM) (G : GG) (x4 : Int32) (h : s_L_law_b1939 Len xs k23 F G x4 = some 1) : AW C 7 (ZL M) M (c0 + 0) (s0 + 0) 1939 [some (.ref 181), some (.ref 0), some (.ref 164), some (.ref 180), some (.int x4), none, none] [] F G := by
  rw [s_L_law_b1939] at h
  refine aw_aload_n (pc := 1939) (i := 1) (x := 0) hM dL_law_1939 rfl rfl ?_
  refine aw_aload_n (pc := 1940) (i := 0) (x := 181) hM dL_law_1940 rfl rfl ?_
  refine aw_iload (pc := 1941) (i := 4) (x := x4) hM dL_law_1941  rfl ?_
  refine aw_iconst (pc := 1943) (v := 1) hM dL_law_1943 (by decide) ?_
  refine aw_iadd (pc := 1944) hM dL_law_1944 ?_
  obtain ⟨c198, h⟩ := ite_some h
  refine aw_sld (pc := 1945) hM hX c198 dL_law_1945 ?_
  refine aw_aload_n (pc := 1946) (i := 0) (x := 181) hM dL_law_1946 rfl rfl ?_
  refine aw_iload (pc := 1947) (i := 4) (x := x4) hM dL_law_1947  rfl ?_
  refine aw_iconst (pc := 1949) (v := 2) hM dL_law_1949 (by decide) ?_
  refine aw_iadd (pc := 1950) hM dL_law_1950 ?_
  obtain ⟨c199, h⟩ := ite_some h
  refine aw_sld (pc := 1951) hM hX c199 dL_law_1951 ?_
  refine aw_aload_n (pc := 1952) (i := 0) (x := 181) hM dL_law_1952 rfl rfl ?_
  refine aw_iload (pc := 1953) (i := 4) (x := x4) hM dL_law_1953  rfl ?_
  refine aw_iconst (pc := 1955) (v := 3) hM dL_law_1955 (by decide) ?_
  refine aw_iadd (pc := 1956) hM dL_law_1956 ?_
  obtain ⟨c200, h⟩ := ite_some h
  refine aw_sld (pc := 1957) hM hX c200 dL_law_1957 ?_
  refine aw_aload_n (pc := 1958) (i := 3) (x := 180) hM dL_law_1958 rfl rfl ?_
  obtain ⟨z201, h203, h⟩ := bind_some h
  obtain ⟨k202, h204, h⟩ := bind_some h
  refine aw_csW (pc := 1959) (n := 5) (As := [.ref 0, .int (xs (ix (x4 + 1))), .int (xs (ix (x4 + 2))), .int (xs (ix (x4 + 3))), .ref 180]) (st := []) (vo := some (.int k202)) (c2 := (c0 + 3)) (s2 := (s0 + 18)) hM (k_L_needed h203 h204) cw_L_229 (by decide +kernel) rfl rfl ⟨(Nat.le_of_ble_eq_true rfl), (Nat.le_of_ble_eq_true rfl)⟩ (Nat.le_of_ble_eq_true rfl) ⟨by show (c0 + 0) + 3 ≤ 601024; omega, by show (s0 + 0) + 18 ≤ 7293034; omega⟩ dL_law_1959 rfl rfl ?_
  obtain ⟨G205, e206, h⟩ := bind_some h
  have e206 := Option.some.inj e206
  refine aw_memG e206 ?_
  refine aw_istore (pc := 1962) (i := 5) (L' := [some (.ref 181), some (.ref 0), some (.ref 164), some (.ref 180), some (.int x4), some (.int k202), none]) hM dL_law_1962  (by decide) rfl ?_
  refine aw_aload_n (pc := 1964) (i := 2) (x := 164) hM dL_law_1964 rfl rfl ?_
  refine aw_aload_n (pc := 1965) (i := 0) (x := 181) hM dL_law_1965 rfl rfl ?_
  refine aw_iload (pc := 1966) (i := 4) (x := x4) hM dL_law_1966  rfl ?_
  refine aw_iconst (pc := 1968) (v := 1) hM dL_law_1968 (by decide) ?_
  refine aw_iadd (pc := 1969) hM dL_law_1969 ?_
  obtain ⟨c207, h⟩ := ite_some h
  refine aw_sld (pc := 1970) hM hX c207 dL_law_1970 ?_
  refine aw_aload_n (pc := 1971) (i := 0) (x := 181) hM dL_law_1971 rfl rfl ?_
  refine aw_iload (pc := 1972) (i := 4) (x := x4) hM dL_law_1972  rfl ?_
  refine aw_iconst (pc := 1974) (v := 2) hM dL_law_1974 (by decide) ?_
  refine aw_iadd (pc := 1975) hM dL_law_1975 ?_
  obtain ⟨c208, h⟩ := ite_some h
  refine aw_sld (pc := 1976) hM hX c208 dL_law_1976 ?_
  refine aw_aload_n (pc := 1977) (i := 0) (x := 181) hM dL_law_1977 rfl rfl ?_
  refine aw_iload (pc := 1978) (i := 4) (x := x4) hM dL_law_1978  rfl ?_
  refine aw_iconst (pc := 1980) (v := 3) hM dL_law_1980 (by decide) ?_
  refine aw_iadd (pc := 1981) hM dL_law_1981 ?_
  obtain ⟨c209, h⟩ := ite_some h
  refine aw_sld (pc := 1982) hM hX c209 dL_law_1982 ?_
  obtain ⟨z212, h210, h⟩ := bind_some h
  refine aw_cv1 (pc := 1983) (n := 3) (As := [.int (xs (ix (x4 + 1))), .int (xs (ix (x4 + 2))), .int (xs (ix (x4 + 3)))]) (st := []) (b := 164) (vo := (some (.int z212.1))) (c2 := (c0 + 3)) (s2 := (s0 + 18)) hM (k_X9_needed h210) rfl cw_L_231 sk_164 rfl rfl (by decide +kernel) rfl rfl ⟨(Nat.le_of_ble_eq_true rfl), (Nat.le_of_ble_eq_true rfl)⟩ (Nat.le_of_ble_eq_true rfl) ⟨by show (c0 + 3) + 0 ≤ 601024; omega, by show (s0 + 18) + 0 ≤ 7293034; omega⟩ dL_law_1983 rfl rfl ?_
  refine aw_istore (pc := 1986) (i := 6) (L' := [some (.ref 181), some (.ref 0), some (.ref 164), some (.ref 180), some (.int x4), some (.int k202), some (.int z212.1)]) hM dL_law_1986  (by decide) rfl ?_
  refine aw_aload_n (pc := 1988) (i := 2) (x := 164) hM dL_law_1988 rfl rfl ?_
  obtain ⟨r214, h213, h⟩ := bind_some h
  refine aw_cv1 (pc := 1989) (n := 0) (As := []) (st := []) (b := 164) (vo := (some (.int r214))) (c2 := (c0 + 3)) (s2 := (s0 + 18)) hM (k_X9_thrown h213) rfl cw_L_135 sk_164 rfl rfl (by decide +kernel) rfl rfl ⟨(Nat.le_of_ble_eq_true rfl), (Nat.le_of_ble_eq_true rfl)⟩ (Nat.le_of_ble_eq_true rfl) ⟨by show (c0 + 3) + 0 ≤ 601024; omega, by show (s0 + 18) + 0 ≤ 7293034; omega⟩ dL_law_1989 rfl rfl ?_
  refine aw_iload (pc := 1992) (i := 5) (x := k202) hM dL_law_1992  rfl ?_
  refine aw_icmp_eq (pc := 1994) (tgt := 1999) hM dL_law_1994 (by decide) (fun c215 => ?_) (fun c215 => ?_)
  · rw [if_pos c215] at h
    refine aw_iload (pc := 1999) (i := 5) (x := k202) hM dL_law_1999  rfl ?_
    refine aw_if_ne (pc := 2001) (tgt := 2016) hM dL_law_2001 (by decide) (fun c216 => ?_) (fun c216 => ?_)
    · rw [if_neg c216] at h
      refine aw_goto (pc := 2016) (tgt := 2530) hM dL_law_2016 (by decide) ?_
      obtain ⟨y217, e218, h⟩ := bind_some h
      have e218 := Option.some.inj e218
      refine aw_iinc (pc := 2530) (v := y217) (L' := [some (.ref 181), some (.ref 0), some (.ref 164), some (.ref 180), some (.int y217), some (.int k202), some (.int z212.1)]) hM dL_law_2530 rfl e218 (by decide) rfl ?_
      refine aw_goto (pc := 2533) (tgt := 23) hM dL_law_2533 (by decide) ?_
      refine aw_weak (L' := [some (.ref 181), some (.ref 0), some (.ref 164), some (.ref 180), some (.int y217), none, none]) ?_ (lw_of [true, true, true, true, true, false, false] rfl)
      exact hk23 z212.2 G205 y217 _ _ (by omega) (by omega) h
    · rw [if_pos c216] at h
      refine aw_aload_n (pc := 2004) (i := 3) (x := 180) hM dL_law_2004 rfl rfl ?_
      refine aw_iconst (pc := 2005) (v := 0) hM dL_law_2005 (by decide) ?_
      refine aw_lald (pc := 2006) hM sk_180 (by decide) dL_law_2006 ?_
      refine aw_iload (pc := 2007) (i := 6) (x := z212.1) hM dL_law_2007  rfl ?_
      refine aw_i2l (pc := 2009) hM dL_law_2009 ?_
      refine aw_lcmp (pc := 2010) hM dL_law_2010 ?_
      refine aw_if_eq (pc := 2011) (tgt := 2016) hM dL_law_2011 (by decide) (fun c219 => ?_) (fun c219 => ?_)
      · rw [if_pos c219] at h
        refine aw_goto (pc := 2016) (tgt := 2530) hM dL_law_2016 (by decide) ?_
        obtain ⟨y220, e221, h⟩ := bind_some h
        have e221 := Option.some.inj e221
        refine aw_iinc (pc := 2530) (v := y220) (L' := [some (.ref 181), some (.ref 0), some (.ref 164), some (.ref 180), some (.int y220), some (.int k202), some (.int z212.1)]) hM dL_law_2530 rfl e221 (by decide) rfl ?_
        refine aw_goto (pc := 2533) (tgt := 23) hM dL_law_2533 (by decide) ?_
        refine aw_weak (L' := [some (.ref 181), some (.ref 0), some (.ref 164), some (.ref 180), some (.int y220), none, none]) ?_ (lw_of [true, true, true, true, true, false, false] rfl)
        exact hk23 z212.2 G205 y220 _ _ (by omega) (by omega) h
      · rw [if_neg c219] at h
        refine aw_iconst (pc := 2014) (v := 0) hM dL_law_2014 (by decide) ?_
        exact absurd h (by decide)
  · rw [if_neg c215] at h
    refine aw_iconst (pc := 1997) (v := 0) hM dL_law_1997 (by decide) ?_
    exact absurd h (by decide)
set_option maxRecDepth 20000 in
set_option maxHeartbeats 4000000 in
theorem k_L_law_b2019 {C : CX} {M : MX} {Len : Nat} {xs : Nat → Int32} {k23 : MM → GG → Int32 → Option Int32} {n c0 s0 : Nat} (hM : MOk C RL cL_law 7 ret room_1 M) (hX : LawX C M Len xs) (hk23 : ∀ (wF : MM) (wG : GG) (w0 : Int32) (c1 s1 : Nat), c1 + 60 * n ≤ 601024 → s1 + 600 * n ≤ 7293034 → k23 wF wG w0 = some 1 → AW C 7 (ZL M) M c1 s1 23 [some (.ref 181), some (.ref 0), some (.ref 164), some (.ref 180), some (.int w0), none, none] [] wF wG) (hc0 : c0 + 60 * n + 50 ≤ 601024) (hs0 : s0 + 600 * n + 500 ≤ 7293034) (F : MM) (G : GG) (x4 : Int32) (h : s_L_law_b2019 Len xs k23 F G x4 = some 1) : AW C 7 (ZL M) M (c0 + 0) (s0 + 0) 2019 [some (.ref 181), some (.ref 0), some (.ref 164), some (.ref 180), some (.int x4), none, none] [] F G := by
  rw [s_L_law_b2019] at h
  refine aw_aload_n (pc := 2019) (i := 1) (x := 0) hM dL_law_2019 rfl rfl ?_
  refine aw_aload_n (pc := 2020) (i := 0) (x := 181) hM dL_law_2020 rfl rfl ?_
  refine aw_iload (pc := 2021) (i := 4) (x := x4) hM dL_law_2021  rfl ?_
  refine aw_iconst (pc := 2023) (v := 1) hM dL_law_2023 (by decide) ?_
  refine aw_iadd (pc := 2024) hM dL_law_2024 ?_
  obtain ⟨c172, h⟩ := ite_some h
  refine aw_sld (pc := 2025) hM hX c172 dL_law_2025 ?_
  refine aw_aload_n (pc := 2026) (i := 0) (x := 181) hM dL_law_2026 rfl rfl ?_
  refine aw_iload (pc := 2027) (i := 4) (x := x4) hM dL_law_2027  rfl ?_
  refine aw_iconst (pc := 2029) (v := 2) hM dL_law_2029 (by decide) ?_
  refine aw_iadd (pc := 2030) hM dL_law_2030 ?_
  obtain ⟨c173, h⟩ := ite_some h
  refine aw_sld (pc := 2031) hM hX c173 dL_law_2031 ?_
  refine aw_aload_n (pc := 2032) (i := 3) (x := 180) hM dL_law_2032 rfl rfl ?_
  obtain ⟨z174, h176, h⟩ := bind_some h
  obtain ⟨k175, h177, h⟩ := bind_some h
  refine aw_csW (pc := 2033) (n := 4) (As := [.ref 0, .int (xs (ix (x4 + 1))), .int (xs (ix (x4 + 2))), .ref 180]) (st := []) (vo := some (.int k175)) (c2 := (c0 + 2)) (s2 := (s0 + 12)) hM (k_L_isPossible h176 h177) cw_L_232 (by decide +kernel) rfl rfl ⟨(Nat.le_of_ble_eq_true rfl), (Nat.le_of_ble_eq_true rfl)⟩ (Nat.le_of_ble_eq_true rfl) ⟨by show (c0 + 0) + 2 ≤ 601024; omega, by show (s0 + 0) + 12 ≤ 7293034; omega⟩ dL_law_2033 rfl rfl ?_
  obtain ⟨G178, e179, h⟩ := bind_some h
  have e179 := Option.some.inj e179
  refine aw_memG e179 ?_
  refine aw_istore (pc := 2036) (i := 5) (L' := [some (.ref 181), some (.ref 0), some (.ref 164), some (.ref 180), some (.int x4), some (.int k175), none]) hM dL_law_2036  (by decide) rfl ?_
  refine aw_aload_n (pc := 2038) (i := 2) (x := 164) hM dL_law_2038 rfl rfl ?_
  refine aw_aload_n (pc := 2039) (i := 0) (x := 181) hM dL_law_2039 rfl rfl ?_
  refine aw_iload (pc := 2040) (i := 4) (x := x4) hM dL_law_2040  rfl ?_
  refine aw_iconst (pc := 2042) (v := 1) hM dL_law_2042 (by decide) ?_
  refine aw_iadd (pc := 2043) hM dL_law_2043 ?_
  obtain ⟨c180, h⟩ := ite_some h
  refine aw_sld (pc := 2044) hM hX c180 dL_law_2044 ?_
  refine aw_aload_n (pc := 2045) (i := 0) (x := 181) hM dL_law_2045 rfl rfl ?_
  refine aw_iload (pc := 2046) (i := 4) (x := x4) hM dL_law_2046  rfl ?_
  refine aw_iconst (pc := 2048) (v := 2) hM dL_law_2048 (by decide) ?_
  refine aw_iadd (pc := 2049) hM dL_law_2049 ?_
  obtain ⟨c181, h⟩ := ite_some h
  refine aw_sld (pc := 2050) hM hX c181 dL_law_2050 ?_
  obtain ⟨z184, h182, h⟩ := bind_some h
  refine aw_cv1 (pc := 2051) (n := 2) (As := [.int (xs (ix (x4 + 1))), .int (xs (ix (x4 + 2)))]) (st := []) (b := 164) (vo := (some (.int z184.1))) (c2 := (c0 + 2)) (s2 := (s0 + 12)) hM (k_X9_isPossible h182) rfl cw_L_234 sk_164 rfl rfl (by decide +kernel) rfl rfl ⟨(Nat.le_of_ble_eq_true rfl), (Nat.le_of_ble_eq_true rfl)⟩ (Nat.le_of_ble_eq_true rfl) ⟨by show (c0 + 2) + 0 ≤ 601024; omega, by show (s0 + 12) + 0 ≤ 7293034; omega⟩ dL_law_2051 rfl rfl ?_
  refine aw_istore (pc := 2054) (i := 6) (L' := [some (.ref 181), some (.ref 0), some (.ref 164), some (.ref 180), some (.int x4), some (.int k175), some (.int z184.1)]) hM dL_law_2054  (by decide) rfl ?_
  refine aw_aload_n (pc := 2056) (i := 2) (x := 164) hM dL_law_2056 rfl rfl ?_
  obtain ⟨r186, h185, h⟩ := bind_some h
  refine aw_cv1 (pc := 2057) (n := 0) (As := []) (st := []) (b := 164) (vo := (some (.int r186))) (c2 := (c0 + 2)) (s2 := (s0 + 12)) hM (k_X9_thrown h185) rfl cw_L_135 sk_164 rfl rfl (by decide +kernel) rfl rfl ⟨(Nat.le_of_ble_eq_true rfl), (Nat.le_of_ble_eq_true rfl)⟩ (Nat.le_of_ble_eq_true rfl) ⟨by show (c0 + 2) + 0 ≤ 601024; omega, by show (s0 + 12) + 0 ≤ 7293034; omega⟩ dL_law_2057 rfl rfl ?_
  refine aw_iload (pc := 2060) (i := 5) (x := k175) hM dL_law_2060  rfl ?_
  refine aw_icmp_eq (pc := 2062) (tgt := 2067) hM dL_law_2062 (by decide) (fun c187 => ?_) (fun c187 => ?_)
  · rw [if_pos c187] at h
    refine aw_iload (pc := 2067) (i := 5) (x := k175) hM dL_law_2067  rfl ?_
    refine aw_if_ne (pc := 2069) (tgt := 2091) hM dL_law_2069 (by decide) (fun c188 => ?_) (fun c188 => ?_)
    · rw [if_neg c188] at h
      refine aw_goto (pc := 2091) (tgt := 2530) hM dL_law_2091 (by decide) ?_
      obtain ⟨y189, e190, h⟩ := bind_some h
      have e190 := Option.some.inj e190
      refine aw_iinc (pc := 2530) (v := y189) (L' := [some (.ref 181), some (.ref 0), some (.ref 164), some (.ref 180), some (.int y189), some (.int k175), some (.int z184.1)]) hM dL_law_2530 rfl e190 (by decide) rfl ?_
      refine aw_goto (pc := 2533) (tgt := 23) hM dL_law_2533 (by decide) ?_
      refine aw_weak (L' := [some (.ref 181), some (.ref 0), some (.ref 164), some (.ref 180), some (.int y189), none, none]) ?_ (lw_of [true, true, true, true, true, false, false] rfl)
      exact hk23 z184.2 G178 y189 _ _ (by omega) (by omega) h
    · rw [if_pos c188] at h
      refine aw_aload_n (pc := 2072) (i := 3) (x := 180) hM dL_law_2072 rfl rfl ?_
      refine aw_iconst (pc := 2073) (v := 0) hM dL_law_2073 (by decide) ?_
      refine aw_lald (pc := 2074) hM sk_180 (by decide) dL_law_2074 ?_
      refine aw_iload (pc := 2075) (i := 6) (x := z184.1) hM dL_law_2075  rfl ?_
      refine aw_if_eq (pc := 2077) (tgt := 2084) hM dL_law_2077 (by decide) (fun c191 => ?_) (fun c191 => ?_)
      · rw [if_pos c191] at h
        refine aw_lconst (pc := 2084) (v := 0) hM dL_law_2084 (by decide) ?_
        refine aw_lcmp (pc := 2085) hM dL_law_2085 ?_
        refine aw_if_eq (pc := 2086) (tgt := 2091) hM dL_law_2086 (by decide) (fun c192 => ?_) (fun c192 => ?_)
        · rw [if_pos c192] at h
          refine aw_goto (pc := 2091) (tgt := 2530) hM dL_law_2091 (by decide) ?_
          obtain ⟨y193, e194, h⟩ := bind_some h
          have e194 := Option.some.inj e194
          refine aw_iinc (pc := 2530) (v := y193) (L' := [some (.ref 181), some (.ref 0), some (.ref 164), some (.ref 180), some (.int y193), some (.int k175), some (.int z184.1)]) hM dL_law_2530 rfl e194 (by decide) rfl ?_
          refine aw_goto (pc := 2533) (tgt := 23) hM dL_law_2533 (by decide) ?_
          refine aw_weak (L' := [some (.ref 181), some (.ref 0), some (.ref 164), some (.ref 180), some (.int y193), none, none]) ?_ (lw_of [true, true, true, true, true, false, false] rfl)
          exact hk23 z184.2 G178 y193 _ _ (by omega) (by omega) h
        · rw [if_neg c192] at h
          refine aw_iconst (pc := 2089) (v := 0) hM dL_law_2089 (by decide) ?_
          exact absurd h (by decide)
      · rw [if_neg c191] at h
        refine aw_lconst (pc := 2080) (v := 1) hM dL_law_2080 (by decide) ?_
        refine aw_goto (pc := 2081) (tgt := 2085) hM dL_law_2081 (by decide) ?_
        refine aw_lcmp (pc := 2085) hM dL_law_2085 ?_
        refine aw_if_eq (pc := 2086) (tgt := 2091) hM dL_law_2086 (by decide) (fun c195 => ?_) (fun c195 => ?_)
        · rw [if_pos c195] at h
          refine aw_goto (pc := 2091) (tgt := 2530) hM dL_law_2091 (by decide) ?_
          obtain ⟨y196, e197, h⟩ := bind_some h
          have e197 := Option.some.inj e197
          refine aw_iinc (pc := 2530) (v := y196) (L' := [some (.ref 181), some (.ref 0), some (.ref 164), some (.ref 180), some (.int y196), some (.int k175), some (.int z184.1)]) hM dL_law_2530 rfl e197 (by decide) rfl ?_
          refine aw_goto (pc := 2533) (tgt := 23) hM dL_law_2533 (by decide) ?_
          refine aw_weak (L' := [some (.ref 181), some (.ref 0), some (.ref 164), some (.ref 180), some (.int y196), none, none]) ?_ (lw_of [true, true, true, true, true, false, false] rfl)
          exact hk23 z184.2 G178 y196 _ _ (by omega) (by omega) h
        · rw [if_neg c195] at h
          refine aw_iconst (pc := 2089) (v := 0) hM dL_law_2089 (by decide) ?_
          exact absurd h (by decide)
  · rw [if_neg c187] at h
    refine aw_iconst (pc := 2065) (v := 0) hM dL_law_2065 (by decide) ?_
    exact absurd h (by decide)
set_option maxRecDepth 20000 in
set_option maxHeartbeats 4000000 in
theorem k_L_law_b2094 {C : CX} {M : MX} {Len : Nat} {xs : Nat → Int32} {k23 : MM → GG → Int32 → Option Int32} {n c0 s0 : Nat} (hM : MOk C RL cL_law 7 ret room_1 M) (hX : LawX C M Len xs) (hk23 : ∀ (wF : MM) (wG : GG) (w0 : Int32) (c1 s1 : Nat), c1 + 60 * n ≤ 601024 → s1 + 600 * n ≤ 7293034 → k23 wF wG w0 = some 1 → AW C 7 (ZL M) M c1 s1 23 [some (.ref 181), some (.ref 0), some (.ref 164), some (.ref 180), some (.int w0), none, none] [] wF wG) (hc0 : c0 + 60 * n + 50 ≤ 601024) (hs0 : s0 + 600 * n + 500 ≤ 7293034) (F : MM) (G : GG) (x4 : Int32) (h : s_L_law_b2094 Len xs k23 F G x4 = some 1) : AW C 7 (ZL M) M (c0 + 0) (s0 + 0) 2094 [some (.ref 181), some (.ref 0), some (.ref 164), some (.ref 180), some (.int x4), none, none] [] F G := by
  rw [s_L_law_b2094] at h
  refine aw_aload_n (pc := 2094) (i := 1) (x := 0) hM dL_law_2094 rfl rfl ?_
  refine aw_aload_n (pc := 2095) (i := 0) (x := 181) hM dL_law_2095 rfl rfl ?_
  refine aw_iload (pc := 2096) (i := 4) (x := x4) hM dL_law_2096  rfl ?_
  refine aw_iconst (pc := 2098) (v := 1) hM dL_law_2098 (by decide) ?_
  refine aw_iadd (pc := 2099) hM dL_law_2099 ?_
  obtain ⟨c150, h⟩ := ite_some h
  refine aw_sld (pc := 2100) hM hX c150 dL_law_2100 ?_
  refine aw_aload_n (pc := 2101) (i := 0) (x := 181) hM dL_law_2101 rfl rfl ?_
  refine aw_iload (pc := 2102) (i := 4) (x := x4) hM dL_law_2102  rfl ?_
  refine aw_iconst (pc := 2104) (v := 2) hM dL_law_2104 (by decide) ?_
  refine aw_iadd (pc := 2105) hM dL_law_2105 ?_
  obtain ⟨c151, h⟩ := ite_some h
  refine aw_sld (pc := 2106) hM hX c151 dL_law_2106 ?_
  refine aw_aload_n (pc := 2107) (i := 3) (x := 180) hM dL_law_2107 rfl rfl ?_
  obtain ⟨z152, h154, h⟩ := bind_some h
  obtain ⟨k153, h155, h⟩ := bind_some h
  refine aw_csW (pc := 2108) (n := 4) (As := [.ref 0, .int (xs (ix (x4 + 1))), .int (xs (ix (x4 + 2))), .ref 180]) (st := []) (vo := some (.int k153)) (c2 := (c0 + 2)) (s2 := (s0 + 12)) hM (k_L_explains h154 h155) cw_L_235 (by decide +kernel) rfl rfl ⟨(Nat.le_of_ble_eq_true rfl), (Nat.le_of_ble_eq_true rfl)⟩ (Nat.le_of_ble_eq_true rfl) ⟨by show (c0 + 0) + 2 ≤ 601024; omega, by show (s0 + 0) + 12 ≤ 7293034; omega⟩ dL_law_2108 rfl rfl ?_
  obtain ⟨G156, e157, h⟩ := bind_some h
  have e157 := Option.some.inj e157
  refine aw_memG e157 ?_
  refine aw_istore (pc := 2111) (i := 5) (L' := [some (.ref 181), some (.ref 0), some (.ref 164), some (.ref 180), some (.int x4), some (.int k153), none]) hM dL_law_2111  (by decide) rfl ?_
  refine aw_aload_n (pc := 2113) (i := 2) (x := 164) hM dL_law_2113 rfl rfl ?_
  refine aw_aload_n (pc := 2114) (i := 0) (x := 181) hM dL_law_2114 rfl rfl ?_
  refine aw_iload (pc := 2115) (i := 4) (x := x4) hM dL_law_2115  rfl ?_
  refine aw_iconst (pc := 2117) (v := 1) hM dL_law_2117 (by decide) ?_
  refine aw_iadd (pc := 2118) hM dL_law_2118 ?_
  obtain ⟨c158, h⟩ := ite_some h
  refine aw_sld (pc := 2119) hM hX c158 dL_law_2119 ?_
  refine aw_aload_n (pc := 2120) (i := 0) (x := 181) hM dL_law_2120 rfl rfl ?_
  refine aw_iload (pc := 2121) (i := 4) (x := x4) hM dL_law_2121  rfl ?_
  refine aw_iconst (pc := 2123) (v := 2) hM dL_law_2123 (by decide) ?_
  refine aw_iadd (pc := 2124) hM dL_law_2124 ?_
  obtain ⟨c159, h⟩ := ite_some h
  refine aw_sld (pc := 2125) hM hX c159 dL_law_2125 ?_
  obtain ⟨z162, h160, h⟩ := bind_some h
  refine aw_cv1 (pc := 2126) (n := 2) (As := [.int (xs (ix (x4 + 1))), .int (xs (ix (x4 + 2)))]) (st := []) (b := 164) (vo := (some (.int z162.1))) (c2 := (c0 + 2)) (s2 := (s0 + 12)) hM (k_X9_explains h160) rfl cw_L_237 sk_164 rfl rfl (by decide +kernel) rfl rfl ⟨(Nat.le_of_ble_eq_true rfl), (Nat.le_of_ble_eq_true rfl)⟩ (Nat.le_of_ble_eq_true rfl) ⟨by show (c0 + 2) + 0 ≤ 601024; omega, by show (s0 + 12) + 0 ≤ 7293034; omega⟩ dL_law_2126 rfl rfl ?_
  refine aw_istore (pc := 2129) (i := 6) (L' := [some (.ref 181), some (.ref 0), some (.ref 164), some (.ref 180), some (.int x4), some (.int k153), some (.int z162.1)]) hM dL_law_2129  (by decide) rfl ?_
  refine aw_aload_n (pc := 2131) (i := 2) (x := 164) hM dL_law_2131 rfl rfl ?_
  obtain ⟨r164, h163, h⟩ := bind_some h
  refine aw_cv1 (pc := 2132) (n := 0) (As := []) (st := []) (b := 164) (vo := (some (.int r164))) (c2 := (c0 + 2)) (s2 := (s0 + 12)) hM (k_X9_thrown h163) rfl cw_L_135 sk_164 rfl rfl (by decide +kernel) rfl rfl ⟨(Nat.le_of_ble_eq_true rfl), (Nat.le_of_ble_eq_true rfl)⟩ (Nat.le_of_ble_eq_true rfl) ⟨by show (c0 + 2) + 0 ≤ 601024; omega, by show (s0 + 12) + 0 ≤ 7293034; omega⟩ dL_law_2132 rfl rfl ?_
  refine aw_iload (pc := 2135) (i := 5) (x := k153) hM dL_law_2135  rfl ?_
  refine aw_icmp_eq (pc := 2137) (tgt := 2142) hM dL_law_2137 (by decide) (fun c165 => ?_) (fun c165 => ?_)
  · rw [if_pos c165] at h
    refine aw_iload (pc := 2142) (i := 5) (x := k153) hM dL_law_2142  rfl ?_
    refine aw_if_ne (pc := 2144) (tgt := 2159) hM dL_law_2144 (by decide) (fun c166 => ?_) (fun c166 => ?_)
    · rw [if_neg c166] at h
      refine aw_goto (pc := 2159) (tgt := 2530) hM dL_law_2159 (by decide) ?_
      obtain ⟨y167, e168, h⟩ := bind_some h
      have e168 := Option.some.inj e168
      refine aw_iinc (pc := 2530) (v := y167) (L' := [some (.ref 181), some (.ref 0), some (.ref 164), some (.ref 180), some (.int y167), some (.int k153), some (.int z162.1)]) hM dL_law_2530 rfl e168 (by decide) rfl ?_
      refine aw_goto (pc := 2533) (tgt := 23) hM dL_law_2533 (by decide) ?_
      refine aw_weak (L' := [some (.ref 181), some (.ref 0), some (.ref 164), some (.ref 180), some (.int y167), none, none]) ?_ (lw_of [true, true, true, true, true, false, false] rfl)
      exact hk23 z162.2 G156 y167 _ _ (by omega) (by omega) h
    · rw [if_pos c166] at h
      refine aw_aload_n (pc := 2147) (i := 3) (x := 180) hM dL_law_2147 rfl rfl ?_
      refine aw_iconst (pc := 2148) (v := 0) hM dL_law_2148 (by decide) ?_
      refine aw_lald (pc := 2149) hM sk_180 (by decide) dL_law_2149 ?_
      refine aw_iload (pc := 2150) (i := 6) (x := z162.1) hM dL_law_2150  rfl ?_
      refine aw_i2l (pc := 2152) hM dL_law_2152 ?_
      refine aw_lcmp (pc := 2153) hM dL_law_2153 ?_
      refine aw_if_eq (pc := 2154) (tgt := 2159) hM dL_law_2154 (by decide) (fun c169 => ?_) (fun c169 => ?_)
      · rw [if_pos c169] at h
        refine aw_goto (pc := 2159) (tgt := 2530) hM dL_law_2159 (by decide) ?_
        obtain ⟨y170, e171, h⟩ := bind_some h
        have e171 := Option.some.inj e171
        refine aw_iinc (pc := 2530) (v := y170) (L' := [some (.ref 181), some (.ref 0), some (.ref 164), some (.ref 180), some (.int y170), some (.int k153), some (.int z162.1)]) hM dL_law_2530 rfl e171 (by decide) rfl ?_
        refine aw_goto (pc := 2533) (tgt := 23) hM dL_law_2533 (by decide) ?_
        refine aw_weak (L' := [some (.ref 181), some (.ref 0), some (.ref 164), some (.ref 180), some (.int y170), none, none]) ?_ (lw_of [true, true, true, true, true, false, false] rfl)
        exact hk23 z162.2 G156 y170 _ _ (by omega) (by omega) h
      · rw [if_neg c169] at h
        refine aw_iconst (pc := 2157) (v := 0) hM dL_law_2157 (by decide) ?_
        exact absurd h (by decide)
  · rw [if_neg c165] at h
    refine aw_iconst (pc := 2140) (v := 0) hM dL_law_2140 (by decide) ?_
    exact absurd h (by decide)
set_option maxRecDepth 20000 in
set_option maxHeartbeats 4000000 in
theorem k_L_law_b2162 {C : CX} {M : MX} {Len : Nat} {xs : Nat → Int32} {k23 : MM → GG → Int32 → Option Int32} {n c0 s0 : Nat} (hM : MOk C RL cL_law 7 ret room_1 M) (hX : LawX C M Len xs) (hk23 : ∀ (wF : MM) (wG : GG) (w0 : Int32) (c1 s1 : Nat), c1 + 60 * n ≤ 601024 → s1 + 600 * n ≤ 7293034 → k23 wF wG w0 = some 1 → AW C 7 (ZL M) M c1 s1 23 [some (.ref 181), some (.ref 0), some (.ref 164), some (.ref 180), some (.int w0), none, none] [] wF wG) (hc0 : c0 + 60 * n + 50 ≤ 601024) (hs0 : s0 + 600 * n + 500 ≤ 7293034) (F : MM) (G : GG) (x4 : Int32) (h : s_L_law_b2162 Len xs k23 F G x4 = some 1) : AW C 7 (ZL M) M (c0 + 0) (s0 + 0) 2162 [some (.ref 181), some (.ref 0), some (.ref 164), some (.ref 180), some (.int x4), none, none] [] F G := by
  rw [s_L_law_b2162] at h
  refine aw_aload_n (pc := 2162) (i := 1) (x := 0) hM dL_law_2162 rfl rfl ?_
  refine aw_aload_n (pc := 2163) (i := 0) (x := 181) hM dL_law_2163 rfl rfl ?_
  refine aw_iload (pc := 2164) (i := 4) (x := x4) hM dL_law_2164  rfl ?_
  refine aw_iconst (pc := 2166) (v := 1) hM dL_law_2166 (by decide) ?_
  refine aw_iadd (pc := 2167) hM dL_law_2167 ?_
  obtain ⟨c130, h⟩ := ite_some h
  refine aw_sld (pc := 2168) hM hX c130 dL_law_2168 ?_
  refine aw_aload_n (pc := 2169) (i := 3) (x := 180) hM dL_law_2169 rfl rfl ?_
  obtain ⟨z131, h133, h⟩ := bind_some h
  obtain ⟨k132, h134, h⟩ := bind_some h
  refine aw_csW (pc := 2170) (n := 3) (As := [.ref 0, .int (xs (ix (x4 + 1))), .ref 180]) (st := []) (vo := some (.int k132)) (c2 := (c0 + 1)) (s2 := (s0 + 6)) hM (k_L_ranked h133 h134) cw_L_238 (by decide +kernel) rfl rfl ⟨(Nat.le_of_ble_eq_true rfl), (Nat.le_of_ble_eq_true rfl)⟩ (Nat.le_of_ble_eq_true rfl) ⟨by show (c0 + 0) + 1 ≤ 601024; omega, by show (s0 + 0) + 6 ≤ 7293034; omega⟩ dL_law_2170 rfl rfl ?_
  obtain ⟨G135, e136, h⟩ := bind_some h
  have e136 := Option.some.inj e136
  refine aw_memG e136 ?_
  refine aw_istore (pc := 2173) (i := 5) (L' := [some (.ref 181), some (.ref 0), some (.ref 164), some (.ref 180), some (.int x4), some (.int k132), none]) hM dL_law_2173  (by decide) rfl ?_
  refine aw_aload_n (pc := 2175) (i := 2) (x := 164) hM dL_law_2175 rfl rfl ?_
  refine aw_aload_n (pc := 2176) (i := 0) (x := 181) hM dL_law_2176 rfl rfl ?_
  refine aw_iload (pc := 2177) (i := 4) (x := x4) hM dL_law_2177  rfl ?_
  refine aw_iconst (pc := 2179) (v := 1) hM dL_law_2179 (by decide) ?_
  refine aw_iadd (pc := 2180) hM dL_law_2180 ?_
  obtain ⟨c137, h⟩ := ite_some h
  refine aw_sld (pc := 2181) hM hX c137 dL_law_2181 ?_
  obtain ⟨z140, h138, h⟩ := bind_some h
  refine aw_cv1 (pc := 2182) (n := 1) (As := [.int (xs (ix (x4 + 1)))]) (st := []) (b := 164) (vo := (some (.int z140.1))) (c2 := (c0 + 1)) (s2 := (s0 + 6)) hM (k_X9_ranked h138) rfl cw_L_240 sk_164 rfl rfl (by decide +kernel) rfl rfl ⟨(Nat.le_of_ble_eq_true rfl), (Nat.le_of_ble_eq_true rfl)⟩ (Nat.le_of_ble_eq_true rfl) ⟨by show (c0 + 1) + 0 ≤ 601024; omega, by show (s0 + 6) + 0 ≤ 7293034; omega⟩ dL_law_2182 rfl rfl ?_
  refine aw_istore (pc := 2185) (i := 6) (L' := [some (.ref 181), some (.ref 0), some (.ref 164), some (.ref 180), some (.int x4), some (.int k132), some (.int z140.1)]) hM dL_law_2185  (by decide) rfl ?_
  refine aw_aload_n (pc := 2187) (i := 2) (x := 164) hM dL_law_2187 rfl rfl ?_
  obtain ⟨r142, h141, h⟩ := bind_some h
  refine aw_cv1 (pc := 2188) (n := 0) (As := []) (st := []) (b := 164) (vo := (some (.int r142))) (c2 := (c0 + 1)) (s2 := (s0 + 6)) hM (k_X9_thrown h141) rfl cw_L_135 sk_164 rfl rfl (by decide +kernel) rfl rfl ⟨(Nat.le_of_ble_eq_true rfl), (Nat.le_of_ble_eq_true rfl)⟩ (Nat.le_of_ble_eq_true rfl) ⟨by show (c0 + 1) + 0 ≤ 601024; omega, by show (s0 + 6) + 0 ≤ 7293034; omega⟩ dL_law_2188 rfl rfl ?_
  refine aw_iload (pc := 2191) (i := 5) (x := k132) hM dL_law_2191  rfl ?_
  refine aw_icmp_eq (pc := 2193) (tgt := 2198) hM dL_law_2193 (by decide) (fun c143 => ?_) (fun c143 => ?_)
  · rw [if_pos c143] at h
    refine aw_iload (pc := 2198) (i := 5) (x := k132) hM dL_law_2198  rfl ?_
    refine aw_if_ne (pc := 2200) (tgt := 2215) hM dL_law_2200 (by decide) (fun c144 => ?_) (fun c144 => ?_)
    · rw [if_neg c144] at h
      refine aw_goto (pc := 2215) (tgt := 2530) hM dL_law_2215 (by decide) ?_
      obtain ⟨y145, e146, h⟩ := bind_some h
      have e146 := Option.some.inj e146
      refine aw_iinc (pc := 2530) (v := y145) (L' := [some (.ref 181), some (.ref 0), some (.ref 164), some (.ref 180), some (.int y145), some (.int k132), some (.int z140.1)]) hM dL_law_2530 rfl e146 (by decide) rfl ?_
      refine aw_goto (pc := 2533) (tgt := 23) hM dL_law_2533 (by decide) ?_
      refine aw_weak (L' := [some (.ref 181), some (.ref 0), some (.ref 164), some (.ref 180), some (.int y145), none, none]) ?_ (lw_of [true, true, true, true, true, false, false] rfl)
      exact hk23 z140.2 G135 y145 _ _ (by omega) (by omega) h
    · rw [if_pos c144] at h
      refine aw_aload_n (pc := 2203) (i := 3) (x := 180) hM dL_law_2203 rfl rfl ?_
      refine aw_iconst (pc := 2204) (v := 0) hM dL_law_2204 (by decide) ?_
      refine aw_lald (pc := 2205) hM sk_180 (by decide) dL_law_2205 ?_
      refine aw_iload (pc := 2206) (i := 6) (x := z140.1) hM dL_law_2206  rfl ?_
      refine aw_i2l (pc := 2208) hM dL_law_2208 ?_
      refine aw_lcmp (pc := 2209) hM dL_law_2209 ?_
      refine aw_if_eq (pc := 2210) (tgt := 2215) hM dL_law_2210 (by decide) (fun c147 => ?_) (fun c147 => ?_)
      · rw [if_pos c147] at h
        refine aw_goto (pc := 2215) (tgt := 2530) hM dL_law_2215 (by decide) ?_
        obtain ⟨y148, e149, h⟩ := bind_some h
        have e149 := Option.some.inj e149
        refine aw_iinc (pc := 2530) (v := y148) (L' := [some (.ref 181), some (.ref 0), some (.ref 164), some (.ref 180), some (.int y148), some (.int k132), some (.int z140.1)]) hM dL_law_2530 rfl e149 (by decide) rfl ?_
        refine aw_goto (pc := 2533) (tgt := 23) hM dL_law_2533 (by decide) ?_
        refine aw_weak (L' := [some (.ref 181), some (.ref 0), some (.ref 164), some (.ref 180), some (.int y148), none, none]) ?_ (lw_of [true, true, true, true, true, false, false] rfl)
        exact hk23 z140.2 G135 y148 _ _ (by omega) (by omega) h
      · rw [if_neg c147] at h
        refine aw_iconst (pc := 2213) (v := 0) hM dL_law_2213 (by decide) ?_
        exact absurd h (by decide)
  · rw [if_neg c143] at h
    refine aw_iconst (pc := 2196) (v := 0) hM dL_law_2196 (by decide) ?_
    exact absurd h (by decide)
set_option maxRecDepth 20000 in
set_option maxHeartbeats 4000000 in
theorem k_L_law_b2218 {C : CX} {M : MX} {Len : Nat} {xs : Nat → Int32} {k23 : MM → GG → Int32 → Option Int32} {n c0 s0 : Nat} (hM : MOk C RL cL_law 7 ret room_1 M) (hX : LawX C M Len xs) (hk23 : ∀ (wF : MM) (wG : GG) (w0 : Int32) (c1 s1 : Nat), c1 + 60 * n ≤ 601024 → s1 + 600 * n ≤ 7293034 → k23 wF wG w0 = some 1 → AW C 7 (ZL M) M c1 s1 23 [some (.ref 181), some (.ref 0), some (.ref 164), some (.ref 180), some (.int w0), none, none] [] wF wG) (hc0 : c0 + 60 * n + 50 ≤ 601024) (hs0 : s0 + 600 * n + 500 ≤ 7293034) (F : MM) (G : GG) (x4 : Int32) (h : s_L_law_b2218 Len xs k23 F G x4 = some 1) : AW C 7 (ZL M) M (c0 + 0) (s0 + 0) 2218 [some (.ref 181), some (.ref 0), some (.ref 164), some (.ref 180), some (.int x4), none, none] [] F G := by
  rw [s_L_law_b2218] at h
  refine aw_aload_n (pc := 2218) (i := 1) (x := 0) hM dL_law_2218 rfl rfl ?_
  refine aw_aload_n (pc := 2219) (i := 0) (x := 181) hM dL_law_2219 rfl rfl ?_
  refine aw_iload (pc := 2220) (i := 4) (x := x4) hM dL_law_2220  rfl ?_
  refine aw_iconst (pc := 2222) (v := 1) hM dL_law_2222 (by decide) ?_
  refine aw_iadd (pc := 2223) hM dL_law_2223 ?_
  obtain ⟨c106, h⟩ := ite_some h
  refine aw_sld (pc := 2224) hM hX c106 dL_law_2224 ?_
  refine aw_aload_n (pc := 2225) (i := 0) (x := 181) hM dL_law_2225 rfl rfl ?_
  refine aw_iload (pc := 2226) (i := 4) (x := x4) hM dL_law_2226  rfl ?_
  refine aw_iconst (pc := 2228) (v := 2) hM dL_law_2228 (by decide) ?_
  refine aw_iadd (pc := 2229) hM dL_law_2229 ?_
  obtain ⟨c107, h⟩ := ite_some h
  refine aw_sld (pc := 2230) hM hX c107 dL_law_2230 ?_
  refine aw_i2l (pc := 2231) hM dL_law_2231 ?_
  refine aw_bipush (pc := 2232) (v := 32) hM dL_law_2232 (by decide) ?_
  refine aw_lshl (pc := 2234) hM dL_law_2234 ?_
  refine aw_aload_n (pc := 2235) (i := 0) (x := 181) hM dL_law_2235 rfl rfl ?_
  refine aw_iload (pc := 2236) (i := 4) (x := x4) hM dL_law_2236  rfl ?_
  refine aw_iconst (pc := 2238) (v := 3) hM dL_law_2238 (by decide) ?_
  refine aw_iadd (pc := 2239) hM dL_law_2239 ?_
  obtain ⟨c108, h⟩ := ite_some h
  refine aw_sld (pc := 2240) hM hX c108 dL_law_2240 ?_
  refine aw_i2l (pc := 2241) hM dL_law_2241 ?_
  refine aw_ldc2 (pc := 2242) hM gw_1423 dL_law_2242 ?_
  refine aw_land (pc := 2245) hM dL_law_2245 ?_
  refine aw_lor (pc := 2246) hM dL_law_2246 ?_
  refine aw_aload_n (pc := 2247) (i := 3) (x := 180) hM dL_law_2247 rfl rfl ?_
  obtain ⟨z109, h111, h⟩ := bind_some h
  obtain ⟨k110, h112, h⟩ := bind_some h
  refine aw_csW (pc := 2248) (n := 4) (As := [.ref 0, .int (xs (ix (x4 + 1))), .long (((Int32.toInt64 (xs (ix (x4 + 2)))) <<< ((Int32.toInt64 32) &&& 63)) ||| ((Int32.toInt64 (xs (ix (x4 + 3)))) &&& 4294967295)), .ref 180]) (st := []) (vo := some (.int k110)) (c2 := (c0 + 2)) (s2 := (s0 + 12)) hM (k_L_runScript h111 h112) cw_L_243 (by decide +kernel) rfl rfl ⟨(Nat.le_of_ble_eq_true rfl), (Nat.le_of_ble_eq_true rfl)⟩ (Nat.le_of_ble_eq_true rfl) ⟨by show (c0 + 0) + 2 ≤ 601024; omega, by show (s0 + 0) + 12 ≤ 7293034; omega⟩ dL_law_2248 rfl rfl ?_
  obtain ⟨G113, e114, h⟩ := bind_some h
  have e114 := Option.some.inj e114
  refine aw_memG e114 ?_
  refine aw_istore (pc := 2251) (i := 5) (L' := [some (.ref 181), some (.ref 0), some (.ref 164), some (.ref 180), some (.int x4), some (.int k110), none]) hM dL_law_2251  (by decide) rfl ?_
  refine aw_aload_n (pc := 2253) (i := 2) (x := 164) hM dL_law_2253 rfl rfl ?_
  refine aw_aload_n (pc := 2254) (i := 0) (x := 181) hM dL_law_2254 rfl rfl ?_
  refine aw_iload (pc := 2255) (i := 4) (x := x4) hM dL_law_2255  rfl ?_
  refine aw_iconst (pc := 2257) (v := 1) hM dL_law_2257 (by decide) ?_
  refine aw_iadd (pc := 2258) hM dL_law_2258 ?_
  obtain ⟨c115, h⟩ := ite_some h
  refine aw_sld (pc := 2259) hM hX c115 dL_law_2259 ?_
  refine aw_aload_n (pc := 2260) (i := 0) (x := 181) hM dL_law_2260 rfl rfl ?_
  refine aw_iload (pc := 2261) (i := 4) (x := x4) hM dL_law_2261  rfl ?_
  refine aw_iconst (pc := 2263) (v := 2) hM dL_law_2263 (by decide) ?_
  refine aw_iadd (pc := 2264) hM dL_law_2264 ?_
  obtain ⟨c116, h⟩ := ite_some h
  refine aw_sld (pc := 2265) hM hX c116 dL_law_2265 ?_
  refine aw_i2l (pc := 2266) hM dL_law_2266 ?_
  refine aw_bipush (pc := 2267) (v := 32) hM dL_law_2267 (by decide) ?_
  refine aw_lshl (pc := 2269) hM dL_law_2269 ?_
  refine aw_aload_n (pc := 2270) (i := 0) (x := 181) hM dL_law_2270 rfl rfl ?_
  refine aw_iload (pc := 2271) (i := 4) (x := x4) hM dL_law_2271  rfl ?_
  refine aw_iconst (pc := 2273) (v := 3) hM dL_law_2273 (by decide) ?_
  refine aw_iadd (pc := 2274) hM dL_law_2274 ?_
  obtain ⟨c117, h⟩ := ite_some h
  refine aw_sld (pc := 2275) hM hX c117 dL_law_2275 ?_
  refine aw_i2l (pc := 2276) hM dL_law_2276 ?_
  refine aw_ldc2 (pc := 2277) hM gw_1423 dL_law_2277 ?_
  refine aw_land (pc := 2280) hM dL_law_2280 ?_
  refine aw_lor (pc := 2281) hM dL_law_2281 ?_
  obtain ⟨z120, h118, h⟩ := bind_some h
  refine aw_cv1 (pc := 2282) (n := 2) (As := [.int (xs (ix (x4 + 1))), .long (((Int32.toInt64 (xs (ix (x4 + 2)))) <<< ((Int32.toInt64 32) &&& 63)) ||| ((Int32.toInt64 (xs (ix (x4 + 3)))) &&& 4294967295))]) (st := []) (b := 164) (vo := (some (.int z120.1))) (c2 := (c0 + 2)) (s2 := (s0 + 12)) hM (k_X9_runScript h118) rfl cw_L_246 sk_164 rfl rfl (by decide +kernel) rfl rfl ⟨(Nat.le_of_ble_eq_true rfl), (Nat.le_of_ble_eq_true rfl)⟩ (Nat.le_of_ble_eq_true rfl) ⟨by show (c0 + 2) + 0 ≤ 601024; omega, by show (s0 + 12) + 0 ≤ 7293034; omega⟩ dL_law_2282 rfl rfl ?_
  refine aw_istore (pc := 2285) (i := 6) (L' := [some (.ref 181), some (.ref 0), some (.ref 164), some (.ref 180), some (.int x4), some (.int k110), some (.int z120.1)]) hM dL_law_2285  (by decide) rfl ?_
  refine aw_aload_n (pc := 2287) (i := 2) (x := 164) hM dL_law_2287 rfl rfl ?_
  obtain ⟨r122, h121, h⟩ := bind_some h
  refine aw_cv1 (pc := 2288) (n := 0) (As := []) (st := []) (b := 164) (vo := (some (.int r122))) (c2 := (c0 + 2)) (s2 := (s0 + 12)) hM (k_X9_thrown h121) rfl cw_L_135 sk_164 rfl rfl (by decide +kernel) rfl rfl ⟨(Nat.le_of_ble_eq_true rfl), (Nat.le_of_ble_eq_true rfl)⟩ (Nat.le_of_ble_eq_true rfl) ⟨by show (c0 + 2) + 0 ≤ 601024; omega, by show (s0 + 12) + 0 ≤ 7293034; omega⟩ dL_law_2288 rfl rfl ?_
  refine aw_iload (pc := 2291) (i := 5) (x := k110) hM dL_law_2291  rfl ?_
  refine aw_icmp_eq (pc := 2293) (tgt := 2298) hM dL_law_2293 (by decide) (fun c123 => ?_) (fun c123 => ?_)
  · rw [if_pos c123] at h
    refine aw_iload (pc := 2298) (i := 5) (x := k110) hM dL_law_2298  rfl ?_
    refine aw_if_ne (pc := 2300) (tgt := 2315) hM dL_law_2300 (by decide) (fun c124 => ?_) (fun c124 => ?_)
    · rw [if_neg c124] at h
      refine aw_goto (pc := 2315) (tgt := 2530) hM dL_law_2315 (by decide) ?_
      obtain ⟨y125, e126, h⟩ := bind_some h
      have e126 := Option.some.inj e126
      refine aw_iinc (pc := 2530) (v := y125) (L' := [some (.ref 181), some (.ref 0), some (.ref 164), some (.ref 180), some (.int y125), some (.int k110), some (.int z120.1)]) hM dL_law_2530 rfl e126 (by decide) rfl ?_
      refine aw_goto (pc := 2533) (tgt := 23) hM dL_law_2533 (by decide) ?_
      refine aw_weak (L' := [some (.ref 181), some (.ref 0), some (.ref 164), some (.ref 180), some (.int y125), none, none]) ?_ (lw_of [true, true, true, true, true, false, false] rfl)
      exact hk23 z120.2 G113 y125 _ _ (by omega) (by omega) h
    · rw [if_pos c124] at h
      refine aw_aload_n (pc := 2303) (i := 3) (x := 180) hM dL_law_2303 rfl rfl ?_
      refine aw_iconst (pc := 2304) (v := 0) hM dL_law_2304 (by decide) ?_
      refine aw_lald (pc := 2305) hM sk_180 (by decide) dL_law_2305 ?_
      refine aw_iload (pc := 2306) (i := 6) (x := z120.1) hM dL_law_2306  rfl ?_
      refine aw_i2l (pc := 2308) hM dL_law_2308 ?_
      refine aw_lcmp (pc := 2309) hM dL_law_2309 ?_
      refine aw_if_eq (pc := 2310) (tgt := 2315) hM dL_law_2310 (by decide) (fun c127 => ?_) (fun c127 => ?_)
      · rw [if_pos c127] at h
        refine aw_goto (pc := 2315) (tgt := 2530) hM dL_law_2315 (by decide) ?_
        obtain ⟨y128, e129, h⟩ := bind_some h
        have e129 := Option.some.inj e129
        refine aw_iinc (pc := 2530) (v := y128) (L' := [some (.ref 181), some (.ref 0), some (.ref 164), some (.ref 180), some (.int y128), some (.int k110), some (.int z120.1)]) hM dL_law_2530 rfl e129 (by decide) rfl ?_
        refine aw_goto (pc := 2533) (tgt := 23) hM dL_law_2533 (by decide) ?_
        refine aw_weak (L' := [some (.ref 181), some (.ref 0), some (.ref 164), some (.ref 180), some (.int y128), none, none]) ?_ (lw_of [true, true, true, true, true, false, false] rfl)
        exact hk23 z120.2 G113 y128 _ _ (by omega) (by omega) h
      · rw [if_neg c127] at h
        refine aw_iconst (pc := 2313) (v := 0) hM dL_law_2313 (by decide) ?_
        exact absurd h (by decide)
  · rw [if_neg c123] at h
    refine aw_iconst (pc := 2296) (v := 0) hM dL_law_2296 (by decide) ?_
    exact absurd h (by decide)
set_option maxRecDepth 20000 in
set_option maxHeartbeats 4000000 in
theorem k_L_law_b2318 {C : CX} {M : MX} {Len : Nat} {xs : Nat → Int32} {k23 : MM → GG → Int32 → Option Int32} {n c0 s0 : Nat} (hM : MOk C RL cL_law 7 ret room_1 M) (hX : LawX C M Len xs) (hk23 : ∀ (wF : MM) (wG : GG) (w0 : Int32) (c1 s1 : Nat), c1 + 60 * n ≤ 601024 → s1 + 600 * n ≤ 7293034 → k23 wF wG w0 = some 1 → AW C 7 (ZL M) M c1 s1 23 [some (.ref 181), some (.ref 0), some (.ref 164), some (.ref 180), some (.int w0), none, none] [] wF wG) (hc0 : c0 + 60 * n + 50 ≤ 601024) (hs0 : s0 + 600 * n + 500 ≤ 7293034) (F : MM) (G : GG) (x4 : Int32) (h : s_L_law_b2318 Len xs k23 F G x4 = some 1) : AW C 7 (ZL M) M (c0 + 0) (s0 + 0) 2318 [some (.ref 181), some (.ref 0), some (.ref 164), some (.ref 180), some (.int x4), none, none] [] F G := by
  rw [s_L_law_b2318] at h
  refine aw_aload_n (pc := 2318) (i := 1) (x := 0) hM dL_law_2318 rfl rfl ?_
  refine aw_aload_n (pc := 2319) (i := 0) (x := 181) hM dL_law_2319 rfl rfl ?_
  refine aw_iload (pc := 2320) (i := 4) (x := x4) hM dL_law_2320  rfl ?_
  refine aw_iconst (pc := 2322) (v := 1) hM dL_law_2322 (by decide) ?_
  refine aw_iadd (pc := 2323) hM dL_law_2323 ?_
  obtain ⟨c82, h⟩ := ite_some h
  refine aw_sld (pc := 2324) hM hX c82 dL_law_2324 ?_
  refine aw_i2l (pc := 2325) hM dL_law_2325 ?_
  refine aw_bipush (pc := 2326) (v := 32) hM dL_law_2326 (by decide) ?_
  refine aw_lshl (pc := 2328) hM dL_law_2328 ?_
  refine aw_aload_n (pc := 2329) (i := 0) (x := 181) hM dL_law_2329 rfl rfl ?_
  refine aw_iload (pc := 2330) (i := 4) (x := x4) hM dL_law_2330  rfl ?_
  refine aw_iconst (pc := 2332) (v := 2) hM dL_law_2332 (by decide) ?_
  refine aw_iadd (pc := 2333) hM dL_law_2333 ?_
  obtain ⟨c83, h⟩ := ite_some h
  refine aw_sld (pc := 2334) hM hX c83 dL_law_2334 ?_
  refine aw_i2l (pc := 2335) hM dL_law_2335 ?_
  refine aw_ldc2 (pc := 2336) hM gw_1423 dL_law_2336 ?_
  refine aw_land (pc := 2339) hM dL_law_2339 ?_
  refine aw_lor (pc := 2340) hM dL_law_2340 ?_
  refine aw_aload_n (pc := 2341) (i := 0) (x := 181) hM dL_law_2341 rfl rfl ?_
  refine aw_iload (pc := 2342) (i := 4) (x := x4) hM dL_law_2342  rfl ?_
  refine aw_iconst (pc := 2344) (v := 3) hM dL_law_2344 (by decide) ?_
  refine aw_iadd (pc := 2345) hM dL_law_2345 ?_
  obtain ⟨c84, h⟩ := ite_some h
  refine aw_sld (pc := 2346) hM hX c84 dL_law_2346 ?_
  refine aw_aload_n (pc := 2347) (i := 3) (x := 180) hM dL_law_2347 rfl rfl ?_
  obtain ⟨z85, h87, h⟩ := bind_some h
  obtain ⟨k86, h88, h⟩ := bind_some h
  refine aw_csW (pc := 2348) (n := 4) (As := [.ref 0, .long (((Int32.toInt64 (xs (ix (x4 + 1)))) <<< ((Int32.toInt64 32) &&& 63)) ||| ((Int32.toInt64 (xs (ix (x4 + 2)))) &&& 4294967295)), .int (xs (ix (x4 + 3))), .ref 180]) (st := []) (vo := some (.int k86)) (c2 := (c0 + 1)) (s2 := (s0 + 6)) hM (k_L_simulate h87 h88) cw_L_247 (by decide +kernel) rfl rfl ⟨(Nat.le_of_ble_eq_true rfl), (Nat.le_of_ble_eq_true rfl)⟩ (Nat.le_of_ble_eq_true rfl) ⟨by show (c0 + 0) + 1 ≤ 601024; omega, by show (s0 + 0) + 6 ≤ 7293034; omega⟩ dL_law_2348 rfl rfl ?_
  obtain ⟨G89, e90, h⟩ := bind_some h
  have e90 := Option.some.inj e90
  refine aw_memG e90 ?_
  refine aw_istore (pc := 2351) (i := 5) (L' := [some (.ref 181), some (.ref 0), some (.ref 164), some (.ref 180), some (.int x4), some (.int k86), none]) hM dL_law_2351  (by decide) rfl ?_
  refine aw_aload_n (pc := 2353) (i := 2) (x := 164) hM dL_law_2353 rfl rfl ?_
  refine aw_aload_n (pc := 2354) (i := 0) (x := 181) hM dL_law_2354 rfl rfl ?_
  refine aw_iload (pc := 2355) (i := 4) (x := x4) hM dL_law_2355  rfl ?_
  refine aw_iconst (pc := 2357) (v := 1) hM dL_law_2357 (by decide) ?_
  refine aw_iadd (pc := 2358) hM dL_law_2358 ?_
  obtain ⟨c91, h⟩ := ite_some h
  refine aw_sld (pc := 2359) hM hX c91 dL_law_2359 ?_
  refine aw_i2l (pc := 2360) hM dL_law_2360 ?_
  refine aw_bipush (pc := 2361) (v := 32) hM dL_law_2361 (by decide) ?_
  refine aw_lshl (pc := 2363) hM dL_law_2363 ?_
  refine aw_aload_n (pc := 2364) (i := 0) (x := 181) hM dL_law_2364 rfl rfl ?_
  refine aw_iload (pc := 2365) (i := 4) (x := x4) hM dL_law_2365  rfl ?_
  refine aw_iconst (pc := 2367) (v := 2) hM dL_law_2367 (by decide) ?_
  refine aw_iadd (pc := 2368) hM dL_law_2368 ?_
  obtain ⟨c92, h⟩ := ite_some h
  refine aw_sld (pc := 2369) hM hX c92 dL_law_2369 ?_
  refine aw_i2l (pc := 2370) hM dL_law_2370 ?_
  refine aw_ldc2 (pc := 2371) hM gw_1423 dL_law_2371 ?_
  refine aw_land (pc := 2374) hM dL_law_2374 ?_
  refine aw_lor (pc := 2375) hM dL_law_2375 ?_
  refine aw_aload_n (pc := 2376) (i := 0) (x := 181) hM dL_law_2376 rfl rfl ?_
  refine aw_iload (pc := 2377) (i := 4) (x := x4) hM dL_law_2377  rfl ?_
  refine aw_iconst (pc := 2379) (v := 3) hM dL_law_2379 (by decide) ?_
  refine aw_iadd (pc := 2380) hM dL_law_2380 ?_
  obtain ⟨c93, h⟩ := ite_some h
  refine aw_sld (pc := 2381) hM hX c93 dL_law_2381 ?_
  obtain ⟨z96, h94, h⟩ := bind_some h
  refine aw_cv1 (pc := 2382) (n := 2) (As := [.long (((Int32.toInt64 (xs (ix (x4 + 1)))) <<< ((Int32.toInt64 32) &&& 63)) ||| ((Int32.toInt64 (xs (ix (x4 + 2)))) &&& 4294967295)), .int (xs (ix (x4 + 3)))]) (st := []) (b := 164) (vo := (some (.int z96.1))) (c2 := (c0 + 1)) (s2 := (s0 + 6)) hM (k_X9_simulate h94) rfl cw_L_250 sk_164 rfl rfl (by decide +kernel) rfl rfl ⟨(Nat.le_of_ble_eq_true rfl), (Nat.le_of_ble_eq_true rfl)⟩ (Nat.le_of_ble_eq_true rfl) ⟨by show (c0 + 1) + 0 ≤ 601024; omega, by show (s0 + 6) + 0 ≤ 7293034; omega⟩ dL_law_2382 rfl rfl ?_
  refine aw_istore (pc := 2385) (i := 6) (L' := [some (.ref 181), some (.ref 0), some (.ref 164), some (.ref 180), some (.int x4), some (.int k86), some (.int z96.1)]) hM dL_law_2385  (by decide) rfl ?_
  refine aw_aload_n (pc := 2387) (i := 2) (x := 164) hM dL_law_2387 rfl rfl ?_
  obtain ⟨r98, h97, h⟩ := bind_some h
  refine aw_cv1 (pc := 2388) (n := 0) (As := []) (st := []) (b := 164) (vo := (some (.int r98))) (c2 := (c0 + 1)) (s2 := (s0 + 6)) hM (k_X9_thrown h97) rfl cw_L_135 sk_164 rfl rfl (by decide +kernel) rfl rfl ⟨(Nat.le_of_ble_eq_true rfl), (Nat.le_of_ble_eq_true rfl)⟩ (Nat.le_of_ble_eq_true rfl) ⟨by show (c0 + 1) + 0 ≤ 601024; omega, by show (s0 + 6) + 0 ≤ 7293034; omega⟩ dL_law_2388 rfl rfl ?_
  refine aw_iload (pc := 2391) (i := 5) (x := k86) hM dL_law_2391  rfl ?_
  refine aw_icmp_eq (pc := 2393) (tgt := 2398) hM dL_law_2393 (by decide) (fun c99 => ?_) (fun c99 => ?_)
  · rw [if_pos c99] at h
    refine aw_iload (pc := 2398) (i := 5) (x := k86) hM dL_law_2398  rfl ?_
    refine aw_if_ne (pc := 2400) (tgt := 2415) hM dL_law_2400 (by decide) (fun c100 => ?_) (fun c100 => ?_)
    · rw [if_neg c100] at h
      refine aw_goto (pc := 2415) (tgt := 2530) hM dL_law_2415 (by decide) ?_
      obtain ⟨y101, e102, h⟩ := bind_some h
      have e102 := Option.some.inj e102
      refine aw_iinc (pc := 2530) (v := y101) (L' := [some (.ref 181), some (.ref 0), some (.ref 164), some (.ref 180), some (.int y101), some (.int k86), some (.int z96.1)]) hM dL_law_2530 rfl e102 (by decide) rfl ?_
      refine aw_goto (pc := 2533) (tgt := 23) hM dL_law_2533 (by decide) ?_
      refine aw_weak (L' := [some (.ref 181), some (.ref 0), some (.ref 164), some (.ref 180), some (.int y101), none, none]) ?_ (lw_of [true, true, true, true, true, false, false] rfl)
      exact hk23 z96.2 G89 y101 _ _ (by omega) (by omega) h
    · rw [if_pos c100] at h
      refine aw_aload_n (pc := 2403) (i := 3) (x := 180) hM dL_law_2403 rfl rfl ?_
      refine aw_iconst (pc := 2404) (v := 0) hM dL_law_2404 (by decide) ?_
      refine aw_lald (pc := 2405) hM sk_180 (by decide) dL_law_2405 ?_
      refine aw_iload (pc := 2406) (i := 6) (x := z96.1) hM dL_law_2406  rfl ?_
      refine aw_i2l (pc := 2408) hM dL_law_2408 ?_
      refine aw_lcmp (pc := 2409) hM dL_law_2409 ?_
      refine aw_if_eq (pc := 2410) (tgt := 2415) hM dL_law_2410 (by decide) (fun c103 => ?_) (fun c103 => ?_)
      · rw [if_pos c103] at h
        refine aw_goto (pc := 2415) (tgt := 2530) hM dL_law_2415 (by decide) ?_
        obtain ⟨y104, e105, h⟩ := bind_some h
        have e105 := Option.some.inj e105
        refine aw_iinc (pc := 2530) (v := y104) (L' := [some (.ref 181), some (.ref 0), some (.ref 164), some (.ref 180), some (.int y104), some (.int k86), some (.int z96.1)]) hM dL_law_2530 rfl e105 (by decide) rfl ?_
        refine aw_goto (pc := 2533) (tgt := 23) hM dL_law_2533 (by decide) ?_
        refine aw_weak (L' := [some (.ref 181), some (.ref 0), some (.ref 164), some (.ref 180), some (.int y104), none, none]) ?_ (lw_of [true, true, true, true, true, false, false] rfl)
        exact hk23 z96.2 G89 y104 _ _ (by omega) (by omega) h
      · rw [if_neg c103] at h
        refine aw_iconst (pc := 2413) (v := 0) hM dL_law_2413 (by decide) ?_
        exact absurd h (by decide)
  · rw [if_neg c99] at h
    refine aw_iconst (pc := 2396) (v := 0) hM dL_law_2396 (by decide) ?_
    exact absurd h (by decide)
set_option maxRecDepth 20000 in
set_option maxHeartbeats 4000000 in
theorem k_L_law_b2418 {C : CX} {M : MX} {Len : Nat} {xs : Nat → Int32} {k23 : MM → GG → Int32 → Option Int32} {n c0 s0 : Nat} (hM : MOk C RL cL_law 7 ret room_1 M) (hX : LawX C M Len xs) (hk23 : ∀ (wF : MM) (wG : GG) (w0 : Int32) (c1 s1 : Nat), c1 + 60 * n ≤ 601024 → s1 + 600 * n ≤ 7293034 → k23 wF wG w0 = some 1 → AW C 7 (ZL M) M c1 s1 23 [some (.ref 181), some (.ref 0), some (.ref 164), some (.ref 180), some (.int w0), none, none] [] wF wG) (hc0 : c0 + 60 * n + 50 ≤ 601024) (hs0 : s0 + 600 * n + 500 ≤ 7293034) (F : MM) (G : GG) (x4 : Int32) (h : s_L_law_b2418 Len xs k23 F G x4 = some 1) : AW C 7 (ZL M) M (c0 + 0) (s0 + 0) 2418 [some (.ref 181), some (.ref 0), some (.ref 164), some (.ref 180), some (.int x4), none, none] [] F G := by
  rw [s_L_law_b2418] at h
  refine aw_aload_n (pc := 2418) (i := 1) (x := 0) hM dL_law_2418 rfl rfl ?_
  refine aw_aload_n (pc := 2419) (i := 0) (x := 181) hM dL_law_2419 rfl rfl ?_
  refine aw_iload (pc := 2420) (i := 4) (x := x4) hM dL_law_2420  rfl ?_
  refine aw_iconst (pc := 2422) (v := 1) hM dL_law_2422 (by decide) ?_
  refine aw_iadd (pc := 2423) hM dL_law_2423 ?_
  obtain ⟨c62, h⟩ := ite_some h
  refine aw_sld (pc := 2424) hM hX c62 dL_law_2424 ?_
  refine aw_aload_n (pc := 2425) (i := 3) (x := 180) hM dL_law_2425 rfl rfl ?_
  obtain ⟨z63, h65, h⟩ := bind_some h
  obtain ⟨k64, h66, h⟩ := bind_some h
  refine aw_csW (pc := 2426) (n := 3) (As := [.ref 0, .int (xs (ix (x4 + 1))), .ref 180]) (st := []) (vo := some (.int k64)) (c2 := (c0 + 1)) (s2 := (s0 + 6)) hM (k_L_save h65 h66) cw_L_251 (by decide +kernel) rfl rfl ⟨(Nat.le_of_ble_eq_true rfl), (Nat.le_of_ble_eq_true rfl)⟩ (Nat.le_of_ble_eq_true rfl) ⟨by show (c0 + 0) + 1 ≤ 601024; omega, by show (s0 + 0) + 6 ≤ 7293034; omega⟩ dL_law_2426 rfl rfl ?_
  obtain ⟨G67, e68, h⟩ := bind_some h
  have e68 := Option.some.inj e68
  refine aw_memG e68 ?_
  refine aw_istore (pc := 2429) (i := 5) (L' := [some (.ref 181), some (.ref 0), some (.ref 164), some (.ref 180), some (.int x4), some (.int k64), none]) hM dL_law_2429  (by decide) rfl ?_
  refine aw_aload_n (pc := 2431) (i := 2) (x := 164) hM dL_law_2431 rfl rfl ?_
  refine aw_aload_n (pc := 2432) (i := 0) (x := 181) hM dL_law_2432 rfl rfl ?_
  refine aw_iload (pc := 2433) (i := 4) (x := x4) hM dL_law_2433  rfl ?_
  refine aw_iconst (pc := 2435) (v := 1) hM dL_law_2435 (by decide) ?_
  refine aw_iadd (pc := 2436) hM dL_law_2436 ?_
  obtain ⟨c69, h⟩ := ite_some h
  refine aw_sld (pc := 2437) hM hX c69 dL_law_2437 ?_
  obtain ⟨z72, h70, h⟩ := bind_some h
  refine aw_cv1 (pc := 2438) (n := 1) (As := [.int (xs (ix (x4 + 1)))]) (st := []) (b := 164) (vo := (some (.int z72.1))) (c2 := (c0 + 1)) (s2 := (s0 + 6)) hM (k_X9_save h70) rfl cw_L_253 sk_164 rfl rfl (by decide +kernel) rfl rfl ⟨(Nat.le_of_ble_eq_true rfl), (Nat.le_of_ble_eq_true rfl)⟩ (Nat.le_of_ble_eq_true rfl) ⟨by show (c0 + 1) + 0 ≤ 601024; omega, by show (s0 + 6) + 0 ≤ 7293034; omega⟩ dL_law_2438 rfl rfl ?_
  refine aw_istore (pc := 2441) (i := 6) (L' := [some (.ref 181), some (.ref 0), some (.ref 164), some (.ref 180), some (.int x4), some (.int k64), some (.int z72.1)]) hM dL_law_2441  (by decide) rfl ?_
  refine aw_aload_n (pc := 2443) (i := 2) (x := 164) hM dL_law_2443 rfl rfl ?_
  obtain ⟨r74, h73, h⟩ := bind_some h
  refine aw_cv1 (pc := 2444) (n := 0) (As := []) (st := []) (b := 164) (vo := (some (.int r74))) (c2 := (c0 + 1)) (s2 := (s0 + 6)) hM (k_X9_thrown h73) rfl cw_L_135 sk_164 rfl rfl (by decide +kernel) rfl rfl ⟨(Nat.le_of_ble_eq_true rfl), (Nat.le_of_ble_eq_true rfl)⟩ (Nat.le_of_ble_eq_true rfl) ⟨by show (c0 + 1) + 0 ≤ 601024; omega, by show (s0 + 6) + 0 ≤ 7293034; omega⟩ dL_law_2444 rfl rfl ?_
  refine aw_iload (pc := 2447) (i := 5) (x := k64) hM dL_law_2447  rfl ?_
  refine aw_icmp_eq (pc := 2449) (tgt := 2454) hM dL_law_2449 (by decide) (fun c75 => ?_) (fun c75 => ?_)
  · rw [if_pos c75] at h
    refine aw_iload (pc := 2454) (i := 5) (x := k64) hM dL_law_2454  rfl ?_
    refine aw_if_ne (pc := 2456) (tgt := 2471) hM dL_law_2456 (by decide) (fun c76 => ?_) (fun c76 => ?_)
    · rw [if_neg c76] at h
      refine aw_goto (pc := 2471) (tgt := 2530) hM dL_law_2471 (by decide) ?_
      obtain ⟨y77, e78, h⟩ := bind_some h
      have e78 := Option.some.inj e78
      refine aw_iinc (pc := 2530) (v := y77) (L' := [some (.ref 181), some (.ref 0), some (.ref 164), some (.ref 180), some (.int y77), some (.int k64), some (.int z72.1)]) hM dL_law_2530 rfl e78 (by decide) rfl ?_
      refine aw_goto (pc := 2533) (tgt := 23) hM dL_law_2533 (by decide) ?_
      refine aw_weak (L' := [some (.ref 181), some (.ref 0), some (.ref 164), some (.ref 180), some (.int y77), none, none]) ?_ (lw_of [true, true, true, true, true, false, false] rfl)
      exact hk23 z72.2 G67 y77 _ _ (by omega) (by omega) h
    · rw [if_pos c76] at h
      refine aw_aload_n (pc := 2459) (i := 3) (x := 180) hM dL_law_2459 rfl rfl ?_
      refine aw_iconst (pc := 2460) (v := 0) hM dL_law_2460 (by decide) ?_
      refine aw_lald (pc := 2461) hM sk_180 (by decide) dL_law_2461 ?_
      refine aw_iload (pc := 2462) (i := 6) (x := z72.1) hM dL_law_2462  rfl ?_
      refine aw_i2l (pc := 2464) hM dL_law_2464 ?_
      refine aw_lcmp (pc := 2465) hM dL_law_2465 ?_
      refine aw_if_eq (pc := 2466) (tgt := 2471) hM dL_law_2466 (by decide) (fun c79 => ?_) (fun c79 => ?_)
      · rw [if_pos c79] at h
        refine aw_goto (pc := 2471) (tgt := 2530) hM dL_law_2471 (by decide) ?_
        obtain ⟨y80, e81, h⟩ := bind_some h
        have e81 := Option.some.inj e81
        refine aw_iinc (pc := 2530) (v := y80) (L' := [some (.ref 181), some (.ref 0), some (.ref 164), some (.ref 180), some (.int y80), some (.int k64), some (.int z72.1)]) hM dL_law_2530 rfl e81 (by decide) rfl ?_
        refine aw_goto (pc := 2533) (tgt := 23) hM dL_law_2533 (by decide) ?_
        refine aw_weak (L' := [some (.ref 181), some (.ref 0), some (.ref 164), some (.ref 180), some (.int y80), none, none]) ?_ (lw_of [true, true, true, true, true, false, false] rfl)
        exact hk23 z72.2 G67 y80 _ _ (by omega) (by omega) h
      · rw [if_neg c79] at h
        refine aw_iconst (pc := 2469) (v := 0) hM dL_law_2469 (by decide) ?_
        exact absurd h (by decide)
  · rw [if_neg c75] at h
    refine aw_iconst (pc := 2452) (v := 0) hM dL_law_2452 (by decide) ?_
    exact absurd h (by decide)
set_option maxRecDepth 20000 in
set_option maxHeartbeats 4000000 in
theorem k_L_law_b2474 {C : CX} {M : MX} {Len : Nat} {xs : Nat → Int32} {k23 : MM → GG → Int32 → Option Int32} {n c0 s0 : Nat} (hM : MOk C RL cL_law 7 ret room_1 M) (hX : LawX C M Len xs) (hk23 : ∀ (wF : MM) (wG : GG) (w0 : Int32) (c1 s1 : Nat), c1 + 60 * n ≤ 601024 → s1 + 600 * n ≤ 7293034 → k23 wF wG w0 = some 1 → AW C 7 (ZL M) M c1 s1 23 [some (.ref 181), some (.ref 0), some (.ref 164), some (.ref 180), some (.int w0), none, none] [] wF wG) (hc0 : c0 + 60 * n + 50 ≤ 601024) (hs0 : s0 + 600 * n + 500 ≤ 7293034) (F : MM) (G : GG) (x4 : Int32) (h : s_L_law_b2474 Len xs k23 F G x4 = some 1) : AW C 7 (ZL M) M (c0 + 0) (s0 + 0) 2474 [some (.ref 181), some (.ref 0), some (.ref 164), some (.ref 180), some (.int x4), none, none] [] F G := by
  rw [s_L_law_b2474] at h
  refine aw_aload_n (pc := 2474) (i := 1) (x := 0) hM dL_law_2474 rfl rfl ?_
  refine aw_aload_n (pc := 2475) (i := 0) (x := 181) hM dL_law_2475 rfl rfl ?_
  refine aw_iload (pc := 2476) (i := 4) (x := x4) hM dL_law_2476  rfl ?_
  refine aw_iconst (pc := 2478) (v := 1) hM dL_law_2478 (by decide) ?_
  refine aw_iadd (pc := 2479) hM dL_law_2479 ?_
  obtain ⟨c42, h⟩ := ite_some h
  refine aw_sld (pc := 2480) hM hX c42 dL_law_2480 ?_
  refine aw_aload_n (pc := 2481) (i := 3) (x := 180) hM dL_law_2481 rfl rfl ?_
  obtain ⟨z43, h45, h⟩ := bind_some h
  obtain ⟨k44, h46, h⟩ := bind_some h
  refine aw_csW (pc := 2482) (n := 3) (As := [.ref 0, .int (xs (ix (x4 + 1))), .ref 180]) (st := []) (vo := some (.int k44)) (c2 := (c0 + 2)) (s2 := (s0 + 12)) hM (k_L_restore h45 h46) cw_L_254 (by decide +kernel) rfl rfl ⟨(Nat.le_of_ble_eq_true rfl), (Nat.le_of_ble_eq_true rfl)⟩ (Nat.le_of_ble_eq_true rfl) ⟨by show (c0 + 0) + 2 ≤ 601024; omega, by show (s0 + 0) + 12 ≤ 7293034; omega⟩ dL_law_2482 rfl rfl ?_
  obtain ⟨G47, e48, h⟩ := bind_some h
  have e48 := Option.some.inj e48
  refine aw_memG e48 ?_
  refine aw_istore (pc := 2485) (i := 5) (L' := [some (.ref 181), some (.ref 0), some (.ref 164), some (.ref 180), some (.int x4), some (.int k44), none]) hM dL_law_2485  (by decide) rfl ?_
  refine aw_aload_n (pc := 2487) (i := 2) (x := 164) hM dL_law_2487 rfl rfl ?_
  refine aw_aload_n (pc := 2488) (i := 0) (x := 181) hM dL_law_2488 rfl rfl ?_
  refine aw_iload (pc := 2489) (i := 4) (x := x4) hM dL_law_2489  rfl ?_
  refine aw_iconst (pc := 2491) (v := 1) hM dL_law_2491 (by decide) ?_
  refine aw_iadd (pc := 2492) hM dL_law_2492 ?_
  obtain ⟨c49, h⟩ := ite_some h
  refine aw_sld (pc := 2493) hM hX c49 dL_law_2493 ?_
  obtain ⟨z52, h50, h⟩ := bind_some h
  refine aw_cv1 (pc := 2494) (n := 1) (As := [.int (xs (ix (x4 + 1)))]) (st := []) (b := 164) (vo := (some (.int z52.1))) (c2 := (c0 + 2)) (s2 := (s0 + 12)) hM (k_X9_restore h50) rfl cw_L_256 sk_164 rfl rfl (by decide +kernel) rfl rfl ⟨(Nat.le_of_ble_eq_true rfl), (Nat.le_of_ble_eq_true rfl)⟩ (Nat.le_of_ble_eq_true rfl) ⟨by show (c0 + 2) + 0 ≤ 601024; omega, by show (s0 + 12) + 0 ≤ 7293034; omega⟩ dL_law_2494 rfl rfl ?_
  refine aw_istore (pc := 2497) (i := 6) (L' := [some (.ref 181), some (.ref 0), some (.ref 164), some (.ref 180), some (.int x4), some (.int k44), some (.int z52.1)]) hM dL_law_2497  (by decide) rfl ?_
  refine aw_aload_n (pc := 2499) (i := 2) (x := 164) hM dL_law_2499 rfl rfl ?_
  obtain ⟨r54, h53, h⟩ := bind_some h
  refine aw_cv1 (pc := 2500) (n := 0) (As := []) (st := []) (b := 164) (vo := (some (.int r54))) (c2 := (c0 + 2)) (s2 := (s0 + 12)) hM (k_X9_thrown h53) rfl cw_L_135 sk_164 rfl rfl (by decide +kernel) rfl rfl ⟨(Nat.le_of_ble_eq_true rfl), (Nat.le_of_ble_eq_true rfl)⟩ (Nat.le_of_ble_eq_true rfl) ⟨by show (c0 + 2) + 0 ≤ 601024; omega, by show (s0 + 12) + 0 ≤ 7293034; omega⟩ dL_law_2500 rfl rfl ?_
  refine aw_iload (pc := 2503) (i := 5) (x := k44) hM dL_law_2503  rfl ?_
  refine aw_icmp_eq (pc := 2505) (tgt := 2510) hM dL_law_2505 (by decide) (fun c55 => ?_) (fun c55 => ?_)
  · rw [if_pos c55] at h
    refine aw_iload (pc := 2510) (i := 5) (x := k44) hM dL_law_2510  rfl ?_
    refine aw_if_ne (pc := 2512) (tgt := 2527) hM dL_law_2512 (by decide) (fun c56 => ?_) (fun c56 => ?_)
    · rw [if_neg c56] at h
      refine aw_goto (pc := 2527) (tgt := 2530) hM dL_law_2527 (by decide) ?_
      obtain ⟨y57, e58, h⟩ := bind_some h
      have e58 := Option.some.inj e58
      refine aw_iinc (pc := 2530) (v := y57) (L' := [some (.ref 181), some (.ref 0), some (.ref 164), some (.ref 180), some (.int y57), some (.int k44), some (.int z52.1)]) hM dL_law_2530 rfl e58 (by decide) rfl ?_
      refine aw_goto (pc := 2533) (tgt := 23) hM dL_law_2533 (by decide) ?_
      refine aw_weak (L' := [some (.ref 181), some (.ref 0), some (.ref 164), some (.ref 180), some (.int y57), none, none]) ?_ (lw_of [true, true, true, true, true, false, false] rfl)
      exact hk23 z52.2 G47 y57 _ _ (by omega) (by omega) h
    · rw [if_pos c56] at h
      refine aw_aload_n (pc := 2515) (i := 3) (x := 180) hM dL_law_2515 rfl rfl ?_
      refine aw_iconst (pc := 2516) (v := 0) hM dL_law_2516 (by decide) ?_
      refine aw_lald (pc := 2517) hM sk_180 (by decide) dL_law_2517 ?_
      refine aw_iload (pc := 2518) (i := 6) (x := z52.1) hM dL_law_2518  rfl ?_
      refine aw_i2l (pc := 2520) hM dL_law_2520 ?_
      refine aw_lcmp (pc := 2521) hM dL_law_2521 ?_
      refine aw_if_eq (pc := 2522) (tgt := 2527) hM dL_law_2522 (by decide) (fun c59 => ?_) (fun c59 => ?_)
      · rw [if_pos c59] at h
        refine aw_goto (pc := 2527) (tgt := 2530) hM dL_law_2527 (by decide) ?_
        obtain ⟨y60, e61, h⟩ := bind_some h
        have e61 := Option.some.inj e61
        refine aw_iinc (pc := 2530) (v := y60) (L' := [some (.ref 181), some (.ref 0), some (.ref 164), some (.ref 180), some (.int y60), some (.int k44), some (.int z52.1)]) hM dL_law_2530 rfl e61 (by decide) rfl ?_
        refine aw_goto (pc := 2533) (tgt := 23) hM dL_law_2533 (by decide) ?_
        refine aw_weak (L' := [some (.ref 181), some (.ref 0), some (.ref 164), some (.ref 180), some (.int y60), none, none]) ?_ (lw_of [true, true, true, true, true, false, false] rfl)
        exact hk23 z52.2 G47 y60 _ _ (by omega) (by omega) h
      · rw [if_neg c59] at h
        refine aw_iconst (pc := 2525) (v := 0) hM dL_law_2525 (by decide) ?_
        exact absurd h (by decide)
  · rw [if_neg c55] at h
    refine aw_iconst (pc := 2508) (v := 0) hM dL_law_2508 (by decide) ?_
    exact absurd h (by decide)
set_option maxRecDepth 20000 in
set_option maxHeartbeats 4000000 in
theorem k_L_law_b23 {C : CX} {M : MX} {Len : Nat} {xs : Nat → Int32} (hM : MOk C RL cL_law 7 ret room_1 M) (hX : LawX C M Len xs) : ∀ (n : Nat) (F : MM) (G : GG) (x4 : Int32) (c0 s0 : Nat), c0 + 60 * n ≤ 601024 → s0 + 600 * n ≤ 7293034 → s_L_law_b23 Len xs n F G x4 = some 1 → AW C 7 (ZL M) M c0 s0 23 [some (.ref 181), some (.ref 0), some (.ref 164), some (.ref 180), some (.int x4), none, none] [] F G := by
  intro n
  induction n with
  | zero => intro F G x4 c0 s0 hc0 hs0 h; exact nomatch h
  | succ n ih =>
    intro F G x4 c0 s0 hc0 hs0 h
    rw [s_L_law_b23] at h
    refine aw_cnt (c2 := c0 + 0) (s2 := s0 + 0) rfl rfl ?_
    refine aw_iload (pc := 23) (i := 4) (x := x4) hM dL_law_23  rfl ?_
    refine aw_aload_n (pc := 25) (i := 0) (x := 181) hM dL_law_25 rfl rfl ?_
    refine aw_slen (pc := 26) hM hX dL_law_26 ?_
    refine aw_iconst (pc := 27) (v := 4) hM dL_law_27 (by decide) ?_
    refine aw_isub (pc := 28) hM dL_law_28 ?_
    refine aw_icmp_gt (pc := 29) (tgt := 2536) hM dL_law_29 (by decide) (fun c1 => ?_) (fun c1 => ?_)
    · rw [if_pos c1] at h
      refine aw_iconst (pc := 2536) (v := 1) hM dL_law_2536 (by decide) ?_
      exact aw_lawret (pc := 2537) hM hX dL_law_2537 (by omega) (by omega)
    · rw [if_neg c1] at h
      refine aw_aload_n (pc := 32) (i := 0) (x := 181) hM dL_law_32 rfl rfl ?_
      refine aw_iload (pc := 33) (i := 4) (x := x4) hM dL_law_33  rfl ?_
      obtain ⟨c2, h⟩ := ite_some h
      refine aw_sld (pc := 35) hM hX c2 dL_law_35 ?_
      refine aw_bipush (pc := 36) (v := 63) hM dL_law_36 (by decide) ?_
      refine aw_iand (pc := 38) hM dL_law_38 ?_
      by_cases c3 : ((xs (ix x4)) &&& 63) = 0
      · rw [if_pos c3] at h
        refine aw_tableIn (pc := 39) (off := 161) (tgt := 200) hM dL_law_39 (by rw [c3]; decide) (by rw [c3]; decide) (by rw [c3]; rfl) (by decide) ?_
        exact k_L_law_b200 (c0 := c0 + 0) (s0 := s0 + 0) hM hX (fun wF wG w0 c1 s1 h7 h8 h9 => ih wF wG w0 c1 s1 h7 h8 h9) (by omega) (by omega) F G x4 h
      rw [if_neg c3] at h
      by_cases c4 : ((xs (ix x4)) &&& 63) = 1
      · rw [if_pos c4] at h
        refine aw_tableIn (pc := 39) (off := 217) (tgt := 256) hM dL_law_39 (by rw [c4]; decide) (by rw [c4]; decide) (by rw [c4]; rfl) (by decide) ?_
        exact k_L_law_b256 (c0 := c0 + 0) (s0 := s0 + 0) hM hX (fun wF wG w0 c1 s1 h7 h8 h9 => ih wF wG w0 c1 s1 h7 h8 h9) (by omega) (by omega) F G x4 h
      rw [if_neg c4] at h
      by_cases c5 : ((xs (ix x4)) &&& 63) = 2
      · rw [if_pos c5] at h
        refine aw_tableIn (pc := 39) (off := 230) (tgt := 269) hM dL_law_39 (by rw [c5]; decide) (by rw [c5]; decide) (by rw [c5]; rfl) (by decide) ?_
        exact k_L_law_b269 (c0 := c0 + 0) (s0 := s0 + 0) hM hX (fun wF wG w0 c1 s1 h7 h8 h9 => ih wF wG w0 c1 s1 h7 h8 h9) (by omega) (by omega) F G x4 h
      rw [if_neg c5] at h
      by_cases c6 : ((xs (ix x4)) &&& 63) = 3
      · rw [if_pos c6] at h
        refine aw_tableIn (pc := 39) (off := 243) (tgt := 282) hM dL_law_39 (by rw [c6]; decide) (by rw [c6]; decide) (by rw [c6]; rfl) (by decide) ?_
        exact k_L_law_b282 (c0 := c0 + 0) (s0 := s0 + 0) hM hX (fun wF wG w0 c1 s1 h7 h8 h9 => ih wF wG w0 c1 s1 h7 h8 h9) (by omega) (by omega) F G x4 h
      rw [if_neg c6] at h
      by_cases c7 : ((xs (ix x4)) &&& 63) = 4
      · rw [if_pos c7] at h
        refine aw_tableIn (pc := 39) (off := 287) (tgt := 326) hM dL_law_39 (by rw [c7]; decide) (by rw [c7]; decide) (by rw [c7]; rfl) (by decide) ?_
        exact k_L_law_b326 (c0 := c0 + 0) (s0 := s0 + 0) hM hX (fun wF wG w0 c1 s1 h7 h8 h9 => ih wF wG w0 c1 s1 h7 h8 h9) (by omega) (by omega) F G x4 h
      rw [if_neg c7] at h
      by_cases c8 : ((xs (ix x4)) &&& 63) = 5
      · rw [if_pos c8] at h
        refine aw_tableIn (pc := 39) (off := 343) (tgt := 382) hM dL_law_39 (by rw [c8]; decide) (by rw [c8]; decide) (by rw [c8]; rfl) (by decide) ?_
        exact k_L_law_b382 (c0 := c0 + 0) (s0 := s0 + 0) hM hX (fun wF wG w0 c1 s1 h7 h8 h9 => ih wF wG w0 c1 s1 h7 h8 h9) (by omega) (by omega) F G x4 h
      rw [if_neg c8] at h
      by_cases c9 : ((xs (ix x4)) &&& 63) = 6
      · rw [if_pos c9] at h
        refine aw_tableIn (pc := 39) (off := 411) (tgt := 450) hM dL_law_39 (by rw [c9]; decide) (by rw [c9]; decide) (by rw [c9]; rfl) (by decide) ?_
        exact k_L_law_b450 (c0 := c0 + 0) (s0 := s0 + 0) hM hX (fun wF wG w0 c1 s1 h7 h8 h9 => ih wF wG w0 c1 s1 h7 h8 h9) (by omega) (by omega) F G x4 h
      rw [if_neg c9] at h
      by_cases c10 : ((xs (ix x4)) &&& 63) = 7
      · rw [if_pos c10] at h
        refine aw_tableIn (pc := 39) (off := 507) (tgt := 546) hM dL_law_39 (by rw [c10]; decide) (by rw [c10]; decide) (by rw [c10]; rfl) (by decide) ?_
        exact k_L_law_b546 (c0 := c0 + 0) (s0 := s0 + 0) hM hX (fun wF wG w0 c1 s1 h7 h8 h9 => ih wF wG w0 c1 s1 h7 h8 h9) (by omega) (by omega) F G x4 h
      rw [if_neg c10] at h
      by_cases c11 : ((xs (ix x4)) &&& 63) = 8
      · rw [if_pos c11] at h
        refine aw_tableIn (pc := 39) (off := 575) (tgt := 614) hM dL_law_39 (by rw [c11]; decide) (by rw [c11]; decide) (by rw [c11]; rfl) (by decide) ?_
        exact k_L_law_b614 (c0 := c0 + 0) (s0 := s0 + 0) hM hX (fun wF wG w0 c1 s1 h7 h8 h9 => ih wF wG w0 c1 s1 h7 h8 h9) (by omega) (by omega) F G x4 h
      rw [if_neg c11] at h
      by_cases c12 : ((xs (ix x4)) &&& 63) = 9
      · rw [if_pos c12] at h
        refine aw_tableIn (pc := 39) (off := 643) (tgt := 682) hM dL_law_39 (by rw [c12]; decide) (by rw [c12]; decide) (by rw [c12]; rfl) (by decide) ?_
        exact k_L_law_b682 (c0 := c0 + 0) (s0 := s0 + 0) hM hX (fun wF wG w0 c1 s1 h7 h8 h9 => ih wF wG w0 c1 s1 h7 h8 h9) (by omega) (by omega) F G x4 h
      rw [if_neg c12] at h
      by_cases c13 : ((xs (ix x4)) &&& 63) = 10
      · rw [if_pos c13] at h
        refine aw_tableIn (pc := 39) (off := 699) (tgt := 738) hM dL_law_39 (by rw [c13]; decide) (by rw [c13]; decide) (by rw [c13]; rfl) (by decide) ?_
        exact k_L_law_b738 (c0 := c0 + 0) (s0 := s0 + 0) hM hX (fun wF wG w0 c1 s1 h7 h8 h9 => ih wF wG w0 c1 s1 h7 h8 h9) (by omega) (by omega) F G x4 h
      rw [if_neg c13] at h
      by_cases c14 : ((xs (ix x4)) &&& 63) = 11
      · rw [if_pos c14] at h
        refine aw_tableIn (pc := 39) (off := 779) (tgt := 818) hM dL_law_39 (by rw [c14]; decide) (by rw [c14]; decide) (by rw [c14]; rfl) (by decide) ?_
        exact k_L_law_b818 (c0 := c0 + 0) (s0 := s0 + 0) hM hX (fun wF wG w0 c1 s1 h7 h8 h9 => ih wF wG w0 c1 s1 h7 h8 h9) (by omega) (by omega) F G x4 h
      rw [if_neg c14] at h
      by_cases c15 : ((xs (ix x4)) &&& 63) = 12
      · rw [if_pos c15] at h
        refine aw_tableIn (pc := 39) (off := 859) (tgt := 898) hM dL_law_39 (by rw [c15]; decide) (by rw [c15]; decide) (by rw [c15]; rfl) (by decide) ?_
        exact k_L_law_b898 (c0 := c0 + 0) (s0 := s0 + 0) hM hX (fun wF wG w0 c1 s1 h7 h8 h9 => ih wF wG w0 c1 s1 h7 h8 h9) (by omega) (by omega) F G x4 h
      rw [if_neg c15] at h
      by_cases c16 : ((xs (ix x4)) &&& 63) = 13
      · rw [if_pos c16] at h
        refine aw_tableIn (pc := 39) (off := 939) (tgt := 978) hM dL_law_39 (by rw [c16]; decide) (by rw [c16]; decide) (by rw [c16]; rfl) (by decide) ?_
        exact k_L_law_b978 (c0 := c0 + 0) (s0 := s0 + 0) hM hX (fun wF wG w0 c1 s1 h7 h8 h9 => ih wF wG w0 c1 s1 h7 h8 h9) (by omega) (by omega) F G x4 h
      rw [if_neg c16] at h
      by_cases c17 : ((xs (ix x4)) &&& 63) = 14
      · rw [if_pos c17] at h
        refine aw_tableIn (pc := 39) (off := 1019) (tgt := 1058) hM dL_law_39 (by rw [c17]; decide) (by rw [c17]; decide) (by rw [c17]; rfl) (by decide) ?_
        exact k_L_law_b1058 (c0 := c0 + 0) (s0 := s0 + 0) hM hX (fun wF wG w0 c1 s1 h7 h8 h9 => ih wF wG w0 c1 s1 h7 h8 h9) (by omega) (by omega) F G x4 h
      rw [if_neg c17] at h
      by_cases c18 : ((xs (ix x4)) &&& 63) = 15
      · rw [if_pos c18] at h
        refine aw_tableIn (pc := 39) (off := 1075) (tgt := 1114) hM dL_law_39 (by rw [c18]; decide) (by rw [c18]; decide) (by rw [c18]; rfl) (by decide) ?_
        exact k_L_law_b1114 (c0 := c0 + 0) (s0 := s0 + 0) hM hX (fun wF wG w0 c1 s1 h7 h8 h9 => ih wF wG w0 c1 s1 h7 h8 h9) (by omega) (by omega) F G x4 h
      rw [if_neg c18] at h
      by_cases c19 : ((xs (ix x4)) &&& 63) = 16
      · rw [if_pos c19] at h
        refine aw_tableIn (pc := 39) (off := 1143) (tgt := 1182) hM dL_law_39 (by rw [c19]; decide) (by rw [c19]; decide) (by rw [c19]; rfl) (by decide) ?_
        exact k_L_law_b1182 (c0 := c0 + 0) (s0 := s0 + 0) hM hX (fun wF wG w0 c1 s1 h7 h8 h9 => ih wF wG w0 c1 s1 h7 h8 h9) (by omega) (by omega) F G x4 h
      rw [if_neg c19] at h
      by_cases c20 : ((xs (ix x4)) &&& 63) = 17
      · rw [if_pos c20] at h
        refine aw_tableIn (pc := 39) (off := 1211) (tgt := 1250) hM dL_law_39 (by rw [c20]; decide) (by rw [c20]; decide) (by rw [c20]; rfl) (by decide) ?_
        exact k_L_law_b1250 (c0 := c0 + 0) (s0 := s0 + 0) hM hX (fun wF wG w0 c1 s1 h7 h8 h9 => ih wF wG w0 c1 s1 h7 h8 h9) (by omega) (by omega) F G x4 h
      rw [if_neg c20] at h
      by_cases c21 : ((xs (ix x4)) &&& 63) = 18
      · rw [if_pos c21] at h
        refine aw_tableIn (pc := 39) (off := 1267) (tgt := 1306) hM dL_law_39 (by rw [c21]; decide) (by rw [c21]; decide) (by rw [c21]; rfl) (by decide) ?_
        exact k_L_law_b1306 (c0 := c0 + 0) (s0 := s0 + 0) hM hX (fun wF wG w0 c1 s1 h7 h8 h9 => ih wF wG w0 c1 s1 h7 h8 h9) (by omega) (by omega) F G x4 h
      rw [if_neg c21] at h
      by_cases c22 : ((xs (ix x4)) &&& 63) = 19
      · rw [if_pos c22] at h
        refine aw_tableIn (pc := 39) (off := 1323) (tgt := 1362) hM dL_law_39 (by rw [c22]; decide) (by rw [c22]; decide) (by rw [c22]; rfl) (by decide) ?_
        exact k_L_law_b1362 (c0 := c0 + 0) (s0 := s0 + 0) hM hX (fun wF wG w0 c1 s1 h7 h8 h9 => ih wF wG w0 c1 s1 h7 h8 h9) (by omega) (by omega) F G x4 h
      rw [if_neg c22] at h
      by_cases c23 : ((xs (ix x4)) &&& 63) = 20
      · rw [if_pos c23] at h
        refine aw_tableIn (pc := 39) (off := 1367) (tgt := 1406) hM dL_law_39 (by rw [c23]; decide) (by rw [c23]; decide) (by rw [c23]; rfl) (by decide) ?_
        exact k_L_law_b1406 (c0 := c0 + 0) (s0 := s0 + 0) hM hX (fun wF wG w0 c1 s1 h7 h8 h9 => ih wF wG w0 c1 s1 h7 h8 h9) (by omega) (by omega) F G x4 h
      rw [if_neg c23] at h
      by_cases c24 : ((xs (ix x4)) &&& 63) = 21
      · rw [if_pos c24] at h
        refine aw_tableIn (pc := 39) (off := 1435) (tgt := 1474) hM dL_law_39 (by rw [c24]; decide) (by rw [c24]; decide) (by rw [c24]; rfl) (by decide) ?_
        exact k_L_law_b1474 (c0 := c0 + 0) (s0 := s0 + 0) hM hX (fun wF wG w0 c1 s1 h7 h8 h9 => ih wF wG w0 c1 s1 h7 h8 h9) (by omega) (by omega) F G x4 h
      rw [if_neg c24] at h
      by_cases c25 : ((xs (ix x4)) &&& 63) = 22
      · rw [if_pos c25] at h
        refine aw_tableIn (pc := 39) (off := 1491) (tgt := 1530) hM dL_law_39 (by rw [c25]; decide) (by rw [c25]; decide) (by rw [c25]; rfl) (by decide) ?_
        exact k_L_law_b1530 (c0 := c0 + 0) (s0 := s0 + 0) hM hX (fun wF wG w0 c1 s1 h7 h8 h9 => ih wF wG w0 c1 s1 h7 h8 h9) (by omega) (by omega) F G x4 h
      rw [if_neg c25] at h
      by_cases c26 : ((xs (ix x4)) &&& 63) = 23
      · rw [if_pos c26] at h
        refine aw_tableIn (pc := 39) (off := 1571) (tgt := 1610) hM dL_law_39 (by rw [c26]; decide) (by rw [c26]; decide) (by rw [c26]; rfl) (by decide) ?_
        exact k_L_law_b1610 (c0 := c0 + 0) (s0 := s0 + 0) hM hX (fun wF wG w0 c1 s1 h7 h8 h9 => ih wF wG w0 c1 s1 h7 h8 h9) (by omega) (by omega) F G x4 h
      rw [if_neg c26] at h
      by_cases c27 : ((xs (ix x4)) &&& 63) = 24
      · rw [if_pos c27] at h
        refine aw_tableIn (pc := 39) (off := 1627) (tgt := 1666) hM dL_law_39 (by rw [c27]; decide) (by rw [c27]; decide) (by rw [c27]; rfl) (by decide) ?_
        exact k_L_law_b1666 (c0 := c0 + 0) (s0 := s0 + 0) hM hX (fun wF wG w0 c1 s1 h7 h8 h9 => ih wF wG w0 c1 s1 h7 h8 h9) (by omega) (by omega) F G x4 h
      rw [if_neg c27] at h
      by_cases c28 : ((xs (ix x4)) &&& 63) = 25
      · rw [if_pos c28] at h
        refine aw_tableIn (pc := 39) (off := 1683) (tgt := 1722) hM dL_law_39 (by rw [c28]; decide) (by rw [c28]; decide) (by rw [c28]; rfl) (by decide) ?_
        exact k_L_law_b1722 (c0 := c0 + 0) (s0 := s0 + 0) hM hX (fun wF wG w0 c1 s1 h7 h8 h9 => ih wF wG w0 c1 s1 h7 h8 h9) (by omega) (by omega) F G x4 h
      rw [if_neg c28] at h
      by_cases c29 : ((xs (ix x4)) &&& 63) = 26
      · rw [if_pos c29] at h
        refine aw_tableIn (pc := 39) (off := 1763) (tgt := 1802) hM dL_law_39 (by rw [c29]; decide) (by rw [c29]; decide) (by rw [c29]; rfl) (by decide) ?_
        exact k_L_law_b1802 (c0 := c0 + 0) (s0 := s0 + 0) hM hX (fun wF wG w0 c1 s1 h7 h8 h9 => ih wF wG w0 c1 s1 h7 h8 h9) (by omega) (by omega) F G x4 h
      rw [if_neg c29] at h
      by_cases c30 : ((xs (ix x4)) &&& 63) = 27
      · rw [if_pos c30] at h
        refine aw_tableIn (pc := 39) (off := 1776) (tgt := 1815) hM dL_law_39 (by rw [c30]; decide) (by rw [c30]; decide) (by rw [c30]; rfl) (by decide) ?_
        exact k_L_law_b1815 (c0 := c0 + 0) (s0 := s0 + 0) hM hX (fun wF wG w0 c1 s1 h7 h8 h9 => ih wF wG w0 c1 s1 h7 h8 h9) (by omega) (by omega) F G x4 h
      rw [if_neg c30] at h
      by_cases c31 : ((xs (ix x4)) &&& 63) = 28
      · rw [if_pos c31] at h
        refine aw_tableIn (pc := 39) (off := 1832) (tgt := 1871) hM dL_law_39 (by rw [c31]; decide) (by rw [c31]; decide) (by rw [c31]; rfl) (by decide) ?_
        exact k_L_law_b1871 (c0 := c0 + 0) (s0 := s0 + 0) hM hX (fun wF wG w0 c1 s1 h7 h8 h9 => ih wF wG w0 c1 s1 h7 h8 h9) (by omega) (by omega) F G x4 h
      rw [if_neg c31] at h
      by_cases c32 : ((xs (ix x4)) &&& 63) = 29
      · rw [if_pos c32] at h
        refine aw_tableIn (pc := 39) (off := 1900) (tgt := 1939) hM dL_law_39 (by rw [c32]; decide) (by rw [c32]; decide) (by rw [c32]; rfl) (by decide) ?_
        exact k_L_law_b1939 (c0 := c0 + 0) (s0 := s0 + 0) hM hX (fun wF wG w0 c1 s1 h7 h8 h9 => ih wF wG w0 c1 s1 h7 h8 h9) (by omega) (by omega) F G x4 h
      rw [if_neg c32] at h
      by_cases c33 : ((xs (ix x4)) &&& 63) = 30
      · rw [if_pos c33] at h
        refine aw_tableIn (pc := 39) (off := 1980) (tgt := 2019) hM dL_law_39 (by rw [c33]; decide) (by rw [c33]; decide) (by rw [c33]; rfl) (by decide) ?_
        exact k_L_law_b2019 (c0 := c0 + 0) (s0 := s0 + 0) hM hX (fun wF wG w0 c1 s1 h7 h8 h9 => ih wF wG w0 c1 s1 h7 h8 h9) (by omega) (by omega) F G x4 h
      rw [if_neg c33] at h
      by_cases c34 : ((xs (ix x4)) &&& 63) = 31
      · rw [if_pos c34] at h
        refine aw_tableIn (pc := 39) (off := 2055) (tgt := 2094) hM dL_law_39 (by rw [c34]; decide) (by rw [c34]; decide) (by rw [c34]; rfl) (by decide) ?_
        exact k_L_law_b2094 (c0 := c0 + 0) (s0 := s0 + 0) hM hX (fun wF wG w0 c1 s1 h7 h8 h9 => ih wF wG w0 c1 s1 h7 h8 h9) (by omega) (by omega) F G x4 h
      rw [if_neg c34] at h
      by_cases c35 : ((xs (ix x4)) &&& 63) = 32
      · rw [if_pos c35] at h
        refine aw_tableIn (pc := 39) (off := 2123) (tgt := 2162) hM dL_law_39 (by rw [c35]; decide) (by rw [c35]; decide) (by rw [c35]; rfl) (by decide) ?_
        exact k_L_law_b2162 (c0 := c0 + 0) (s0 := s0 + 0) hM hX (fun wF wG w0 c1 s1 h7 h8 h9 => ih wF wG w0 c1 s1 h7 h8 h9) (by omega) (by omega) F G x4 h
      rw [if_neg c35] at h
      by_cases c36 : ((xs (ix x4)) &&& 63) = 33
      · rw [if_pos c36] at h
        refine aw_tableIn (pc := 39) (off := 2179) (tgt := 2218) hM dL_law_39 (by rw [c36]; decide) (by rw [c36]; decide) (by rw [c36]; rfl) (by decide) ?_
        exact k_L_law_b2218 (c0 := c0 + 0) (s0 := s0 + 0) hM hX (fun wF wG w0 c1 s1 h7 h8 h9 => ih wF wG w0 c1 s1 h7 h8 h9) (by omega) (by omega) F G x4 h
      rw [if_neg c36] at h
      by_cases c37 : ((xs (ix x4)) &&& 63) = 34
      · rw [if_pos c37] at h
        refine aw_tableIn (pc := 39) (off := 2279) (tgt := 2318) hM dL_law_39 (by rw [c37]; decide) (by rw [c37]; decide) (by rw [c37]; rfl) (by decide) ?_
        exact k_L_law_b2318 (c0 := c0 + 0) (s0 := s0 + 0) hM hX (fun wF wG w0 c1 s1 h7 h8 h9 => ih wF wG w0 c1 s1 h7 h8 h9) (by omega) (by omega) F G x4 h
      rw [if_neg c37] at h
      by_cases c38 : ((xs (ix x4)) &&& 63) = 35
      · rw [if_pos c38] at h
        refine aw_tableIn (pc := 39) (off := 2379) (tgt := 2418) hM dL_law_39 (by rw [c38]; decide) (by rw [c38]; decide) (by rw [c38]; rfl) (by decide) ?_
        exact k_L_law_b2418 (c0 := c0 + 0) (s0 := s0 + 0) hM hX (fun wF wG w0 c1 s1 h7 h8 h9 => ih wF wG w0 c1 s1 h7 h8 h9) (by omega) (by omega) F G x4 h
      rw [if_neg c38] at h
      by_cases c39 : ((xs (ix x4)) &&& 63) = 36
      · rw [if_pos c39] at h
        refine aw_tableIn (pc := 39) (off := 2435) (tgt := 2474) hM dL_law_39 (by rw [c39]; decide) (by rw [c39]; decide) (by rw [c39]; rfl) (by decide) ?_
        exact k_L_law_b2474 (c0 := c0 + 0) (s0 := s0 + 0) hM hX (fun wF wG w0 c1 s1 h7 h8 h9 => ih wF wG w0 c1 s1 h7 h8 h9) (by omega) (by omega) F G x4 h
      rw [if_neg c39] at h
      refine aw_tableOut (pc := 39) (tgt := 2530) hM dL_law_39 (by have := ts_ne c3 (k := 0) rfl; have := ts_ne c4 (k := 1) rfl; have := ts_ne c5 (k := 2) rfl; have := ts_ne c6 (k := 3) rfl; have := ts_ne c7 (k := 4) rfl; have := ts_ne c8 (k := 5) rfl; have := ts_ne c9 (k := 6) rfl; have := ts_ne c10 (k := 7) rfl; have := ts_ne c11 (k := 8) rfl; have := ts_ne c12 (k := 9) rfl; have := ts_ne c13 (k := 10) rfl; have := ts_ne c14 (k := 11) rfl; have := ts_ne c15 (k := 12) rfl; have := ts_ne c16 (k := 13) rfl; have := ts_ne c17 (k := 14) rfl; have := ts_ne c18 (k := 15) rfl; have := ts_ne c19 (k := 16) rfl; have := ts_ne c20 (k := 17) rfl; have := ts_ne c21 (k := 18) rfl; have := ts_ne c22 (k := 19) rfl; have := ts_ne c23 (k := 20) rfl; have := ts_ne c24 (k := 21) rfl; have := ts_ne c25 (k := 22) rfl; have := ts_ne c26 (k := 23) rfl; have := ts_ne c27 (k := 24) rfl; have := ts_ne c28 (k := 25) rfl; have := ts_ne c29 (k := 26) rfl; have := ts_ne c30 (k := 27) rfl; have := ts_ne c31 (k := 28) rfl; have := ts_ne c32 (k := 29) rfl; have := ts_ne c33 (k := 30) rfl; have := ts_ne c34 (k := 31) rfl; have := ts_ne c35 (k := 32) rfl; have := ts_ne c36 (k := 33) rfl; have := ts_ne c37 (k := 34) rfl; have := ts_ne c38 (k := 35) rfl; have := ts_ne c39 (k := 36) rfl; omega) (by decide) ?_
      obtain ⟨y40, e41, h⟩ := bind_some h
      have e41 := Option.some.inj e41
      refine aw_iinc (pc := 2530) (v := y40) (L' := [some (.ref 181), some (.ref 0), some (.ref 164), some (.ref 180), some (.int y40), none, none]) hM dL_law_2530 rfl e41 (by decide) rfl ?_
      refine aw_goto (pc := 2533) (tgt := 23) hM dL_law_2533 (by decide) ?_
      exact ih F G y40 _ _ (by omega) (by omega) h
