/-! THE CLAIM OUT OF ONE WALK OF THE LAW'S BODY. Your part is whole_start (and what it stands on); all else here is the same for every law, but numbers. -/
def R_law : String := "ParticlewayLaw"
def lw_P (b : Addr) (xs : List Int32) (args : Array Value) (s : State) : Prop := args = #[.ref b] ∧ s.IntsAt b xs ∧ xs.length ≤ 3072 ∧ (Jvm.Cond.and given_1 narrow_1).before args s = true
def lw_Q (_ : Array Value) (s : State) (o : Outcome) (t : State) : Prop := o = .returned (some (.int 1)) ∧ Framed s o t [] 1066 10125
def lw_Z (below : List Frame) (a : Array Value) (s : State) : State → Prop := fun t => ∃ o, t.status = .running ∧ Ended t below o ∧ lw_Q a s o t
/-- the law's own end, with 1 on the stack, nothing written that was there before, its room as the claim has it -/
theorem lw_ret {p : Program} {l : Launch} {e : Env} {s : State} {m : MethodId} {below : List Frame} {meth : Method} {c : Code} {b : Nat} (hx : p.tables.exec = Jvm.exec) (hb : c.code = code) (hr : meth.sig.returnType = ret) (hlocks : meth.locks = false) {pc : Nat} {H : Heap} {ls : Array Slot} (hdg : decode code pc = .ok (.ireturn, 1)) : W p l e room_1 s m #[Value.ref b] below meth c H [] 1066 10125 (lw_Z below #[Value.ref b] s) (F0 m pc ls [.int 1]) := by
  intro T hT X
  obtain ⟨fs, hret, hrun, hended, hW, hframe⟩ := X.leave (v := some (.int 1)) (hlocks := hlocks) (fun h => by rw [hr] at h; cases h)
  have hmeth' : T.vm.method? m = some meth := X.method'
  refine ⟨T.setFrames fs, ?_, .returned (some (.int 1)), hrun, hended, rfl, ⟨_, rfl⟩, hW, hframe⟩
  jvm_step X.here [X.here.top, hx, hb, hdg, hmeth', hr, ret, narrow_b1]
  (try refine ⟨rfl, ?_⟩); (try refine ⟨rfl, ?_⟩)
  first | (intro acts; rw [hret _ acts rfl rfl rfl]) | rw [hret _ _ rfl rfl rfl]
  exact Steps.refl _
/-- what holds at the law's entry: the machine, the code, the tables' words (any of lw_tbl by 'hts w (by decide +kernel)'), the script of L ints xs at the cell b, what the Statement gives of the start (any of its parts by flat_of_before) -/
def lw_At (p : Program) (s : State) (m : MethodId) (meth : Method) (c : Code) (b L : Nat) (xs : Nat → Int32) : Prop :=
  p.tables.exec = Jvm.exec ∧ c.code = code ∧ meth.sig.returnType = ret ∧ c.maxLocals = 8 ∧ s.vm.findClass R_law = some m.cls ∧ (∀ w ∈ lw_tbl, w.before #[Value.ref b] s = true) ∧ va_X b L xs s s.heap ∧ b < s.heap.size ∧ meth.locks = false ∧ (Jvm.Cond.and given_1 narrow_1).before #[Value.ref b] s = true

section LAW
theorem lw_ty {args : Array Value} {s : State} {ty : FieldType} (h : (Cond.arrayClass ty).before args s = true) : ∃ cA : ClassId, ArrOfT s cA ty ∧ s.vm.findClass ("[" ++ ty.toString) = some cA := by
  obtain ⟨cA, kA, comp, h1, h2, h3⟩ := Cond.arrayClass_spec h
  exact ⟨cA, fun n z => ⟨fun k h => (by cases h), kA, h2, comp, h3⟩, h1⟩
theorem lw_K {args : Array Value} {s : State} (hts : ∀ w ∈ lw_tbl, w.before args s = true) : ∃ (D : va_G) (cyI cyJ cyZ : ClassId), va_K D vwCl [(cyI, .int), (cyJ, .long), (cyZ, .boolean)] s := by
  obtain ⟨cI, hI1, hI2⟩ := lw_ty (hts (.arrayClass .int) (by decide +kernel))
  obtain ⟨cJ, hJ1, hJ2⟩ := lw_ty (hts (.arrayClass .long) (by decide +kernel))
  obtain ⟨cZ, hZ1, hZ2⟩ := lw_ty (hts (.arrayClass .boolean) (by decide +kernel))
  obtain ⟨c0, i0, hk0⟩ := u_known (C := RX0) (T := TX0) (N := 3) (n := 3) hts inX0 (hts (.instantiable RX0 3) (by decide +kernel))
  obtain ⟨c1, i1, hk1⟩ := u_known (C := RX1) (T := TX1) (N := 1) (n := 1) hts inX1 (hts (.instantiable RX1 1) (by decide +kernel))
  obtain ⟨c2, i2, hk2⟩ := u_known (C := RX2) (T := TX2) (N := 1) (n := 1) hts inX2 (hts (.instantiable RX2 1) (by decide +kernel))
  obtain ⟨c3, i3, hk3⟩ := u_known (C := RX3) (T := TX3) (N := 3) (n := 3) hts inX3 (hts (.instantiable RX3 3) (by decide +kernel))
  obtain ⟨c4, i4, hk4⟩ := u_known (C := RX4) (T := TX4) (N := 11) (n := 11) hts inX4 (hts (.instantiable RX4 11) (by decide +kernel))
  obtain ⟨c5, i5, hk5⟩ := u_known (C := RX5) (T := TX5) (N := 9) (n := 9) hts inX5 (hts (.instantiable RX5 9) (by decide +kernel))
  obtain ⟨c6, i6, hk6⟩ := u_known (C := RX6) (T := TX6) (N := 15) (n := 15) hts inX6 (hts (.instantiable RX6 15) (by decide +kernel))
  refine ⟨(fun k => if k = 0 then c0 else if k = 1 then c1 else if k = 2 then c2 else if k = 3 then c3 else if k = 4 then c4 else if k = 5 then c5 else c6, fun k => if k = 0 then i0 else if k = 1 then i1 else if k = 2 then i2 else if k = 3 then i3 else if k = 4 then i4 else if k = 5 then i5 else i6), cI, cJ, cZ, ?_, ?_⟩
  · intro k q hq
    match k, hq with
    | 0, hq => cases hq; exact hk0
    | 1, hq => cases hq; exact hk1
    | 2, hq => cases hq; exact hk2
    | 3, hq => cases hq; exact hk3
    | 4, hq => cases hq; exact hk4
    | 5, hq => cases hq; exact hk5
    | 6, hq => cases hq; exact hk6
    | k + 7, hq => simp [vwCl] at hq
  · intro k q hq
    match k, hq with
    | 0, hq => cases hq; exact ⟨hI1, hI2⟩
    | 1, hq => cases hq; exact ⟨hJ1, hJ2⟩
    | 2, hq => cases hq; exact ⟨hZ1, hZ2⟩
    | k + 3, hq => simp at hq
theorem lw_G {b : Nat} {s : State} (hts : ∀ w ∈ lw_tbl, w.before #[Value.ref b] s = true) (hgv : (Jvm.Cond.and given_1 narrow_1).before #[Value.ref b] s = true) : gS (fun q => s.heap.size ≤ q) s s.heap := by
  have hq := flat_of_before _ hgv
  have hA : ∀ a : Nat, a < s.heap.size → ¬ (fun q => s.heap.size ≤ q) a := fun _ h => Nat.not_le.mpr h
  have hx : ∃ sx : Nat, va_Z "Particleway$Field" "STEP_X" "[I" (.ref sx) (fun q => s.heap.size ≤ q) s s.heap ∧ va_T .int sx 4 (fun j => .int (stX j)) (fun q => s.heap.size ≤ q) s s.heap := by
    obtain ⟨t, ht, hT⟩ := va_Tof (tm := .static "Particleway$Field" "STEP_X" "[I") (ty := .int) (N := 4) (f := fun j => .int (stX j)) (by decide) (hq (.arrayOf (.static "Particleway$Field" "STEP_X" "[I") .int) (by decide +kernel)) (va_eqt (hq (.eq (.length (.static "Particleway$Field" "STEP_X" "[I")) (.int 4)) (by decide +kernel))) (fun j hj => by
      rcases (show j = 0 ∨ j = 1 ∨ j = 2 ∨ j = 3 by omega) with rfl | rfl | rfl | rfl
      · exact va_eqt (z := (1)) (hq (.eq (.elem (.static "Particleway$Field" "STEP_X" "[I") (.int 0)) (.int (1))) (by decide +kernel))
      · exact va_eqt (z := (0)) (hq (.eq (.elem (.static "Particleway$Field" "STEP_X" "[I") (.int 1)) (.int (0))) (by decide +kernel))
      · exact va_eqt (z := (-1)) (hq (.eq (.elem (.static "Particleway$Field" "STEP_X" "[I") (.int 2)) (.int (-1))) (by decide +kernel))
      · exact va_eqt (z := (0)) (hq (.eq (.elem (.static "Particleway$Field" "STEP_X" "[I") (.int 3)) (.int (0))) (by decide +kernel))) hA
    exact ⟨t, va_Zref (hts (.laysStatic "Particleway$Field" "STEP_X" "[I") (by decide +kernel)) (hts (.initialized "Particleway$Field") (by decide +kernel)) ht hA, hT⟩
  have hy : ∃ sx : Nat, va_Z "Particleway$Field" "STEP_Y" "[I" (.ref sx) (fun q => s.heap.size ≤ q) s s.heap ∧ va_T .int sx 4 (fun j => .int (stY j)) (fun q => s.heap.size ≤ q) s s.heap := by
    obtain ⟨t, ht, hT⟩ := va_Tof (tm := .static "Particleway$Field" "STEP_Y" "[I") (ty := .int) (N := 4) (f := fun j => .int (stY j)) (by decide) (hq (.arrayOf (.static "Particleway$Field" "STEP_Y" "[I") .int) (by decide +kernel)) (va_eqt (hq (.eq (.length (.static "Particleway$Field" "STEP_Y" "[I")) (.int 4)) (by decide +kernel))) (fun j hj => by
      rcases (show j = 0 ∨ j = 1 ∨ j = 2 ∨ j = 3 by omega) with rfl | rfl | rfl | rfl
      · exact va_eqt (z := (0)) (hq (.eq (.elem (.static "Particleway$Field" "STEP_Y" "[I") (.int 0)) (.int (0))) (by decide +kernel))
      · exact va_eqt (z := (1)) (hq (.eq (.elem (.static "Particleway$Field" "STEP_Y" "[I") (.int 1)) (.int (1))) (by decide +kernel))
      · exact va_eqt (z := (0)) (hq (.eq (.elem (.static "Particleway$Field" "STEP_Y" "[I") (.int 2)) (.int (0))) (by decide +kernel))
      · exact va_eqt (z := (-1)) (hq (.eq (.elem (.static "Particleway$Field" "STEP_Y" "[I") (.int 3)) (.int (-1))) (by decide +kernel))) hA
    exact ⟨t, va_Zref (hts (.laysStatic "Particleway$Field" "STEP_Y" "[I") (by decide +kernel)) (hts (.initialized "Particleway$Field") (by decide +kernel)) ht hA, hT⟩
  refine ⟨⟨hx, hy, vx_Zqof (hts (.laysStatic Bundle.tN "UNASSIGNED_STACK" Bundle.steD) (by decide +kernel)) (hts (.initialized Bundle.tN) (by decide +kernel)) (hq (.isRef (.static Bundle.tN "UNASSIGNED_STACK" Bundle.steD)) (by decide +kernel)) hA, vx_Zqof (hts (.laysStatic Bundle.tN "SUPPRESSED_SENTINEL" Bundle.listD) (by decide +kernel)) (hts (.initialized Bundle.tN) (by decide +kernel)) (hq (.isRef (.static Bundle.tN "SUPPRESSED_SENTINEL" Bundle.listD)) (by decide +kernel)) hA⟩, ?_⟩
  exact ⟨va_Nw.of rfl (hts (.methodLinkNest RX2 15 yX5_isCell RX5) (by decide +kernel)), va_Nw.of rfl (hts (.methodLinkNest RX3 22 yX5_isCell RX5) (by decide +kernel)), va_Nw.of rfl (hts (.methodLinkNest RX3 36 yX5_isDirection RX5) (by decide +kernel)), va_Nw.of rfl (hts (.methodLinkNest RX3 61 yX5_isInField RX5) (by decide +kernel)), va_Nw.of rfl (hts (.methodLinkNest RX3 65 yX5_numberOf RX5) (by decide +kernel)), va_Nw.of rfl (hts (.methodLinkNest RX4 83 yX5_quotient RX5) (by decide +kernel)), va_Nw.of rfl (hts (.castable "java/lang/IndexOutOfBoundsException" "java/lang/IndexOutOfBoundsException") (by decide +kernel)), va_Nw.of rfl (hts (.castable "java/lang/IllegalArgumentException" "java/lang/IllegalArgumentException") (by decide +kernel)), va_Nw.of rfl (hts (.castable "java/lang/IllegalStateException" "java/lang/IllegalStateException") (by decide +kernel)), va_Nc.of (hq (.not (.castable "java/lang/IllegalArgumentException" "java/lang/IndexOutOfBoundsException")) (by decide +kernel)), va_Nc.of (hq (.not (.castable "java/lang/IllegalStateException" "java/lang/IndexOutOfBoundsException")) (by decide +kernel)), va_Nc.of (hq (.not (.castable "java/lang/IllegalStateException" "java/lang/IllegalArgumentException")) (by decide +kernel)), va_Nw.of rfl (hts (.declares (Bundle.init0 "java/lang/RuntimeException")) (by decide +kernel)), va_Nw.of rfl (hts (.declares (Bundle.init0 "java/lang/Exception")) (by decide +kernel)), va_Nw.of rfl (hts (.declares (Bundle.init0 Bundle.tN)) (by decide +kernel))⟩
variable {p : Program} {l : Launch} {e : Env} {R : Room} {s : State} {m : MethodId} {args : Array Value} {below : List Frame} {meth : Method} {c : Code} {H : Heap} {locs : List Loc} {cells slots : Nat} {Q : State → Prop} {cc : ByteArray} {pc : Nat} {ls : Array Slot} {rest : List Value} {nL : Nat} {Ts : List Cond} {own : String} {D : va_G} {ws ws2 : va_W} {tys : List (ClassId × FieldType)} {A : Nat → Prop} {n : Nat}
theorem kcSW_i (S : CallFix p m c cc nL s args Ts own) {y : MethodName} {wsy : List Cond} {rm : Room} {index maxL mc ms : Nat} {ret : Option FieldType} {hh : List (Nat × Nat × Nat × Nat)} {bytes : ByteArray} {wc wr W1 : va_W} {As st0 : List Value} {RV : Int32}
    (hM : Met l y wsy rm (mPc D tys wc H.size As) (va_Qi (fun (r : Int32) (u : va_W) => r = RV ∧ u = W1) (mB D tys (va_A wc H.size)) (va_A wc H.size)) mc ms (va_A wc H.size)) (cw : vx_CSW R s args own index y bytes maxL ret hh wsy rm mc ms n)
    (hK : va_K D vwCl tys s) (hP : va_P D vwCl ws H) (hD : va_D A ws) (hS : va_S A s.heap H locs) (hA : ∀ q, s.heap.size ≤ q → A q) (hG : gS A s s.heap)
    (isC isR pm : List Nat) (hC : isC.map (fun i => ws[i]?) = wc.map some) (hR : isR.map (fun i => ws[i]?) = wr.map some) (hnC : va_nd isC = true) (hnR : va_nd isR = true) (hdis : ∀ i ∈ isR, i ∉ isC) (hnp : va_nd pm = true) (hpm : pm.map (fun i => (wr ++ W1)[i]?) = ws2.map some)
    (hn : As.length = n) (hsize : ls.size = nL) (hst : st0 = As.reverse ++ rest) (hW : (rest.map fun v => v.category).sum ≤ 8) (d : decode cc pc = .ok (.invokestatic index, 3)) (hf : cells + mc ≤ R.cells ∧ slots + ms ≤ R.slots)
    (kk : ∀ (H1 : Heap) (locs1 : List Loc), va_P D vwCl ws2 H1 → va_D A ws2 → va_S A s.heap H1 locs1 → W p l e R s m args below meth c H1 locs1 (cells + mc) (slots + ms) Q (F0 m (pc + 3) ls (.int RV :: rest))) :
    W p l e R s m args below meth c H locs cells slots Q (F0 m pc ls st0) := by
  have hFc := va_free (wc := wc) hD hS hA isC hC
  refine va_calli (vx_runSW S hM cw ⟨mPc_blind, mPc_of hK hP hD hS hA hG isC hC hnC⟩ rfl hn hsize hst (lv_room hW) d hf) hS (fun q _ h => hFc q h) hFc (fun r u t H1 locs1 ht hvm hw hB hz1 hk1 hS1 => ?_)
  obtain ⟨rfl, rfl⟩ := hw
  obtain ⟨hP1, hK1, hD1⟩ := hB
  rw [ht] at hP1
  obtain ⟨hP2, hD2⟩ := va_join hP hD isC isR hC hR hnR hdis hk1 hFc hP1 hD1
  refine kk H1 locs1 (hP2.sub pm ?_) (hD2.sub pm hnp hpm) hS1
  have h2 := congrArg (fun x : List (Option (Nat × va_E)) => x.filterMap id) hpm
  simpa [List.filterMap_map, Function.comp_def] using h2
/-- x != 0, as a truth -/
def bx (x : Int32) : Bool := decide (¬ x = 0)
theorem k_tern (S : CallFix p m c cc nL s args Ts own) {x : Int32} {bv : Bool} (hb : bx x = bv) (d : decode cc pc = .ok (.ifCond .eq 7, 3)) (d1 : decode cc (pc + 3) = .ok (.iconst 1, 1)) (d2 : decode cc (pc + 4) = .ok (.goto 4, 3)) (d3 : decode cc (pc + 7) = .ok (.iconst 0, 1)) (k : W p l e R s m args below meth c H locs cells slots Q (F0 m (pc + 8) ls (.int (bI bv) :: rest))) : W p l e R s m args below meth c H locs cells slots Q (F0 m pc ls (.int x :: rest)) := by
  refine lv_if_eq S.1 S.2.1 d (tgt := pc + 7) (by omega) (fun h => ?_) (fun h => ?_)
  · have hf : bv = false := by rw [← hb]; exact decide_eq_false (fun g => g h)
    rw [hf] at k
    exact lv_iconst (v := 0) S.1 S.2.1 d3 (by decide) k
  · have hf : bv = true := by rw [← hb]; exact decide_eq_true h
    rw [hf] at k
    exact lv_iconst (v := 1) S.1 S.2.1 d1 (by decide) (lv_goto (tgt := pc + 8) S.1 S.2.1 d2 (by omega) k)
theorem k_ternL (S : CallFix p m c cc nL s args Ts own) {bv : Bool} (d : decode cc pc = .ok (.ifCond .eq 7, 3)) (d1 : decode cc (pc + 3) = .ok (.lconst 1, 1)) (d2 : decode cc (pc + 4) = .ok (.goto 4, 3)) (d3 : decode cc (pc + 7) = .ok (.lconst 0, 1)) (k : W p l e R s m args below meth c H locs cells slots Q (F0 m (pc + 8) ls (.long (bL bv) :: rest))) : W p l e R s m args below meth c H locs cells slots Q (F0 m pc ls (.int (bI bv) :: rest)) := by
  refine kb_if_eq S d (tgt := pc + 7) (by omega) (fun h => ?_) (fun h => ?_)
  · rw [h] at k
    exact lv_lconst (v := lN 0) S.1 S.2.1 d3 (by decide) k
  · rw [h] at k
    exact lv_lconst (v := lN 1) S.1 S.2.1 d1 (by decide) (lv_goto (tgt := pc + 8) S.1 S.2.1 d2 (by omega) k)
theorem nI_and15 (x : Int32) : x &&& nI 15 = nI (x.toBitVec.toNat % 16) := pk_and x 4 rfl
end LAW
