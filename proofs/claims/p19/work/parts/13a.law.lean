section LAW19
theorem lw_ty {args : Array Value} {s : State} {ty : FieldType} (h : (Cond.arrayClass ty).before args s = true) : ∃ cA : ClassId, ArrOfT s cA ty ∧ s.vm.findClass ("[" ++ ty.toString) = some cA := by
  obtain ⟨cA, kA, comp, h1, h2, h3⟩ := Cond.arrayClass_spec h
  exact ⟨cA, fun n z => ⟨fun k h => (by cases h), kA, h2, comp, h3⟩, h1⟩
theorem lw_K {args : Array Value} {s : State} (hts : ∀ w ∈ lw_tbl, w.before args s = true) : ∃ (D : va_G) (cyI cyJ cyZ : ClassId), va_K D vwCl [(cyI, .int), (cyJ, .long), (cyZ, .boolean)] s := by
  obtain ⟨cI, hI1, hI2⟩ := lw_ty (hts (.arrayClass .int) (by decide +kernel))
  obtain ⟨cJ, hJ1, hJ2⟩ := lw_ty (hts (.arrayClass .long) (by decide +kernel))
  obtain ⟨cZ, hZ1, hZ2⟩ := lw_ty (hts (.arrayClass .boolean) (by decide +kernel))
  obtain ⟨c0, i0, hk0⟩ := u_known (C := RX0) (T := TX0) (N := 3) (n := 3) hts inX0 (hts (.instantiable RX0 3) (by decide +kernel))
  obtain ⟨c1, i1, hk1⟩ := u_known (C := RX1) (T := TX1) (N := 1) (n := 1) hts inX1 (hts (.instantiable RX1 1) (by decide +kernel))
  obtain ⟨c2, i2, hk2⟩ := u_known (C := RX2) (T := TX2) (N := 1) (n := 1) hts inX2 (hts (.instantiable RX2 1) (by decide +kernel))
  obtain ⟨c3, i3, hk3⟩ := u_known (C := RX3) (T := TX3) (N := 3) (n := 3) hts inX3 (hts (.instantiable RX3 3) (by decide +kernel))
  obtain ⟨c4, i4, hk4⟩ := u_known (C := RX4) (T := TX4) (N := 11) (n := 11) hts inX4 (hts (.instantiable RX4 11) (by decide +kernel))
  obtain ⟨c5, i5, hk5⟩ := u_known (C := RX5) (T := TX5) (N := 9) (n := 9) hts inX5 (hts (.instantiable RX5 9) (by decide +kernel))
  refine ⟨(fun k => if k = 0 then c0 else if k = 1 then c1 else if k = 2 then c2 else if k = 3 then c3 else if k = 4 then c4 else c5, fun k => if k = 0 then i0 else if k = 1 then i1 else if k = 2 then i2 else if k = 3 then i3 else if k = 4 then i4 else i5), cI, cJ, cZ, ?_, ?_⟩
  · intro k q hq
    match k, hq with
    | 0, hq => cases hq; exact hk0
    | 1, hq => cases hq; exact hk1
    | 2, hq => cases hq; exact hk2
    | 3, hq => cases hq; exact hk3
    | 4, hq => cases hq; exact hk4
    | 5, hq => cases hq; exact hk5
    | k + 6, hq => simp [vwCl] at hq
  · intro k q hq
    match k, hq with
    | 0, hq => cases hq; exact ⟨hI1, hI2⟩
    | 1, hq => cases hq; exact ⟨hJ1, hJ2⟩
    | 2, hq => cases hq; exact ⟨hZ1, hZ2⟩
    | k + 3, hq => simp at hq
theorem lw_G {b : Nat} {s : State} (hts : ∀ w ∈ lw_tbl, w.before #[Value.ref b] s = true) (hgv : (Jvm.Cond.and given_1 narrow_1).before #[Value.ref b] s = true) : gS (fun q => s.heap.size ≤ q) s s.heap := by
  have hq := flat_of_before _ hgv
  have hA : ∀ a : Nat, a < s.heap.size → ¬ (fun q => s.heap.size ≤ q) a := fun _ h => Nat.not_le.mpr h
  have hx : ∃ sx : Nat, va_Z "Particleway$Field" "STEP_X" "[I" (.ref sx) (fun q => s.heap.size ≤ q) s s.heap ∧ va_T .int sx 4 (fun j => .int (stX j)) (fun q => s.heap.size ≤ q) s s.heap := by
    obtain ⟨t, ht, hT⟩ := va_Tof (tm := .static "Particleway$Field" "STEP_X" "[I") (ty := .int) (N := 4) (f := fun j => .int (stX j)) (by decide) (hq (.arrayOf (.static "Particleway$Field" "STEP_X" "[I") .int) (by decide +kernel)) (va_eqt (hq (.eq (.length (.static "Particleway$Field" "STEP_X" "[I")) (.int 4)) (by decide +kernel))) (fun j hj => by
      rcases (show j = 0 ∨ j = 1 ∨ j = 2 ∨ j = 3 by omega) with rfl | rfl | rfl | rfl
      · exact va_eqt (z := (1)) (hq (.eq (.elem (.static "Particleway$Field" "STEP_X" "[I") (.int 0)) (.int (1))) (by decide +kernel))
      · exact va_eqt (z := (0)) (hq (.eq (.elem (.static "Particleway$Field" "STEP_X" "[I") (.int 1)) (.int (0))) (by decide +kernel))
      · exact va_eqt (z := (-1)) (hq (.eq (.elem (.static "Particleway$Field" "STEP_X" "[I") (.int 2)) (.int (-1))) (by decide +kernel))
      · exact va_eqt (z := (0)) (hq (.eq (.elem (.static "Particleway$Field" "STEP_X" "[I") (.int 3)) (.int (0))) (by decide +kernel))) hA
    exact ⟨t, va_Zref (hts (.laysStatic "Particleway$Field" "STEP_X" "[I") (by decide +kernel)) (hts (.initialized "Particleway$Field") (by decide +kernel)) ht hA, hT⟩
  have hy : ∃ sx : Nat, va_Z "Particleway$Field" "STEP_Y" "[I" (.ref sx) (fun q => s.heap.size ≤ q) s s.heap ∧ va_T .int sx 4 (fun j => .int (stY j)) (fun q => s.heap.size ≤ q) s s.heap := by
    obtain ⟨t, ht, hT⟩ := va_Tof (tm := .static "Particleway$Field" "STEP_Y" "[I") (ty := .int) (N := 4) (f := fun j => .int (stY j)) (by decide) (hq (.arrayOf (.static "Particleway$Field" "STEP_Y" "[I") .int) (by decide +kernel)) (va_eqt (hq (.eq (.length (.static "Particleway$Field" "STEP_Y" "[I")) (.int 4)) (by decide +kernel))) (fun j hj => by
      rcases (show j = 0 ∨ j = 1 ∨ j = 2 ∨ j = 3 by omega) with rfl | rfl | rfl | rfl
      · exact va_eqt (z := (0)) (hq (.eq (.elem (.static "Particleway$Field" "STEP_Y" "[I") (.int 0)) (.int (0))) (by decide +kernel))
      · exact va_eqt (z := (1)) (hq (.eq (.elem (.static "Particleway$Field" "STEP_Y" "[I") (.int 1)) (.int (1))) (by decide +kernel))
      · exact va_eqt (z := (0)) (hq (.eq (.elem (.static "Particleway$Field" "STEP_Y" "[I") (.int 2)) (.int (0))) (by decide +kernel))
      · exact va_eqt (z := (-1)) (hq (.eq (.elem (.static "Particleway$Field" "STEP_Y" "[I") (.int 3)) (.int (-1))) (by decide +kernel))) hA
    exact ⟨t, va_Zref (hts (.laysStatic "Particleway$Field" "STEP_Y" "[I") (by decide +kernel)) (hts (.initialized "Particleway$Field") (by decide +kernel)) ht hA, hT⟩
  refine ⟨⟨hx, hy, vx_Zqof (hts (.laysStatic Bundle.tN "UNASSIGNED_STACK" Bundle.steD) (by decide +kernel)) (hts (.initialized Bundle.tN) (by decide +kernel)) (hq (.isRef (.static Bundle.tN "UNASSIGNED_STACK" Bundle.steD)) (by decide +kernel)) hA, vx_Zqof (hts (.laysStatic Bundle.tN "SUPPRESSED_SENTINEL" Bundle.listD) (by decide +kernel)) (hts (.initialized Bundle.tN) (by decide +kernel)) (hq (.isRef (.static Bundle.tN "SUPPRESSED_SENTINEL" Bundle.listD)) (by decide +kernel)) hA⟩, ?_⟩
  exact ⟨va_Nw.of rfl (hts (.methodLinkNest RX2 15 yX5_isCell RX5) (by decide +kernel)), va_Nw.of rfl (hts (.methodLinkNest RX3 22 yX5_isCell RX5) (by decide +kernel)), va_Nw.of rfl (hts (.methodLinkNest RX3 36 yX5_isDirection RX5) (by decide +kernel)), va_Nw.of rfl (hts (.methodLinkNest RX3 61 yX5_isInField RX5) (by decide +kernel)), va_Nw.of rfl (hts (.methodLinkNest RX3 65 yX5_numberOf RX5) (by decide +kernel)), va_Nw.of rfl (hts (.methodLinkNest RX4 83 yX5_quotient RX5) (by decide +kernel)), va_Nw.of rfl (hts (.castable "java/lang/IndexOutOfBoundsException" "java/lang/IndexOutOfBoundsException") (by decide +kernel)), va_Nw.of rfl (hts (.castable "java/lang/IllegalArgumentException" "java/lang/IllegalArgumentException") (by decide +kernel)), va_Nw.of rfl (hts (.castable "java/lang/IllegalStateException" "java/lang/IllegalStateException") (by decide +kernel)), va_Nc.of (hq (.not (.castable "java/lang/IllegalArgumentException" "java/lang/IndexOutOfBoundsException")) (by decide +kernel)), va_Nc.of (hq (.not (.castable "java/lang/IllegalStateException" "java/lang/IndexOutOfBoundsException")) (by decide +kernel)), va_Nc.of (hq (.not (.castable "java/lang/IllegalStateException" "java/lang/IllegalArgumentException")) (by decide +kernel)), va_Nw.of rfl (hts (.declares (Bundle.init0 "java/lang/RuntimeException")) (by decide +kernel)), va_Nw.of rfl (hts (.declares (Bundle.init0 "java/lang/Exception")) (by decide +kernel)), va_Nw.of rfl (hts (.declares (Bundle.init0 Bundle.tN)) (by decide +kernel))⟩
/-- room enough for eighty 22 -/
abbrev R9 : Room := { frames := 14, cells := 5000, slots := 30000, locals := 600 }
/-- a start in which the script can be read -/
def mPx (D : va_G) (tys : List (ClassId × FieldType)) (sz : Nat) (av : List Value) (b L : Nat) (xs : Nat → Int32) : Array Value → State → Prop := fun a U => mPc D tys [] sz av a U ∧ va_X b L xs U U.heap ∧ b < U.heap.size
theorem mPx_blind {D : va_G} {tys : List (ClassId × FieldType)} {sz : Nat} {av : List Value} {b L : Nat} {xs : Nat → Int32} : FrameBlind (mPx D tys sz av b L xs) := by
  intro a U g mk q
  obtain ⟨h1, h2, h3⟩ := q
  exact ⟨mPc_blind a U g mk h1, va_X.moved (u := U) (U := U.calling g mk a) (Vm.Alike.refl U.vm) h2, h3⟩
theorem c_L_cell (l : Launch) (D : va_G) (cyI cyJ cyZ : ClassId) (sz b L k : Nat) (xs : Nat → Int32) (hk : k < L) (hL : L < 2147483648) : Met l yL_cell wsL_cell ({ frames := 2, cells := 0, slots := 0, locals := 60 } : Room) (mPx D [(cyI, .int), (cyJ, .long), (cyZ, .boolean)] sz [.ref b, .int (nI k)] b L xs) (va_Qi (fun (r : Int32) (u : va_W) => r = xs k ∧ u = []) (mG D [(cyI, .int), (cyJ, .long), (cyZ, .boolean)] [] sz 0) (va_A [] sz)) 0 0 (va_A [] sz) := by
  refine Met.ofW (cc := cL_cell) (maxL := 2) (ret := some .int) (by decide) rfl ?_
  intro p e s m args below meth c s₁ B hml hv
  obtain ⟨⟨rfl, rfl, hP, hK, hD0, hG⟩, hX, hbl⟩ := hv
  have hts := atoms_spec (ws := wsL_cell) B.pre
  have hown := findClass_of_methodNamed B.named
  have S : CallFix p m c cL_cell 2 s [.ref b, .int (nI k)].toArray wsL_cell RL := ⟨B.exec, B.bytes, hml, hown, hts⟩
  have hl := lv_entry ([.ref b, .int (nI k)]) (n := 2) (Nat.le_of_ble_eq_true rfl)
  rw [lg_entry_eq]
  generalize (lg_sl ([.ref b, .int (nI k)]) ++ List.replicate (2 - (lg_sl ([.ref b, .int (nI k)])).length) Slot.unset).toArray = ls at hl ⊢
  have hl : lv_has ls 2 [(0, .ref b), (1, .int (nI k))] := hl
  have hbA : ¬ va_A [] s.heap.size b := fun h => by
    rcases h with ⟨q, z, h⟩ | h
    · simp at h
    · omega
  have hS : va_S (va_A [] s.heap.size) s.heap s.heap [] := va_S.rf
  refine lv_iload_n S.1 S.2.1 dL_cell_0 rfl (lv_at hl 1 rfl) ?_
  refine lv_aload_n S.1 S.2.1 dL_cell_1 rfl (lv_at hl 0 rfl) ?_
  refine va_slen S.1 S.2.1 hX hbl hbA hS dL_cell_2 ?_
  refine k_topi (y := nI L) rfl ?_
  refine kn_icmp_ge S (by omega) (by omega) dL_cell_3 (tgt := 12) (by decide) (fun c3 => ?_) (fun c3 => ?_)
  · exfalso; omega
  · refine lv_aload_n S.1 S.2.1 dL_cell_6 rfl (lv_at hl 0 rfl) ?_
    refine lv_iload_n S.1 S.2.1 dL_cell_7 rfl (lv_at hl 1 rfl) ?_
    refine va_sld S.1 S.2.1 hX hbl hbA hS (vp_in_nI (show k < L by omega) (by omega)) dL_cell_8 ?_
    refine k_topi (y := xs k) (by rw [nI_clamp (by omega)]) ?_
    refine lv_goto (tgt := 27) S.1 S.2.1 dL_cell_9 (by decide) ?_
    exact W.iret B.exec B.bytes B.returns (fun t ht hW => ⟨⟨xs k, [], rfl, ⟨rfl, rfl⟩, ⟨by rw [ht]; exact hP, va_K.moved hW.alike hK, hD0.self⟩, by rw [ht]; exact Nat.le_refl _⟩, hS.F ht⟩) hS.2.2 dL_cell_27 B.notSynchronized
section ROW19
variable {p : Program} {l : Launch} {e : Env} {R : Room} {s : State} {m : MethodId} {args : Array Value} {below : List Frame} {meth : Method} {c : Code} {H : Heap} {locs : List Loc} {cells slots : Nat} {Q : State → Prop} {cc : ByteArray} {pc : Nat} {ls : Array Slot} {rest : List Value} {nL : Nat} {Ts : List Cond} {own : String} {D : va_G} {ws : va_W} {cyI cyJ cyZ : ClassId} {A : Nat → Prop}
theorem kg_cell (S : CallFix p m c cc nL s args Ts own) {index b L k : Nat} {xs : Nat → Int32} (hX : va_X b L xs s s.heap) (hbl : b < s.heap.size) (hbA : ¬ A b) (hk : k < L) (hL : L < 2147483648)
    (cw : CallB R s args own index yL_cell cL_cell 2 (some .int) wsL_cell ({ frames := 2, cells := 0, slots := 0, locals := 60 } : Room) 0 0 2 ∧ (Cond.static yL_cell).before args s = true)
    (hK : va_K D vwCl [(cyI, .int), (cyJ, .long), (cyZ, .boolean)] s) (hP : va_P D vwCl ws H) (hD : va_D A ws) (hS : va_S A s.heap H locs) (hA : ∀ q, s.heap.size ≤ q → A q) (hG : gS A s s.heap)
    (hsize : ls.size = nL) (hW : (rest.map fun v => v.category).sum ≤ 8) (d : decode cc pc = .ok (.invokestatic index, 3)) (hf : cells + 0 ≤ R.cells ∧ slots + 0 ≤ R.slots)
    (kk : ∀ (H1 : Heap) (locs1 : List Loc), va_P D vwCl ws H1 → va_D A ws → va_S A s.heap H1 locs1 → H.size + 0 ≤ H1.size → W p l e R s m args below meth c H1 locs1 cells slots Q (F0 m (pc + 3) ls (.int (xs k) :: rest))) :
    W p l e R s m args below meth c H locs cells slots Q (F0 m pc ls (.int (nI k) :: .ref b :: rest)) := by
  have hFc := va_free (wc := []) hD hS hA [] rfl
  refine va_calli (va_runS S (c_L_cell l D cyI cyJ cyZ H.size b L k xs hk hL) cw ⟨mPx_blind, fun U hU hW9 => ⟨mPc_of hK hP hD hS hA hG [] rfl (by decide) U hU hW9, by rw [hU]; exact (hX.kept (hS.2.1 b hbl hbA)).moved hW9.alike, by rw [hU]; exact Nat.lt_of_lt_of_le hbl hS.1⟩⟩ rfl rfl hsize rfl (lv_room hW) d hf) hS (fun q _ h => hFc q h) hFc (fun r u t H1 locs1 ht hvm hw hB hz1 hk1 hS1 => ?_)
  obtain ⟨rfl, rfl⟩ := hw
  refine kk H1 locs1 (fun k q hk => (hP k q hk).kept (hk1 q.1 (vx_lt hP hk) (fun h => ?_))) hD hS1 hz1
  have h8 := vx_lt hP hk
  rcases h with ⟨q9, z, h⟩ | h
  · simp at h
  · omega
end ROW19

section IT19
variable {p : Program} {l : Launch} {e : Env} {s : State} {m : MethodId} {below : List Frame} {meth : Method} {c : Code} {H0 : Heap} {locs : List Loc} {cells slots : Nat} {Q : State → Prop} {ls : Array Slot} {D : va_G} {A : Nat → Prop} {cyI cyJ cyZ : ClassId} {b i : Nat}
variable {a0 p1 q1 q0 k0 e0 y1 y2 q2 q3 q4 q5 a0b p1b q1b q0b k0b e0b y1b y2b q2b q3b q4b q5b : Nat}
set_option maxHeartbeats 4000000 in
set_option maxRecDepth 100000 in
theorem law_it (S : CallFix p m c cL_law 7 s #[Value.ref b] wsL_law RL) (hlt : l.stackTraces = false) (hX : va_X b 80 (fun _ => nI 22) s s.heap) (hbl : b < s.heap.size) (hbA : ¬ A b) (hA : ∀ q, s.heap.size ≤ q → A q) (hK : va_K D vwCl [(cyI, .int), (cyJ, .long), (cyZ, .boolean)] s) (hG : gS A s s.heap) (hi : i < 80) (hf9 : cells + 55 ≤ 5000 ∧ slots + 330 ≤ 30000) (hP : va_P D vwCl [(a0, .inr (5, [.ref p1, .ref q1, .ref q0, .ref k0, .ref e0, .ref y1, .ref y2, .int (nI 0), .int (bI false)])), (q0, .inr (4, [.ref p1, .ref q1, .ref q2, .ref q3, .ref q4, .ref q5, .int (nI 0), .int (bI false), .int (nI 0), .int (nI 0), .int (nI 0)])), (a0b, .inr (5, [.ref p1b, .ref q1b, .ref q0b, .ref k0b, .ref e0b, .ref y1b, .ref y2b, .int (nI 0), .int (bI false)])), (q0b, .inr (4, [.ref p1b, .ref q1b, .ref q2b, .ref q3b, .ref q4b, .ref q5b, .int (nI 0), .int (bI false), .int (nI 0), .int (nI 0), .int (nI 0)]))] H0) (hD : va_D A [(a0, .inr (5, [.ref p1, .ref q1, .ref q0, .ref k0, .ref e0, .ref y1, .ref y2, .int (nI 0), .int (bI false)])), (q0, .inr (4, [.ref p1, .ref q1, .ref q2, .ref q3, .ref q4, .ref q5, .int (nI 0), .int (bI false), .int (nI 0), .int (nI 0), .int (nI 0)])), (a0b, .inr (5, [.ref p1b, .ref q1b, .ref q0b, .ref k0b, .ref e0b, .ref y1b, .ref y2b, .int (nI 0), .int (bI false)])), (q0b, .inr (4, [.ref p1b, .ref q1b, .ref q2b, .ref q3b, .ref q4b, .ref q5b, .int (nI 0), .int (bI false), .int (nI 0), .int (nI 0), .int (nI 0)]))]) (hS : va_S A s.heap H0 locs) (hl : lv_has ls 7 [(0, .ref b), (1, .ref a0), (2, .ref a0b), (3, .int (nI i))])
    (kk : ∀ (H : Heap) (locs : List Loc) (ls : Array Slot), va_P D vwCl [(a0, .inr (5, [.ref p1, .ref q1, .ref q0, .ref k0, .ref e0, .ref y1, .ref y2, .int (nI 0), .int (bI false)])), (q0, .inr (4, [.ref p1, .ref q1, .ref q2, .ref q3, .ref q4, .ref q5, .int (nI 0), .int (bI false), .int (nI 0), .int (nI 0), .int (nI 0)])), (a0b, .inr (5, [.ref p1b, .ref q1b, .ref q0b, .ref k0b, .ref e0b, .ref y1b, .ref y2b, .int (nI 0), .int (bI false)])), (q0b, .inr (4, [.ref p1b, .ref q1b, .ref q2b, .ref q3b, .ref q4b, .ref q5b, .int (nI 0), .int (bI false), .int (nI 0), .int (nI 0), .int (nI 0)]))] H → va_D A [(a0, .inr (5, [.ref p1, .ref q1, .ref q0, .ref k0, .ref e0, .ref y1, .ref y2, .int (nI 0), .int (bI false)])), (q0, .inr (4, [.ref p1, .ref q1, .ref q2, .ref q3, .ref q4, .ref q5, .int (nI 0), .int (bI false), .int (nI 0), .int (nI 0), .int (nI 0)])), (a0b, .inr (5, [.ref p1b, .ref q1b, .ref q0b, .ref k0b, .ref e0b, .ref y1b, .ref y2b, .int (nI 0), .int (bI false)])), (q0b, .inr (4, [.ref p1b, .ref q1b, .ref q2b, .ref q3b, .ref q4b, .ref q5b, .int (nI 0), .int (bI false), .int (nI 0), .int (nI 0), .int (nI 0)]))] → va_S A s.heap H locs → lv_has ls 7 [(0, .ref b), (1, .ref a0), (2, .ref a0b), (3, .int (nI i))] → H0.size + (if i % 20 = 19 then 54 else 0) ≤ H.size → W p l e R9 s m #[Value.ref b] below meth c H locs (cells + 55) (slots + 330) Q (F0 m 85 ls [])) :
    W p l e R9 s m #[Value.ref b] below meth c H0 locs cells slots Q (F0 m 24 ls []) := by
  have hg : H0.size + 0 ≤ H0.size := Nat.le_refl _
  refine lv_aload_n S.1 S.2.1 dL_law_24 rfl (lv_at hl 0 rfl) ?_
  refine lv_iload_n S.1 S.2.1 dL_law_25 rfl (lv_at hl 3 rfl) ?_
  refine kg_cell S hX hbl hbA (show i < 80 by omega) (by decide) (va_cwS 2 S.2.2.2.2 gL_law_L_cell rfl rfl rfl (by decide +kernel) ⟨Nat.le_of_ble_eq_true rfl, Nat.le_of_ble_eq_true rfl⟩) hK hP hD hS hA hG hl.1 (Nat.le_of_ble_eq_true rfl) dL_law_26 ⟨by show _ ≤ 5000; omega, by show _ ≤ 30000; omega⟩ (fun H locs hP hD hS hz => ?_)
  have hg : H0.size + 0 ≤ H.size := Nat.le_trans (Nat.add_le_add_right hg 0) hz
  refine k_topi (y := nI 22) rfl ?_
  refine lv_istore (lv' := [(4, .int (nI 22)), (0, .ref b), (1, .ref a0), (2, .ref a0b), (3, .int (nI i))]) S.1 S.2.1 dL_law_29 hl (by decide) rfl (fun ls hl => ?_)
  refine lv_aload_n S.1 S.2.1 dL_law_31 rfl (lv_at hl 2 rfl) ?_
  refine lv_iload S.1 S.2.1 dL_law_32 (lv_at hl 0 rfl) ?_
  refine lv_iload_n S.1 S.2.1 dL_law_34 rfl (lv_at hl 4 rfl) ?_
  refine kgS_l S (g := 1) (wc := [(a0, .inr (5, [.ref p1, .ref q1, .ref q0, .ref k0, .ref e0, .ref y1, .ref y2, .int (nI 0), .int (bI false)]))]) (wr := [(q0, .inr (4, [.ref p1, .ref q1, .ref q2, .ref q3, .ref q4, .ref q5, .int (nI 0), .int (bI false), .int (nI 0), .int (nI 0), .int (nI 0)])), (a0b, .inr (5, [.ref p1b, .ref q1b, .ref q0b, .ref k0b, .ref e0b, .ref y1b, .ref y2b, .int (nI 0), .int (bI false)])), (q0b, .inr (4, [.ref p1b, .ref q1b, .ref q2b, .ref q3b, .ref q4b, .ref q5b, .int (nI 0), .int (bI false), .int (nI 0), .int (nI 0), .int (nI 0)]))]) (ws2 := [(a0, .inr (5, [.ref p1, .ref q1, .ref q0, .ref k0, .ref e0, .ref y1, .ref y2, .int (nI 0), .int (bI false)])), (q0, .inr (4, [.ref p1, .ref q1, .ref q2, .ref q3, .ref q4, .ref q5, .int (nI 0), .int (bI false), .int (nI 0), .int (nI 0), .int (nI 0)])), (a0b, .inr (5, [.ref p1b, .ref q1b, .ref q0b, .ref k0b, .ref e0b, .ref y1b, .ref y2b, .int (nI 0), .int (bI false)])), (q0b, .inr (4, [.ref p1b, .ref q1b, .ref q2b, .ref q3b, .ref q4b, .ref q5b, .int (nI 0), .int (bI false), .int (nI 0), .int (nI 0), .int (nI 0)]))]) (As := [.ref a0, .int (nI 22), .int (nI i)]) (rest := []) (c_L_act l D cyI cyJ cyZ H.size hlt a0 p1 q1 q0 k0 e0 y1 y2 i (by first | assumption | decide | omega)) (va_cwS 3 S.2.2.2.2 gL_law_L_act rfl rfl rfl (by decide +kernel) ⟨Nat.le_of_ble_eq_true rfl, Nat.le_of_ble_eq_true rfl⟩) hK hP hD hS hA hG [0] [1, 2, 3] [3, 0, 1, 2] rfl rfl rfl rfl (by decide) rfl rfl rfl hl.1 rfl (Nat.le_of_ble_eq_true rfl) dL_law_35 ⟨by show _ ≤ 5000; omega, by show _ ≤ 30000; omega⟩ (fun H locs hP hD hS hz => ?_)
  have hg : H0.size + 1 ≤ H.size := Nat.le_trans (Nat.add_le_add_right hg 1) hz
  refine lv_lstore (lv' := [(5, .long (-9000000000000000)), (4, .int (nI 22)), (0, .ref b), (1, .ref a0), (2, .ref a0b), (3, .int (nI i))]) S.1 S.2.1 dL_law_38 hl (by decide) rfl (fun ls hl => ?_)
  refine lv_lload S.1 S.2.1 dL_law_40 (lv_at hl 0 rfl) ?_
  refine lv_ldc2 (v := (-9000000000000000)) S.1 S.2.1 S.2.2.2.1 (S.2.2.2.2 (.constantLong RL 16 (-9000000000000000)) (by decide +kernel)) dL_law_42 ?_
  refine W.lcmp S.1 S.2.1 dL_law_45 ?_
  refine lv_if_eq S.1 S.2.1 dL_law_46 (tgt := 62) (by decide) (fun c46 => ?_) (fun c46 => ?_)
  · refine lv_iload_n S.1 S.2.1 dL_law_62 rfl (lv_at hl 5 rfl) ?_
    refine lv_bipush (v := nI 20) S.1 S.2.1 dL_law_63 (by decide) ?_
    refine kn_irem S (by omega) (by omega) (by omega) dL_law_65 ?_
    refine lv_bipush (v := nI 19) S.1 S.2.1 dL_law_66 (by decide) ?_
    refine kn_icmp_ne S (by omega) (by omega) dL_law_68 (tgt := 85) (by decide) (fun c68 => ?_) (fun c68 => ?_)
    · refine W.widen (k := cells + 55) (n := slots + 330) (by omega) (by omega) ?_
      exact kk _ _ _ hP hD hS (lv_sub hl [2, 3, 4, 5] rfl) (by rw [if_neg c68]; omega)
    · refine lv_aload_n S.1 S.2.1 dL_law_71 rfl (lv_at hl 3 rfl) ?_
      refine lv_aload_n S.1 S.2.1 dL_law_72 rfl (lv_at hl 4 rfl) ?_
      refine lv_iload S.1 S.2.1 dL_law_73 (lv_at hl 1 rfl) ?_
      refine lv_iconst (v := nI 3) S.1 S.2.1 dL_law_75 (by decide) ?_
      refine lv_ishr S.1 S.2.1 dL_law_76 ?_
      refine k_topi (y := nI 2) (by decide) ?_
      refine kgS_i S (g := 54) (wc := [(a0, .inr (5, [.ref p1, .ref q1, .ref q0, .ref k0, .ref e0, .ref y1, .ref y2, .int (nI 0), .int (bI false)])), (q0, .inr (4, [.ref p1, .ref q1, .ref q2, .ref q3, .ref q4, .ref q5, .int (nI 0), .int (bI false), .int (nI 0), .int (nI 0), .int (nI 0)])), (a0b, .inr (5, [.ref p1b, .ref q1b, .ref q0b, .ref k0b, .ref e0b, .ref y1b, .ref y2b, .int (nI 0), .int (bI false)])), (q0b, .inr (4, [.ref p1b, .ref q1b, .ref q2b, .ref q3b, .ref q4b, .ref q5b, .int (nI 0), .int (bI false), .int (nI 0), .int (nI 0), .int (nI 0)]))]) (wr := []) (ws2 := [(a0, .inr (5, [.ref p1, .ref q1, .ref q0, .ref k0, .ref e0, .ref y1, .ref y2, .int (nI 0), .int (bI false)])), (q0, .inr (4, [.ref p1, .ref q1, .ref q2, .ref q3, .ref q4, .ref q5, .int (nI 0), .int (bI false), .int (nI 0), .int (nI 0), .int (nI 0)])), (a0b, .inr (5, [.ref p1b, .ref q1b, .ref q0b, .ref k0b, .ref e0b, .ref y1b, .ref y2b, .int (nI 0), .int (bI false)])), (q0b, .inr (4, [.ref p1b, .ref q1b, .ref q2b, .ref q3b, .ref q4b, .ref q5b, .int (nI 0), .int (bI false), .int (nI 0), .int (nI 0), .int (nI 0)]))]) (As := [.ref a0, .ref a0b, .int (nI 2)]) (rest := []) (c_L_areAlike l D cyI cyJ cyZ H.size hlt a0 p1 q1 q0 k0 e0 y1 y2 q2 q3 q4 q5 a0b p1b q1b q0b k0b e0b y1b y2b q2b q3b q4b q5b ) (va_cwS 3 S.2.2.2.2 gL_law_L_areAlike rfl rfl rfl (by decide +kernel) ⟨Nat.le_of_ble_eq_true rfl, Nat.le_of_ble_eq_true rfl⟩) hK hP hD hS hA hG [0, 1, 2, 3] [] [0, 1, 2, 3] rfl rfl rfl rfl (by decide) rfl rfl rfl hl.1 rfl (Nat.le_of_ble_eq_true rfl) dL_law_77 ⟨by show _ ≤ 5000; omega, by show _ ≤ 30000; omega⟩ (fun H locs hP hD hS hz => ?_)
      have hg : H0.size + 55 ≤ H.size := Nat.le_trans (Nat.add_le_add_right hg 54) hz
      refine kb_if_ne S dL_law_80 (tgt := 85) (by decide) (fun c80 => ?_) (fun c80 => ?_)
      · refine W.widen (k := cells + 55) (n := slots + 330) (by omega) (by omega) ?_
        exact kk _ _ _ hP hD hS (lv_sub hl [2, 3, 4, 5] rfl) (by rw [if_pos c68]; omega)
      · exact absurd c80 (by decide)
  · exact absurd ((lg_cmp_eq _ _).mpr rfl) c46
/-- that the heap has grown by more than the claim grants -/
def Qc9 : Array Value → State → Outcome → State → Prop := fun _ st _ t => st.heap.size + 144 ≤ t.heap.size
set_option maxHeartbeats 4000000 in
set_option maxRecDepth 100000 in
theorem law_end (S : CallFix p m c cL_law 7 s #[Value.ref b] wsL_law RL) (hlt : l.stackTraces = false) (hX : va_X b 80 (fun _ => nI 22) s s.heap) (hbl : b < s.heap.size) (hbA : ¬ A b) (hA : ∀ q, s.heap.size ≤ q → A q) (hK : va_K D vwCl [(cyI, .int), (cyJ, .long), (cyZ, .boolean)] s) (hG : gS A s s.heap) (hr : meth.sig.returnType = ret) (hlocks : meth.locks = false) (hn : s.heap.size + 144 ≤ H0.size) (hf9 : cells + 55 ≤ 5000 ∧ slots + 330 ≤ 30000) (hP : va_P D vwCl [(a0, .inr (5, [.ref p1, .ref q1, .ref q0, .ref k0, .ref e0, .ref y1, .ref y2, .int (nI 0), .int (bI false)])), (q0, .inr (4, [.ref p1, .ref q1, .ref q2, .ref q3, .ref q4, .ref q5, .int (nI 0), .int (bI false), .int (nI 0), .int (nI 0), .int (nI 0)])), (a0b, .inr (5, [.ref p1b, .ref q1b, .ref q0b, .ref k0b, .ref e0b, .ref y1b, .ref y2b, .int (nI 0), .int (bI false)])), (q0b, .inr (4, [.ref p1b, .ref q1b, .ref q2b, .ref q3b, .ref q4b, .ref q5b, .int (nI 0), .int (bI false), .int (nI 0), .int (nI 0), .int (nI 0)]))] H0) (hD : va_D A [(a0, .inr (5, [.ref p1, .ref q1, .ref q0, .ref k0, .ref e0, .ref y1, .ref y2, .int (nI 0), .int (bI false)])), (q0, .inr (4, [.ref p1, .ref q1, .ref q2, .ref q3, .ref q4, .ref q5, .int (nI 0), .int (bI false), .int (nI 0), .int (nI 0), .int (nI 0)])), (a0b, .inr (5, [.ref p1b, .ref q1b, .ref q0b, .ref k0b, .ref e0b, .ref y1b, .ref y2b, .int (nI 0), .int (bI false)])), (q0b, .inr (4, [.ref p1b, .ref q1b, .ref q2b, .ref q3b, .ref q4b, .ref q5b, .int (nI 0), .int (bI false), .int (nI 0), .int (nI 0), .int (nI 0)]))]) (hS : va_S A s.heap H0 locs) (hl : lv_has ls 7 [(0, .ref b), (1, .ref a0), (2, .ref a0b), (3, .int (nI i))]) :
    W p l e R9 s m #[Value.ref b] below meth c H0 locs cells slots (MQ below Qc9 #[Value.ref b] s 5000 30000 (fun _ => True)) (F0 m 91 ls []) := by
  have hg : H0.size + 0 ≤ H0.size := Nat.le_refl _
  refine lv_aload_n S.1 S.2.1 dL_law_91 rfl (lv_at hl 1 rfl) ?_
  refine kgW_l S (g := 1) (wc := [(a0, .inr (5, [.ref p1, .ref q1, .ref q0, .ref k0, .ref e0, .ref y1, .ref y2, .int (nI 0), .int (bI false)]))]) (wr := [(q0, .inr (4, [.ref p1, .ref q1, .ref q2, .ref q3, .ref q4, .ref q5, .int (nI 0), .int (bI false), .int (nI 0), .int (nI 0), .int (nI 0)])), (a0b, .inr (5, [.ref p1b, .ref q1b, .ref q0b, .ref k0b, .ref e0b, .ref y1b, .ref y2b, .int (nI 0), .int (bI false)])), (q0b, .inr (4, [.ref p1b, .ref q1b, .ref q2b, .ref q3b, .ref q4b, .ref q5b, .int (nI 0), .int (bI false), .int (nI 0), .int (nI 0), .int (nI 0)]))]) (ws2 := [(a0, .inr (5, [.ref p1, .ref q1, .ref q0, .ref k0, .ref e0, .ref y1, .ref y2, .int (nI 0), .int (bI false)])), (q0, .inr (4, [.ref p1, .ref q1, .ref q2, .ref q3, .ref q4, .ref q5, .int (nI 0), .int (bI false), .int (nI 0), .int (nI 0), .int (nI 0)])), (a0b, .inr (5, [.ref p1b, .ref q1b, .ref q0b, .ref k0b, .ref e0b, .ref y1b, .ref y2b, .int (nI 0), .int (bI false)])), (q0b, .inr (4, [.ref p1b, .ref q1b, .ref q2b, .ref q3b, .ref q4b, .ref q5b, .int (nI 0), .int (bI false), .int (nI 0), .int (nI 0), .int (nI 0)]))]) (As := [.ref a0]) (rest := []) (c_L_samples_1 l D cyI cyJ cyZ H0.size hlt a0 p1 q1 q0 k0 e0 y1 y2 0 ) (vx_cwSW 1 S.2.2.2.2 gL_law_L_samples rfl rfl rfl (by decide +kernel) ⟨Nat.le_of_ble_eq_true rfl, Nat.le_of_ble_eq_true rfl⟩) hK hP hD hS hA hG [0] [1, 2, 3] [3, 0, 1, 2] rfl rfl rfl rfl (by decide) rfl rfl rfl hl.1 rfl (Nat.le_of_ble_eq_true rfl) dL_law_92 ⟨by show _ ≤ 5000; omega, by show _ ≤ 30000; omega⟩ (fun H locs hP hD hS hz => ?_)
  have hg : H0.size + 1 ≤ H.size := Nat.le_trans (Nat.add_le_add_right hg 1) hz
  refine lv_lconst (v := lN 0) S.1 S.2.1 dL_law_95 (by decide) ?_
  refine W.lcmp S.1 S.2.1 dL_law_96 ?_
  refine lv_if_ge S.1 S.2.1 dL_law_97 (tgt := 121) (by decide) (fun c97 => ?_) (fun c97 => ?_)
  · exact absurd c97 (by decide)
  · refine lv_aload_n S.1 S.2.1 dL_law_100 rfl (lv_at hl 1 rfl) ?_
    refine lv_iconst (v := nI 0) S.1 S.2.1 dL_law_101 (by decide) ?_
    refine lv_iconst (v := nI 0) S.1 S.2.1 dL_law_102 (by decide) ?_
    refine kgW_l S (g := 1) (wc := [(a0, .inr (5, [.ref p1, .ref q1, .ref q0, .ref k0, .ref e0, .ref y1, .ref y2, .int (nI 0), .int (bI false)]))]) (wr := [(q0, .inr (4, [.ref p1, .ref q1, .ref q2, .ref q3, .ref q4, .ref q5, .int (nI 0), .int (bI false), .int (nI 0), .int (nI 0), .int (nI 0)])), (a0b, .inr (5, [.ref p1b, .ref q1b, .ref q0b, .ref k0b, .ref e0b, .ref y1b, .ref y2b, .int (nI 0), .int (bI false)])), (q0b, .inr (4, [.ref p1b, .ref q1b, .ref q2b, .ref q3b, .ref q4b, .ref q5b, .int (nI 0), .int (bI false), .int (nI 0), .int (nI 0), .int (nI 0)]))]) (ws2 := [(a0, .inr (5, [.ref p1, .ref q1, .ref q0, .ref k0, .ref e0, .ref y1, .ref y2, .int (nI 0), .int (bI false)])), (q0, .inr (4, [.ref p1, .ref q1, .ref q2, .ref q3, .ref q4, .ref q5, .int (nI 0), .int (bI false), .int (nI 0), .int (nI 0), .int (nI 0)])), (a0b, .inr (5, [.ref p1b, .ref q1b, .ref q0b, .ref k0b, .ref e0b, .ref y1b, .ref y2b, .int (nI 0), .int (bI false)])), (q0b, .inr (4, [.ref p1b, .ref q1b, .ref q2b, .ref q3b, .ref q4b, .ref q5b, .int (nI 0), .int (bI false), .int (nI 0), .int (nI 0), .int (nI 0)]))]) (As := [.ref a0, .int (nI 0), .int (nI 0)]) (rest := []) (c_L_read_3a l D cyI cyJ cyZ H.size hlt a0 p1 q1 q0 k0 e0 y1 y2 0 0 0 (by decide) (by decide)) (vx_cwSW 3 S.2.2.2.2 gL_law_L_read rfl rfl rfl (by decide +kernel) ⟨Nat.le_of_ble_eq_true rfl, Nat.le_of_ble_eq_true rfl⟩) hK hP hD hS hA hG [0] [1, 2, 3] [3, 0, 1, 2] rfl rfl rfl rfl (by decide) rfl rfl rfl hl.1 rfl (Nat.le_of_ble_eq_true rfl) dL_law_103 ⟨by show _ ≤ 5000; omega, by show _ ≤ 30000; omega⟩ (fun H locs hP hD hS hz => ?_)
    have hg : H0.size + 2 ≤ H.size := Nat.le_trans (Nat.add_le_add_right hg 1) hz
    refine lv_ldc2 (v := (-9000000000000000)) S.1 S.2.1 S.2.2.2.1 (S.2.2.2.2 (.constantLong RL 16 (-9000000000000000)) (by decide +kernel)) dL_law_106 ?_
    refine W.lcmp S.1 S.2.1 dL_law_109 ?_
    refine lv_if_ne S.1 S.2.1 dL_law_110 (tgt := 117) (by decide) (fun c110 => ?_) (fun c110 => ?_)
    · exact absurd ((lg_cmp_eq _ _).mpr rfl) c110
    · refine lv_iconst (v := nI 1) S.1 S.2.1 dL_law_113 (by decide) ?_
      refine lv_goto (tgt := 125) S.1 S.2.1 dL_law_114 (by decide) ?_
      refine W.widen (k := 5000) (n := 30000) (by omega) (by omega) ?_
      exact W.zret (ty := .boolean) S.1 S.2.1 hr (by decide) (fun t ht hW => by show s.heap.size + 144 ≤ t.heap.size; rw [ht]; omega) (fun _ _ => trivial) dL_law_125 hlocks
set_option maxHeartbeats 4000000 in
set_option maxRecDepth 100000 in
theorem law_loop (S : CallFix p m c cL_law 7 s #[Value.ref b] wsL_law RL) (hlt : l.stackTraces = false) (hX : va_X b 80 (fun _ => nI 22) s s.heap) (hbl : b < s.heap.size) (hbA : ¬ A b) (hA : ∀ q, s.heap.size ≤ q → A q) (hK : va_K D vwCl [(cyI, .int), (cyJ, .long), (cyZ, .boolean)] s) (hG : gS A s s.heap) (hr : meth.sig.returnType = ret) (hlocks : meth.locks = false) :
    ∀ (n i : Nat), i + n = 80 → ∀ {H : Heap} {locs : List Loc} {ls : Array Slot}, va_P D vwCl [(a0, .inr (5, [.ref p1, .ref q1, .ref q0, .ref k0, .ref e0, .ref y1, .ref y2, .int (nI 0), .int (bI false)])), (q0, .inr (4, [.ref p1, .ref q1, .ref q2, .ref q3, .ref q4, .ref q5, .int (nI 0), .int (bI false), .int (nI 0), .int (nI 0), .int (nI 0)])), (a0b, .inr (5, [.ref p1b, .ref q1b, .ref q0b, .ref k0b, .ref e0b, .ref y1b, .ref y2b, .int (nI 0), .int (bI false)])), (q0b, .inr (4, [.ref p1b, .ref q1b, .ref q2b, .ref q3b, .ref q4b, .ref q5b, .int (nI 0), .int (bI false), .int (nI 0), .int (nI 0), .int (nI 0)]))] H → va_D A [(a0, .inr (5, [.ref p1, .ref q1, .ref q0, .ref k0, .ref e0, .ref y1, .ref y2, .int (nI 0), .int (bI false)])), (q0, .inr (4, [.ref p1, .ref q1, .ref q2, .ref q3, .ref q4, .ref q5, .int (nI 0), .int (bI false), .int (nI 0), .int (nI 0), .int (nI 0)])), (a0b, .inr (5, [.ref p1b, .ref q1b, .ref q0b, .ref k0b, .ref e0b, .ref y1b, .ref y2b, .int (nI 0), .int (bI false)])), (q0b, .inr (4, [.ref p1b, .ref q1b, .ref q2b, .ref q3b, .ref q4b, .ref q5b, .int (nI 0), .int (bI false), .int (nI 0), .int (nI 0), .int (nI 0)]))] → va_S A s.heap H locs → lv_has ls 7 [(0, .ref b), (1, .ref a0), (2, .ref a0b), (3, .int (nI i))] → s.heap.size + 54 * (i / 20) ≤ H.size → W p l e R9 s m #[Value.ref b] below meth c H locs (46 + 55 * i) (2934 + 330 * i) (MQ below Qc9 #[Value.ref b] s 5000 30000 (fun _ => True)) (F0 m 18 ls []) := by
  intro n
  induction n with
  | zero =>
    intro i hi H locs ls hP hD hS hl hn
    have hi : i = 80 := by omega
    subst hi
    refine lv_iload_n S.1 S.2.1 dL_law_18 rfl (lv_at hl 3 rfl) ?_
    refine lv_bipush (v := nI 80) S.1 S.2.1 dL_law_19 (by decide) ?_
    refine kn_icmp_ge S (by decide) (by decide) dL_law_21 (tgt := 91) (by decide) (fun c21 => ?_) (fun c21 => ?_)
    · exact law_end (i := 80) S hlt hX hbl hbA hA hK hG hr hlocks (by omega) ⟨by decide, by decide⟩ hP hD hS hl
    · exact absurd c21 (by decide)
  | succ n ih =>
    intro i hi H locs ls hP hD hS hl hn
    refine lv_iload_n S.1 S.2.1 dL_law_18 rfl (lv_at hl 3 rfl) ?_
    refine lv_bipush (v := nI 80) S.1 S.2.1 dL_law_19 (by decide) ?_
    refine kn_icmp_ge S (by omega) (by decide) dL_law_21 (tgt := 91) (by decide) (fun c21 => ?_) (fun c21 => ?_)
    · exfalso; omega
    · refine law_it S hlt hX hbl hbA hA hK hG (show i < 80 by omega) ⟨by omega, by omega⟩ hP hD hS hl (fun H2 locs ls hP hD hS hl hz => ?_)
      refine lv_iinc (v := nI (i + 1)) (lv' := [(3, .int (nI (i + 1))), (0, .ref b), (1, .ref a0), (2, .ref a0b)]) S.1 S.2.1 dL_law_85 hl (k := 3) rfl (iinc_1 _) (by decide) rfl (fun ls hl => ?_)
      refine lv_goto (tgt := 18) S.1 S.2.1 dL_law_88 (by decide) ?_
      refine W.widen (k := 46 + 55 * (i + 1)) (n := 2934 + 330 * (i + 1)) (by omega) (by omega) ?_
      refine ih (i + 1) (by omega) hP hD hS (lv_sub hl [1, 2, 3, 0] rfl) ?_
      by_cases h19 : i % 20 = 19
      · rw [if_pos h19] at hz
        omega
      · rw [if_neg h19] at hz
        omega
end IT19
set_option maxHeartbeats 4000000 in
set_option maxRecDepth 100000 in
/-- the law's method, on the script of eighty 22: it ends, and the heap has grown by more than 143 cells -/
theorem law_start {p : Program} {e : Env} {s : State} {m : MethodId} {below : List Frame} {meth : Method} {c : Code} (l : Launch) (hflags : l.flags = flags0) {b : Nat} (hX : va_X b 80 (fun _ => nI 22) s s.heap) (hbl : b < s.heap.size) (hx : p.tables.exec = Jvm.exec) (hb : c.code = code) (hr : meth.sig.returnType = ret) (hml : c.maxLocals = 7) (hown : s.vm.findClass RL = some m.cls) (hts : ∀ w ∈ lw_tbl, w.before #[Value.ref b] s = true) (hlocks : meth.locks = false) (hgv : (Jvm.Cond.and given_1 narrow_1).before #[Value.ref b] s = true) :
    W p l e R9 s m #[Value.ref b] below meth c s.heap [] 0 0 (MQ below Qc9 #[Value.ref b] s 5000 30000 (fun _ => True)) (entryFrame m ([Value.ref b] : List Value).toArray 7) := by
  have hlt : l.stackTraces = false := by unfold Launch.stackTraces; rw [hflags]; decide
  obtain ⟨D, cyI, cyJ, cyZ, hK⟩ := lw_K hts
  have hG := lw_G hts hgv
  have S : CallFix p m c cL_law 7 s #[Value.ref b] wsL_law RL := ⟨hx, hb, hml, hown, fun w h => hts w (wsL_law_in w h)⟩
  have hP : va_P D vwCl [] s.heap := fun k q h => by simp at h
  have hD : va_D (fun q : Nat => s.heap.size ≤ q) [] := ⟨fun i j p q h => by simp at h, fun k q h => by simp at h⟩
  have hS : va_S (fun q : Nat => s.heap.size ≤ q) s.heap s.heap [] := va_S.rf
  have hbA : ¬ (fun q : Nat => s.heap.size ≤ q) b := Nat.not_le.mpr hbl
  have hl := lv_entry ([.ref b]) (n := 7) (Nat.le_of_ble_eq_true rfl)
  rw [lg_entry_eq]
  generalize (lg_sl ([.ref b]) ++ List.replicate (7 - (lg_sl ([.ref b])).length) Slot.unset).toArray = ls at hl ⊢
  have hl : lv_has ls 7 [(0, .ref b)] := hl
  obtain ⟨A, eA⟩ : ∃ A : Nat → Prop, A = fun q : Nat => s.heap.size ≤ q := ⟨_, rfl⟩
  have hA : ∀ q : Nat, s.heap.size ≤ q → A q := fun _ h => by rw [eA]; exact h
  rw [← eA] at hG hD hS hbA
  refine va_new (ci := 5) (fs := [.null, .null, .null, .null, .null, .null, .null, .int (nI 0), .int (bI false)]) (C := RX5) (T := TX5) (N := 9) S.1 S.2.1 S.2.2.2.2 (by decide +kernel) tyX5 tyX5_ok S.2.2.2.1 (S.2.2.2.2 (.classLink RL 9 RX5) (by decide +kernel)) (S.2.2.2.2 (.instantiable RX5 9) (by decide +kernel)) (S.2.2.2.2 (.initialized RX5) (by decide +kernel)) hK hP hD hS hA rfl (fun j hj => by rcases (show j = 0 ∨ j = 1 ∨ j = 2 ∨ j = 3 ∨ j = 4 ∨ j = 5 ∨ j = 6 ∨ j = 7 ∨ j = 8 by omega) with rfl | rfl | rfl | rfl | rfl | rfl | rfl | rfl | rfl <;> rfl) (Nat.le_of_ble_eq_true rfl) (Nat.le_of_ble_eq_true rfl) dL_law_0 (fun n1 H hP hD hS => ?_)
  have hP : va_P D vwCl [(n1, .inr (5, [.null, .null, .null, .null, .null, .null, .null, .int (nI 0), .int (bI false)]))] H := hP
  have hD : va_D A [(n1, .inr (5, [.null, .null, .null, .null, .null, .null, .null, .int (nI 0), .int (bI false)]))] := hD
  refine lv_dup S.1 S.2.1 dL_law_3 rfl ?_
  refine kcI S (wc := [(n1, .inr (5, [.null, .null, .null, .null, .null, .null, .null, .int (nI 0), .int (bI false)]))]) (wr := []) (As := []) (rest := [.ref n1]) (c_X5_init l D cyI cyJ cyZ H.size n1 ) (cwI 0 S.2.2.2.2 gL_law_X5_init rfl rfl rfl (S.2.2.2.2 (.initialized RX5) (by decide +kernel)) (S.2.2.2.2 (.methodLink RL 120 yX5_init) (by decide +kernel)) (S.2.2.2.2 (.instanceMethod yX5_init) (by decide +kernel)) rfl (by decide +kernel) ⟨Nat.le_of_ble_eq_true rfl, Nat.le_of_ble_eq_true rfl⟩) hK hP hD hS hA hG [0] [] rfl rfl rfl rfl (by decide) rfl hl.1 rfl (Nat.le_of_ble_eq_true rfl) dL_law_4 ⟨Nat.le_of_ble_eq_true rfl, Nat.le_of_ble_eq_true rfl⟩ (fun W9 H locs hp9 hP hD hS => ?_)
  obtain ⟨n2, n3, n4, n5, n6, n7, n8, n9, n10, n11, n12, n13, n14, n15, n16, n17, n18, n19, n20, n21, n22, n23, rfl⟩ := hp9
  have hP : va_P D vwCl [(n1, .inr (5, [.ref n2, .ref n5, .ref n6, .ref n12, .ref n17, .ref n22, .ref n23, .int (nI 0), .int (bI false)])), (n2, .inr (3, [.ref n3, .ref n4, .int (nI (cntF (fun _ => false) 64))])), (n3, .inl (cyZ, 64, .inl (aZ (fun _ => false)))), (n4, .inl (cyI, 256, .inl (ahV (fun _ => false)))), (n5, .inr (1, [.int (nI 1)])), (n6, .inr (4, [.ref n2, .ref n5, .ref n7, .ref n8, .ref n9, .ref n10, .int (nI 0), .int (bI false), .int (nI 0), .int (nI 0), .int (nI 0)])), (n7, .inl (cyI, 64, .inl (aI (fun _ => 0)))), (n8, .inl (cyI, 64, .inl (aI (fun _ => 0)))), (n9, .inl (cyI, 64, .inl (aI (fun _ => 0)))), (n10, .inr (2, [.ref n11])), (n11, .inl (cyJ, 64, .inr (.inl (aL (fun _ => 0))))), (n12, .inr (0, [.ref n2, .ref n13, .ref n15])), (n13, .inr (2, [.ref n14])), (n14, .inl (cyJ, 64, .inr (.inl (aL (fun _ => 0))))), (n15, .inr (2, [.ref n16])), (n16, .inl (cyJ, 64, .inr (.inl (aL (fun _ => 0))))), (n17, .inr (0, [.ref n2, .ref n18, .ref n20])), (n18, .inr (2, [.ref n19])), (n19, .inl (cyJ, 64, .inr (.inl (aL (fun _ => 0))))), (n20, .inr (2, [.ref n21])), (n21, .inl (cyJ, 64, .inr (.inl (aL (fun _ => 0))))), (n22, .inl (cyI, 300, .inl (aI (fun _ => 0)))), (n23, .inl (cyI, 300, .inl (aI (fun _ => 0))))] H := hP
  have hD : va_D A [(n1, .inr (5, [.ref n2, .ref n5, .ref n6, .ref n12, .ref n17, .ref n22, .ref n23, .int (nI 0), .int (bI false)])), (n2, .inr (3, [.ref n3, .ref n4, .int (nI (cntF (fun _ => false) 64))])), (n3, .inl (cyZ, 64, .inl (aZ (fun _ => false)))), (n4, .inl (cyI, 256, .inl (ahV (fun _ => false)))), (n5, .inr (1, [.int (nI 1)])), (n6, .inr (4, [.ref n2, .ref n5, .ref n7, .ref n8, .ref n9, .ref n10, .int (nI 0), .int (bI false), .int (nI 0), .int (nI 0), .int (nI 0)])), (n7, .inl (cyI, 64, .inl (aI (fun _ => 0)))), (n8, .inl (cyI, 64, .inl (aI (fun _ => 0)))), (n9, .inl (cyI, 64, .inl (aI (fun _ => 0)))), (n10, .inr (2, [.ref n11])), (n11, .inl (cyJ, 64, .inr (.inl (aL (fun _ => 0))))), (n12, .inr (0, [.ref n2, .ref n13, .ref n15])), (n13, .inr (2, [.ref n14])), (n14, .inl (cyJ, 64, .inr (.inl (aL (fun _ => 0))))), (n15, .inr (2, [.ref n16])), (n16, .inl (cyJ, 64, .inr (.inl (aL (fun _ => 0))))), (n17, .inr (0, [.ref n2, .ref n18, .ref n20])), (n18, .inr (2, [.ref n19])), (n19, .inl (cyJ, 64, .inr (.inl (aL (fun _ => 0))))), (n20, .inr (2, [.ref n21])), (n21, .inl (cyJ, 64, .inr (.inl (aL (fun _ => 0))))), (n22, .inl (cyI, 300, .inl (aI (fun _ => 0)))), (n23, .inl (cyI, 300, .inl (aI (fun _ => 0))))] := hD
  refine lv_astore_n (lv' := [(1, .ref n1), (0, .ref b)]) S.1 S.2.1 dL_law_7 rfl hl (by decide) rfl (fun ls hl => ?_)
  refine va_new (ci := 5) (fs := [.null, .null, .null, .null, .null, .null, .null, .int (nI 0), .int (bI false)]) (C := RX5) (T := TX5) (N := 9) S.1 S.2.1 S.2.2.2.2 (by decide +kernel) tyX5 tyX5_ok S.2.2.2.1 (S.2.2.2.2 (.classLink RL 9 RX5) (by decide +kernel)) (S.2.2.2.2 (.instantiable RX5 9) (by decide +kernel)) (S.2.2.2.2 (.initialized RX5) (by decide +kernel)) hK hP hD hS hA rfl (fun j hj => by rcases (show j = 0 ∨ j = 1 ∨ j = 2 ∨ j = 3 ∨ j = 4 ∨ j = 5 ∨ j = 6 ∨ j = 7 ∨ j = 8 by omega) with rfl | rfl | rfl | rfl | rfl | rfl | rfl | rfl | rfl <;> rfl) (Nat.le_of_ble_eq_true rfl) (Nat.le_of_ble_eq_true rfl) dL_law_8 (fun n24 H hP hD hS => ?_)
  have hP : va_P D vwCl [(n1, .inr (5, [.ref n2, .ref n5, .ref n6, .ref n12, .ref n17, .ref n22, .ref n23, .int (nI 0), .int (bI false)])), (n2, .inr (3, [.ref n3, .ref n4, .int (nI (cntF (fun _ => false) 64))])), (n3, .inl (cyZ, 64, .inl (aZ (fun _ => false)))), (n4, .inl (cyI, 256, .inl (ahV (fun _ => false)))), (n5, .inr (1, [.int (nI 1)])), (n6, .inr (4, [.ref n2, .ref n5, .ref n7, .ref n8, .ref n9, .ref n10, .int (nI 0), .int (bI false), .int (nI 0), .int (nI 0), .int (nI 0)])), (n7, .inl (cyI, 64, .inl (aI (fun _ => 0)))), (n8, .inl (cyI, 64, .inl (aI (fun _ => 0)))), (n9, .inl (cyI, 64, .inl (aI (fun _ => 0)))), (n10, .inr (2, [.ref n11])), (n11, .inl (cyJ, 64, .inr (.inl (aL (fun _ => 0))))), (n12, .inr (0, [.ref n2, .ref n13, .ref n15])), (n13, .inr (2, [.ref n14])), (n14, .inl (cyJ, 64, .inr (.inl (aL (fun _ => 0))))), (n15, .inr (2, [.ref n16])), (n16, .inl (cyJ, 64, .inr (.inl (aL (fun _ => 0))))), (n17, .inr (0, [.ref n2, .ref n18, .ref n20])), (n18, .inr (2, [.ref n19])), (n19, .inl (cyJ, 64, .inr (.inl (aL (fun _ => 0))))), (n20, .inr (2, [.ref n21])), (n21, .inl (cyJ, 64, .inr (.inl (aL (fun _ => 0))))), (n22, .inl (cyI, 300, .inl (aI (fun _ => 0)))), (n23, .inl (cyI, 300, .inl (aI (fun _ => 0)))), (n24, .inr (5, [.null, .null, .null, .null, .null, .null, .null, .int (nI 0), .int (bI false)]))] H := hP
  have hD : va_D A [(n1, .inr (5, [.ref n2, .ref n5, .ref n6, .ref n12, .ref n17, .ref n22, .ref n23, .int (nI 0), .int (bI false)])), (n2, .inr (3, [.ref n3, .ref n4, .int (nI (cntF (fun _ => false) 64))])), (n3, .inl (cyZ, 64, .inl (aZ (fun _ => false)))), (n4, .inl (cyI, 256, .inl (ahV (fun _ => false)))), (n5, .inr (1, [.int (nI 1)])), (n6, .inr (4, [.ref n2, .ref n5, .ref n7, .ref n8, .ref n9, .ref n10, .int (nI 0), .int (bI false), .int (nI 0), .int (nI 0), .int (nI 0)])), (n7, .inl (cyI, 64, .inl (aI (fun _ => 0)))), (n8, .inl (cyI, 64, .inl (aI (fun _ => 0)))), (n9, .inl (cyI, 64, .inl (aI (fun _ => 0)))), (n10, .inr (2, [.ref n11])), (n11, .inl (cyJ, 64, .inr (.inl (aL (fun _ => 0))))), (n12, .inr (0, [.ref n2, .ref n13, .ref n15])), (n13, .inr (2, [.ref n14])), (n14, .inl (cyJ, 64, .inr (.inl (aL (fun _ => 0))))), (n15, .inr (2, [.ref n16])), (n16, .inl (cyJ, 64, .inr (.inl (aL (fun _ => 0))))), (n17, .inr (0, [.ref n2, .ref n18, .ref n20])), (n18, .inr (2, [.ref n19])), (n19, .inl (cyJ, 64, .inr (.inl (aL (fun _ => 0))))), (n20, .inr (2, [.ref n21])), (n21, .inl (cyJ, 64, .inr (.inl (aL (fun _ => 0))))), (n22, .inl (cyI, 300, .inl (aI (fun _ => 0)))), (n23, .inl (cyI, 300, .inl (aI (fun _ => 0)))), (n24, .inr (5, [.null, .null, .null, .null, .null, .null, .null, .int (nI 0), .int (bI false)]))] := hD
  refine lv_dup S.1 S.2.1 dL_law_11 rfl ?_
  refine kcI S (wc := [(n24, .inr (5, [.null, .null, .null, .null, .null, .null, .null, .int (nI 0), .int (bI false)]))]) (wr := [(n1, .inr (5, [.ref n2, .ref n5, .ref n6, .ref n12, .ref n17, .ref n22, .ref n23, .int (nI 0), .int (bI false)])), (n2, .inr (3, [.ref n3, .ref n4, .int (nI (cntF (fun _ => false) 64))])), (n3, .inl (cyZ, 64, .inl (aZ (fun _ => false)))), (n4, .inl (cyI, 256, .inl (ahV (fun _ => false)))), (n5, .inr (1, [.int (nI 1)])), (n6, .inr (4, [.ref n2, .ref n5, .ref n7, .ref n8, .ref n9, .ref n10, .int (nI 0), .int (bI false), .int (nI 0), .int (nI 0), .int (nI 0)])), (n7, .inl (cyI, 64, .inl (aI (fun _ => 0)))), (n8, .inl (cyI, 64, .inl (aI (fun _ => 0)))), (n9, .inl (cyI, 64, .inl (aI (fun _ => 0)))), (n10, .inr (2, [.ref n11])), (n11, .inl (cyJ, 64, .inr (.inl (aL (fun _ => 0))))), (n12, .inr (0, [.ref n2, .ref n13, .ref n15])), (n13, .inr (2, [.ref n14])), (n14, .inl (cyJ, 64, .inr (.inl (aL (fun _ => 0))))), (n15, .inr (2, [.ref n16])), (n16, .inl (cyJ, 64, .inr (.inl (aL (fun _ => 0))))), (n17, .inr (0, [.ref n2, .ref n18, .ref n20])), (n18, .inr (2, [.ref n19])), (n19, .inl (cyJ, 64, .inr (.inl (aL (fun _ => 0))))), (n20, .inr (2, [.ref n21])), (n21, .inl (cyJ, 64, .inr (.inl (aL (fun _ => 0))))), (n22, .inl (cyI, 300, .inl (aI (fun _ => 0)))), (n23, .inl (cyI, 300, .inl (aI (fun _ => 0))))]) (As := []) (rest := [.ref n24]) (c_X5_init l D cyI cyJ cyZ H.size n24 ) (cwI 0 S.2.2.2.2 gL_law_X5_init rfl rfl rfl (S.2.2.2.2 (.initialized RX5) (by decide +kernel)) (S.2.2.2.2 (.methodLink RL 120 yX5_init) (by decide +kernel)) (S.2.2.2.2 (.instanceMethod yX5_init) (by decide +kernel)) rfl (by decide +kernel) ⟨Nat.le_of_ble_eq_true rfl, Nat.le_of_ble_eq_true rfl⟩) hK hP hD hS hA hG [23] [0, 1, 2, 3, 4, 5, 6, 7, 8, 9, 10, 11, 12, 13, 14, 15, 16, 17, 18, 19, 20, 21, 22] rfl rfl rfl rfl (by decide) rfl hl.1 rfl (Nat.le_of_ble_eq_true rfl) dL_law_12 ⟨Nat.le_of_ble_eq_true rfl, Nat.le_of_ble_eq_true rfl⟩ (fun W9 H locs hp9 hP hD hS => ?_)
  obtain ⟨n25, n26, n27, n28, n29, n30, n31, n32, n33, n34, n35, n36, n37, n38, n39, n40, n41, n42, n43, n44, n45, n46, rfl⟩ := hp9
  have hP : va_P D vwCl [(n1, .inr (5, [.ref n2, .ref n5, .ref n6, .ref n12, .ref n17, .ref n22, .ref n23, .int (nI 0), .int (bI false)])), (n2, .inr (3, [.ref n3, .ref n4, .int (nI (cntF (fun _ => false) 64))])), (n3, .inl (cyZ, 64, .inl (aZ (fun _ => false)))), (n4, .inl (cyI, 256, .inl (ahV (fun _ => false)))), (n5, .inr (1, [.int (nI 1)])), (n6, .inr (4, [.ref n2, .ref n5, .ref n7, .ref n8, .ref n9, .ref n10, .int (nI 0), .int (bI false), .int (nI 0), .int (nI 0), .int (nI 0)])), (n7, .inl (cyI, 64, .inl (aI (fun _ => 0)))), (n8, .inl (cyI, 64, .inl (aI (fun _ => 0)))), (n9, .inl (cyI, 64, .inl (aI (fun _ => 0)))), (n10, .inr (2, [.ref n11])), (n11, .inl (cyJ, 64, .inr (.inl (aL (fun _ => 0))))), (n12, .inr (0, [.ref n2, .ref n13, .ref n15])), (n13, .inr (2, [.ref n14])), (n14, .inl (cyJ, 64, .inr (.inl (aL (fun _ => 0))))), (n15, .inr (2, [.ref n16])), (n16, .inl (cyJ, 64, .inr (.inl (aL (fun _ => 0))))), (n17, .inr (0, [.ref n2, .ref n18, .ref n20])), (n18, .inr (2, [.ref n19])), (n19, .inl (cyJ, 64, .inr (.inl (aL (fun _ => 0))))), (n20, .inr (2, [.ref n21])), (n21, .inl (cyJ, 64, .inr (.inl (aL (fun _ => 0))))), (n22, .inl (cyI, 300, .inl (aI (fun _ => 0)))), (n23, .inl (cyI, 300, .inl (aI (fun _ => 0)))), (n24, .inr (5, [.ref n25, .ref n28, .ref n29, .ref n35, .ref n40, .ref n45, .ref n46, .int (nI 0), .int (bI false)])), (n25, .inr (3, [.ref n26, .ref n27, .int (nI (cntF (fun _ => false) 64))])), (n26, .inl (cyZ, 64, .inl (aZ (fun _ => false)))), (n27, .inl (cyI, 256, .inl (ahV (fun _ => false)))), (n28, .inr (1, [.int (nI 1)])), (n29, .inr (4, [.ref n25, .ref n28, .ref n30, .ref n31, .ref n32, .ref n33, .int (nI 0), .int (bI false), .int (nI 0), .int (nI 0), .int (nI 0)])), (n30, .inl (cyI, 64, .inl (aI (fun _ => 0)))), (n31, .inl (cyI, 64, .inl (aI (fun _ => 0)))), (n32, .inl (cyI, 64, .inl (aI (fun _ => 0)))), (n33, .inr (2, [.ref n34])), (n34, .inl (cyJ, 64, .inr (.inl (aL (fun _ => 0))))), (n35, .inr (0, [.ref n25, .ref n36, .ref n38])), (n36, .inr (2, [.ref n37])), (n37, .inl (cyJ, 64, .inr (.inl (aL (fun _ => 0))))), (n38, .inr (2, [.ref n39])), (n39, .inl (cyJ, 64, .inr (.inl (aL (fun _ => 0))))), (n40, .inr (0, [.ref n25, .ref n41, .ref n43])), (n41, .inr (2, [.ref n42])), (n42, .inl (cyJ, 64, .inr (.inl (aL (fun _ => 0))))), (n43, .inr (2, [.ref n44])), (n44, .inl (cyJ, 64, .inr (.inl (aL (fun _ => 0))))), (n45, .inl (cyI, 300, .inl (aI (fun _ => 0)))), (n46, .inl (cyI, 300, .inl (aI (fun _ => 0))))] H := hP
  have hD : va_D A [(n1, .inr (5, [.ref n2, .ref n5, .ref n6, .ref n12, .ref n17, .ref n22, .ref n23, .int (nI 0), .int (bI false)])), (n2, .inr (3, [.ref n3, .ref n4, .int (nI (cntF (fun _ => false) 64))])), (n3, .inl (cyZ, 64, .inl (aZ (fun _ => false)))), (n4, .inl (cyI, 256, .inl (ahV (fun _ => false)))), (n5, .inr (1, [.int (nI 1)])), (n6, .inr (4, [.ref n2, .ref n5, .ref n7, .ref n8, .ref n9, .ref n10, .int (nI 0), .int (bI false), .int (nI 0), .int (nI 0), .int (nI 0)])), (n7, .inl (cyI, 64, .inl (aI (fun _ => 0)))), (n8, .inl (cyI, 64, .inl (aI (fun _ => 0)))), (n9, .inl (cyI, 64, .inl (aI (fun _ => 0)))), (n10, .inr (2, [.ref n11])), (n11, .inl (cyJ, 64, .inr (.inl (aL (fun _ => 0))))), (n12, .inr (0, [.ref n2, .ref n13, .ref n15])), (n13, .inr (2, [.ref n14])), (n14, .inl (cyJ, 64, .inr (.inl (aL (fun _ => 0))))), (n15, .inr (2, [.ref n16])), (n16, .inl (cyJ, 64, .inr (.inl (aL (fun _ => 0))))), (n17, .inr (0, [.ref n2, .ref n18, .ref n20])), (n18, .inr (2, [.ref n19])), (n19, .inl (cyJ, 64, .inr (.inl (aL (fun _ => 0))))), (n20, .inr (2, [.ref n21])), (n21, .inl (cyJ, 64, .inr (.inl (aL (fun _ => 0))))), (n22, .inl (cyI, 300, .inl (aI (fun _ => 0)))), (n23, .inl (cyI, 300, .inl (aI (fun _ => 0)))), (n24, .inr (5, [.ref n25, .ref n28, .ref n29, .ref n35, .ref n40, .ref n45, .ref n46, .int (nI 0), .int (bI false)])), (n25, .inr (3, [.ref n26, .ref n27, .int (nI (cntF (fun _ => false) 64))])), (n26, .inl (cyZ, 64, .inl (aZ (fun _ => false)))), (n27, .inl (cyI, 256, .inl (ahV (fun _ => false)))), (n28, .inr (1, [.int (nI 1)])), (n29, .inr (4, [.ref n25, .ref n28, .ref n30, .ref n31, .ref n32, .ref n33, .int (nI 0), .int (bI false), .int (nI 0), .int (nI 0), .int (nI 0)])), (n30, .inl (cyI, 64, .inl (aI (fun _ => 0)))), (n31, .inl (cyI, 64, .inl (aI (fun _ => 0)))), (n32, .inl (cyI, 64, .inl (aI (fun _ => 0)))), (n33, .inr (2, [.ref n34])), (n34, .inl (cyJ, 64, .inr (.inl (aL (fun _ => 0))))), (n35, .inr (0, [.ref n25, .ref n36, .ref n38])), (n36, .inr (2, [.ref n37])), (n37, .inl (cyJ, 64, .inr (.inl (aL (fun _ => 0))))), (n38, .inr (2, [.ref n39])), (n39, .inl (cyJ, 64, .inr (.inl (aL (fun _ => 0))))), (n40, .inr (0, [.ref n25, .ref n41, .ref n43])), (n41, .inr (2, [.ref n42])), (n42, .inl (cyJ, 64, .inr (.inl (aL (fun _ => 0))))), (n43, .inr (2, [.ref n44])), (n44, .inl (cyJ, 64, .inr (.inl (aL (fun _ => 0))))), (n45, .inl (cyI, 300, .inl (aI (fun _ => 0)))), (n46, .inl (cyI, 300, .inl (aI (fun _ => 0))))] := hD
  refine lv_astore_n (lv' := [(2, .ref n24), (1, .ref n1), (0, .ref b)]) S.1 S.2.1 dL_law_15 rfl hl (by decide) rfl (fun ls hl => ?_)
  refine lv_iconst (v := nI 0) S.1 S.2.1 dL_law_16 (by decide) ?_
  refine lv_istore_n (lv' := [(3, .int (nI 0)), (2, .ref n24), (1, .ref n1), (0, .ref b)]) S.1 S.2.1 dL_law_17 rfl hl (by decide) rfl (fun ls hl => ?_)
  refine W.widen (k := 46 + 55 * 0) (n := 2934 + 330 * 0) (by decide) (by decide) ?_
  exact law_loop S hlt hX hbl hbA hA hK hG hr hlocks 80 0 rfl (hP.sub [0, 5, 23, 28] rfl) (hD.sub [0, 5, 23, 28] (by decide) rfl) hS (lv_sub hl [3, 2, 1, 0] rfl) hS.1
/-- the premises of a start with that script -/
def Pc9 : Array Value → State → Prop := fun args s => ∃ b : Nat, args = #[.ref b] ∧ va_X b 80 (fun _ => nI 22) s s.heap ∧ b < s.heap.size ∧ (Jvm.Cond.and given_1 narrow_1).before args s = true
theorem law_grows (l : Launch) (hflags : l.flags = flags0) : Met l x (Cond.code x code maxLocals ret :: tables_1) R9 Pc9 Qc9 5000 30000 (fun _ => True) := by
  refine Met.ofW (cc := code) (maxL := maxLocals) (ret := ret) (by decide) rfl ?_
  intro p e s m args below meth c s₁ B hml hv
  obtain ⟨b, rfl, hX, hbl, hgv⟩ := hv
  have hts0 : ∀ c ∈ (Jvm.Cond.code x code maxLocals ret :: tables_1), c.before #[Value.ref b] s = true := atoms_spec (ws := Jvm.Cond.code x code maxLocals ret :: tables_1) B.pre
  have hts : ∀ w ∈ lw_tbl, w.before #[Value.ref b] s = true := k2_hts_sels lw_privs (fun w hw => hts0 w (List.mem_cons_of_mem _ hw)) lw_privs_ok
  have hown : s.vm.findClass RL = some m.cls := findClass_of_methodNamed B.named
  exact law_start l hflags hX hbl B.exec B.bytes B.returns hml hown hts B.notSynchronized hgv
end LAW19
