section MODELB
set_option maxHeartbeats 4000000 in
set_option maxRecDepth 100000 in
theorem c_X6_believeAll (l : Launch) (D : va_G) (cyI cyJ cyZ : ClassId) (sz : Nat) (m0 : Nat) (m1 : Nat) (m2 : Nat) (m3 : Nat) (m4 : Nat) (m5 : Nat) (m6 : Nat) (th : Int32) (x : Nat) (sp : Bool) (n0 : Nat) (ac : Nat) (re : Nat) (sl : Int32) (fa : Int32) (db : Int32) (w : Nat → Bool) (b0 : Nat → Nat) : Met l yX6_believeAll wsX6_believeAll ({ frames := 2, cells := 0, slots := 0, locals := 60 } : Room) (mPc D [(cyI, .int), (cyJ, .long), (cyZ, .boolean)] [(m0, .inr (6, [.int th, .ref m1, .int (nI x), .int (bI sp), .int (nI n0), .ref m2, .ref m3, .ref m4, .ref m5, .ref m6, .int (nI ac), .int (nI re), .int sl, .int fa, .int db])), (m1, .inl (cyZ, 64, .inl (aZ w))), (m5, .inl (cyJ, 64, .inr (.inl (aL b0))))] sz [.ref m0]) (va_Qv (fun (u : va_W) => u = [(m0, .inr (6, [.int th, .ref m1, .int (nI x), .int (bI sp), .int (nI n0), .ref m2, .ref m3, .ref m4, .ref m5, .ref m6, .int (nI ac), .int (nI re), .int sl, .int fa, .int db])), (m1, .inl (cyZ, 64, .inl (aZ w))), (m5, .inl (cyJ, 64, .inr (.inl (aL (bal w)))))]) (mB D [(cyI, .int), (cyJ, .long), (cyZ, .boolean)] (va_A [(m0, .inr (6, [.int th, .ref m1, .int (nI x), .int (bI sp), .int (nI n0), .ref m2, .ref m3, .ref m4, .ref m5, .ref m6, .int (nI ac), .int (nI re), .int sl, .int fa, .int db])), (m1, .inl (cyZ, 64, .inl (aZ w))), (m5, .inl (cyJ, 64, .inr (.inl (aL b0))))] sz)) (va_A [(m0, .inr (6, [.int th, .ref m1, .int (nI x), .int (bI sp), .int (nI n0), .ref m2, .ref m3, .ref m4, .ref m5, .ref m6, .int (nI ac), .int (nI re), .int sl, .int fa, .int db])), (m1, .inl (cyZ, 64, .inl (aZ w))), (m5, .inl (cyJ, 64, .inr (.inl (aL b0))))] sz)) 0 0 (va_A [(m0, .inr (6, [.int th, .ref m1, .int (nI x), .int (bI sp), .int (nI n0), .ref m2, .ref m3, .ref m4, .ref m5, .ref m6, .int (nI ac), .int (nI re), .int sl, .int fa, .int db])), (m1, .inl (cyZ, 64, .inl (aZ w))), (m5, .inl (cyJ, 64, .inr (.inl (aL b0))))] sz) := by
  refine st_v (own := RX6) (lv0 := [(0, .ref m0)]) (by decide) rfl rfl (Nat.le_of_ble_eq_true rfl) rfl ?_
  intro p e s m below meth c A Q S hin hA hK hP hD hG hS hret ls hl
  have hw_X6 : ∀ w ∈ u_ws RX6 TX6 15, w ∈ wsX6_believeAll := by decide +kernel
  have hf_27 := S.2.2.2.2 (.fieldLink RX6 27 "ParticlewayModel" "belief" "[J") (by decide +kernel)
  have hf_7 := S.2.2.2.2 (.fieldLink RX6 7 "ParticlewayModel" "isWall" "[Z") (by decide +kernel)
  refine lv_iconst (v := nI 0) S.1 S.2.1 dX6_believeAll_0 (by decide) ?_
  refine lv_istore_n (lv' := [(1, .int (nI 0)), (0, .ref m0)]) S.1 S.2.1 dX6_believeAll_1 rfl hl (by decide) rfl (fun ls hl => ?_)
  refine wl (σ := Nat × (Nat → Nat)) (fun (i, g) => [(m0, .inr (6, [.int th, .ref m1, .int (nI x), .int (bI sp), .int (nI n0), .ref m2, .ref m3, .ref m4, .ref m5, .ref m6, .int (nI ac), .int (nI re), .int sl, .int fa, .int db])), (m1, .inl (cyZ, 64, .inl (aZ w))), (m5, .inl (cyJ, 64, .inr (.inl (aL g))))]) (fun (i, g) => [(1, .int (nI i)), (0, .ref m0)]) (fun (i, g) => (i ≤ 64) ∧ (∀ j, j < i → g j = bal w j)) (fun (i, g) => 64 - i) ?_ (0, b0) ⟨by omega, fun j hj => by omega⟩ hP hD hS (lv_sub hl [0, 1] rfl)
  rintro ⟨i, g⟩ ⟨hi, hg⟩ ih2 H locs ls hP hD hS hl
  have hP : va_P D vwCl [(m0, .inr (6, [.int th, .ref m1, .int (nI x), .int (bI sp), .int (nI n0), .ref m2, .ref m3, .ref m4, .ref m5, .ref m6, .int (nI ac), .int (nI re), .int sl, .int fa, .int db])), (m1, .inl (cyZ, 64, .inl (aZ w))), (m5, .inl (cyJ, 64, .inr (.inl (aL g))))] H := hP
  have hD : va_D A [(m0, .inr (6, [.int th, .ref m1, .int (nI x), .int (bI sp), .int (nI n0), .ref m2, .ref m3, .ref m4, .ref m5, .ref m6, .int (nI ac), .int (nI re), .int sl, .int fa, .int db])), (m1, .inl (cyZ, 64, .inl (aZ w))), (m5, .inl (cyJ, 64, .inr (.inl (aL g))))] := hD
  have hl : lv_has ls 2 [(1, .int (nI i)), (0, .ref m0)] := hl
  refine lv_iload_n S.1 S.2.1 dX6_believeAll_2 rfl (lv_at hl 0 rfl) ?_
  refine lv_bipush (v := nI 64) S.1 S.2.1 dX6_believeAll_3 (by decide) ?_
  refine kn_icmp_ge S (by omega) (by omega) dX6_believeAll_5 (tgt := 34) (by decide) (fun c5 => ?_) (fun c5 => ?_)
  · obtain ⟨hP, hD⟩ := P_re (ws2 := [(m0, .inr (6, [.int th, .ref m1, .int (nI x), .int (bI sp), .int (nI n0), .ref m2, .ref m3, .ref m4, .ref m5, .ref m6, .int (nI ac), .int (nI re), .int sl, .int fa, .int db])), (m1, .inl (cyZ, 64, .inl (aZ w))), (m5, .inl (cyJ, 64, .inr (.inl (aL (bal w)))))]) hP hD 2 rfl (cell_aL (fun j hj => hg j (by omega))) rfl
    exact hret _ _ _ _ dX6_believeAll_34 hP hD hS
  · refine lv_aload_n S.1 S.2.1 dX6_believeAll_8 rfl (lv_at hl 1 rfl) ?_
    refine k_get S (C := RX6) (T := TX6) (N := 15) (ci := 6) hw_X6 hK hP 0 rfl rfl 8 (by decide) hf_27 rfl (v := .ref m5) rfl dX6_believeAll_9 ?_
    refine lv_iload_n S.1 S.2.1 dX6_believeAll_12 rfl (lv_at hl 0 rfl) ?_
    refine lv_aload_n S.1 S.2.1 dX6_believeAll_13 rfl (lv_at hl 1 rfl) ?_
    refine k_get S (C := RX6) (T := TX6) (N := 15) (ci := 6) hw_X6 hK hP 0 rfl rfl 1 (by decide) hf_7 rfl (v := .ref m1) rfl dX6_believeAll_14 ?_
    refine lv_iload_n S.1 S.2.1 dX6_believeAll_17 rfl (lv_at hl 0 rfl) ?_
    refine kn_zald S hK hP 1 2 rfl rfl (by omega) (by decide) dX6_believeAll_18 ?_
    refine kb_if_eq S dX6_believeAll_19 (tgt := 26) (by decide) (fun c19 => ?_) (fun c19 => ?_)
    · refine lv_lconst (v := lN 1) S.1 S.2.1 dX6_believeAll_26 (by decide) ?_
      refine kn_last S hK hP hD hS (ws2 := [(m0, .inr (6, [.int th, .ref m1, .int (nI x), .int (bI sp), .int (nI n0), .ref m2, .ref m3, .ref m4, .ref m5, .ref m6, .int (nI ac), .int (nI re), .int sl, .int fa, .int db])), (m1, .inl (cyZ, 64, .inl (aZ w))), (m5, .inl (cyJ, 64, .inr (.inl (aL (va_up g i 1)))))]) 2 1 rfl rfl (by omega) (by decide) dX6_believeAll_27 rfl (fun H locs hP hD hS => ?_)
      refine lv_iinc (v := nI (i + 1)) (lv' := [(1, .int (nI (i + 1))), (0, .ref m0)]) S.1 S.2.1 dX6_believeAll_28 hl (k := 0) rfl (iinc_1 _) (by decide) rfl (fun ls hl => ?_)
      refine lv_goto (tgt := 2) S.1 S.2.1 dX6_believeAll_31 (by decide) ?_
      exact ih2 (i + 1, va_up g i 1) ⟨by omega, fun j hj => by by_cases h : j = i; (· subst h; rw [up_at, bal, c19]; rfl); (· rw [up_ne _ _ h]; exact hg j (by omega))⟩ (by show 64 - (i + 1) < 64 - i; omega) _ _ _ hP hD hS (lv_sub hl [0, 1] rfl)
    · refine lv_lconst (v := lN 0) S.1 S.2.1 dX6_believeAll_22 (by decide) ?_
      refine lv_goto (tgt := 27) S.1 S.2.1 dX6_believeAll_23 (by decide) ?_
      refine kn_last S hK hP hD hS (ws2 := [(m0, .inr (6, [.int th, .ref m1, .int (nI x), .int (bI sp), .int (nI n0), .ref m2, .ref m3, .ref m4, .ref m5, .ref m6, .int (nI ac), .int (nI re), .int sl, .int fa, .int db])), (m1, .inl (cyZ, 64, .inl (aZ w))), (m5, .inl (cyJ, 64, .inr (.inl (aL (va_up g i 0)))))]) 2 1 rfl rfl (by omega) (by decide) dX6_believeAll_27 rfl (fun H locs hP hD hS => ?_)
      refine lv_iinc (v := nI (i + 1)) (lv' := [(1, .int (nI (i + 1))), (0, .ref m0)]) S.1 S.2.1 dX6_believeAll_28 hl (k := 0) rfl (iinc_1 _) (by decide) rfl (fun ls hl => ?_)
      refine lv_goto (tgt := 2) S.1 S.2.1 dX6_believeAll_31 (by decide) ?_
      exact ih2 (i + 1, va_up g i 0) ⟨by omega, fun j hj => by by_cases h : j = i; (· subst h; rw [up_at, bal, c19]; rfl); (· rw [up_ne _ _ h]; exact hg j (by omega))⟩ (by show 64 - (i + 1) < 64 - i; omega) _ _ _ hP hD hS (lv_sub hl [0, 1] rfl)

set_option maxHeartbeats 4000000 in
set_option maxRecDepth 100000 in
theorem c_X6_areNone (l : Launch) (D : va_G) (cyI cyJ cyZ : ClassId) (sz : Nat) (m0 : Nat) (m1 : Nat) (m2 : Nat) (m3 : Nat) (m4 : Nat) (m5 : Nat) (m6 : Nat) (th : Int32) (x : Nat) (sp : Bool) (n0 : Nat) (ac : Nat) (re : Nat) (sl : Int32) (fa : Int32) (db : Int32) (b0 : Nat → Nat) (hb : ∀ j, j < 64 → b0 j < 9223372036854775808) : Met l yX6_areNone wsX6_areNone ({ frames := 2, cells := 0, slots := 0, locals := 60 } : Room) (mPc D [(cyI, .int), (cyJ, .long), (cyZ, .boolean)] [(m0, .inr (6, [.int th, .ref m1, .int (nI x), .int (bI sp), .int (nI n0), .ref m2, .ref m3, .ref m4, .ref m5, .ref m6, .int (nI ac), .int (nI re), .int sl, .int fa, .int db])), (m5, .inl (cyJ, 64, .inr (.inl (aL b0))))] sz [.ref m0]) (va_Qi (fun (r : Int32) (u : va_W) => r = bI (decide (mx b0 = 0)) ∧ u = [(m0, .inr (6, [.int th, .ref m1, .int (nI x), .int (bI sp), .int (nI n0), .ref m2, .ref m3, .ref m4, .ref m5, .ref m6, .int (nI ac), .int (nI re), .int sl, .int fa, .int db])), (m5, .inl (cyJ, 64, .inr (.inl (aL b0))))]) (mB D [(cyI, .int), (cyJ, .long), (cyZ, .boolean)] (va_A [(m0, .inr (6, [.int th, .ref m1, .int (nI x), .int (bI sp), .int (nI n0), .ref m2, .ref m3, .ref m4, .ref m5, .ref m6, .int (nI ac), .int (nI re), .int sl, .int fa, .int db])), (m5, .inl (cyJ, 64, .inr (.inl (aL b0))))] sz)) (va_A [(m0, .inr (6, [.int th, .ref m1, .int (nI x), .int (bI sp), .int (nI n0), .ref m2, .ref m3, .ref m4, .ref m5, .ref m6, .int (nI ac), .int (nI re), .int sl, .int fa, .int db])), (m5, .inl (cyJ, 64, .inr (.inl (aL b0))))] sz)) 0 0 (va_A [(m0, .inr (6, [.int th, .ref m1, .int (nI x), .int (bI sp), .int (nI n0), .ref m2, .ref m3, .ref m4, .ref m5, .ref m6, .int (nI ac), .int (nI re), .int sl, .int fa, .int db])), (m5, .inl (cyJ, 64, .inr (.inl (aL b0))))] sz) := by
  refine st_z (own := RX6) (lv0 := [(0, .ref m0)]) (by decide) rfl rfl (Nat.le_of_ble_eq_true rfl) rfl ?_
  intro p e s m below meth c A Q S hin hA hK hP hD hG hS hret ls hl
  have hw_X6 : ∀ w ∈ u_ws RX6 TX6 15, w ∈ wsX6_areNone := by decide +kernel
  have hf_27 := S.2.2.2.2 (.fieldLink RX6 27 "ParticlewayModel" "belief" "[J") (by decide +kernel)
  refine lv_iconst (v := nI 1) S.1 S.2.1 dX6_areNone_0 (by decide) ?_
  refine lv_istore_n (lv' := [(1, .int (nI 1)), (0, .ref m0)]) S.1 S.2.1 dX6_areNone_1 rfl hl (by decide) rfl (fun ls hl => ?_)
  refine lv_iconst (v := nI 0) S.1 S.2.1 dX6_areNone_2 (by decide) ?_
  refine lv_istore_n (lv' := [(2, .int (nI 0)), (1, .int (nI 1)), (0, .ref m0)]) S.1 S.2.1 dX6_areNone_3 rfl hl (by decide) rfl (fun ls hl => ?_)
  refine wl (σ := Bool × Nat) (fun (q, i) => [(m0, .inr (6, [.int th, .ref m1, .int (nI x), .int (bI sp), .int (nI n0), .ref m2, .ref m3, .ref m4, .ref m5, .ref m6, .int (nI ac), .int (nI re), .int sl, .int fa, .int db])), (m5, .inl (cyJ, 64, .inr (.inl (aL b0))))]) (fun (q, i) => [(2, .int (nI i)), (1, .int (bI q)), (0, .ref m0)]) (fun (q, i) => (i ≤ 64) ∧ (q = decide (mxF b0 i = 0))) (fun (q, i) => 64 - i) ?_ (true, 0) ⟨by omega, rfl⟩ hP hD hS (lv_sub hl [0, 1, 2] rfl)
  rintro ⟨q, i⟩ ⟨hi, hg⟩ ih4 H locs ls hP hD hS hl
  have hP : va_P D vwCl [(m0, .inr (6, [.int th, .ref m1, .int (nI x), .int (bI sp), .int (nI n0), .ref m2, .ref m3, .ref m4, .ref m5, .ref m6, .int (nI ac), .int (nI re), .int sl, .int fa, .int db])), (m5, .inl (cyJ, 64, .inr (.inl (aL b0))))] H := hP
  have hD : va_D A [(m0, .inr (6, [.int th, .ref m1, .int (nI x), .int (bI sp), .int (nI n0), .ref m2, .ref m3, .ref m4, .ref m5, .ref m6, .int (nI ac), .int (nI re), .int sl, .int fa, .int db])), (m5, .inl (cyJ, 64, .inr (.inl (aL b0))))] := hD
  have hl : lv_has ls 3 [(2, .int (nI i)), (1, .int (bI q)), (0, .ref m0)] := hl
  refine lv_iload_n S.1 S.2.1 dX6_areNone_4 rfl (lv_at hl 0 rfl) ?_
  refine lv_bipush (v := nI 64) S.1 S.2.1 dX6_areNone_5 (by decide) ?_
  refine kn_icmp_ge S (by omega) (by omega) dX6_areNone_7 (tgt := 37) (by decide) (fun c7 => ?_) (fun c7 => ?_)
  · refine lv_iload_n S.1 S.2.1 dX6_areNone_37 rfl (lv_at hl 1 rfl) ?_
    refine k_topi (y := bI (decide (mx b0 = 0))) (by rw [hg, show i = 64 by omega]) ?_
    exact hret _ _ _ _ dX6_areNone_38 hP hD hS
  · refine lv_iload_n S.1 S.2.1 dX6_areNone_10 rfl (lv_at hl 1 rfl) ?_
    refine kb_if_eq S dX6_areNone_11 (tgt := 29) (by decide) (fun c11 => ?_) (fun c11 => ?_)
    · refine lv_iconst (v := nI 0) S.1 S.2.1 dX6_areNone_29 (by decide) ?_
      refine lv_istore_n (lv' := [(1, .int (nI 0)), (2, .int (nI i)), (0, .ref m0)]) S.1 S.2.1 dX6_areNone_30 rfl hl (by decide) rfl (fun ls hl => ?_)
      refine lv_iinc (v := nI (i + 1)) (lv' := [(2, .int (nI (i + 1))), (1, .int (nI 0)), (0, .ref m0)]) S.1 S.2.1 dX6_areNone_31 hl (k := 1) rfl (iinc_1 _) (by decide) rfl (fun ls hl => ?_)
      refine lv_goto (tgt := 4) S.1 S.2.1 dX6_areNone_34 (by decide) ?_
      exact ih4 (false, i + 1) ⟨by omega, by first | (rw [eq_comm, decide_eq_true_eq, mxF]; have h9 := of_decide_eq_true (hg.symm.trans c11); omega) | (rw [eq_comm, decide_eq_false_iff_not, mxF]; omega) | (rw [eq_comm, decide_eq_false_iff_not, mxF]; have h9 := of_decide_eq_false (hg.symm.trans c11); omega)⟩ (by show 64 - (i + 1) < 64 - i; omega) _ _ _ hP hD hS (lv_sub hl [0, 1, 2] rfl)
    · have hbi := hb i (by omega)
      refine lv_aload_n S.1 S.2.1 dX6_areNone_14 rfl (lv_at hl 2 rfl) ?_
      refine k_get S (C := RX6) (T := TX6) (N := 15) (ci := 6) hw_X6 hK hP 0 rfl rfl 8 (by decide) hf_27 rfl (v := .ref m5) rfl dX6_areNone_15 ?_
      refine lv_iload_n S.1 S.2.1 dX6_areNone_18 rfl (lv_at hl 0 rfl) ?_
      refine kn_lald S hK hP 1 1 rfl rfl (by omega) (by decide) dX6_areNone_19 ?_
      refine lv_lconst (v := lN 0) S.1 S.2.1 dX6_areNone_20 (by decide) ?_
      refine kn_lcmp_ne S (by omega) (by omega) dX6_areNone_21 rfl dX6_areNone_22 (tgt := 29) (by decide) (fun c22 => ?_) (fun c22 => ?_)
      · refine lv_iconst (v := nI 0) S.1 S.2.1 dX6_areNone_29 (by decide) ?_
        refine lv_istore_n (lv' := [(1, .int (nI 0)), (2, .int (nI i)), (0, .ref m0)]) S.1 S.2.1 dX6_areNone_30 rfl hl (by decide) rfl (fun ls hl => ?_)
        refine lv_iinc (v := nI (i + 1)) (lv' := [(2, .int (nI (i + 1))), (1, .int (nI 0)), (0, .ref m0)]) S.1 S.2.1 dX6_areNone_31 hl (k := 1) rfl (iinc_1 _) (by decide) rfl (fun ls hl => ?_)
        refine lv_goto (tgt := 4) S.1 S.2.1 dX6_areNone_34 (by decide) ?_
        exact ih4 (false, i + 1) ⟨by omega, by first | (rw [eq_comm, decide_eq_true_eq, mxF]; have h9 := of_decide_eq_true (hg.symm.trans c11); omega) | (rw [eq_comm, decide_eq_false_iff_not, mxF]; omega) | (rw [eq_comm, decide_eq_false_iff_not, mxF]; have h9 := of_decide_eq_false (hg.symm.trans c11); omega)⟩ (by show 64 - (i + 1) < 64 - i; omega) _ _ _ hP hD hS (lv_sub hl [0, 1, 2] rfl)
      · refine lv_iconst (v := nI 1) S.1 S.2.1 dX6_areNone_25 (by decide) ?_
        refine lv_goto (tgt := 30) S.1 S.2.1 dX6_areNone_26 (by decide) ?_
        refine lv_istore_n (lv' := [(1, .int (nI 1)), (2, .int (nI i)), (0, .ref m0)]) S.1 S.2.1 dX6_areNone_30 rfl hl (by decide) rfl (fun ls hl => ?_)
        refine lv_iinc (v := nI (i + 1)) (lv' := [(2, .int (nI (i + 1))), (1, .int (nI 1)), (0, .ref m0)]) S.1 S.2.1 dX6_areNone_31 hl (k := 1) rfl (iinc_1 _) (by decide) rfl (fun ls hl => ?_)
        refine lv_goto (tgt := 4) S.1 S.2.1 dX6_areNone_34 (by decide) ?_
        exact ih4 (true, i + 1) ⟨by omega, by first | (rw [eq_comm, decide_eq_true_eq, mxF]; have h9 := of_decide_eq_true (hg.symm.trans c11); omega) | (rw [eq_comm, decide_eq_false_iff_not, mxF]; omega) | (rw [eq_comm, decide_eq_false_iff_not, mxF]; have h9 := of_decide_eq_false (hg.symm.trans c11); omega)⟩ (by show 64 - (i + 1) < 64 - i; omega) _ _ _ hP hD hS (lv_sub hl [0, 1, 2] rfl)

set_option maxHeartbeats 4000000 in
set_option maxRecDepth 100000 in
theorem c_X6_greatest (l : Launch) (D : va_G) (cyI cyJ cyZ : ClassId) (sz : Nat) (m0 : Nat) (m1 : Nat) (m2 : Nat) (m3 : Nat) (m4 : Nat) (m5 : Nat) (m6 : Nat) (th : Int32) (x : Nat) (sp : Bool) (n0 : Nat) (ac : Nat) (re : Nat) (sl : Int32) (fa : Int32) (db : Int32) (b0 : Nat → Nat) (hb : ∀ j, j < 64 → b0 j < 9223372036854775808) : Met l yX6_greatest wsX6_greatest ({ frames := 2, cells := 0, slots := 0, locals := 60 } : Room) (mPc D [(cyI, .int), (cyJ, .long), (cyZ, .boolean)] [(m0, .inr (6, [.int th, .ref m1, .int (nI x), .int (bI sp), .int (nI n0), .ref m2, .ref m3, .ref m4, .ref m5, .ref m6, .int (nI ac), .int (nI re), .int sl, .int fa, .int db])), (m5, .inl (cyJ, 64, .inr (.inl (aL b0))))] sz [.ref m0]) (va_Ql (fun (r : Int64) (u : va_W) => r = lN (mx b0) ∧ u = [(m0, .inr (6, [.int th, .ref m1, .int (nI x), .int (bI sp), .int (nI n0), .ref m2, .ref m3, .ref m4, .ref m5, .ref m6, .int (nI ac), .int (nI re), .int sl, .int fa, .int db])), (m5, .inl (cyJ, 64, .inr (.inl (aL b0))))]) (mB D [(cyI, .int), (cyJ, .long), (cyZ, .boolean)] (va_A [(m0, .inr (6, [.int th, .ref m1, .int (nI x), .int (bI sp), .int (nI n0), .ref m2, .ref m3, .ref m4, .ref m5, .ref m6, .int (nI ac), .int (nI re), .int sl, .int fa, .int db])), (m5, .inl (cyJ, 64, .inr (.inl (aL b0))))] sz)) (va_A [(m0, .inr (6, [.int th, .ref m1, .int (nI x), .int (bI sp), .int (nI n0), .ref m2, .ref m3, .ref m4, .ref m5, .ref m6, .int (nI ac), .int (nI re), .int sl, .int fa, .int db])), (m5, .inl (cyJ, 64, .inr (.inl (aL b0))))] sz)) 0 0 (va_A [(m0, .inr (6, [.int th, .ref m1, .int (nI x), .int (bI sp), .int (nI n0), .ref m2, .ref m3, .ref m4, .ref m5, .ref m6, .int (nI ac), .int (nI re), .int sl, .int fa, .int db])), (m5, .inl (cyJ, 64, .inr (.inl (aL b0))))] sz) := by
  refine st_l (own := RX6) (lv0 := [(0, .ref m0)]) (by decide) rfl rfl (Nat.le_of_ble_eq_true rfl) rfl ?_
  intro p e s m below meth c A Q S hin hA hK hP hD hG hS hret ls hl
  have hw_X6 : ∀ w ∈ u_ws RX6 TX6 15, w ∈ wsX6_greatest := by decide +kernel
  have hf_27 := S.2.2.2.2 (.fieldLink RX6 27 "ParticlewayModel" "belief" "[J") (by decide +kernel)
  refine lv_lconst (v := lN 0) S.1 S.2.1 dX6_greatest_0 (by decide) ?_
  refine lv_lstore_n (lv' := [(1, .long (lN 0)), (0, .ref m0)]) S.1 S.2.1 dX6_greatest_1 rfl hl (by decide) rfl (fun ls hl => ?_)
  refine lv_iconst (v := nI 0) S.1 S.2.1 dX6_greatest_2 (by decide) ?_
  refine lv_istore_n (lv' := [(3, .int (nI 0)), (1, .long (lN 0)), (0, .ref m0)]) S.1 S.2.1 dX6_greatest_3 rfl hl (by decide) rfl (fun ls hl => ?_)
  refine wl (σ := Nat × Nat) (fun (i, g) => [(m0, .inr (6, [.int th, .ref m1, .int (nI x), .int (bI sp), .int (nI n0), .ref m2, .ref m3, .ref m4, .ref m5, .ref m6, .int (nI ac), .int (nI re), .int sl, .int fa, .int db])), (m5, .inl (cyJ, 64, .inr (.inl (aL b0))))]) (fun (i, g) => [(3, .int (nI i)), (1, .long (lN g)), (0, .ref m0)]) (fun (i, g) => (i ≤ 64) ∧ (g = mxF b0 i)) (fun (i, g) => 64 - i) ?_ (0, 0) ⟨by omega, rfl⟩ hP hD hS (lv_sub hl [0, 1, 2] rfl)
  rintro ⟨i, g⟩ ⟨hi, hg⟩ ih4 H locs ls hP hD hS hl
  have hP : va_P D vwCl [(m0, .inr (6, [.int th, .ref m1, .int (nI x), .int (bI sp), .int (nI n0), .ref m2, .ref m3, .ref m4, .ref m5, .ref m6, .int (nI ac), .int (nI re), .int sl, .int fa, .int db])), (m5, .inl (cyJ, 64, .inr (.inl (aL b0))))] H := hP
  have hD : va_D A [(m0, .inr (6, [.int th, .ref m1, .int (nI x), .int (bI sp), .int (nI n0), .ref m2, .ref m3, .ref m4, .ref m5, .ref m6, .int (nI ac), .int (nI re), .int sl, .int fa, .int db])), (m5, .inl (cyJ, 64, .inr (.inl (aL b0))))] := hD
  have hl : lv_has ls 4 [(3, .int (nI i)), (1, .long (lN g)), (0, .ref m0)] := hl
  refine lv_iload_n S.1 S.2.1 dX6_greatest_4 rfl (lv_at hl 0 rfl) ?_
  refine lv_bipush (v := nI 64) S.1 S.2.1 dX6_greatest_5 (by decide) ?_
  refine kn_icmp_ge S (by omega) (by omega) dX6_greatest_7 (tgt := 38) (by decide) (fun c7 => ?_) (fun c7 => ?_)
  · refine lv_lload_n S.1 S.2.1 dX6_greatest_38 rfl (lv_at hl 1 rfl) ?_
    refine k_topl (y := lN (mx b0)) (by rw [hg, show i = 64 by omega]) ?_
    exact hret _ _ _ _ dX6_greatest_39 hP hD hS
  · have hbi := hb i (by omega)
    have hgl : g < 9223372036854775808 := (by rw [hg]; exact mxF_lt (by omega) (fun j hj => hb j (by omega)))
    refine lv_aload_n S.1 S.2.1 dX6_greatest_10 rfl (lv_at hl 2 rfl) ?_
    refine k_get S (C := RX6) (T := TX6) (N := 15) (ci := 6) hw_X6 hK hP 0 rfl rfl 8 (by decide) hf_27 rfl (v := .ref m5) rfl dX6_greatest_11 ?_
    refine lv_iload_n S.1 S.2.1 dX6_greatest_14 rfl (lv_at hl 0 rfl) ?_
    refine kn_lald S hK hP 1 1 rfl rfl (by omega) (by decide) dX6_greatest_15 ?_
    refine lv_lload_n S.1 S.2.1 dX6_greatest_16 rfl (lv_at hl 1 rfl) ?_
    refine kn_lcmp_le S (by omega) (by omega) dX6_greatest_17 rfl dX6_greatest_18 (tgt := 30) (by decide) (fun c18 => ?_) (fun c18 => ?_)
    · refine lv_lload_n S.1 S.2.1 dX6_greatest_30 rfl (lv_at hl 1 rfl) ?_
      refine lv_lstore_n (lv' := [(1, .long (lN g)), (3, .int (nI i)), (0, .ref m0)]) S.1 S.2.1 dX6_greatest_31 rfl hl (by decide) rfl (fun ls hl => ?_)
      refine lv_iinc (v := nI (i + 1)) (lv' := [(3, .int (nI (i + 1))), (1, .long (lN g)), (0, .ref m0)]) S.1 S.2.1 dX6_greatest_32 hl (k := 1) rfl (iinc_1 _) (by decide) rfl (fun ls hl => ?_)
      refine lv_goto (tgt := 4) S.1 S.2.1 dX6_greatest_35 (by decide) ?_
      exact ih4 (i + 1, g) ⟨by omega, by rw [mxF, ← hg]; omega⟩ (by show 64 - (i + 1) < 64 - i; omega) _ _ _ hP hD hS (lv_sub hl [0, 1, 2] rfl)
    · refine lv_aload_n S.1 S.2.1 dX6_greatest_21 rfl (lv_at hl 2 rfl) ?_
      refine k_get S (C := RX6) (T := TX6) (N := 15) (ci := 6) hw_X6 hK hP 0 rfl rfl 8 (by decide) hf_27 rfl (v := .ref m5) rfl dX6_greatest_22 ?_
      refine lv_iload_n S.1 S.2.1 dX6_greatest_25 rfl (lv_at hl 0 rfl) ?_
      refine kn_lald S hK hP 1 1 rfl rfl (by omega) (by decide) dX6_greatest_26 ?_
      refine lv_goto (tgt := 31) S.1 S.2.1 dX6_greatest_27 (by decide) ?_
      refine lv_lstore_n (lv' := [(1, .long (lN (b0 i))), (3, .int (nI i)), (0, .ref m0)]) S.1 S.2.1 dX6_greatest_31 rfl hl (by decide) rfl (fun ls hl => ?_)
      refine lv_iinc (v := nI (i + 1)) (lv' := [(3, .int (nI (i + 1))), (1, .long (lN (b0 i))), (0, .ref m0)]) S.1 S.2.1 dX6_greatest_32 hl (k := 1) rfl (iinc_1 _) (by decide) rfl (fun ls hl => ?_)
      refine lv_goto (tgt := 4) S.1 S.2.1 dX6_greatest_35 (by decide) ?_
      exact ih4 (i + 1, b0 i) ⟨by omega, by rw [mxF, ← hg]; omega⟩ (by show 64 - (i + 1) < 64 - i; omega) _ _ _ hP hD hS (lv_sub hl [0, 1, 2] rfl)

set_option maxHeartbeats 4000000 in
set_option maxRecDepth 100000 in
theorem c_X6_halve (l : Launch) (D : va_G) (cyI cyJ cyZ : ClassId) (sz : Nat) (m0 : Nat) (m1 : Nat) (m2 : Nat) (m3 : Nat) (m4 : Nat) (m5 : Nat) (m6 : Nat) (th : Int32) (x : Nat) (sp : Bool) (n0 : Nat) (ac : Nat) (re : Nat) (sl : Int32) (fa : Int32) (db : Int32) (b0 : Nat → Nat) (hb : ∀ j, j < 64 → b0 j < 9223372036854775808) : Met l yX6_halve wsX6_halve ({ frames := 3, cells := 0, slots := 0, locals := 83 } : Room) (mPc D [(cyI, .int), (cyJ, .long), (cyZ, .boolean)] [(m0, .inr (6, [.int th, .ref m1, .int (nI x), .int (bI sp), .int (nI n0), .ref m2, .ref m3, .ref m4, .ref m5, .ref m6, .int (nI ac), .int (nI re), .int sl, .int fa, .int db])), (m5, .inl (cyJ, 64, .inr (.inl (aL b0))))] sz [.ref m0]) (va_Qv (fun (u : va_W) => u = [(m0, .inr (6, [.int th, .ref m1, .int (nI x), .int (bI sp), .int (nI n0), .ref m2, .ref m3, .ref m4, .ref m5, .ref m6, .int (nI ac), .int (nI re), .int sl, .int fa, .int db])), (m5, .inl (cyJ, 64, .inr (.inl (aL (hvG b0)))))]) (mB D [(cyI, .int), (cyJ, .long), (cyZ, .boolean)] (va_A [(m0, .inr (6, [.int th, .ref m1, .int (nI x), .int (bI sp), .int (nI n0), .ref m2, .ref m3, .ref m4, .ref m5, .ref m6, .int (nI ac), .int (nI re), .int sl, .int fa, .int db])), (m5, .inl (cyJ, 64, .inr (.inl (aL b0))))] sz)) (va_A [(m0, .inr (6, [.int th, .ref m1, .int (nI x), .int (bI sp), .int (nI n0), .ref m2, .ref m3, .ref m4, .ref m5, .ref m6, .int (nI ac), .int (nI re), .int sl, .int fa, .int db])), (m5, .inl (cyJ, 64, .inr (.inl (aL b0))))] sz)) 0 0 (va_A [(m0, .inr (6, [.int th, .ref m1, .int (nI x), .int (bI sp), .int (nI n0), .ref m2, .ref m3, .ref m4, .ref m5, .ref m6, .int (nI ac), .int (nI re), .int sl, .int fa, .int db])), (m5, .inl (cyJ, 64, .inr (.inl (aL b0))))] sz) := by
  refine st_v (own := RX6) (lv0 := [(0, .ref m0)]) (by decide) rfl rfl (Nat.le_of_ble_eq_true rfl) rfl ?_
  intro p e s m below meth c A Q S hin hA hK hP hD hG hS hret ls hl
  have hw_X6 : ∀ w ∈ u_ws RX6 TX6 15, w ∈ wsX6_halve := by decide +kernel
  have hf_27 := S.2.2.2.2 (.fieldLink RX6 27 "ParticlewayModel" "belief" "[J") (by decide +kernel)
  have hm0 := mxF_lt (f := b0) (B := 9223372036854775808) (n := 64) (by omega) hb
  refine wl (σ := Nat × (Nat → Nat)) (fun (k, bb) => [(m0, .inr (6, [.int th, .ref m1, .int (nI x), .int (bI sp), .int (nI n0), .ref m2, .ref m3, .ref m4, .ref m5, .ref m6, .int (nI ac), .int (nI re), .int sl, .int fa, .int db])), (m5, .inl (cyJ, 64, .inr (.inl (aL bb))))]) (fun (k, bb) => [(0, .ref m0)]) (fun (k, bb) => (hlF k bb = hvG b0) ∧ (∀ j, j < 64 → bb j < 9223372036854775808) ∧ (mx bb < 2 ^ (40 + k))) (fun (k, bb) => k) ?_ (64, b0) ⟨rfl, hb, Nat.lt_of_lt_of_le hm0 (by decide)⟩ hP hD hS (lv_sub hl [0] rfl)
  rintro ⟨k, bb⟩ ⟨hk, hbb, hm⟩ ih0 H locs ls hP hD hS hl
  have hP : va_P D vwCl [(m0, .inr (6, [.int th, .ref m1, .int (nI x), .int (bI sp), .int (nI n0), .ref m2, .ref m3, .ref m4, .ref m5, .ref m6, .int (nI ac), .int (nI re), .int sl, .int fa, .int db])), (m5, .inl (cyJ, 64, .inr (.inl (aL bb))))] H := hP
  have hD : va_D A [(m0, .inr (6, [.int th, .ref m1, .int (nI x), .int (bI sp), .int (nI n0), .ref m2, .ref m3, .ref m4, .ref m5, .ref m6, .int (nI ac), .int (nI re), .int sl, .int fa, .int db])), (m5, .inl (cyJ, 64, .inr (.inl (aL bb))))] := hD
  have hl : lv_has ls 2 [(0, .ref m0)] := hl
  refine lv_aload_n S.1 S.2.1 dX6_halve_0 rfl (lv_at hl 0 rfl) ?_
  refine kcV_l S (wc := [(m0, .inr (6, [.int th, .ref m1, .int (nI x), .int (bI sp), .int (nI n0), .ref m2, .ref m3, .ref m4, .ref m5, .ref m6, .int (nI ac), .int (nI re), .int sl, .int fa, .int db])), (m5, .inl (cyJ, 64, .inr (.inl (aL bb))))]) (wr := []) (ws2 := [(m0, .inr (6, [.int th, .ref m1, .int (nI x), .int (bI sp), .int (nI n0), .ref m2, .ref m3, .ref m4, .ref m5, .ref m6, .int (nI ac), .int (nI re), .int sl, .int fa, .int db])), (m5, .inl (cyJ, 64, .inr (.inl (aL bb))))]) (As := []) (rest := []) (c_X6_greatest l D cyI cyJ cyZ H.size m0 m1 m2 m3 m4 m5 m6 th x sp n0 ac re sl fa db bb (hbb)) (cwV 0 S.2.2.2.2 gX6_halve_X6_greatest rfl rfl rfl (by decide +kernel) ⟨Nat.le_of_ble_eq_true rfl, Nat.le_of_ble_eq_true rfl⟩) hK hP hD hS hA hG [0, 1] [] [0, 1] rfl rfl rfl rfl (by decide) rfl rfl (ci := 6) (q0 := 0) rfl rfl rfl hl.1 rfl (Nat.le_of_ble_eq_true rfl) dX6_halve_1 ⟨Nat.le_of_ble_eq_true rfl, Nat.le_of_ble_eq_true rfl⟩ (fun H locs hP hD hS => ?_)
  refine lv_ldc2 (v := 1099511627776) S.1 S.2.1 S.2.2.2.1 (S.2.2.2.2 (.constantLong RX6 91 1099511627776) (by decide +kernel)) dX6_halve_4 ?_
  refine k_topl (y := lN 1099511627776) (by decide) ?_
  have hmb := mxF_lt (f := bb) (B := 9223372036854775808) (n := 64) (by omega) hbb
  refine kn_lcmp_le S (by omega) (by omega) dX6_halve_7 rfl dX6_halve_8 (tgt := 40) (by decide) (fun c8 => ?_) (fun c8 => ?_)
  · obtain ⟨hP, hD⟩ := P_re (ws2 := [(m0, .inr (6, [.int th, .ref m1, .int (nI x), .int (bI sp), .int (nI n0), .ref m2, .ref m3, .ref m4, .ref m5, .ref m6, .int (nI ac), .int (nI re), .int sl, .int fa, .int db])), (m5, .inl (cyJ, 64, .inr (.inl (aL (hvG b0)))))]) hP hD 1 rfl (cell_aL (fun j hj => by rw [← hk, hlF_stop c8])) rfl
    exact hret _ _ _ _ dX6_halve_40 hP hD hS
  · have hk0 : 0 < k := (by rcases Nat.eq_zero_or_pos k with h9 | h9; (· exfalso; subst h9; have h7 : mx bb < 1099511627776 := hm; omega); (· exact h9))
    have hk2 : hlF (k - 1) (fun j => bb j / 2) = hvG b0 := (by obtain ⟨k2, h9⟩ : ∃ k2, k = k2 + 1 := ⟨k - 1, by omega⟩; rw [h9] at hk ⊢; rw [← hk, hlF, if_neg (by omega)]; rfl)
    have hm2 : mx (fun j => bb j / 2) < 2 ^ (40 + (k - 1)) := (by obtain ⟨k2, h8⟩ : ∃ k2, k = k2 + 1 := ⟨k - 1, by omega⟩; rw [h8] at hm ⊢; have h9 := mx_half (b := bb); rw [show 40 + (k2 + 1) = (40 + k2) + 1 by omega, Nat.pow_succ] at hm; show mx (fun j => bb j / 2) < 2 ^ (40 + k2); omega)
    refine lv_iconst (v := nI 0) S.1 S.2.1 dX6_halve_11 (by decide) ?_
    refine lv_istore_n (lv' := [(1, .int (nI 0)), (0, .ref m0)]) S.1 S.2.1 dX6_halve_12 rfl hl (by decide) rfl (fun ls hl => ?_)
    refine wl (σ := Nat × (Nat → Nat)) (fun (i, g) => [(m0, .inr (6, [.int th, .ref m1, .int (nI x), .int (bI sp), .int (nI n0), .ref m2, .ref m3, .ref m4, .ref m5, .ref m6, .int (nI ac), .int (nI re), .int sl, .int fa, .int db])), (m5, .inl (cyJ, 64, .inr (.inl (aL g))))]) (fun (i, g) => [(1, .int (nI i)), (0, .ref m0)]) (fun (i, g) => (i ≤ 64) ∧ (∀ j, j < i → g j = bb j / 2) ∧ (∀ j, i ≤ j → g j = bb j)) (fun (i, g) => 64 - i) ?_ (0, bb) ⟨by omega, fun j hj => by omega, fun j hj => rfl⟩ hP hD hS (lv_sub hl [0, 1] rfl)
    rintro ⟨i, g⟩ ⟨hi, hg, hg2⟩ ih13 H locs ls hP hD hS hl
    have hP : va_P D vwCl [(m0, .inr (6, [.int th, .ref m1, .int (nI x), .int (bI sp), .int (nI n0), .ref m2, .ref m3, .ref m4, .ref m5, .ref m6, .int (nI ac), .int (nI re), .int sl, .int fa, .int db])), (m5, .inl (cyJ, 64, .inr (.inl (aL g))))] H := hP
    have hD : va_D A [(m0, .inr (6, [.int th, .ref m1, .int (nI x), .int (bI sp), .int (nI n0), .ref m2, .ref m3, .ref m4, .ref m5, .ref m6, .int (nI ac), .int (nI re), .int sl, .int fa, .int db])), (m5, .inl (cyJ, 64, .inr (.inl (aL g))))] := hD
    have hl : lv_has ls 2 [(1, .int (nI i)), (0, .ref m0)] := hl
    refine lv_iload_n S.1 S.2.1 dX6_halve_13 rfl (lv_at hl 0 rfl) ?_
    refine lv_bipush (v := nI 64) S.1 S.2.1 dX6_halve_14 (by decide) ?_
    refine kn_icmp_ge S (by omega) (by omega) dX6_halve_16 (tgt := 37) (by decide) (fun c16 => ?_) (fun c16 => ?_)
    · obtain ⟨hP, hD⟩ := P_re (ws2 := [(m0, .inr (6, [.int th, .ref m1, .int (nI x), .int (bI sp), .int (nI n0), .ref m2, .ref m3, .ref m4, .ref m5, .ref m6, .int (nI ac), .int (nI re), .int sl, .int fa, .int db])), (m5, .inl (cyJ, 64, .inr (.inl (aL (fun j => bb j / 2)))))]) hP hD 1 rfl (cell_aL (fun j hj => hg j (by omega))) rfl
      refine lv_goto (tgt := 0) S.1 S.2.1 dX6_halve_37 (by decide) ?_
      exact ih0 (k - 1, fun j => bb j / 2) ⟨hk2, fun j hj => by have h9 := hbb j hj; show bb j / 2 < 9223372036854775808; omega, hm2⟩ (by show (k - 1) < k; omega) _ _ _ hP hD hS (lv_sub hl [1] rfl)
    · have hgi := hg2 i (Nat.le_refl _)
      have hbi := hbb i (by omega)
      refine lv_aload_n S.1 S.2.1 dX6_halve_19 rfl (lv_at hl 1 rfl) ?_
      refine k_get S (C := RX6) (T := TX6) (N := 15) (ci := 6) hw_X6 hK hP 0 rfl rfl 8 (by decide) hf_27 rfl (v := .ref m5) rfl dX6_halve_20 ?_
      refine lv_iload_n S.1 S.2.1 dX6_halve_23 rfl (lv_at hl 0 rfl) ?_
      refine lv_dup2_11 S.1 S.2.1 dX6_halve_24 rfl rfl ?_
      refine kn_lald S hK hP 1 1 rfl rfl (by omega) (by decide) dX6_halve_25 ?_
      refine lv_ldc2 (v := 2) S.1 S.2.1 S.2.2.2.1 (S.2.2.2.2 (.constantLong RX6 93 2) (by decide +kernel)) dX6_halve_26 ?_
      refine k_topl (y := lN 2) (by decide) ?_
      refine kn_ldiv S (by omega) (by omega) (by omega) dX6_halve_29 ?_
      refine kn_last S hK hP hD hS (ws2 := [(m0, .inr (6, [.int th, .ref m1, .int (nI x), .int (bI sp), .int (nI n0), .ref m2, .ref m3, .ref m4, .ref m5, .ref m6, .int (nI ac), .int (nI re), .int sl, .int fa, .int db])), (m5, .inl (cyJ, 64, .inr (.inl (aL (va_up g i ((g i) / 2))))))]) 1 1 rfl rfl (by omega) (by decide) dX6_halve_30 rfl (fun H locs hP hD hS => ?_)
      refine lv_iinc (v := nI (i + 1)) (lv' := [(1, .int (nI (i + 1))), (0, .ref m0)]) S.1 S.2.1 dX6_halve_31 hl (k := 0) rfl (iinc_1 _) (by decide) rfl (fun ls hl => ?_)
      refine lv_goto (tgt := 13) S.1 S.2.1 dX6_halve_34 (by decide) ?_
      exact ih13 (i + 1, va_up g i ((g i) / 2)) ⟨by omega, fun j hj => by by_cases h : j = i; (· subst h; rw [up_at, hg2 j (Nat.le_refl _)]); (· rw [up_ne _ _ h]; exact hg j (by omega)), fun j hj => by rw [up_ne _ _ (by omega)]; exact hg2 j (by omega)⟩ (by show 64 - (i + 1) < 64 - i; omega) _ _ _ hP hD hS (lv_sub hl [0, 1] rfl)

set_option maxHeartbeats 4000000 in
set_option maxRecDepth 100000 in
theorem c_X6_judge (l : Launch) (D : va_G) (cyI cyJ cyZ : ClassId) (sz : Nat) (m0 : Nat) (m1 : Nat) (m2 : Nat) (m3 : Nat) (m4 : Nat) (m5 : Nat) (m6 : Nat) (th : Int32) (x : Nat) (sp : Bool) (n0 : Nat) (ac : Nat) (re : Nat) (sl : Int32) (fa : Int32) (db : Int32) (W0 : Nat) (hW : W0 ≤ 512) (hn0 : 0 < n0) (hn : n0 ≤ 64) (hre : re ≤ 300) : Met l yX6_judge wsX6_judge ({ frames := 2, cells := 0, slots := 0, locals := 60 } : Room) (mPc D [(cyI, .int), (cyJ, .long), (cyZ, .boolean)] [(m0, .inr (6, [.int th, .ref m1, .int (nI x), .int (bI sp), .int (nI n0), .ref m2, .ref m3, .ref m4, .ref m5, .ref m6, .int (nI ac), .int (nI re), .int sl, .int fa, .int db]))] sz [.ref m0, .int (nI W0)]) (va_Qv (fun (u : va_W) => u = [(m0, .inr (6, [.int th, .ref m1, .int (nI x), .int (bI sp), .int (nI n0), .ref m2, .ref m3, .ref m4, .ref m5, .ref m6, .int (nI ac), .int (nI (re + 1)), .int (slN (decide (0 < re)) sl (nI (32 * W0 / n0))), .int (faN (decide (0 < re)) fa (nI (32 * W0 / n0))), .int (dbN (slN (decide (0 < re)) sl (nI (32 * W0 / n0))) (faN (decide (0 < re)) fa (nI (32 * W0 / n0))))]))]) (mB D [(cyI, .int), (cyJ, .long), (cyZ, .boolean)] (va_A [(m0, .inr (6, [.int th, .ref m1, .int (nI x), .int (bI sp), .int (nI n0), .ref m2, .ref m3, .ref m4, .ref m5, .ref m6, .int (nI ac), .int (nI re), .int sl, .int fa, .int db]))] sz)) (va_A [(m0, .inr (6, [.int th, .ref m1, .int (nI x), .int (bI sp), .int (nI n0), .ref m2, .ref m3, .ref m4, .ref m5, .ref m6, .int (nI ac), .int (nI re), .int sl, .int fa, .int db]))] sz)) 0 0 (va_A [(m0, .inr (6, [.int th, .ref m1, .int (nI x), .int (bI sp), .int (nI n0), .ref m2, .ref m3, .ref m4, .ref m5, .ref m6, .int (nI ac), .int (nI re), .int sl, .int fa, .int db]))] sz) := by
  refine st_v (own := RX6) (lv0 := [(0, .ref m0), (1, .int (nI W0))]) (by decide) rfl rfl (Nat.le_of_ble_eq_true rfl) rfl ?_
  intro p e s m below meth c A Q S hin hA hK hP hD hG hS hret ls hl
  have hw_X6 : ∀ w ∈ u_ws RX6 TX6 15, w ∈ wsX6_judge := by decide +kernel
  have hf_69 := S.2.2.2.2 (.fieldLink RX6 69 "ParticlewayModel" "samples" "I") (by decide +kernel)
  have hf_81 := S.2.2.2.2 (.fieldLink RX6 81 "ParticlewayModel" "readings" "I") (by decide +kernel)
  have hf_105 := S.2.2.2.2 (.fieldLink RX6 105 "ParticlewayModel" "slow" "I") (by decide +kernel)
  have hf_108 := S.2.2.2.2 (.fieldLink RX6 108 "ParticlewayModel" "fast" "I") (by decide +kernel)
  have hf_84 := S.2.2.2.2 (.fieldLink RX6 84 "ParticlewayModel" "doubt" "I") (by decide +kernel)
  have hdv : 32 * W0 / n0 ≤ 32 * W0 := Nat.div_le_self _ _
  refine lv_bipush (v := nI 32) S.1 S.2.1 dX6_judge_0 (by decide) ?_
  refine lv_iload_n S.1 S.2.1 dX6_judge_2 rfl (lv_at hl 1 rfl) ?_
  refine kn_imul S dX6_judge_3 ?_
  refine lv_aload_n S.1 S.2.1 dX6_judge_4 rfl (lv_at hl 0 rfl) ?_
  refine k_get S (C := RX6) (T := TX6) (N := 15) (ci := 6) hw_X6 hK hP 0 rfl rfl 4 (by decide) hf_69 rfl (v := .int (nI n0)) rfl dX6_judge_5 ?_
  refine kn_idiv S (by omega) (by omega) (by omega) dX6_judge_8 ?_
  refine lv_istore_n (lv' := [(2, .int (nI ((32 * W0) / n0))), (0, .ref m0), (1, .int (nI W0))]) S.1 S.2.1 dX6_judge_9 rfl hl (by decide) rfl (fun ls hl => ?_)
  refine lv_aload_n S.1 S.2.1 dX6_judge_10 rfl (lv_at hl 1 rfl) ?_
  refine lv_aload_n S.1 S.2.1 dX6_judge_11 rfl (lv_at hl 1 rfl) ?_
  refine k_get S (C := RX6) (T := TX6) (N := 15) (ci := 6) hw_X6 hK hP 0 rfl rfl 11 (by decide) hf_81 rfl (v := .int (nI re)) rfl dX6_judge_12 ?_
  refine kn_if_ne S (by omega) dX6_judge_15 (tgt := 22) (by decide) (fun c15 => ?_) (fun c15 => ?_)
  · refine lv_aload_n S.1 S.2.1 dX6_judge_22 rfl (lv_at hl 1 rfl) ?_
    refine k_get S (C := RX6) (T := TX6) (N := 15) (ci := 6) hw_X6 hK hP 0 rfl rfl 12 (by decide) hf_105 rfl (v := .int sl) rfl dX6_judge_23 ?_
    refine lv_iload_n S.1 S.2.1 dX6_judge_26 rfl (lv_at hl 0 rfl) ?_
    refine lv_aload_n S.1 S.2.1 dX6_judge_27 rfl (lv_at hl 1 rfl) ?_
    refine k_get S (C := RX6) (T := TX6) (N := 15) (ci := 6) hw_X6 hK hP 0 rfl rfl 12 (by decide) hf_105 rfl (v := .int sl) rfl dX6_judge_28 ?_
    refine lv_isub S.1 S.2.1 dX6_judge_31 ?_
    refine lv_bipush (v := nI 8) S.1 S.2.1 dX6_judge_32 (by decide) ?_
    refine lv_idiv S.1 S.2.1 dX6_judge_34 (by decide) ?_
    refine lv_iadd S.1 S.2.1 dX6_judge_35 ?_
    refine k_topi (y := slN (decide (0 < re)) sl (nI (32 * W0 / n0))) (by first | (rw [slN, decide_eq_true (by omega), if_pos rfl]) | (rw [slN, decide_eq_false (by omega), if_neg (by decide)])) ?_
    refine k_put S (C := RX6) (T := TX6) (N := 15) (ci := 6) (ws2 := [(m0, .inr (6, [.int th, .ref m1, .int (nI x), .int (bI sp), .int (nI n0), .ref m2, .ref m3, .ref m4, .ref m5, .ref m6, .int (nI ac), .int (nI re), .int (slN (decide (0 < re)) sl (nI (32 * W0 / n0))), .int fa, .int db]))]) hw_X6 tyX6 tyX6_ok nmX6 hK hP hD hS 0 rfl rfl 12 (by decide) hf_105 rfl rfl rfl rfl (Nat.le_of_ble_eq_true rfl) dX6_judge_36 rfl (fun H locs hP hD hS => ?_)
    refine lv_aload_n S.1 S.2.1 dX6_judge_39 rfl (lv_at hl 1 rfl) ?_
    refine lv_aload_n S.1 S.2.1 dX6_judge_40 rfl (lv_at hl 1 rfl) ?_
    refine k_get S (C := RX6) (T := TX6) (N := 15) (ci := 6) hw_X6 hK hP 0 rfl rfl 11 (by decide) hf_81 rfl (v := .int (nI re)) rfl dX6_judge_41 ?_
    refine kn_if_ne S (by omega) dX6_judge_44 (tgt := 51) (by decide) (fun c44 => ?_) (fun c44 => ?_)
    · refine lv_aload_n S.1 S.2.1 dX6_judge_51 rfl (lv_at hl 1 rfl) ?_
      refine k_get S (C := RX6) (T := TX6) (N := 15) (ci := 6) hw_X6 hK hP 0 rfl rfl 13 (by decide) hf_108 rfl (v := .int fa) rfl dX6_judge_52 ?_
      refine lv_iload_n S.1 S.2.1 dX6_judge_55 rfl (lv_at hl 0 rfl) ?_
      refine lv_aload_n S.1 S.2.1 dX6_judge_56 rfl (lv_at hl 1 rfl) ?_
      refine k_get S (C := RX6) (T := TX6) (N := 15) (ci := 6) hw_X6 hK hP 0 rfl rfl 13 (by decide) hf_108 rfl (v := .int fa) rfl dX6_judge_57 ?_
      refine lv_isub S.1 S.2.1 dX6_judge_60 ?_
      refine lv_iconst (v := nI 2) S.1 S.2.1 dX6_judge_61 (by decide) ?_
      refine lv_idiv S.1 S.2.1 dX6_judge_62 (by decide) ?_
      refine lv_iadd S.1 S.2.1 dX6_judge_63 ?_
      refine k_topi (y := faN (decide (0 < re)) fa (nI (32 * W0 / n0))) (by first | (rw [faN, decide_eq_true (by omega), if_pos rfl]) | (rw [faN, decide_eq_false (by omega), if_neg (by decide)])) ?_
      refine k_put S (C := RX6) (T := TX6) (N := 15) (ci := 6) (ws2 := [(m0, .inr (6, [.int th, .ref m1, .int (nI x), .int (bI sp), .int (nI n0), .ref m2, .ref m3, .ref m4, .ref m5, .ref m6, .int (nI ac), .int (nI re), .int (slN (decide (0 < re)) sl (nI (32 * W0 / n0))), .int (faN (decide (0 < re)) fa (nI (32 * W0 / n0))), .int db]))]) hw_X6 tyX6 tyX6_ok nmX6 hK hP hD hS 0 rfl rfl 13 (by decide) hf_108 rfl rfl rfl rfl (Nat.le_of_ble_eq_true rfl) dX6_judge_64 rfl (fun H locs hP hD hS => ?_)
      refine lv_aload_n S.1 S.2.1 dX6_judge_67 rfl (lv_at hl 1 rfl) ?_
      refine k_get S (C := RX6) (T := TX6) (N := 15) (ci := 6) hw_X6 hK hP 0 rfl rfl 12 (by decide) hf_105 rfl (v := .int (slN (decide (0 < re)) sl (nI (32 * W0 / n0)))) rfl dX6_judge_68 ?_
      refine lv_if_ne S.1 S.2.1 dX6_judge_71 (tgt := 80) (by decide) (fun c71 => ?_) (fun c71 => ?_)
      · refine lv_sipush (v := nI 256) S.1 S.2.1 dX6_judge_80 (by decide) ?_
        refine lv_sipush (v := nI 256) S.1 S.2.1 dX6_judge_83 (by decide) ?_
        refine lv_aload_n S.1 S.2.1 dX6_judge_86 rfl (lv_at hl 1 rfl) ?_
        refine k_get S (C := RX6) (T := TX6) (N := 15) (ci := 6) hw_X6 hK hP 0 rfl rfl 13 (by decide) hf_108 rfl (v := .int (faN (decide (0 < re)) fa (nI (32 * W0 / n0)))) rfl dX6_judge_87 ?_
        refine lv_imul S.1 S.2.1 dX6_judge_90 ?_
        refine lv_aload_n S.1 S.2.1 dX6_judge_91 rfl (lv_at hl 1 rfl) ?_
        refine k_get S (C := RX6) (T := TX6) (N := 15) (ci := 6) hw_X6 hK hP 0 rfl rfl 12 (by decide) hf_105 rfl (v := .int (slN (decide (0 < re)) sl (nI (32 * W0 / n0)))) rfl dX6_judge_92 ?_
        refine lv_idiv S.1 S.2.1 dX6_judge_95 (c71) ?_
        refine lv_isub S.1 S.2.1 dX6_judge_96 ?_
        refine lv_istore_n (lv' := [(3, .int ((nI 256) - (((nI 256) * (faN (decide (0 < re)) fa (nI (32 * W0 / n0)))) / (slN (decide (0 < re)) sl (nI (32 * W0 / n0)))))), (2, .int (nI ((32 * W0) / n0))), (0, .ref m0), (1, .int (nI W0))]) S.1 S.2.1 dX6_judge_97 rfl hl (by decide) rfl (fun ls hl => ?_)
        refine lv_aload_n S.1 S.2.1 dX6_judge_98 rfl (lv_at hl 2 rfl) ?_
        refine lv_iload_n S.1 S.2.1 dX6_judge_99 rfl (lv_at hl 0 rfl) ?_
        refine lv_if_ge S.1 S.2.1 dX6_judge_100 (tgt := 107) (by decide) (fun c100 => ?_) (fun c100 => ?_)
        · refine lv_iload_n S.1 S.2.1 dX6_judge_107 rfl (lv_at hl 0 rfl) ?_
          refine k_topi (y := dbN (slN (decide (0 < re)) sl (nI (32 * W0 / n0))) (faN (decide (0 < re)) fa (nI (32 * W0 / n0)))) (by first | (rw [dbN, if_pos c71]) | (rw [dbN, if_neg c71, ← max_0, if_pos c100]) | (rw [dbN, if_neg c71, ← max_0, if_neg c100])) ?_
          refine k_put S (C := RX6) (T := TX6) (N := 15) (ci := 6) (ws2 := [(m0, .inr (6, [.int th, .ref m1, .int (nI x), .int (bI sp), .int (nI n0), .ref m2, .ref m3, .ref m4, .ref m5, .ref m6, .int (nI ac), .int (nI re), .int (slN (decide (0 < re)) sl (nI (32 * W0 / n0))), .int (faN (decide (0 < re)) fa (nI (32 * W0 / n0))), .int (dbN (slN (decide (0 < re)) sl (nI (32 * W0 / n0))) (faN (decide (0 < re)) fa (nI (32 * W0 / n0))))]))]) hw_X6 tyX6 tyX6_ok nmX6 hK hP hD hS 0 rfl rfl 14 (by decide) hf_84 rfl rfl rfl rfl (Nat.le_of_ble_eq_true rfl) dX6_judge_108 rfl (fun H locs hP hD hS => ?_)
          refine lv_aload_n S.1 S.2.1 dX6_judge_111 rfl (lv_at hl 2 rfl) ?_
          refine lv_dup S.1 S.2.1 dX6_judge_112 rfl ?_
          refine k_get S (C := RX6) (T := TX6) (N := 15) (ci := 6) hw_X6 hK hP 0 rfl rfl 11 (by decide) hf_81 rfl (v := .int (nI re)) rfl dX6_judge_113 ?_
          refine lv_iconst (v := nI 1) S.1 S.2.1 dX6_judge_116 (by decide) ?_
          refine kn_iadd S dX6_judge_117 ?_
          refine k_put S (C := RX6) (T := TX6) (N := 15) (ci := 6) (ws2 := [(m0, .inr (6, [.int th, .ref m1, .int (nI x), .int (bI sp), .int (nI n0), .ref m2, .ref m3, .ref m4, .ref m5, .ref m6, .int (nI ac), .int (nI (re + 1)), .int (slN (decide (0 < re)) sl (nI (32 * W0 / n0))), .int (faN (decide (0 < re)) fa (nI (32 * W0 / n0))), .int (dbN (slN (decide (0 < re)) sl (nI (32 * W0 / n0))) (faN (decide (0 < re)) fa (nI (32 * W0 / n0))))]))]) hw_X6 tyX6 tyX6_ok nmX6 hK hP hD hS 0 rfl rfl 11 (by decide) hf_81 rfl rfl rfl rfl (Nat.le_of_ble_eq_true rfl) dX6_judge_118 rfl (fun H locs hP hD hS => ?_)
          exact hret _ _ _ _ dX6_judge_121 hP hD hS
        · refine lv_iconst (v := nI 0) S.1 S.2.1 dX6_judge_103 (by decide) ?_
          refine lv_goto (tgt := 108) S.1 S.2.1 dX6_judge_104 (by decide) ?_
          refine k_topi (y := dbN (slN (decide (0 < re)) sl (nI (32 * W0 / n0))) (faN (decide (0 < re)) fa (nI (32 * W0 / n0)))) (by first | (rw [dbN, if_pos c71]) | (rw [dbN, if_neg c71, ← max_0, if_pos c100]) | (rw [dbN, if_neg c71, ← max_0, if_neg c100])) ?_
          refine k_put S (C := RX6) (T := TX6) (N := 15) (ci := 6) (ws2 := [(m0, .inr (6, [.int th, .ref m1, .int (nI x), .int (bI sp), .int (nI n0), .ref m2, .ref m3, .ref m4, .ref m5, .ref m6, .int (nI ac), .int (nI re), .int (slN (decide (0 < re)) sl (nI (32 * W0 / n0))), .int (faN (decide (0 < re)) fa (nI (32 * W0 / n0))), .int (dbN (slN (decide (0 < re)) sl (nI (32 * W0 / n0))) (faN (decide (0 < re)) fa (nI (32 * W0 / n0))))]))]) hw_X6 tyX6 tyX6_ok nmX6 hK hP hD hS 0 rfl rfl 14 (by decide) hf_84 rfl rfl rfl rfl (Nat.le_of_ble_eq_true rfl) dX6_judge_108 rfl (fun H locs hP hD hS => ?_)
          refine lv_aload_n S.1 S.2.1 dX6_judge_111 rfl (lv_at hl 2 rfl) ?_
          refine lv_dup S.1 S.2.1 dX6_judge_112 rfl ?_
          refine k_get S (C := RX6) (T := TX6) (N := 15) (ci := 6) hw_X6 hK hP 0 rfl rfl 11 (by decide) hf_81 rfl (v := .int (nI re)) rfl dX6_judge_113 ?_
          refine lv_iconst (v := nI 1) S.1 S.2.1 dX6_judge_116 (by decide) ?_
          refine kn_iadd S dX6_judge_117 ?_
          refine k_put S (C := RX6) (T := TX6) (N := 15) (ci := 6) (ws2 := [(m0, .inr (6, [.int th, .ref m1, .int (nI x), .int (bI sp), .int (nI n0), .ref m2, .ref m3, .ref m4, .ref m5, .ref m6, .int (nI ac), .int (nI (re + 1)), .int (slN (decide (0 < re)) sl (nI (32 * W0 / n0))), .int (faN (decide (0 < re)) fa (nI (32 * W0 / n0))), .int (dbN (slN (decide (0 < re)) sl (nI (32 * W0 / n0))) (faN (decide (0 < re)) fa (nI (32 * W0 / n0))))]))]) hw_X6 tyX6 tyX6_ok nmX6 hK hP hD hS 0 rfl rfl 11 (by decide) hf_81 rfl rfl rfl rfl (Nat.le_of_ble_eq_true rfl) dX6_judge_118 rfl (fun H locs hP hD hS => ?_)
          exact hret _ _ _ _ dX6_judge_121 hP hD hS
      · refine lv_sipush (v := nI 256) S.1 S.2.1 dX6_judge_74 (by decide) ?_
        refine lv_goto (tgt := 97) S.1 S.2.1 dX6_judge_77 (by decide) ?_
        refine lv_istore_n (lv' := [(3, .int (nI 256)), (2, .int (nI ((32 * W0) / n0))), (0, .ref m0), (1, .int (nI W0))]) S.1 S.2.1 dX6_judge_97 rfl hl (by decide) rfl (fun ls hl => ?_)
        refine lv_aload_n S.1 S.2.1 dX6_judge_98 rfl (lv_at hl 2 rfl) ?_
        refine lv_iload_n S.1 S.2.1 dX6_judge_99 rfl (lv_at hl 0 rfl) ?_
        refine kn_if_ge S (by omega) dX6_judge_100 (tgt := 107) (by decide) ?_
        refine lv_iload_n S.1 S.2.1 dX6_judge_107 rfl (lv_at hl 0 rfl) ?_
        refine k_topi (y := dbN (slN (decide (0 < re)) sl (nI (32 * W0 / n0))) (faN (decide (0 < re)) fa (nI (32 * W0 / n0)))) (by first | (rw [dbN, if_pos c71]) | (rw [dbN, if_neg c71, ← max_0, if_pos c100]) | (rw [dbN, if_neg c71, ← max_0, if_neg c100])) ?_
        refine k_put S (C := RX6) (T := TX6) (N := 15) (ci := 6) (ws2 := [(m0, .inr (6, [.int th, .ref m1, .int (nI x), .int (bI sp), .int (nI n0), .ref m2, .ref m3, .ref m4, .ref m5, .ref m6, .int (nI ac), .int (nI re), .int (slN (decide (0 < re)) sl (nI (32 * W0 / n0))), .int (faN (decide (0 < re)) fa (nI (32 * W0 / n0))), .int (dbN (slN (decide (0 < re)) sl (nI (32 * W0 / n0))) (faN (decide (0 < re)) fa (nI (32 * W0 / n0))))]))]) hw_X6 tyX6 tyX6_ok nmX6 hK hP hD hS 0 rfl rfl 14 (by decide) hf_84 rfl rfl rfl rfl (Nat.le_of_ble_eq_true rfl) dX6_judge_108 rfl (fun H locs hP hD hS => ?_)
        refine lv_aload_n S.1 S.2.1 dX6_judge_111 rfl (lv_at hl 2 rfl) ?_
        refine lv_dup S.1 S.2.1 dX6_judge_112 rfl ?_
        refine k_get S (C := RX6) (T := TX6) (N := 15) (ci := 6) hw_X6 hK hP 0 rfl rfl 11 (by decide) hf_81 rfl (v := .int (nI re)) rfl dX6_judge_113 ?_
        refine lv_iconst (v := nI 1) S.1 S.2.1 dX6_judge_116 (by decide) ?_
        refine kn_iadd S dX6_judge_117 ?_
        refine k_put S (C := RX6) (T := TX6) (N := 15) (ci := 6) (ws2 := [(m0, .inr (6, [.int th, .ref m1, .int (nI x), .int (bI sp), .int (nI n0), .ref m2, .ref m3, .ref m4, .ref m5, .ref m6, .int (nI ac), .int (nI (re + 1)), .int (slN (decide (0 < re)) sl (nI (32 * W0 / n0))), .int (faN (decide (0 < re)) fa (nI (32 * W0 / n0))), .int (dbN (slN (decide (0 < re)) sl (nI (32 * W0 / n0))) (faN (decide (0 < re)) fa (nI (32 * W0 / n0))))]))]) hw_X6 tyX6 tyX6_ok nmX6 hK hP hD hS 0 rfl rfl 11 (by decide) hf_81 rfl rfl rfl rfl (Nat.le_of_ble_eq_true rfl) dX6_judge_118 rfl (fun H locs hP hD hS => ?_)
        exact hret _ _ _ _ dX6_judge_121 hP hD hS
    · exfalso; omega
  · refine lv_iload_n S.1 S.2.1 dX6_judge_18 rfl (lv_at hl 0 rfl) ?_
    refine lv_goto (tgt := 36) S.1 S.2.1 dX6_judge_19 (by decide) ?_
    refine k_topi (y := slN (decide (0 < re)) sl (nI (32 * W0 / n0))) (by first | (rw [slN, decide_eq_true (by omega), if_pos rfl]) | (rw [slN, decide_eq_false (by omega), if_neg (by decide)])) ?_
    refine k_put S (C := RX6) (T := TX6) (N := 15) (ci := 6) (ws2 := [(m0, .inr (6, [.int th, .ref m1, .int (nI x), .int (bI sp), .int (nI n0), .ref m2, .ref m3, .ref m4, .ref m5, .ref m6, .int (nI ac), .int (nI re), .int (slN (decide (0 < re)) sl (nI (32 * W0 / n0))), .int fa, .int db]))]) hw_X6 tyX6 tyX6_ok nmX6 hK hP hD hS 0 rfl rfl 12 (by decide) hf_105 rfl rfl rfl rfl (Nat.le_of_ble_eq_true rfl) dX6_judge_36 rfl (fun H locs hP hD hS => ?_)
    refine lv_aload_n S.1 S.2.1 dX6_judge_39 rfl (lv_at hl 1 rfl) ?_
    refine lv_aload_n S.1 S.2.1 dX6_judge_40 rfl (lv_at hl 1 rfl) ?_
    refine k_get S (C := RX6) (T := TX6) (N := 15) (ci := 6) hw_X6 hK hP 0 rfl rfl 11 (by decide) hf_81 rfl (v := .int (nI re)) rfl dX6_judge_41 ?_
    refine kn_if_ne S (by omega) dX6_judge_44 (tgt := 51) (by decide) (fun c44 => ?_) (fun c44 => ?_)
    · exfalso; omega
    · refine lv_iload_n S.1 S.2.1 dX6_judge_47 rfl (lv_at hl 0 rfl) ?_
      refine lv_goto (tgt := 64) S.1 S.2.1 dX6_judge_48 (by decide) ?_
      refine k_topi (y := faN (decide (0 < re)) fa (nI (32 * W0 / n0))) (by first | (rw [faN, decide_eq_true (by omega), if_pos rfl]) | (rw [faN, decide_eq_false (by omega), if_neg (by decide)])) ?_
      refine k_put S (C := RX6) (T := TX6) (N := 15) (ci := 6) (ws2 := [(m0, .inr (6, [.int th, .ref m1, .int (nI x), .int (bI sp), .int (nI n0), .ref m2, .ref m3, .ref m4, .ref m5, .ref m6, .int (nI ac), .int (nI re), .int (slN (decide (0 < re)) sl (nI (32 * W0 / n0))), .int (faN (decide (0 < re)) fa (nI (32 * W0 / n0))), .int db]))]) hw_X6 tyX6 tyX6_ok nmX6 hK hP hD hS 0 rfl rfl 13 (by decide) hf_108 rfl rfl rfl rfl (Nat.le_of_ble_eq_true rfl) dX6_judge_64 rfl (fun H locs hP hD hS => ?_)
      refine lv_aload_n S.1 S.2.1 dX6_judge_67 rfl (lv_at hl 1 rfl) ?_
      refine k_get S (C := RX6) (T := TX6) (N := 15) (ci := 6) hw_X6 hK hP 0 rfl rfl 12 (by decide) hf_105 rfl (v := .int (slN (decide (0 < re)) sl (nI (32 * W0 / n0)))) rfl dX6_judge_68 ?_
      refine lv_if_ne S.1 S.2.1 dX6_judge_71 (tgt := 80) (by decide) (fun c71 => ?_) (fun c71 => ?_)
      · refine lv_sipush (v := nI 256) S.1 S.2.1 dX6_judge_80 (by decide) ?_
        refine lv_sipush (v := nI 256) S.1 S.2.1 dX6_judge_83 (by decide) ?_
        refine lv_aload_n S.1 S.2.1 dX6_judge_86 rfl (lv_at hl 1 rfl) ?_
        refine k_get S (C := RX6) (T := TX6) (N := 15) (ci := 6) hw_X6 hK hP 0 rfl rfl 13 (by decide) hf_108 rfl (v := .int (faN (decide (0 < re)) fa (nI (32 * W0 / n0)))) rfl dX6_judge_87 ?_
        refine lv_imul S.1 S.2.1 dX6_judge_90 ?_
        refine lv_aload_n S.1 S.2.1 dX6_judge_91 rfl (lv_at hl 1 rfl) ?_
        refine k_get S (C := RX6) (T := TX6) (N := 15) (ci := 6) hw_X6 hK hP 0 rfl rfl 12 (by decide) hf_105 rfl (v := .int (slN (decide (0 < re)) sl (nI (32 * W0 / n0)))) rfl dX6_judge_92 ?_
        refine lv_idiv S.1 S.2.1 dX6_judge_95 (c71) ?_
        refine lv_isub S.1 S.2.1 dX6_judge_96 ?_
        refine lv_istore_n (lv' := [(3, .int ((nI 256) - (((nI 256) * (faN (decide (0 < re)) fa (nI (32 * W0 / n0)))) / (slN (decide (0 < re)) sl (nI (32 * W0 / n0)))))), (2, .int (nI ((32 * W0) / n0))), (0, .ref m0), (1, .int (nI W0))]) S.1 S.2.1 dX6_judge_97 rfl hl (by decide) rfl (fun ls hl => ?_)
        refine lv_aload_n S.1 S.2.1 dX6_judge_98 rfl (lv_at hl 2 rfl) ?_
        refine lv_iload_n S.1 S.2.1 dX6_judge_99 rfl (lv_at hl 0 rfl) ?_
        refine lv_if_ge S.1 S.2.1 dX6_judge_100 (tgt := 107) (by decide) (fun c100 => ?_) (fun c100 => ?_)
        · refine lv_iload_n S.1 S.2.1 dX6_judge_107 rfl (lv_at hl 0 rfl) ?_
          refine k_topi (y := dbN (slN (decide (0 < re)) sl (nI (32 * W0 / n0))) (faN (decide (0 < re)) fa (nI (32 * W0 / n0)))) (by first | (rw [dbN, if_pos c71]) | (rw [dbN, if_neg c71, ← max_0, if_pos c100]) | (rw [dbN, if_neg c71, ← max_0, if_neg c100])) ?_
          refine k_put S (C := RX6) (T := TX6) (N := 15) (ci := 6) (ws2 := [(m0, .inr (6, [.int th, .ref m1, .int (nI x), .int (bI sp), .int (nI n0), .ref m2, .ref m3, .ref m4, .ref m5, .ref m6, .int (nI ac), .int (nI re), .int (slN (decide (0 < re)) sl (nI (32 * W0 / n0))), .int (faN (decide (0 < re)) fa (nI (32 * W0 / n0))), .int (dbN (slN (decide (0 < re)) sl (nI (32 * W0 / n0))) (faN (decide (0 < re)) fa (nI (32 * W0 / n0))))]))]) hw_X6 tyX6 tyX6_ok nmX6 hK hP hD hS 0 rfl rfl 14 (by decide) hf_84 rfl rfl rfl rfl (Nat.le_of_ble_eq_true rfl) dX6_judge_108 rfl (fun H locs hP hD hS => ?_)
          refine lv_aload_n S.1 S.2.1 dX6_judge_111 rfl (lv_at hl 2 rfl) ?_
          refine lv_dup S.1 S.2.1 dX6_judge_112 rfl ?_
          refine k_get S (C := RX6) (T := TX6) (N := 15) (ci := 6) hw_X6 hK hP 0 rfl rfl 11 (by decide) hf_81 rfl (v := .int (nI re)) rfl dX6_judge_113 ?_
          refine lv_iconst (v := nI 1) S.1 S.2.1 dX6_judge_116 (by decide) ?_
          refine kn_iadd S dX6_judge_117 ?_
          refine k_put S (C := RX6) (T := TX6) (N := 15) (ci := 6) (ws2 := [(m0, .inr (6, [.int th, .ref m1, .int (nI x), .int (bI sp), .int (nI n0), .ref m2, .ref m3, .ref m4, .ref m5, .ref m6, .int (nI ac), .int (nI (re + 1)), .int (slN (decide (0 < re)) sl (nI (32 * W0 / n0))), .int (faN (decide (0 < re)) fa (nI (32 * W0 / n0))), .int (dbN (slN (decide (0 < re)) sl (nI (32 * W0 / n0))) (faN (decide (0 < re)) fa (nI (32 * W0 / n0))))]))]) hw_X6 tyX6 tyX6_ok nmX6 hK hP hD hS 0 rfl rfl 11 (by decide) hf_81 rfl rfl rfl rfl (Nat.le_of_ble_eq_true rfl) dX6_judge_118 rfl (fun H locs hP hD hS => ?_)
          exact hret _ _ _ _ dX6_judge_121 hP hD hS
        · refine lv_iconst (v := nI 0) S.1 S.2.1 dX6_judge_103 (by decide) ?_
          refine lv_goto (tgt := 108) S.1 S.2.1 dX6_judge_104 (by decide) ?_
          refine k_topi (y := dbN (slN (decide (0 < re)) sl (nI (32 * W0 / n0))) (faN (decide (0 < re)) fa (nI (32 * W0 / n0)))) (by first | (rw [dbN, if_pos c71]) | (rw [dbN, if_neg c71, ← max_0, if_pos c100]) | (rw [dbN, if_neg c71, ← max_0, if_neg c100])) ?_
          refine k_put S (C := RX6) (T := TX6) (N := 15) (ci := 6) (ws2 := [(m0, .inr (6, [.int th, .ref m1, .int (nI x), .int (bI sp), .int (nI n0), .ref m2, .ref m3, .ref m4, .ref m5, .ref m6, .int (nI ac), .int (nI re), .int (slN (decide (0 < re)) sl (nI (32 * W0 / n0))), .int (faN (decide (0 < re)) fa (nI (32 * W0 / n0))), .int (dbN (slN (decide (0 < re)) sl (nI (32 * W0 / n0))) (faN (decide (0 < re)) fa (nI (32 * W0 / n0))))]))]) hw_X6 tyX6 tyX6_ok nmX6 hK hP hD hS 0 rfl rfl 14 (by decide) hf_84 rfl rfl rfl rfl (Nat.le_of_ble_eq_true rfl) dX6_judge_108 rfl (fun H locs hP hD hS => ?_)
          refine lv_aload_n S.1 S.2.1 dX6_judge_111 rfl (lv_at hl 2 rfl) ?_
          refine lv_dup S.1 S.2.1 dX6_judge_112 rfl ?_
          refine k_get S (C := RX6) (T := TX6) (N := 15) (ci := 6) hw_X6 hK hP 0 rfl rfl 11 (by decide) hf_81 rfl (v := .int (nI re)) rfl dX6_judge_113 ?_
          refine lv_iconst (v := nI 1) S.1 S.2.1 dX6_judge_116 (by decide) ?_
          refine kn_iadd S dX6_judge_117 ?_
          refine k_put S (C := RX6) (T := TX6) (N := 15) (ci := 6) (ws2 := [(m0, .inr (6, [.int th, .ref m1, .int (nI x), .int (bI sp), .int (nI n0), .ref m2, .ref m3, .ref m4, .ref m5, .ref m6, .int (nI ac), .int (nI (re + 1)), .int (slN (decide (0 < re)) sl (nI (32 * W0 / n0))), .int (faN (decide (0 < re)) fa (nI (32 * W0 / n0))), .int (dbN (slN (decide (0 < re)) sl (nI (32 * W0 / n0))) (faN (decide (0 < re)) fa (nI (32 * W0 / n0))))]))]) hw_X6 tyX6 tyX6_ok nmX6 hK hP hD hS 0 rfl rfl 11 (by decide) hf_81 rfl rfl rfl rfl (Nat.le_of_ble_eq_true rfl) dX6_judge_118 rfl (fun H locs hP hD hS => ?_)
          exact hret _ _ _ _ dX6_judge_121 hP hD hS
      · refine lv_sipush (v := nI 256) S.1 S.2.1 dX6_judge_74 (by decide) ?_
        refine lv_goto (tgt := 97) S.1 S.2.1 dX6_judge_77 (by decide) ?_
        refine lv_istore_n (lv' := [(3, .int (nI 256)), (2, .int (nI ((32 * W0) / n0))), (0, .ref m0), (1, .int (nI W0))]) S.1 S.2.1 dX6_judge_97 rfl hl (by decide) rfl (fun ls hl => ?_)
        refine lv_aload_n S.1 S.2.1 dX6_judge_98 rfl (lv_at hl 2 rfl) ?_
        refine lv_iload_n S.1 S.2.1 dX6_judge_99 rfl (lv_at hl 0 rfl) ?_
        refine kn_if_ge S (by omega) dX6_judge_100 (tgt := 107) (by decide) ?_
        refine lv_iload_n S.1 S.2.1 dX6_judge_107 rfl (lv_at hl 0 rfl) ?_
        refine k_topi (y := dbN (slN (decide (0 < re)) sl (nI (32 * W0 / n0))) (faN (decide (0 < re)) fa (nI (32 * W0 / n0)))) (by first | (rw [dbN, if_pos c71]) | (rw [dbN, if_neg c71, ← max_0, if_pos c100]) | (rw [dbN, if_neg c71, ← max_0, if_neg c100])) ?_
        refine k_put S (C := RX6) (T := TX6) (N := 15) (ci := 6) (ws2 := [(m0, .inr (6, [.int th, .ref m1, .int (nI x), .int (bI sp), .int (nI n0), .ref m2, .ref m3, .ref m4, .ref m5, .ref m6, .int (nI ac), .int (nI re), .int (slN (decide (0 < re)) sl (nI (32 * W0 / n0))), .int (faN (decide (0 < re)) fa (nI (32 * W0 / n0))), .int (dbN (slN (decide (0 < re)) sl (nI (32 * W0 / n0))) (faN (decide (0 < re)) fa (nI (32 * W0 / n0))))]))]) hw_X6 tyX6 tyX6_ok nmX6 hK hP hD hS 0 rfl rfl 14 (by decide) hf_84 rfl rfl rfl rfl (Nat.le_of_ble_eq_true rfl) dX6_judge_108 rfl (fun H locs hP hD hS => ?_)
        refine lv_aload_n S.1 S.2.1 dX6_judge_111 rfl (lv_at hl 2 rfl) ?_
        refine lv_dup S.1 S.2.1 dX6_judge_112 rfl ?_
        refine k_get S (C := RX6) (T := TX6) (N := 15) (ci := 6) hw_X6 hK hP 0 rfl rfl 11 (by decide) hf_81 rfl (v := .int (nI re)) rfl dX6_judge_113 ?_
        refine lv_iconst (v := nI 1) S.1 S.2.1 dX6_judge_116 (by decide) ?_
        refine kn_iadd S dX6_judge_117 ?_
        refine k_put S (C := RX6) (T := TX6) (N := 15) (ci := 6) (ws2 := [(m0, .inr (6, [.int th, .ref m1, .int (nI x), .int (bI sp), .int (nI n0), .ref m2, .ref m3, .ref m4, .ref m5, .ref m6, .int (nI ac), .int (nI (re + 1)), .int (slN (decide (0 < re)) sl (nI (32 * W0 / n0))), .int (faN (decide (0 < re)) fa (nI (32 * W0 / n0))), .int (dbN (slN (decide (0 < re)) sl (nI (32 * W0 / n0))) (faN (decide (0 < re)) fa (nI (32 * W0 / n0))))]))]) hw_X6 tyX6 tyX6_ok nmX6 hK hP hD hS 0 rfl rfl 11 (by decide) hf_81 rfl rfl rfl rfl (Nat.le_of_ble_eq_true rfl) dX6_judge_118 rfl (fun H locs hP hD hS => ?_)
        exact hret _ _ _ _ dX6_judge_121 hP hD hS

set_option maxHeartbeats 4000000 in
set_option maxRecDepth 100000 in
theorem c_X6_manyNew (l : Launch) (D : va_G) (cyI cyJ cyZ : ClassId) (sz : Nat) (m0 : Nat) (m1 : Nat) (m2 : Nat) (m3 : Nat) (m4 : Nat) (m5 : Nat) (m6 : Nat) (th : Int32) (x : Nat) (sp : Bool) (n0 : Nat) (ac : Nat) (re : Nat) (sl : Int32) (fa : Int32) (db : Int32) (cs : Nat → Nat) (us : Nat → Nat) (hn : n0 ≤ 64) (hca : ∀ j, j < 64 → cs j < 64) (hu : ∀ j, j < 64 → us j ≤ 8) : Met l yX6_manyNew wsX6_manyNew ({ frames := 2, cells := 0, slots := 0, locals := 60 } : Room) (mPc D [(cyI, .int), (cyJ, .long), (cyZ, .boolean)] [(m0, .inr (6, [.int th, .ref m1, .int (nI x), .int (bI sp), .int (nI n0), .ref m2, .ref m3, .ref m4, .ref m5, .ref m6, .int (nI ac), .int (nI re), .int sl, .int fa, .int db])), (m2, .inl (cyI, 64, .inl (aI cs))), (m4, .inl (cyI, 64, .inl (aI us)))] sz [.ref m0]) (va_Qi (fun (r : Int32) (u : va_W) => r = nI (mnw cs us n0) ∧ u = [(m0, .inr (6, [.int th, .ref m1, .int (nI x), .int (bI sp), .int (nI n0), .ref m2, .ref m3, .ref m4, .ref m5, .ref m6, .int (nI ac), .int (nI re), .int sl, .int fa, .int db])), (m2, .inl (cyI, 64, .inl (aI cs))), (m4, .inl (cyI, 64, .inl (aI us)))]) (mB D [(cyI, .int), (cyJ, .long), (cyZ, .boolean)] (va_A [(m0, .inr (6, [.int th, .ref m1, .int (nI x), .int (bI sp), .int (nI n0), .ref m2, .ref m3, .ref m4, .ref m5, .ref m6, .int (nI ac), .int (nI re), .int sl, .int fa, .int db])), (m2, .inl (cyI, 64, .inl (aI cs))), (m4, .inl (cyI, 64, .inl (aI us)))] sz)) (va_A [(m0, .inr (6, [.int th, .ref m1, .int (nI x), .int (bI sp), .int (nI n0), .ref m2, .ref m3, .ref m4, .ref m5, .ref m6, .int (nI ac), .int (nI re), .int sl, .int fa, .int db])), (m2, .inl (cyI, 64, .inl (aI cs))), (m4, .inl (cyI, 64, .inl (aI us)))] sz)) 0 0 (va_A [(m0, .inr (6, [.int th, .ref m1, .int (nI x), .int (bI sp), .int (nI n0), .ref m2, .ref m3, .ref m4, .ref m5, .ref m6, .int (nI ac), .int (nI re), .int sl, .int fa, .int db])), (m2, .inl (cyI, 64, .inl (aI cs))), (m4, .inl (cyI, 64, .inl (aI us)))] sz) := by
  refine st_i (own := RX6) (lv0 := [(0, .ref m0)]) (by decide) rfl rfl (Nat.le_of_ble_eq_true rfl) rfl ?_
  intro p e s m below meth c A Q S hin hA hK hP hD hG hS hret ls hl
  have hw_X6 : ∀ w ∈ u_ws RX6 TX6 15, w ∈ wsX6_manyNew := by decide +kernel
  have hf_69 := S.2.2.2.2 (.fieldLink RX6 69 "ParticlewayModel" "samples" "I") (by decide +kernel)
  have hf_24 := S.2.2.2.2 (.fieldLink RX6 24 "ParticlewayModel" "weight" "[I") (by decide +kernel)
  have hf_17 := S.2.2.2.2 (.fieldLink RX6 17 "ParticlewayModel" "sample" "[I") (by decide +kernel)
  refine lv_lconst (v := lN 0) S.1 S.2.1 dX6_manyNew_0 (by decide) ?_
  refine lv_lstore_n (lv' := [(1, .long (lN 0)), (0, .ref m0)]) S.1 S.2.1 dX6_manyNew_1 rfl hl (by decide) rfl (fun ls hl => ?_)
  refine lv_iconst (v := nI 0) S.1 S.2.1 dX6_manyNew_2 (by decide) ?_
  refine lv_istore_n (lv' := [(3, .int (nI 0)), (1, .long (lN 0)), (0, .ref m0)]) S.1 S.2.1 dX6_manyNew_3 rfl hl (by decide) rfl (fun ls hl => ?_)
  refine wl (σ := Nat × Nat) (fun (i, q) => [(m0, .inr (6, [.int th, .ref m1, .int (nI x), .int (bI sp), .int (nI n0), .ref m2, .ref m3, .ref m4, .ref m5, .ref m6, .int (nI ac), .int (nI re), .int sl, .int fa, .int db])), (m2, .inl (cyI, 64, .inl (aI cs))), (m4, .inl (cyI, 64, .inl (aI us)))]) (fun (i, q) => [(3, .int (nI i)), (1, .long (lN q)), (0, .ref m0)]) (fun (i, q) => (i ≤ n0) ∧ (q < 18446744073709551616) ∧ (∀ k, k < 64 → q.testBit k = anyB cs us i k)) (fun (i, q) => n0 - i) ?_ (0, 0) ⟨by omega, by omega, fun k hk => by rw [anyB]; exact Nat.zero_testBit k⟩ hP hD hS (lv_sub hl [0, 1, 2] rfl)
  rintro ⟨i, q⟩ ⟨hi, hq, hg⟩ ih4 H locs ls hP hD hS hl
  have hP : va_P D vwCl [(m0, .inr (6, [.int th, .ref m1, .int (nI x), .int (bI sp), .int (nI n0), .ref m2, .ref m3, .ref m4, .ref m5, .ref m6, .int (nI ac), .int (nI re), .int sl, .int fa, .int db])), (m2, .inl (cyI, 64, .inl (aI cs))), (m4, .inl (cyI, 64, .inl (aI us)))] H := hP
  have hD : va_D A [(m0, .inr (6, [.int th, .ref m1, .int (nI x), .int (bI sp), .int (nI n0), .ref m2, .ref m3, .ref m4, .ref m5, .ref m6, .int (nI ac), .int (nI re), .int sl, .int fa, .int db])), (m2, .inl (cyI, 64, .inl (aI cs))), (m4, .inl (cyI, 64, .inl (aI us)))] := hD
  have hl : lv_has ls 5 [(3, .int (nI i)), (1, .long (lN q)), (0, .ref m0)] := hl
  refine lv_iload_n S.1 S.2.1 dX6_manyNew_4 rfl (lv_at hl 0 rfl) ?_
  refine lv_aload_n S.1 S.2.1 dX6_manyNew_5 rfl (lv_at hl 2 rfl) ?_
  refine k_get S (C := RX6) (T := TX6) (N := 15) (ci := 6) hw_X6 hK hP 0 rfl rfl 4 (by decide) hf_69 rfl (v := .int (nI n0)) rfl dX6_manyNew_6 ?_
  refine kn_icmp_ge S (by omega) (by omega) dX6_manyNew_9 (tgt := 42) (by decide) (fun c9 => ?_) (fun c9 => ?_)
  · refine lv_bipush (v := nI 8) S.1 S.2.1 dX6_manyNew_42 (by decide) ?_
    refine lv_istore_n (lv' := [(3, .int (nI 8)), (1, .long (lN q)), (0, .ref m0)]) S.1 S.2.1 dX6_manyNew_44 rfl hl (by decide) rfl (fun ls hl => ?_)
    refine lv_iconst (v := nI 0) S.1 S.2.1 dX6_manyNew_45 (by decide) ?_
    refine lv_istore (lv' := [(4, .int (nI 0)), (3, .int (nI 8)), (1, .long (lN q)), (0, .ref m0)]) S.1 S.2.1 dX6_manyNew_46 hl (by decide) rfl (fun ls hl => ?_)
    refine wl (σ := Nat × Nat) (fun (j, g) => [(m0, .inr (6, [.int th, .ref m1, .int (nI x), .int (bI sp), .int (nI n0), .ref m2, .ref m3, .ref m4, .ref m5, .ref m6, .int (nI ac), .int (nI re), .int sl, .int fa, .int db])), (m2, .inl (cyI, 64, .inl (aI cs))), (m4, .inl (cyI, 64, .inl (aI us)))]) (fun (j, g) => [(4, .int (nI j)), (3, .int (nI g)), (1, .long (lN q)), (0, .ref m0)]) (fun (j, g) => (j ≤ 64) ∧ (g = 8 + 4 * btF q j)) (fun (j, g) => 64 - j) ?_ (0, 8) ⟨by omega, rfl⟩ hP hD hS (lv_sub hl [0, 1, 2, 3] rfl)
    rintro ⟨j, g⟩ ⟨hj, hgg⟩ ih48 H locs ls hP hD hS hl
    have hP : va_P D vwCl [(m0, .inr (6, [.int th, .ref m1, .int (nI x), .int (bI sp), .int (nI n0), .ref m2, .ref m3, .ref m4, .ref m5, .ref m6, .int (nI ac), .int (nI re), .int sl, .int fa, .int db])), (m2, .inl (cyI, 64, .inl (aI cs))), (m4, .inl (cyI, 64, .inl (aI us)))] H := hP
    have hD : va_D A [(m0, .inr (6, [.int th, .ref m1, .int (nI x), .int (bI sp), .int (nI n0), .ref m2, .ref m3, .ref m4, .ref m5, .ref m6, .int (nI ac), .int (nI re), .int sl, .int fa, .int db])), (m2, .inl (cyI, 64, .inl (aI cs))), (m4, .inl (cyI, 64, .inl (aI us)))] := hD
    have hl : lv_has ls 5 [(4, .int (nI j)), (3, .int (nI g)), (1, .long (lN q)), (0, .ref m0)] := hl
    refine lv_iload S.1 S.2.1 dX6_manyNew_48 (lv_at hl 0 rfl) ?_
    refine lv_bipush (v := nI 64) S.1 S.2.1 dX6_manyNew_50 (by decide) ?_
    refine kn_icmp_ge S (by omega) (by omega) dX6_manyNew_52 (tgt := 73) (by decide) (fun c52 => ?_) (fun c52 => ?_)
    · have hbl := btF_le q j
      have hbe := btF_any (cs := cs) (us := us) (n := n0) (S := q) (fun k hk => by rw [hg k hk, show i = n0 by omega]) (m := 64) (Nat.le_refl _)
      have hge : g = 8 + 4 * smF (fun c => if anyB cs us n0 c then 1 else 0) 64 := (by rw [hgg, ← hbe, show j = 64 by omega])
      refine lv_iload_n S.1 S.2.1 dX6_manyNew_73 rfl (lv_at hl 1 rfl) ?_
      refine lv_bipush (v := nI 64) S.1 S.2.1 dX6_manyNew_74 (by decide) ?_
      refine kn_icmp_le S (by omega) (by omega) dX6_manyNew_76 (tgt := 84) (by decide) (fun c76 => ?_) (fun c76 => ?_)
      · refine lv_iload_n S.1 S.2.1 dX6_manyNew_84 rfl (lv_at hl 1 rfl) ?_
        refine k_topi (y := nI (mnw cs us n0)) (by rw [mnw, ← hge]; congr 1; omega) ?_
        exact hret _ _ _ _ dX6_manyNew_85 hP hD hS
      · refine lv_bipush (v := nI 64) S.1 S.2.1 dX6_manyNew_79 (by decide) ?_
        refine lv_goto (tgt := 85) S.1 S.2.1 dX6_manyNew_81 (by decide) ?_
        refine k_topi (y := nI (mnw cs us n0)) (by rw [mnw, ← hge]; congr 1; omega) ?_
        exact hret _ _ _ _ dX6_manyNew_85 hP hD hS
    · have hbl := btF_le q j
      have hb2 := Nat.mod_lt (q / 2 ^ j) (show 0 < 2 by decide)
      refine lv_iload_n S.1 S.2.1 dX6_manyNew_55 rfl (lv_at hl 1 rfl) ?_
      refine lv_lload_n S.1 S.2.1 dX6_manyNew_56 rfl (lv_at hl 2 rfl) ?_
      refine lv_iload S.1 S.2.1 dX6_manyNew_57 (lv_at hl 0 rfl) ?_
      refine lv_lushr (v := lN (q / 2 ^ j)) S.1 S.2.1 dX6_manyNew_59 (wb_shr (by assumption) (by omega)) ?_
      refine lv_lconst (v := lN 1) S.1 S.2.1 dX6_manyNew_60 (by decide) ?_
      refine lv_land S.1 S.2.1 dX6_manyNew_61 ?_
      refine k_topl (y := lN ((q / 2 ^ j) % 2)) (wb_one (Nat.lt_of_le_of_lt (Nat.div_le_self _ _) (by assumption))) ?_
      refine kn_l2i S dX6_manyNew_62 ?_
      refine lv_iconst (v := nI 4) S.1 S.2.1 dX6_manyNew_63 (by decide) ?_
      refine kn_imul S dX6_manyNew_64 ?_
      refine kn_iadd S dX6_manyNew_65 ?_
      refine lv_istore_n (lv' := [(3, .int (nI (g + (((q / 2 ^ j) % 2) * 4)))), (4, .int (nI j)), (1, .long (lN q)), (0, .ref m0)]) S.1 S.2.1 dX6_manyNew_66 rfl hl (by decide) rfl (fun ls hl => ?_)
      refine lv_iinc (v := nI (j + 1)) (lv' := [(4, .int (nI (j + 1))), (3, .int (nI (g + (((q / 2 ^ j) % 2) * 4)))), (1, .long (lN q)), (0, .ref m0)]) S.1 S.2.1 dX6_manyNew_67 hl (k := 1) rfl (iinc_1 _) (by decide) rfl (fun ls hl => ?_)
      refine lv_goto (tgt := 48) S.1 S.2.1 dX6_manyNew_70 (by decide) ?_
      exact ih48 (j + 1, g + (((q / 2 ^ j) % 2) * 4)) ⟨by omega, by rw [btF, hgg]; omega⟩ (by show 64 - (j + 1) < 64 - j; omega) _ _ _ hP hD hS (lv_sub hl [0, 1, 2, 3] rfl)
  · have hci := hca i (by omega)
    have hui := hu i (by omega)
    refine lv_lload_n S.1 S.2.1 dX6_manyNew_12 rfl (lv_at hl 1 rfl) ?_
    refine lv_aload_n S.1 S.2.1 dX6_manyNew_13 rfl (lv_at hl 2 rfl) ?_
    refine k_get S (C := RX6) (T := TX6) (N := 15) (ci := 6) hw_X6 hK hP 0 rfl rfl 7 (by decide) hf_24 rfl (v := .ref m4) rfl dX6_manyNew_14 ?_
    refine lv_iload_n S.1 S.2.1 dX6_manyNew_17 rfl (lv_at hl 0 rfl) ?_
    refine kn_iald S hK hP 2 0 rfl rfl (by omega) (by decide) dX6_manyNew_18 ?_
    refine kn_if_le S (by omega) dX6_manyNew_19 (tgt := 33) (by decide) (fun c19 => ?_) (fun c19 => ?_)
    · refine lv_lconst (v := lN 0) S.1 S.2.1 dX6_manyNew_33 (by decide) ?_
      refine lv_lor S.1 S.2.1 dX6_manyNew_34 ?_
      refine k_topl (y := lN (q ||| 0)) (fb_orL _ _) ?_
      refine lv_lstore_n (lv' := [(1, .long (lN (q ||| 0))), (3, .int (nI i)), (0, .ref m0)]) S.1 S.2.1 dX6_manyNew_35 rfl hl (by decide) rfl (fun ls hl => ?_)
      refine lv_iinc (v := nI (i + 1)) (lv' := [(3, .int (nI (i + 1))), (1, .long (lN (q ||| 0))), (0, .ref m0)]) S.1 S.2.1 dX6_manyNew_36 hl (k := 1) rfl (iinc_1 _) (by decide) rfl (fun ls hl => ?_)
      refine lv_goto (tgt := 4) S.1 S.2.1 dX6_manyNew_39 (by decide) ?_
      exact ih4 (i + 1, q ||| 0) ⟨by omega, by first | exact or_lt hq (hca i (by omega)) | (rw [Nat.or_zero]; exact hq), fun k hk => by first | (rw [bit_or, hg k hk, anyB, decide_eq_true c19]; simp) | (rw [Nat.or_zero, hg k hk, anyB, decide_eq_false (show ¬ 0 < us i by omega)]; simp)⟩ (by show n0 - (i + 1) < n0 - i; omega) _ _ _ hP hD hS (lv_sub hl [0, 1, 2] rfl)
    · refine lv_lconst (v := lN 1) S.1 S.2.1 dX6_manyNew_22 (by decide) ?_
      refine lv_aload_n S.1 S.2.1 dX6_manyNew_23 rfl (lv_at hl 2 rfl) ?_
      refine k_get S (C := RX6) (T := TX6) (N := 15) (ci := 6) hw_X6 hK hP 0 rfl rfl 5 (by decide) hf_17 rfl (v := .ref m2) rfl dX6_manyNew_24 ?_
      refine lv_iload_n S.1 S.2.1 dX6_manyNew_27 rfl (lv_at hl 0 rfl) ?_
      refine kn_iald S hK hP 1 0 rfl rfl (by omega) (by decide) dX6_manyNew_28 ?_
      refine lv_lshl (v := lN (1 * 2 ^ (cs i))) S.1 S.2.1 dX6_manyNew_29 (wb_shl _ (by omega)) ?_
      refine lv_goto (tgt := 34) S.1 S.2.1 dX6_manyNew_30 (by decide) ?_
      refine lv_lor S.1 S.2.1 dX6_manyNew_34 ?_
      refine k_topl (y := lN (q ||| (1 * 2 ^ (cs i)))) (fb_orL _ _) ?_
      refine lv_lstore_n (lv' := [(1, .long (lN (q ||| (1 * 2 ^ (cs i))))), (3, .int (nI i)), (0, .ref m0)]) S.1 S.2.1 dX6_manyNew_35 rfl hl (by decide) rfl (fun ls hl => ?_)
      refine lv_iinc (v := nI (i + 1)) (lv' := [(3, .int (nI (i + 1))), (1, .long (lN (q ||| (1 * 2 ^ (cs i))))), (0, .ref m0)]) S.1 S.2.1 dX6_manyNew_36 hl (k := 1) rfl (iinc_1 _) (by decide) rfl (fun ls hl => ?_)
      refine lv_goto (tgt := 4) S.1 S.2.1 dX6_manyNew_39 (by decide) ?_
      exact ih4 (i + 1, q ||| (1 * 2 ^ (cs i))) ⟨by omega, by first | exact or_lt hq (hca i (by omega)) | (rw [Nat.or_zero]; exact hq), fun k hk => by first | (rw [bit_or, hg k hk, anyB, decide_eq_true c19]; simp) | (rw [Nat.or_zero, hg k hk, anyB, decide_eq_false (show ¬ 0 < us i by omega)]; simp)⟩ (by show n0 - (i + 1) < n0 - i; omega) _ _ _ hP hD hS (lv_sub hl [0, 1, 2] rfl)

set_option maxHeartbeats 4000000 in
set_option maxRecDepth 100000 in
theorem c_X6_oldAbove (l : Launch) (D : va_G) (cyI cyJ cyZ : ClassId) (sz : Nat) (m0 : Nat) (m1 : Nat) (m2 : Nat) (m3 : Nat) (m4 : Nat) (m5 : Nat) (m6 : Nat) (th : Int32) (x : Nat) (sp : Bool) (n0 : Nat) (ac : Nat) (re : Nat) (sl : Int32) (fa : Int32) (db : Int32) (os : Nat → Nat) (us : Nat → Nat) (mk : Nat) (hn : n0 ≤ 64) (hn0 : 0 < n0) (hu : ∀ j, j < 64 → us j ≤ 8) (hmk : mk < smF us n0) : Met l yX6_oldAbove wsX6_oldAbove ({ frames := 2, cells := 0, slots := 0, locals := 60 } : Room) (mPc D [(cyI, .int), (cyJ, .long), (cyZ, .boolean)] [(m0, .inr (6, [.int th, .ref m1, .int (nI x), .int (bI sp), .int (nI n0), .ref m2, .ref m3, .ref m4, .ref m5, .ref m6, .int (nI ac), .int (nI re), .int sl, .int fa, .int db])), (m3, .inl (cyI, 64, .inl (aI os))), (m4, .inl (cyI, 64, .inl (aI us)))] sz [.ref m0, .int (nI mk)]) (va_Qi (fun (r : Int32) (u : va_W) => r = nI (oaF os us mk n0 0 0) ∧ u = [(m0, .inr (6, [.int th, .ref m1, .int (nI x), .int (bI sp), .int (nI n0), .ref m2, .ref m3, .ref m4, .ref m5, .ref m6, .int (nI ac), .int (nI re), .int sl, .int fa, .int db])), (m3, .inl (cyI, 64, .inl (aI os))), (m4, .inl (cyI, 64, .inl (aI us)))]) (mB D [(cyI, .int), (cyJ, .long), (cyZ, .boolean)] (va_A [(m0, .inr (6, [.int th, .ref m1, .int (nI x), .int (bI sp), .int (nI n0), .ref m2, .ref m3, .ref m4, .ref m5, .ref m6, .int (nI ac), .int (nI re), .int sl, .int fa, .int db])), (m3, .inl (cyI, 64, .inl (aI os))), (m4, .inl (cyI, 64, .inl (aI us)))] sz)) (va_A [(m0, .inr (6, [.int th, .ref m1, .int (nI x), .int (bI sp), .int (nI n0), .ref m2, .ref m3, .ref m4, .ref m5, .ref m6, .int (nI ac), .int (nI re), .int sl, .int fa, .int db])), (m3, .inl (cyI, 64, .inl (aI os))), (m4, .inl (cyI, 64, .inl (aI us)))] sz)) 0 0 (va_A [(m0, .inr (6, [.int th, .ref m1, .int (nI x), .int (bI sp), .int (nI n0), .ref m2, .ref m3, .ref m4, .ref m5, .ref m6, .int (nI ac), .int (nI re), .int sl, .int fa, .int db])), (m3, .inl (cyI, 64, .inl (aI os))), (m4, .inl (cyI, 64, .inl (aI us)))] sz) := by
  refine st_i (own := RX6) (lv0 := [(0, .ref m0), (1, .int (nI mk))]) (by decide) rfl rfl (Nat.le_of_ble_eq_true rfl) rfl ?_
  intro p e s m below meth c A Q S hin hA hK hP hD hG hS hret ls hl
  have hw_X6 : ∀ w ∈ u_ws RX6 TX6 15, w ∈ wsX6_oldAbove := by decide +kernel
  have hf_24 := S.2.2.2.2 (.fieldLink RX6 24 "ParticlewayModel" "weight" "[I") (by decide +kernel)
  have hf_21 := S.2.2.2.2 (.fieldLink RX6 21 "ParticlewayModel" "old" "[I") (by decide +kernel)
  have hsl := smF_le (f := us) (B := 8) (n := n0) (fun j hj => hu j (by omega))
  have hu0 := hu 0 (by omega)
  refine lv_aload_n S.1 S.2.1 dX6_oldAbove_0 rfl (lv_at hl 0 rfl) ?_
  refine k_get S (C := RX6) (T := TX6) (N := 15) (ci := 6) hw_X6 hK hP 0 rfl rfl 7 (by decide) hf_24 rfl (v := .ref m4) rfl dX6_oldAbove_1 ?_
  refine lv_iconst (v := nI 0) S.1 S.2.1 dX6_oldAbove_4 (by decide) ?_
  refine kn_iald S hK hP 2 0 rfl rfl (by omega) (by decide) dX6_oldAbove_5 ?_
  refine lv_istore_n (lv' := [(2, .int (nI (us 0))), (0, .ref m0), (1, .int (nI mk))]) S.1 S.2.1 dX6_oldAbove_6 rfl hl (by decide) rfl (fun ls hl => ?_)
  refine lv_iconst (v := nI 0) S.1 S.2.1 dX6_oldAbove_7 (by decide) ?_
  refine lv_istore_n (lv' := [(3, .int (nI 0)), (2, .int (nI (us 0))), (0, .ref m0), (1, .int (nI mk))]) S.1 S.2.1 dX6_oldAbove_8 rfl hl (by decide) rfl (fun ls hl => ?_)
  refine wl (σ := Nat × Nat) (fun (i, g) => [(m0, .inr (6, [.int th, .ref m1, .int (nI x), .int (bI sp), .int (nI n0), .ref m2, .ref m3, .ref m4, .ref m5, .ref m6, .int (nI ac), .int (nI re), .int sl, .int fa, .int db])), (m3, .inl (cyI, 64, .inl (aI os))), (m4, .inl (cyI, 64, .inl (aI us)))]) (fun (i, g) => [(3, .int (nI i)), (2, .int (nI g)), (0, .ref m0), (1, .int (nI mk))]) (fun (i, g) => (i < n0) ∧ (g = smF us (i + 1)) ∧ (oaF os us mk (n0 - i) i (smF us i) = oaF os us mk n0 0 0)) (fun (i, g) => n0 - i) ?_ (0, us 0) ⟨by omega, by rw [smF, smF, Nat.zero_add], rfl⟩ hP hD hS (lv_sub hl [0, 1, 2, 3] rfl)
  rintro ⟨i, g⟩ ⟨hi, hgg, hg⟩ ih9 H locs ls hP hD hS hl
  have hP : va_P D vwCl [(m0, .inr (6, [.int th, .ref m1, .int (nI x), .int (bI sp), .int (nI n0), .ref m2, .ref m3, .ref m4, .ref m5, .ref m6, .int (nI ac), .int (nI re), .int sl, .int fa, .int db])), (m3, .inl (cyI, 64, .inl (aI os))), (m4, .inl (cyI, 64, .inl (aI us)))] H := hP
  have hD : va_D A [(m0, .inr (6, [.int th, .ref m1, .int (nI x), .int (bI sp), .int (nI n0), .ref m2, .ref m3, .ref m4, .ref m5, .ref m6, .int (nI ac), .int (nI re), .int sl, .int fa, .int db])), (m3, .inl (cyI, 64, .inl (aI os))), (m4, .inl (cyI, 64, .inl (aI us)))] := hD
  have hl : lv_has ls 4 [(3, .int (nI i)), (2, .int (nI g)), (0, .ref m0), (1, .int (nI mk))] := hl
  have hsi := smF_le (f := us) (B := 8) (n := i + 1) (fun j hj => hu j (by omega))
  have hss : smF us (i + 1) = smF us i + us i := rfl
  refine lv_iload_n S.1 S.2.1 dX6_oldAbove_9 rfl (lv_at hl 1 rfl) ?_
  refine lv_iload_n S.1 S.2.1 dX6_oldAbove_10 rfl (lv_at hl 3 rfl) ?_
  refine kn_icmp_gt S (by omega) (by omega) dX6_oldAbove_11 (tgt := 29) (by decide) (fun c11 => ?_) (fun c11 => ?_)
  · refine lv_aload_n S.1 S.2.1 dX6_oldAbove_29 rfl (lv_at hl 2 rfl) ?_
    refine k_get S (C := RX6) (T := TX6) (N := 15) (ci := 6) hw_X6 hK hP 0 rfl rfl 6 (by decide) hf_21 rfl (v := .ref m3) rfl dX6_oldAbove_30 ?_
    refine lv_iload_n S.1 S.2.1 dX6_oldAbove_33 rfl (lv_at hl 0 rfl) ?_
    refine kn_iald S hK hP 1 0 rfl rfl (by omega) (by decide) dX6_oldAbove_34 ?_
    refine k_topi (y := nI (oaF os us mk n0 0 0)) (by rw [← hg, show n0 - i = (n0 - (i + 1)) + 1 by omega, oaF, if_pos (by omega)]) ?_
    exact hret _ _ _ _ dX6_oldAbove_35 hP hD hS
  · have hi2 : i + 1 < n0 := (by rcases Nat.lt_or_ge (i + 1) n0 with h9 | h9; (· exact h9); (· exfalso; have h8 : i + 1 = n0 := (by omega); rw [h8] at hgg; omega))
    have hui := hu (i + 1) (by omega)
    refine lv_iinc (v := nI (i + 1)) (lv' := [(3, .int (nI (i + 1))), (2, .int (nI g)), (0, .ref m0), (1, .int (nI mk))]) S.1 S.2.1 dX6_oldAbove_14 hl (k := 0) rfl (iinc_1 _) (by decide) rfl (fun ls hl => ?_)
    refine lv_iload_n S.1 S.2.1 dX6_oldAbove_17 rfl (lv_at hl 1 rfl) ?_
    refine lv_aload_n S.1 S.2.1 dX6_oldAbove_18 rfl (lv_at hl 2 rfl) ?_
    refine k_get S (C := RX6) (T := TX6) (N := 15) (ci := 6) hw_X6 hK hP 0 rfl rfl 7 (by decide) hf_24 rfl (v := .ref m4) rfl dX6_oldAbove_19 ?_
    refine lv_iload_n S.1 S.2.1 dX6_oldAbove_22 rfl (lv_at hl 0 rfl) ?_
    refine kn_iald S hK hP 2 0 rfl rfl (by omega) (by decide) dX6_oldAbove_23 ?_
    refine kn_iadd S dX6_oldAbove_24 ?_
    refine lv_istore_n (lv' := [(2, .int (nI (g + (us (i + 1))))), (3, .int (nI (i + 1))), (0, .ref m0), (1, .int (nI mk))]) S.1 S.2.1 dX6_oldAbove_25 rfl hl (by decide) rfl (fun ls hl => ?_)
    refine lv_goto (tgt := 9) S.1 S.2.1 dX6_oldAbove_26 (by decide) ?_
    exact ih9 (i + 1, g + (us (i + 1))) ⟨hi2, by rw [hgg]; rfl, by rw [← hg, show n0 - i = (n0 - (i + 1)) + 1 by omega, oaF, if_neg (by omega)]; rfl⟩ (by show n0 - (i + 1) < n0 - i; omega) _ _ _ hP hD hS (lv_sub hl [1, 0, 2, 3] rfl)
end MODELB
