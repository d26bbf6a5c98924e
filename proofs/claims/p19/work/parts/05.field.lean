section FIELD
set_option maxHeartbeats 4000000 in
set_option maxRecDepth 100000 in
theorem c_X3_shifted (l : Launch) (D : va_G) (cyI cyJ cyZ : ClassId) (sz : Nat) (c0 : Nat) (d0 : Nat) (k : Int32) (hc : c0 < 64) (hd : d0 < 4) : Met l yX3_shifted wsX3_shifted ({ frames := 3, cells := 0, slots := 0, locals := 81 } : Room) (mPc D [(cyI, .int), (cyJ, .long), (cyZ, .boolean)] [] sz [.int (nI c0), .int (nI d0), .int k]) (va_Qi (fun (r : Int32) (u : va_W) => r = shR c0 d0 k ∧ u = []) (mB D [(cyI, .int), (cyJ, .long), (cyZ, .boolean)] (va_A [] sz)) (va_A [] sz)) 0 0 (va_A [] sz) := by
  refine st_i (own := RX3) (lv0 := [(0, .int (nI c0)), (1, .int (nI d0)), (2, .int k)]) (by decide) rfl rfl (Nat.le_of_ble_eq_true rfl) rfl ?_
  intro p e s m below meth c A Q S hin hA hK hP hD hG hS hret ls hl
  have hf_55 := S.2.2.2.2 (.fieldLink RX3 55 "Particleway$Field" "STEP_X" "[I") (by decide +kernel)
  have hf_58 := S.2.2.2.2 (.fieldLink RX3 58 "Particleway$Field" "STEP_Y" "[I") (by decide +kernel)
  obtain ⟨⟨⟨sx, hzx, htx⟩, ⟨sy, hzy, hty⟩, -, -⟩, -⟩ := id hG
  refine lv_iload_n S.1 S.2.1 dX3_shifted_0 rfl (lv_at hl 0 rfl) ?_
  refine kcSN_i S (wc := []) (wr := []) (ws2 := []) (As := [.int (nI c0)]) (rest := []) (c_X5_isCell l D cyI cyJ cyZ s.heap.size c0 (by first | assumption | omega)) ⟨va_cnB 1 S.2.2.2.2 gX3_shifted_X5_isCell_n22 rfl rfl rfl hG.2.2.1 (S.2.2.2.2 (.initialized RX5) (by decide +kernel)) (by decide +kernel) ⟨Nat.le_of_ble_eq_true rfl, Nat.le_of_ble_eq_true rfl⟩, S.2.2.2.2 (.static yX5_isCell) (by decide +kernel), trivial⟩ hK hP hD hS hA hG [] [] [] rfl rfl rfl rfl (by decide) rfl rfl rfl hl.1 rfl (Nat.le_of_ble_eq_true rfl) dX3_shifted_1 ⟨Nat.le_of_ble_eq_true rfl, Nat.le_of_ble_eq_true rfl⟩ (fun H locs hP hD hS => ?_)
  refine kb_if_eq S dX3_shifted_4 (tgt := 14) (by decide) (fun c4 => ?_) (fun c4 => ?_)
  · exact absurd c4 (by decide)
  · refine lv_iload_n S.1 S.2.1 dX3_shifted_7 rfl (lv_at hl 1 rfl) ?_
    refine kcSN_i S (wc := []) (wr := []) (ws2 := []) (As := [.int (nI d0)]) (rest := []) (c_X5_isDirection l D cyI cyJ cyZ H.size d0 (by first | assumption | omega)) ⟨va_cnB 1 S.2.2.2.2 gX3_shifted_X5_isDirection_n36 rfl rfl rfl hG.2.2.2.1 (S.2.2.2.2 (.initialized RX5) (by decide +kernel)) (by decide +kernel) ⟨Nat.le_of_ble_eq_true rfl, Nat.le_of_ble_eq_true rfl⟩, S.2.2.2.2 (.static yX5_isDirection) (by decide +kernel), trivial⟩ hK hP hD hS hA hG [] [] [] rfl rfl rfl rfl (by decide) rfl rfl rfl hl.1 rfl (Nat.le_of_ble_eq_true rfl) dX3_shifted_8 ⟨Nat.le_of_ble_eq_true rfl, Nat.le_of_ble_eq_true rfl⟩ (fun H locs hP hD hS => ?_)
    refine kb_if_ne S dX3_shifted_11 (tgt := 16) (by decide) (fun c11 => ?_) (fun c11 => ?_)
    · refine lv_iload_n S.1 S.2.1 dX3_shifted_16 rfl (lv_at hl 0 rfl) ?_
      refine lv_bipush (v := nI 8) S.1 S.2.1 dX3_shifted_17 (by decide) ?_
      refine kn_irem S (by omega) (by omega) (by omega) dX3_shifted_19 ?_
      refine lv_iload_n S.1 S.2.1 dX3_shifted_20 rfl (lv_at hl 2 rfl) ?_
      refine va_gets S.1 S.2.1 hzx hS S.2.2.2.1 hf_55 (fun _ h9 => h9) dX3_shifted_21 ?_
      refine lv_iload_n S.1 S.2.1 dX3_shifted_24 rfl (lv_at hl 1 rfl) ?_
      refine va_ti S.1 S.2.1 htx hS (vp_in_nI (by omega) (by decide)) (v := .int (stX d0)) (by show Value.int (stX (nI d0).toNatClampNeg) = _; rw [nI_clamp (by omega)]) dX3_shifted_25 ?_
      refine lv_imul S.1 S.2.1 dX3_shifted_26 ?_
      refine lv_iadd S.1 S.2.1 dX3_shifted_27 ?_
      refine lv_istore_n (lv' := [(3, .int ((nI (c0 % 8)) + (k * (stX d0)))), (0, .int (nI c0)), (1, .int (nI d0)), (2, .int k)]) S.1 S.2.1 dX3_shifted_28 rfl hl (by decide) rfl (fun ls hl => ?_)
      refine lv_iload_n S.1 S.2.1 dX3_shifted_29 rfl (lv_at hl 1 rfl) ?_
      refine lv_bipush (v := nI 8) S.1 S.2.1 dX3_shifted_30 (by decide) ?_
      refine kn_idiv S (by omega) (by omega) (by omega) dX3_shifted_32 ?_
      refine lv_iload_n S.1 S.2.1 dX3_shifted_33 rfl (lv_at hl 3 rfl) ?_
      refine va_gets S.1 S.2.1 hzy hS S.2.2.2.1 hf_58 (fun _ h9 => h9) dX3_shifted_34 ?_
      refine lv_iload_n S.1 S.2.1 dX3_shifted_37 rfl (lv_at hl 2 rfl) ?_
      refine va_ti S.1 S.2.1 hty hS (vp_in_nI (by omega) (by decide)) (v := .int (stY d0)) (by show Value.int (stY (nI d0).toNatClampNeg) = _; rw [nI_clamp (by omega)]) dX3_shifted_38 ?_
      refine lv_imul S.1 S.2.1 dX3_shifted_39 ?_
      refine lv_iadd S.1 S.2.1 dX3_shifted_40 ?_
      refine lv_istore (lv' := [(4, .int ((nI (c0 / 8)) + (k * (stY d0)))), (3, .int ((nI (c0 % 8)) + (k * (stX d0)))), (0, .int (nI c0)), (1, .int (nI d0)), (2, .int k)]) S.1 S.2.1 dX3_shifted_41 hl (by decide) rfl (fun ls hl => ?_)
      refine lv_iload_n S.1 S.2.1 dX3_shifted_43 rfl (lv_at hl 1 rfl) ?_
      refine lv_iload S.1 S.2.1 dX3_shifted_44 (lv_at hl 0 rfl) ?_
      refine kcSN_i S (wc := []) (wr := []) (ws2 := []) (As := [.int ((nI (c0 % 8)) + (k * (stX d0))), .int ((nI (c0 / 8)) + (k * (stY d0)))]) (rest := []) (c_X5_isInField_r l D cyI cyJ cyZ H.size ((nI (c0 % 8)) + (k * (stX d0))) ((nI (c0 / 8)) + (k * (stY d0))) ) ⟨va_cnB 2 S.2.2.2.2 gX3_shifted_X5_isInField_n61 rfl rfl rfl hG.2.2.2.2.1 (S.2.2.2.2 (.initialized RX5) (by decide +kernel)) (by decide +kernel) ⟨Nat.le_of_ble_eq_true rfl, Nat.le_of_ble_eq_true rfl⟩, S.2.2.2.2 (.static yX5_isInField) (by decide +kernel), trivial⟩ hK hP hD hS hA hG [] [] [] rfl rfl rfl rfl (by decide) rfl rfl rfl hl.1 rfl (Nat.le_of_ble_eq_true rfl) dX3_shifted_46 ⟨Nat.le_of_ble_eq_true rfl, Nat.le_of_ble_eq_true rfl⟩ (fun H locs hP hD hS => ?_)
      refine kb_if_eq S dX3_shifted_49 (tgt := 61) (by decide) (fun c49 => ?_) (fun c49 => ?_)
      · refine lv_iconst (v := (-1)) S.1 S.2.1 dX3_shifted_61 (by decide) ?_
        refine k_topi (y := shR c0 d0 k) (by simp [shR, c49]) ?_
        exact hret _ _ _ _ dX3_shifted_62 hP hD hS
      · refine lv_iload_n S.1 S.2.1 dX3_shifted_52 rfl (lv_at hl 1 rfl) ?_
        refine lv_iload S.1 S.2.1 dX3_shifted_53 (lv_at hl 0 rfl) ?_
        refine kcSN_i S (wc := []) (wr := []) (ws2 := []) (As := [.int ((nI (c0 % 8)) + (k * (stX d0))), .int ((nI (c0 / 8)) + (k * (stY d0)))]) (rest := []) (c_X5_numberOf_r l D cyI cyJ cyZ H.size ((nI (c0 % 8)) + (k * (stX d0))) ((nI (c0 / 8)) + (k * (stY d0))) ) ⟨va_cnB 2 S.2.2.2.2 gX3_shifted_X5_numberOf_n65 rfl rfl rfl hG.2.2.2.2.2.1 (S.2.2.2.2 (.initialized RX5) (by decide +kernel)) (by decide +kernel) ⟨Nat.le_of_ble_eq_true rfl, Nat.le_of_ble_eq_true rfl⟩, S.2.2.2.2 (.static yX5_numberOf) (by decide +kernel), trivial⟩ hK hP hD hS hA hG [] [] [] rfl rfl rfl rfl (by decide) rfl rfl rfl hl.1 rfl (Nat.le_of_ble_eq_true rfl) dX3_shifted_55 ⟨Nat.le_of_ble_eq_true rfl, Nat.le_of_ble_eq_true rfl⟩ (fun H locs hP hD hS => ?_)
        refine lv_goto (tgt := 62) S.1 S.2.1 dX3_shifted_58 (by decide) ?_
        refine k_topi (y := shR c0 d0 k) (by simp [shR, c49]) ?_
        exact hret _ _ _ _ dX3_shifted_62 hP hD hS
    · exact absurd c11 (by decide)
set_option maxHeartbeats 4000000 in
set_option maxRecDepth 100000 in
theorem c_X3_isFree (l : Launch) (D : va_G) (cyI cyJ cyZ : ClassId) (sz : Nat) (h0 : Nat) (h1 : Nat) (h2 : Nat) (w : Nat → Bool) (af : Nat → Int32) (fr : Nat) (k : Nat) (hk : k < 64) : Met l yX3_isFree wsX3_isFree ({ frames := 3, cells := 0, slots := 0, locals := 80 } : Room) (mPc D [(cyI, .int), (cyJ, .long), (cyZ, .boolean)] [(h0, .inr (3, [.ref h1, .ref h2, .int (nI fr)])), (h1, .inl (cyZ, 64, .inl (aZ w))), (h2, .inl (cyI, 256, .inl af))] sz [.ref h0, .int (nI k)]) (va_Qi (fun (r : Int32) (u : va_W) => r = bI (fre w k) ∧ u = [(h0, .inr (3, [.ref h1, .ref h2, .int (nI fr)])), (h1, .inl (cyZ, 64, .inl (aZ w))), (h2, .inl (cyI, 256, .inl af))]) (mB D [(cyI, .int), (cyJ, .long), (cyZ, .boolean)] (va_A [(h0, .inr (3, [.ref h1, .ref h2, .int (nI fr)])), (h1, .inl (cyZ, 64, .inl (aZ w))), (h2, .inl (cyI, 256, .inl af))] sz)) (va_A [(h0, .inr (3, [.ref h1, .ref h2, .int (nI fr)])), (h1, .inl (cyZ, 64, .inl (aZ w))), (h2, .inl (cyI, 256, .inl af))] sz)) 0 0 (va_A [(h0, .inr (3, [.ref h1, .ref h2, .int (nI fr)])), (h1, .inl (cyZ, 64, .inl (aZ w))), (h2, .inl (cyI, 256, .inl af))] sz) := by
  refine st_z (own := RX3) (lv0 := [(0, .ref h0), (1, .int (nI k))]) (by decide) rfl rfl (Nat.le_of_ble_eq_true rfl) rfl ?_
  intro p e s m below meth c A Q S hin hA hK hP hD hG hS hret ls hl
  have hw_X3 : ∀ w ∈ u_ws RX3 TX3 3, w ∈ wsX3_isFree := by decide +kernel
  have hf_9 := S.2.2.2.2 (.fieldLink RX3 9 "Particleway$Field" "walls" "[Z") (by decide +kernel)
  refine lv_iload_n S.1 S.2.1 dX3_isFree_0 rfl (lv_at hl 1 rfl) ?_
  refine kcSN_i S (wc := []) (wr := [(h0, .inr (3, [.ref h1, .ref h2, .int (nI fr)])), (h1, .inl (cyZ, 64, .inl (aZ w))), (h2, .inl (cyI, 256, .inl af))]) (ws2 := [(h0, .inr (3, [.ref h1, .ref h2, .int (nI fr)])), (h1, .inl (cyZ, 64, .inl (aZ w))), (h2, .inl (cyI, 256, .inl af))]) (As := [.int (nI k)]) (rest := []) (c_X5_isCell l D cyI cyJ cyZ s.heap.size k (by first | assumption | omega)) ⟨va_cnB 1 S.2.2.2.2 gX3_isFree_X5_isCell_n22 rfl rfl rfl hG.2.2.1 (S.2.2.2.2 (.initialized RX5) (by decide +kernel)) (by decide +kernel) ⟨Nat.le_of_ble_eq_true rfl, Nat.le_of_ble_eq_true rfl⟩, S.2.2.2.2 (.static yX5_isCell) (by decide +kernel), trivial⟩ hK hP hD hS hA hG [] [0, 1, 2] [0, 1, 2] rfl rfl rfl rfl (by decide) rfl rfl rfl hl.1 rfl (Nat.le_of_ble_eq_true rfl) dX3_isFree_1 ⟨Nat.le_of_ble_eq_true rfl, Nat.le_of_ble_eq_true rfl⟩ (fun H locs hP hD hS => ?_)
  refine kb_if_eq S dX3_isFree_4 (tgt := 20) (by decide) (fun c4 => ?_) (fun c4 => ?_)
  · exact absurd c4 (by decide)
  · refine lv_aload_n S.1 S.2.1 dX3_isFree_7 rfl (lv_at hl 0 rfl) ?_
    refine k_get S (C := RX3) (T := TX3) (N := 3) (ci := 3) hw_X3 hK hP 0 rfl rfl 0 (by decide) hf_9 rfl (v := .ref h1) rfl dX3_isFree_8 ?_
    refine lv_iload_n S.1 S.2.1 dX3_isFree_11 rfl (lv_at hl 1 rfl) ?_
    refine kn_zald S hK hP 1 2 rfl rfl (by omega) (by decide) dX3_isFree_12 ?_
    refine kb_if_ne S dX3_isFree_13 (tgt := 20) (by decide) (fun c13 => ?_) (fun c13 => ?_)
    · refine lv_iconst (v := nI 0) S.1 S.2.1 dX3_isFree_20 (by decide) ?_
      refine k_topi (y := bI (fre w k)) (by rw [fre, decide_eq_true hk, c13]; rfl) ?_
      exact hret _ _ _ _ dX3_isFree_21 hP hD hS
    · refine lv_iconst (v := nI 1) S.1 S.2.1 dX3_isFree_16 (by decide) ?_
      refine lv_goto (tgt := 21) S.1 S.2.1 dX3_isFree_17 (by decide) ?_
      refine k_topi (y := bI (fre w k)) (by rw [fre, decide_eq_true hk, c13]; rfl) ?_
      exact hret _ _ _ _ dX3_isFree_21 hP hD hS
set_option maxHeartbeats 4000000 in
set_option maxRecDepth 100000 in
theorem c_X3_isFree_no (l : Launch) (D : va_G) (cyI cyJ cyZ : ClassId) (sz : Nat) (h0 : Nat) (h1 : Nat) (h2 : Nat) (w : Nat → Bool) (af : Nat → Int32) (fr : Nat) : Met l yX3_isFree wsX3_isFree ({ frames := 3, cells := 0, slots := 0, locals := 80 } : Room) (mPc D [(cyI, .int), (cyJ, .long), (cyZ, .boolean)] [(h0, .inr (3, [.ref h1, .ref h2, .int (nI fr)])), (h1, .inl (cyZ, 64, .inl (aZ w))), (h2, .inl (cyI, 256, .inl af))] sz [.ref h0, .int (-1)]) (va_Qi (fun (r : Int32) (u : va_W) => r = bI false ∧ u = [(h0, .inr (3, [.ref h1, .ref h2, .int (nI fr)])), (h1, .inl (cyZ, 64, .inl (aZ w))), (h2, .inl (cyI, 256, .inl af))]) (mB D [(cyI, .int), (cyJ, .long), (cyZ, .boolean)] (va_A [(h0, .inr (3, [.ref h1, .ref h2, .int (nI fr)])), (h1, .inl (cyZ, 64, .inl (aZ w))), (h2, .inl (cyI, 256, .inl af))] sz)) (va_A [(h0, .inr (3, [.ref h1, .ref h2, .int (nI fr)])), (h1, .inl (cyZ, 64, .inl (aZ w))), (h2, .inl (cyI, 256, .inl af))] sz)) 0 0 (va_A [(h0, .inr (3, [.ref h1, .ref h2, .int (nI fr)])), (h1, .inl (cyZ, 64, .inl (aZ w))), (h2, .inl (cyI, 256, .inl af))] sz) := by
  refine st_z (own := RX3) (lv0 := [(0, .ref h0), (1, .int (-1))]) (by decide) rfl rfl (Nat.le_of_ble_eq_true rfl) rfl ?_
  intro p e s m below meth c A Q S hin hA hK hP hD hG hS hret ls hl
  refine lv_iload_n S.1 S.2.1 dX3_isFree_0 rfl (lv_at hl 1 rfl) ?_
  refine kcSN_i S (wc := []) (wr := [(h0, .inr (3, [.ref h1, .ref h2, .int (nI fr)])), (h1, .inl (cyZ, 64, .inl (aZ w))), (h2, .inl (cyI, 256, .inl af))]) (ws2 := [(h0, .inr (3, [.ref h1, .ref h2, .int (nI fr)])), (h1, .inl (cyZ, 64, .inl (aZ w))), (h2, .inl (cyI, 256, .inl af))]) (As := [.int (-1)]) (rest := []) (c_X5_isCell_no l D cyI cyJ cyZ s.heap.size  ) ⟨va_cnB 1 S.2.2.2.2 gX3_isFree_X5_isCell_n22 rfl rfl rfl hG.2.2.1 (S.2.2.2.2 (.initialized RX5) (by decide +kernel)) (by decide +kernel) ⟨Nat.le_of_ble_eq_true rfl, Nat.le_of_ble_eq_true rfl⟩, S.2.2.2.2 (.static yX5_isCell) (by decide +kernel), trivial⟩ hK hP hD hS hA hG [] [0, 1, 2] [0, 1, 2] rfl rfl rfl rfl (by decide) rfl rfl rfl hl.1 rfl (Nat.le_of_ble_eq_true rfl) dX3_isFree_1 ⟨Nat.le_of_ble_eq_true rfl, Nat.le_of_ble_eq_true rfl⟩ (fun H locs hP hD hS => ?_)
  refine kb_if_eq S dX3_isFree_4 (tgt := 20) (by decide) (fun c4 => ?_) (fun c4 => ?_)
  · refine lv_iconst (v := nI 0) S.1 S.2.1 dX3_isFree_20 (by decide) ?_
    refine k_topi (y := bI false) (by rfl) ?_
    exact hret _ _ _ _ dX3_isFree_21 hP hD hS
  · exact absurd c4 (by decide)
set_option maxHeartbeats 4000000 in
set_option maxRecDepth 100000 in
theorem c_X3_countedSteps (l : Launch) (D : va_G) (cyI cyJ cyZ : ClassId) (sz : Nat) (h0 : Nat) (h1 : Nat) (h2 : Nat) (w : Nat → Bool) (af : Nat → Int32) (fr : Nat) (c0 : Nat) (d0 : Nat) (hc : c0 < 64) (hd : d0 < 4) : Met l yX3_countedSteps wsX3_countedSteps ({ frames := 4, cells := 0, slots := 0, locals := 105 } : Room) (mPc D [(cyI, .int), (cyJ, .long), (cyZ, .boolean)] [(h0, .inr (3, [.ref h1, .ref h2, .int (nI fr)])), (h1, .inl (cyZ, 64, .inl (aZ w))), (h2, .inl (cyI, 256, .inl af))] sz [.ref h0, .int (nI c0), .int (nI d0)]) (va_Qi (fun (r : Int32) (u : va_W) => r = nI (rd w c0 d0) ∧ u = [(h0, .inr (3, [.ref h1, .ref h2, .int (nI fr)])), (h1, .inl (cyZ, 64, .inl (aZ w))), (h2, .inl (cyI, 256, .inl af))]) (mB D [(cyI, .int), (cyJ, .long), (cyZ, .boolean)] (va_A [(h0, .inr (3, [.ref h1, .ref h2, .int (nI fr)])), (h1, .inl (cyZ, 64, .inl (aZ w))), (h2, .inl (cyI, 256, .inl af))] sz)) (va_A [(h0, .inr (3, [.ref h1, .ref h2, .int (nI fr)])), (h1, .inl (cyZ, 64, .inl (aZ w))), (h2, .inl (cyI, 256, .inl af))] sz)) 0 0 (va_A [(h0, .inr (3, [.ref h1, .ref h2, .int (nI fr)])), (h1, .inl (cyZ, 64, .inl (aZ w))), (h2, .inl (cyI, 256, .inl af))] sz) := by
  refine st_i (own := RX3) (lv0 := [(0, .ref h0), (1, .int (nI c0)), (2, .int (nI d0))]) (by decide) rfl rfl (Nat.le_of_ble_eq_true rfl) rfl ?_
  intro p e s m below meth c A Q S hin hA hK hP hD hG hS hret ls hl
  refine lv_iconst (v := nI 0) S.1 S.2.1 dX3_countedSteps_0 (by decide) ?_
  refine lv_istore_n (lv' := [(3, .int (nI 0)), (0, .ref h0), (1, .int (nI c0)), (2, .int (nI d0))]) S.1 S.2.1 dX3_countedSteps_1 rfl hl (by decide) rfl (fun ls hl => ?_)
  refine wl (σ := Nat) (fun i => [(h0, .inr (3, [.ref h1, .ref h2, .int (nI fr)])), (h1, .inl (cyZ, 64, .inl (aZ w))), (h2, .inl (cyI, 256, .inl af))]) (fun i => [(3, .int (nI i)), (0, .ref h0), (1, .int (nI c0)), (2, .int (nI d0))]) (fun i => (i ≤ 8) ∧ (rdF w c0 d0 (8 - i) i = rd w c0 d0)) (fun i => 8 - i) ?_ 0 ⟨by omega, rfl⟩ hP hD hS (lv_sub hl [0, 1, 2, 3] rfl)
  rintro i ⟨hi, hg⟩ ih2 H locs ls hP hD hS hl
  have hP : va_P D vwCl [(h0, .inr (3, [.ref h1, .ref h2, .int (nI fr)])), (h1, .inl (cyZ, 64, .inl (aZ w))), (h2, .inl (cyI, 256, .inl af))] H := hP
  have hD : va_D A [(h0, .inr (3, [.ref h1, .ref h2, .int (nI fr)])), (h1, .inl (cyZ, 64, .inl (aZ w))), (h2, .inl (cyI, 256, .inl af))] := hD
  have hl : lv_has ls 4 [(3, .int (nI i)), (0, .ref h0), (1, .int (nI c0)), (2, .int (nI d0))] := hl
  refine lv_iload_n S.1 S.2.1 dX3_countedSteps_2 rfl (lv_at hl 0 rfl) ?_
  refine lv_bipush (v := nI 8) S.1 S.2.1 dX3_countedSteps_3 (by decide) ?_
  refine kn_icmp_ge S (by omega) (by omega) dX3_countedSteps_5 (tgt := 29) (by decide) (fun c5 => ?_) (fun c5 => ?_)
  · refine lv_iload_n S.1 S.2.1 dX3_countedSteps_29 rfl (lv_at hl 0 rfl) ?_
    refine k_topi (y := nI (rd w c0 d0)) (by rw [← hg, show 8 - i = 0 by omega, rdF]) ?_
    exact hret _ _ _ _ dX3_countedSteps_30 hP hD hS
  · refine lv_aload_n S.1 S.2.1 dX3_countedSteps_8 rfl (lv_at hl 1 rfl) ?_
    refine lv_iload_n S.1 S.2.1 dX3_countedSteps_9 rfl (lv_at hl 2 rfl) ?_
    refine lv_iload_n S.1 S.2.1 dX3_countedSteps_10 rfl (lv_at hl 3 rfl) ?_
    refine lv_iload_n S.1 S.2.1 dX3_countedSteps_11 rfl (lv_at hl 0 rfl) ?_
    refine lv_iconst (v := nI 1) S.1 S.2.1 dX3_countedSteps_12 (by decide) ?_
    refine kn_iadd S dX3_countedSteps_13 ?_
    refine kcS_i S (wc := []) (wr := [(h0, .inr (3, [.ref h1, .ref h2, .int (nI fr)])), (h1, .inl (cyZ, 64, .inl (aZ w))), (h2, .inl (cyI, 256, .inl af))]) (ws2 := [(h0, .inr (3, [.ref h1, .ref h2, .int (nI fr)])), (h1, .inl (cyZ, 64, .inl (aZ w))), (h2, .inl (cyI, 256, .inl af))]) (As := [.int (nI c0), .int (nI d0), .int (nI (i + 1))]) (rest := [.ref h0]) (c_X3_shifted l D cyI cyJ cyZ H.size c0 d0 (nI (i + 1)) (by first | assumption | omega) (by first | assumption | omega)) (va_cwS 3 S.2.2.2.2 gX3_countedSteps_X3_shifted rfl rfl rfl (by decide +kernel) ⟨Nat.le_of_ble_eq_true rfl, Nat.le_of_ble_eq_true rfl⟩) hK hP hD hS hA hG [] [0, 1, 2] [0, 1, 2] rfl rfl rfl rfl (by decide) rfl rfl rfl hl.1 rfl (Nat.le_of_ble_eq_true rfl) dX3_countedSteps_14 ⟨Nat.le_of_ble_eq_true rfl, Nat.le_of_ble_eq_true rfl⟩ (fun H locs hP hD hS => ?_)
    rcases Nat.lt_or_ge (sh c0 d0 (i + 1)) 64 with hq | hq
    · refine k_topi (y := nI (sh c0 d0 (i + 1))) (by rw [shR_n c0 hc d0 hd (i + 1) (by omega), oc, if_pos hq]) ?_
      refine kcV_i S (wc := [(h0, .inr (3, [.ref h1, .ref h2, .int (nI fr)])), (h1, .inl (cyZ, 64, .inl (aZ w))), (h2, .inl (cyI, 256, .inl af))]) (wr := []) (ws2 := [(h0, .inr (3, [.ref h1, .ref h2, .int (nI fr)])), (h1, .inl (cyZ, 64, .inl (aZ w))), (h2, .inl (cyI, 256, .inl af))]) (As := [.int (nI (sh c0 d0 (i + 1)))]) (rest := []) (c_X3_isFree l D cyI cyJ cyZ H.size h0 h1 h2 w af fr (sh c0 d0 (i + 1)) (by first | assumption | omega)) (cwV 1 S.2.2.2.2 gX3_countedSteps_X3_isFree rfl rfl rfl (by decide +kernel) ⟨Nat.le_of_ble_eq_true rfl, Nat.le_of_ble_eq_true rfl⟩) hK hP hD hS hA hG [0, 1, 2] [] [0, 1, 2] rfl rfl rfl rfl (by decide) rfl rfl (ci := 3) (q0 := 0) rfl rfl rfl hl.1 rfl (Nat.le_of_ble_eq_true rfl) dX3_countedSteps_17 ⟨Nat.le_of_ble_eq_true rfl, Nat.le_of_ble_eq_true rfl⟩ (fun H locs hP hD hS => ?_)
      refine kb_if_eq S dX3_countedSteps_20 (tgt := 29) (by decide) (fun c20 => ?_) (fun c20 => ?_)
      · refine lv_iload_n S.1 S.2.1 dX3_countedSteps_29 rfl (lv_at hl 0 rfl) ?_
        refine k_topi (y := nI (rd w c0 d0)) (by first | (rw [← hg, rdF_stop c20]) | (rw [← hg, rdF_stop hfr0])) ?_
        exact hret _ _ _ _ dX3_countedSteps_30 hP hD hS
      · refine lv_iinc (v := nI (i + 1)) (lv' := [(3, .int (nI (i + 1))), (0, .ref h0), (1, .int (nI c0)), (2, .int (nI d0))]) S.1 S.2.1 dX3_countedSteps_23 hl (k := 0) rfl (iinc_1 _) (by decide) rfl (fun ls hl => ?_)
        refine lv_goto (tgt := 2) S.1 S.2.1 dX3_countedSteps_26 (by decide) ?_
        exact ih2 (i + 1) ⟨by omega, by rw [rdF_step (by omega) c20]; exact hg⟩ (by show 8 - (i + 1) < 8 - i; omega) _ _ _ hP hD hS (lv_sub hl [0, 1, 2, 3] rfl)
    · refine k_topi (y := -1) (by rw [shR_n c0 hc d0 hd (i + 1) (by omega), oc, if_neg (by omega)]) ?_
      have hfr0 : fre w (sh c0 d0 (i + 1)) = false := by simp [fre]; intro h; omega
      refine kcV_i S (wc := [(h0, .inr (3, [.ref h1, .ref h2, .int (nI fr)])), (h1, .inl (cyZ, 64, .inl (aZ w))), (h2, .inl (cyI, 256, .inl af))]) (wr := []) (ws2 := [(h0, .inr (3, [.ref h1, .ref h2, .int (nI fr)])), (h1, .inl (cyZ, 64, .inl (aZ w))), (h2, .inl (cyI, 256, .inl af))]) (As := [.int (-1)]) (rest := []) (c_X3_isFree_no l D cyI cyJ cyZ H.size h0 h1 h2 w af fr ) (cwV 1 S.2.2.2.2 gX3_countedSteps_X3_isFree rfl rfl rfl (by decide +kernel) ⟨Nat.le_of_ble_eq_true rfl, Nat.le_of_ble_eq_true rfl⟩) hK hP hD hS hA hG [0, 1, 2] [] [0, 1, 2] rfl rfl rfl rfl (by decide) rfl rfl (ci := 3) (q0 := 0) rfl rfl rfl hl.1 rfl (Nat.le_of_ble_eq_true rfl) dX3_countedSteps_17 ⟨Nat.le_of_ble_eq_true rfl, Nat.le_of_ble_eq_true rfl⟩ (fun H locs hP hD hS => ?_)
      refine kb_if_eq S dX3_countedSteps_20 (tgt := 29) (by decide) (fun c20 => ?_) (fun c20 => ?_)
      · refine lv_iload_n S.1 S.2.1 dX3_countedSteps_29 rfl (lv_at hl 0 rfl) ?_
        refine k_topi (y := nI (rd w c0 d0)) (by first | (rw [← hg, rdF_stop c20]) | (rw [← hg, rdF_stop hfr0])) ?_
        exact hret _ _ _ _ dX3_countedSteps_30 hP hD hS
      · exact absurd c20 (by decide)
set_option maxHeartbeats 4000000 in
set_option maxRecDepth 100000 in
theorem c_X3_measure (l : Launch) (D : va_G) (cyI cyJ cyZ : ClassId) (sz : Nat) (h0 : Nat) (h1 : Nat) (h2 : Nat) (w : Nat → Bool) (af : Nat → Int32) (fr : Nat) : Met l yX3_measure wsX3_measure ({ frames := 5, cells := 0, slots := 0, locals := 128 } : Room) (mPc D [(cyI, .int), (cyJ, .long), (cyZ, .boolean)] [(h0, .inr (3, [.ref h1, .ref h2, .int (nI fr)])), (h1, .inl (cyZ, 64, .inl (aZ w))), (h2, .inl (cyI, 256, .inl af))] sz [.ref h0]) (va_Qv (fun (u : va_W) => u = [(h0, .inr (3, [.ref h1, .ref h2, .int (nI (cntF w 64))])), (h1, .inl (cyZ, 64, .inl (aZ w))), (h2, .inl (cyI, 256, .inl (ahV w)))]) (mB D [(cyI, .int), (cyJ, .long), (cyZ, .boolean)] (va_A [(h0, .inr (3, [.ref h1, .ref h2, .int (nI fr)])), (h1, .inl (cyZ, 64, .inl (aZ w))), (h2, .inl (cyI, 256, .inl af))] sz)) (va_A [(h0, .inr (3, [.ref h1, .ref h2, .int (nI fr)])), (h1, .inl (cyZ, 64, .inl (aZ w))), (h2, .inl (cyI, 256, .inl af))] sz)) 0 0 (va_A [(h0, .inr (3, [.ref h1, .ref h2, .int (nI fr)])), (h1, .inl (cyZ, 64, .inl (aZ w))), (h2, .inl (cyI, 256, .inl af))] sz) := by
  refine st_v (own := RX3) (lv0 := [(0, .ref h0)]) (by decide) rfl rfl (Nat.le_of_ble_eq_true rfl) rfl ?_
  intro p e s m below meth c A Q S hin hA hK hP hD hG hS hret ls hl
  have hw_X3 : ∀ w ∈ u_ws RX3 TX3 3, w ∈ wsX3_measure := by decide +kernel
  have hf_26 := S.2.2.2.2 (.fieldLink RX3 26 "Particleway$Field" "free" "I") (by decide +kernel)
  have hf_9 := S.2.2.2.2 (.fieldLink RX3 9 "Particleway$Field" "walls" "[Z") (by decide +kernel)
  have hf_15 := S.2.2.2.2 (.fieldLink RX3 15 "Particleway$Field" "ahead" "[I") (by decide +kernel)
  refine lv_aload_n S.1 S.2.1 dX3_measure_0 rfl (lv_at hl 0 rfl) ?_
  refine lv_iconst (v := nI 0) S.1 S.2.1 dX3_measure_1 (by decide) ?_
  refine k_put S (C := RX3) (T := TX3) (N := 3) (ci := 3) (ws2 := [(h0, .inr (3, [.ref h1, .ref h2, .int (nI 0)])), (h1, .inl (cyZ, 64, .inl (aZ w))), (h2, .inl (cyI, 256, .inl af))]) hw_X3 tyX3 tyX3_ok nmX3 hK hP hD hS 0 rfl rfl 2 (by decide) hf_26 rfl rfl rfl rfl (Nat.le_of_ble_eq_true rfl) dX3_measure_2 rfl (fun H locs hP hD hS => ?_)
  refine lv_iconst (v := nI 0) S.1 S.2.1 dX3_measure_5 (by decide) ?_
  refine lv_istore_n (lv' := [(1, .int (nI 0)), (0, .ref h0)]) S.1 S.2.1 dX3_measure_6 rfl hl (by decide) rfl (fun ls hl => ?_)
  refine wl (σ := Nat × Nat × (Nat → Int32)) (fun (i, q, g) => [(h0, .inr (3, [.ref h1, .ref h2, .int (nI q)])), (h1, .inl (cyZ, 64, .inl (aZ w))), (h2, .inl (cyI, 256, .inl g))]) (fun (i, q, g) => [(1, .int (nI i)), (0, .ref h0)]) (fun (i, q, g) => (i ≤ 64) ∧ (q = cntF w i) ∧ (∀ k, k < 256 → k % 64 < i → g k = ahV w k)) (fun (i, q, g) => 64 - i) ?_ (0, 0, af) ⟨by omega, rfl, fun k hk h => by omega⟩ hP hD hS (lv_sub hl [0, 1] rfl)
  rintro ⟨i, q, g⟩ ⟨hi, hq, hg⟩ ih7 H locs ls hP hD hS hl
  have hP : va_P D vwCl [(h0, .inr (3, [.ref h1, .ref h2, .int (nI q)])), (h1, .inl (cyZ, 64, .inl (aZ w))), (h2, .inl (cyI, 256, .inl g))] H := hP
  have hD : va_D A [(h0, .inr (3, [.ref h1, .ref h2, .int (nI q)])), (h1, .inl (cyZ, 64, .inl (aZ w))), (h2, .inl (cyI, 256, .inl g))] := hD
  have hl : lv_has ls 3 [(1, .int (nI i)), (0, .ref h0)] := hl
  have hcq := cntF_le w i
  refine lv_iload_n S.1 S.2.1 dX3_measure_7 rfl (lv_at hl 0 rfl) ?_
  refine lv_bipush (v := nI 64) S.1 S.2.1 dX3_measure_8 (by decide) ?_
  refine kn_icmp_ge S (by omega) (by omega) dX3_measure_10 (tgt := 81) (by decide) (fun c10 => ?_) (fun c10 => ?_)
  · obtain rfl : i = 64 := by omega
    subst hq
    obtain ⟨hP, hD⟩ := P_re (ws2 := [(h0, .inr (3, [.ref h1, .ref h2, .int (nI (cntF w 64))])), (h1, .inl (cyZ, 64, .inl (aZ w))), (h2, .inl (cyI, 256, .inl (ahV w)))]) hP hD 2 rfl (cell_iI (fun k hk => hg k hk (by omega))) rfl
    exact hret _ _ _ _ dX3_measure_81 hP hD hS
  · refine lv_aload_n S.1 S.2.1 dX3_measure_13 rfl (lv_at hl 1 rfl) ?_
    refine k_get S (C := RX3) (T := TX3) (N := 3) (ci := 3) hw_X3 hK hP 0 rfl rfl 0 (by decide) hf_9 rfl (v := .ref h1) rfl dX3_measure_14 ?_
    refine lv_iload_n S.1 S.2.1 dX3_measure_17 rfl (lv_at hl 0 rfl) ?_
    refine kn_zald S hK hP 1 2 rfl rfl (by omega) (by decide) dX3_measure_18 ?_
    refine kb_if_ne S dX3_measure_19 (tgt := 32) (by decide) (fun c19 => ?_) (fun c19 => ?_)
    · refine lv_iconst (v := nI 0) S.1 S.2.1 dX3_measure_32 (by decide) ?_
      refine lv_istore_n (lv' := [(2, .int (nI 0)), (1, .int (nI i)), (0, .ref h0)]) S.1 S.2.1 dX3_measure_33 rfl hl (by decide) rfl (fun ls hl => ?_)
      have hqn : q = cntF w (i + 1) := by rw [cntF, hq]; simp [c19]
      refine wl (σ := Nat × (Nat → Int32)) (fun (j, g2) => [(h0, .inr (3, [.ref h1, .ref h2, .int (nI q)])), (h1, .inl (cyZ, 64, .inl (aZ w))), (h2, .inl (cyI, 256, .inl g2))]) (fun (j, g2) => [(2, .int (nI j)), (1, .int (nI i)), (0, .ref h0)]) (fun (j, g2) => (j ≤ 4) ∧ (∀ k, k < 256 → (k % 64 < i ∨ (k % 64 = i ∧ k / 64 < j)) → g2 k = ahV w k)) (fun (j, g2) => 4 - j) ?_ (0, g) ⟨by omega, fun k hk h => hg k hk (by omega)⟩ hP hD hS (lv_sub hl [0, 1, 2] rfl)
      rintro ⟨j, g2⟩ ⟨hj, hg2⟩ ih34 H locs ls hP hD hS hl
      have hP : va_P D vwCl [(h0, .inr (3, [.ref h1, .ref h2, .int (nI q)])), (h1, .inl (cyZ, 64, .inl (aZ w))), (h2, .inl (cyI, 256, .inl g2))] H := hP
      have hD : va_D A [(h0, .inr (3, [.ref h1, .ref h2, .int (nI q)])), (h1, .inl (cyZ, 64, .inl (aZ w))), (h2, .inl (cyI, 256, .inl g2))] := hD
      have hl : lv_has ls 3 [(2, .int (nI j)), (1, .int (nI i)), (0, .ref h0)] := hl
      refine lv_iload_n S.1 S.2.1 dX3_measure_34 rfl (lv_at hl 0 rfl) ?_
      refine lv_iconst (v := nI 4) S.1 S.2.1 dX3_measure_35 (by decide) ?_
      refine kn_icmp_ge S (by omega) (by omega) dX3_measure_36 (tgt := 75) (by decide) (fun c36 => ?_) (fun c36 => ?_)
      · refine lv_iinc (v := nI (i + 1)) (lv' := [(1, .int (nI (i + 1))), (2, .int (nI j)), (0, .ref h0)]) S.1 S.2.1 dX3_measure_75 hl (k := 1) rfl (iinc_1 _) (by decide) rfl (fun ls hl => ?_)
        refine lv_goto (tgt := 7) S.1 S.2.1 dX3_measure_78 (by decide) ?_
        exact ih7 (i + 1, q, g2) ⟨by omega, by assumption, fun k hk h => hg2 k hk (by omega)⟩ (by show 64 - (i + 1) < 64 - i; omega) _ _ _ hP hD hS (lv_sub hl [0, 2] rfl)
      · refine lv_aload_n S.1 S.2.1 dX3_measure_39 rfl (lv_at hl 2 rfl) ?_
        refine k_get S (C := RX3) (T := TX3) (N := 3) (ci := 3) hw_X3 hK hP 0 rfl rfl 1 (by decide) hf_15 rfl (v := .ref h2) rfl dX3_measure_40 ?_
        refine lv_bipush (v := nI 64) S.1 S.2.1 dX3_measure_43 (by decide) ?_
        refine lv_iload_n S.1 S.2.1 dX3_measure_45 rfl (lv_at hl 0 rfl) ?_
        refine kn_imul S dX3_measure_46 ?_
        refine lv_iload_n S.1 S.2.1 dX3_measure_47 rfl (lv_at hl 1 rfl) ?_
        refine kn_iadd S dX3_measure_48 ?_
        refine lv_aload_n S.1 S.2.1 dX3_measure_49 rfl (lv_at hl 2 rfl) ?_
        refine k_get S (C := RX3) (T := TX3) (N := 3) (ci := 3) hw_X3 hK hP 0 rfl rfl 0 (by decide) hf_9 rfl (v := .ref h1) rfl dX3_measure_50 ?_
        refine lv_iload_n S.1 S.2.1 dX3_measure_53 rfl (lv_at hl 1 rfl) ?_
        refine kn_zald S hK hP 1 2 rfl rfl (by omega) (by decide) dX3_measure_54 ?_
        refine kb_if_eq S dX3_measure_55 (tgt := 62) (by decide) (fun c55 => ?_) (fun c55 => ?_)
        · refine lv_aload_n S.1 S.2.1 dX3_measure_62 rfl (lv_at hl 2 rfl) ?_
          refine lv_iload_n S.1 S.2.1 dX3_measure_63 rfl (lv_at hl 1 rfl) ?_
          refine lv_iload_n S.1 S.2.1 dX3_measure_64 rfl (lv_at hl 0 rfl) ?_
          refine kcV_i S (wc := [(h0, .inr (3, [.ref h1, .ref h2, .int (nI q)])), (h1, .inl (cyZ, 64, .inl (aZ w))), (h2, .inl (cyI, 256, .inl g2))]) (wr := []) (ws2 := [(h0, .inr (3, [.ref h1, .ref h2, .int (nI q)])), (h1, .inl (cyZ, 64, .inl (aZ w))), (h2, .inl (cyI, 256, .inl g2))]) (As := [.int (nI i), .int (nI j)]) (rest := [.int (nI ((64 * j) + i)), .ref h2]) (c_X3_countedSteps l D cyI cyJ cyZ H.size h0 h1 h2 w g2 q i j (by first | assumption | omega) (by first | assumption | omega)) (cwV 2 S.2.2.2.2 gX3_measure_X3_countedSteps rfl rfl rfl (by decide +kernel) ⟨Nat.le_of_ble_eq_true rfl, Nat.le_of_ble_eq_true rfl⟩) hK hP hD hS hA hG [0, 1, 2] [] [0, 1, 2] rfl rfl rfl rfl (by decide) rfl rfl (ci := 3) (q0 := 0) rfl rfl rfl hl.1 rfl (Nat.le_of_ble_eq_true rfl) dX3_measure_65 ⟨Nat.le_of_ble_eq_true rfl, Nat.le_of_ble_eq_true rfl⟩ (fun H locs hP hD hS => ?_)
          refine kr_iast S hK hP hD hS (ws2 := [(h0, .inr (3, [.ref h1, .ref h2, .int (nI q)])), (h1, .inl (cyZ, 64, .inl (aZ w))), (h2, .inl (cyI, 256, .inl (upd g2 ((64 * j) + i) (nI (rd w i j)))))]) 2 0 rfl rfl (by omega) (by decide) dX3_measure_68 rfl (fun H locs hP hD hS => ?_)
          refine lv_iinc (v := nI (j + 1)) (lv' := [(2, .int (nI (j + 1))), (1, .int (nI i)), (0, .ref h0)]) S.1 S.2.1 dX3_measure_69 hl (k := 0) rfl (iinc_1 _) (by decide) rfl (fun ls hl => ?_)
          refine lv_goto (tgt := 34) S.1 S.2.1 dX3_measure_72 (by decide) ?_
          exact ih34 (j + 1, upd g2 ((64 * j) + i) (nI (rd w i j))) ⟨by omega, fun k hk h => by by_cases e : k = 64 * j + i; (· subst e; rw [pk_us, ahV_at w (by omega)]; simp [c55]); (· rw [pk_un e]; exact hg2 k hk (by omega))⟩ (by show 4 - (j + 1) < 4 - j; omega) _ _ _ hP hD hS (lv_sub hl [0, 1, 2] rfl)
        · refine lv_iconst (v := (-1)) S.1 S.2.1 dX3_measure_58 (by decide) ?_
          refine lv_goto (tgt := 68) S.1 S.2.1 dX3_measure_59 (by decide) ?_
          refine kr_iast S hK hP hD hS (ws2 := [(h0, .inr (3, [.ref h1, .ref h2, .int (nI q)])), (h1, .inl (cyZ, 64, .inl (aZ w))), (h2, .inl (cyI, 256, .inl (upd g2 ((64 * j) + i) (-1))))]) 2 0 rfl rfl (by omega) (by decide) dX3_measure_68 rfl (fun H locs hP hD hS => ?_)
          refine lv_iinc (v := nI (j + 1)) (lv' := [(2, .int (nI (j + 1))), (1, .int (nI i)), (0, .ref h0)]) S.1 S.2.1 dX3_measure_69 hl (k := 0) rfl (iinc_1 _) (by decide) rfl (fun ls hl => ?_)
          refine lv_goto (tgt := 34) S.1 S.2.1 dX3_measure_72 (by decide) ?_
          exact ih34 (j + 1, upd g2 ((64 * j) + i) (-1)) ⟨by omega, fun k hk h => by by_cases e : k = 64 * j + i; (· subst e; rw [pk_us, ahV_at w (by omega)]; simp [c55]); (· rw [pk_un e]; exact hg2 k hk (by omega))⟩ (by show 4 - (j + 1) < 4 - j; omega) _ _ _ hP hD hS (lv_sub hl [0, 1, 2] rfl)
    · refine lv_aload_n S.1 S.2.1 dX3_measure_22 rfl (lv_at hl 1 rfl) ?_
      refine lv_dup S.1 S.2.1 dX3_measure_23 rfl ?_
      refine k_get S (C := RX3) (T := TX3) (N := 3) (ci := 3) hw_X3 hK hP 0 rfl rfl 2 (by decide) hf_26 rfl (v := .int (nI q)) rfl dX3_measure_24 ?_
      refine lv_iconst (v := nI 1) S.1 S.2.1 dX3_measure_27 (by decide) ?_
      refine kn_iadd S dX3_measure_28 ?_
      refine k_put S (C := RX3) (T := TX3) (N := 3) (ci := 3) (ws2 := [(h0, .inr (3, [.ref h1, .ref h2, .int (nI (q + 1))])), (h1, .inl (cyZ, 64, .inl (aZ w))), (h2, .inl (cyI, 256, .inl g))]) hw_X3 tyX3 tyX3_ok nmX3 hK hP hD hS 0 rfl rfl 2 (by decide) hf_26 rfl rfl rfl rfl (Nat.le_of_ble_eq_true rfl) dX3_measure_29 rfl (fun H locs hP hD hS => ?_)
      refine lv_iconst (v := nI 0) S.1 S.2.1 dX3_measure_32 (by decide) ?_
      refine lv_istore_n (lv' := [(2, .int (nI 0)), (1, .int (nI i)), (0, .ref h0)]) S.1 S.2.1 dX3_measure_33 rfl hl (by decide) rfl (fun ls hl => ?_)
      have hqn : q + 1 = cntF w (i + 1) := by rw [cntF, hq]; simp [c19]
      refine wl (σ := Nat × (Nat → Int32)) (fun (j, g2) => [(h0, .inr (3, [.ref h1, .ref h2, .int (nI (q + 1))])), (h1, .inl (cyZ, 64, .inl (aZ w))), (h2, .inl (cyI, 256, .inl g2))]) (fun (j, g2) => [(2, .int (nI j)), (1, .int (nI i)), (0, .ref h0)]) (fun (j, g2) => (j ≤ 4) ∧ (∀ k, k < 256 → (k % 64 < i ∨ (k % 64 = i ∧ k / 64 < j)) → g2 k = ahV w k)) (fun (j, g2) => 4 - j) ?_ (0, g) ⟨by omega, fun k hk h => hg k hk (by omega)⟩ hP hD hS (lv_sub hl [0, 1, 2] rfl)
      rintro ⟨j, g2⟩ ⟨hj, hg2⟩ ih34 H locs ls hP hD hS hl
      have hP : va_P D vwCl [(h0, .inr (3, [.ref h1, .ref h2, .int (nI (q + 1))])), (h1, .inl (cyZ, 64, .inl (aZ w))), (h2, .inl (cyI, 256, .inl g2))] H := hP
      have hD : va_D A [(h0, .inr (3, [.ref h1, .ref h2, .int (nI (q + 1))])), (h1, .inl (cyZ, 64, .inl (aZ w))), (h2, .inl (cyI, 256, .inl g2))] := hD
      have hl : lv_has ls 3 [(2, .int (nI j)), (1, .int (nI i)), (0, .ref h0)] := hl
      refine lv_iload_n S.1 S.2.1 dX3_measure_34 rfl (lv_at hl 0 rfl) ?_
      refine lv_iconst (v := nI 4) S.1 S.2.1 dX3_measure_35 (by decide) ?_
      refine kn_icmp_ge S (by omega) (by omega) dX3_measure_36 (tgt := 75) (by decide) (fun c36 => ?_) (fun c36 => ?_)
      · refine lv_iinc (v := nI (i + 1)) (lv' := [(1, .int (nI (i + 1))), (2, .int (nI j)), (0, .ref h0)]) S.1 S.2.1 dX3_measure_75 hl (k := 1) rfl (iinc_1 _) (by decide) rfl (fun ls hl => ?_)
        refine lv_goto (tgt := 7) S.1 S.2.1 dX3_measure_78 (by decide) ?_
        exact ih7 (i + 1, q + 1, g2) ⟨by omega, by assumption, fun k hk h => hg2 k hk (by omega)⟩ (by show 64 - (i + 1) < 64 - i; omega) _ _ _ hP hD hS (lv_sub hl [0, 2] rfl)
      · refine lv_aload_n S.1 S.2.1 dX3_measure_39 rfl (lv_at hl 2 rfl) ?_
        refine k_get S (C := RX3) (T := TX3) (N := 3) (ci := 3) hw_X3 hK hP 0 rfl rfl 1 (by decide) hf_15 rfl (v := .ref h2) rfl dX3_measure_40 ?_
        refine lv_bipush (v := nI 64) S.1 S.2.1 dX3_measure_43 (by decide) ?_
        refine lv_iload_n S.1 S.2.1 dX3_measure_45 rfl (lv_at hl 0 rfl) ?_
        refine kn_imul S dX3_measure_46 ?_
        refine lv_iload_n S.1 S.2.1 dX3_measure_47 rfl (lv_at hl 1 rfl) ?_
        refine kn_iadd S dX3_measure_48 ?_
        refine lv_aload_n S.1 S.2.1 dX3_measure_49 rfl (lv_at hl 2 rfl) ?_
        refine k_get S (C := RX3) (T := TX3) (N := 3) (ci := 3) hw_X3 hK hP 0 rfl rfl 0 (by decide) hf_9 rfl (v := .ref h1) rfl dX3_measure_50 ?_
        refine lv_iload_n S.1 S.2.1 dX3_measure_53 rfl (lv_at hl 1 rfl) ?_
        refine kn_zald S hK hP 1 2 rfl rfl (by omega) (by decide) dX3_measure_54 ?_
        refine kb_if_eq S dX3_measure_55 (tgt := 62) (by decide) (fun c55 => ?_) (fun c55 => ?_)
        · refine lv_aload_n S.1 S.2.1 dX3_measure_62 rfl (lv_at hl 2 rfl) ?_
          refine lv_iload_n S.1 S.2.1 dX3_measure_63 rfl (lv_at hl 1 rfl) ?_
          refine lv_iload_n S.1 S.2.1 dX3_measure_64 rfl (lv_at hl 0 rfl) ?_
          refine kcV_i S (wc := [(h0, .inr (3, [.ref h1, .ref h2, .int (nI (q + 1))])), (h1, .inl (cyZ, 64, .inl (aZ w))), (h2, .inl (cyI, 256, .inl g2))]) (wr := []) (ws2 := [(h0, .inr (3, [.ref h1, .ref h2, .int (nI (q + 1))])), (h1, .inl (cyZ, 64, .inl (aZ w))), (h2, .inl (cyI, 256, .inl g2))]) (As := [.int (nI i), .int (nI j)]) (rest := [.int (nI ((64 * j) + i)), .ref h2]) (c_X3_countedSteps l D cyI cyJ cyZ H.size h0 h1 h2 w g2 (q + 1) i j (by first | assumption | omega) (by first | assumption | omega)) (cwV 2 S.2.2.2.2 gX3_measure_X3_countedSteps rfl rfl rfl (by decide +kernel) ⟨Nat.le_of_ble_eq_true rfl, Nat.le_of_ble_eq_true rfl⟩) hK hP hD hS hA hG [0, 1, 2] [] [0, 1, 2] rfl rfl rfl rfl (by decide) rfl rfl (ci := 3) (q0 := 0) rfl rfl rfl hl.1 rfl (Nat.le_of_ble_eq_true rfl) dX3_measure_65 ⟨Nat.le_of_ble_eq_true rfl, Nat.le_of_ble_eq_true rfl⟩ (fun H locs hP hD hS => ?_)
          refine kr_iast S hK hP hD hS (ws2 := [(h0, .inr (3, [.ref h1, .ref h2, .int (nI (q + 1))])), (h1, .inl (cyZ, 64, .inl (aZ w))), (h2, .inl (cyI, 256, .inl (upd g2 ((64 * j) + i) (nI (rd w i j)))))]) 2 0 rfl rfl (by omega) (by decide) dX3_measure_68 rfl (fun H locs hP hD hS => ?_)
          refine lv_iinc (v := nI (j + 1)) (lv' := [(2, .int (nI (j + 1))), (1, .int (nI i)), (0, .ref h0)]) S.1 S.2.1 dX3_measure_69 hl (k := 0) rfl (iinc_1 _) (by decide) rfl (fun ls hl => ?_)
          refine lv_goto (tgt := 34) S.1 S.2.1 dX3_measure_72 (by decide) ?_
          exact ih34 (j + 1, upd g2 ((64 * j) + i) (nI (rd w i j))) ⟨by omega, fun k hk h => by by_cases e : k = 64 * j + i; (· subst e; rw [pk_us, ahV_at w (by omega)]; simp [c55]); (· rw [pk_un e]; exact hg2 k hk (by omega))⟩ (by show 4 - (j + 1) < 4 - j; omega) _ _ _ hP hD hS (lv_sub hl [0, 1, 2] rfl)
        · refine lv_iconst (v := (-1)) S.1 S.2.1 dX3_measure_58 (by decide) ?_
          refine lv_goto (tgt := 68) S.1 S.2.1 dX3_measure_59 (by decide) ?_
          refine kr_iast S hK hP hD hS (ws2 := [(h0, .inr (3, [.ref h1, .ref h2, .int (nI (q + 1))])), (h1, .inl (cyZ, 64, .inl (aZ w))), (h2, .inl (cyI, 256, .inl (upd g2 ((64 * j) + i) (-1))))]) 2 0 rfl rfl (by omega) (by decide) dX3_measure_68 rfl (fun H locs hP hD hS => ?_)
          refine lv_iinc (v := nI (j + 1)) (lv' := [(2, .int (nI (j + 1))), (1, .int (nI i)), (0, .ref h0)]) S.1 S.2.1 dX3_measure_69 hl (k := 0) rfl (iinc_1 _) (by decide) rfl (fun ls hl => ?_)
          refine lv_goto (tgt := 34) S.1 S.2.1 dX3_measure_72 (by decide) ?_
          exact ih34 (j + 1, upd g2 ((64 * j) + i) (-1)) ⟨by omega, fun k hk h => by by_cases e : k = 64 * j + i; (· subst e; rw [pk_us, ahV_at w (by omega)]; simp [c55]); (· rw [pk_un e]; exact hg2 k hk (by omega))⟩ (by show 4 - (j + 1) < 4 - j; omega) _ _ _ hP hD hS (lv_sub hl [0, 1, 2] rfl)
end FIELD
