section CHART
set_option maxHeartbeats 4000000 in
set_option maxRecDepth 100000 in
theorem c_X1_remainder (l : Launch) (D : va_G) (cyI cyJ cyZ : ClassId) (sz : Nat) (h0 : Nat) (x : Nat) (k : Nat) (hx : x < 65537) (hk0 : 0 < k) (hk : k < 2147483648) : Met l yX1_remainder wsX1_remainder ({ frames := 2, cells := 0, slots := 0, locals := 60 } : Room) (mPc D [(cyI, .int), (cyJ, .long), (cyZ, .boolean)] [(h0, .inr (1, [.int (nI x)]))] sz [.ref h0, .int (nI k)]) (va_Qi (fun (r : Int32) (u : va_W) => r = nI (nx x % k) ∧ u = [(h0, .inr (1, [.int (nI (nx x))]))]) (mB D [(cyI, .int), (cyJ, .long), (cyZ, .boolean)] (va_A [(h0, .inr (1, [.int (nI x)]))] sz)) (va_A [(h0, .inr (1, [.int (nI x)]))] sz)) 0 0 (va_A [(h0, .inr (1, [.int (nI x)]))] sz) := by
  refine st_i (own := RX1) (lv0 := [(0, .ref h0), (1, .int (nI k))]) (by decide) rfl rfl (Nat.le_of_ble_eq_true rfl) rfl ?_
  intro p e s m below meth c A Q S hin hA hK hP hD hG hS hret ls hl
  have hw_X1 : ∀ w ∈ u_ws RX1 TX1 1, w ∈ wsX1_remainder := by decide +kernel
  have hf_7 := S.2.2.2.2 (.fieldLink RX1 7 "Particleway$Chance" "x" "I") (by decide +kernel)
  refine lv_aload_n S.1 S.2.1 dX1_remainder_0 rfl (lv_at hl 0 rfl) ?_
  refine lv_bipush (v := nI 75) S.1 S.2.1 dX1_remainder_1 (by decide) ?_
  refine lv_aload_n S.1 S.2.1 dX1_remainder_3 rfl (lv_at hl 0 rfl) ?_
  refine k_get S (C := RX1) (T := TX1) (N := 1) (ci := 1) hw_X1 hK hP 0 rfl rfl 0 (by decide) hf_7 rfl (v := .int (nI x)) rfl dX1_remainder_4 ?_
  refine kn_imul S dX1_remainder_7 ?_
  refine lv_bipush (v := nI 74) S.1 S.2.1 dX1_remainder_8 (by decide) ?_
  refine kn_iadd S dX1_remainder_10 ?_
  refine lv_ldc (v := 65537) S.1 S.2.1 S.2.2.2.1 (S.2.2.2.2 (.constant RX1 13 65537) (by decide +kernel)) dX1_remainder_11 ?_
  refine k_topi (y := nI 65537) (by decide) ?_
  refine kn_irem S (by omega) (by omega) (by omega) dX1_remainder_13 ?_
  refine k_put S (C := RX1) (T := TX1) (N := 1) (ci := 1) (ws2 := [(h0, .inr (1, [.int (nI (((75 * x) + 74) % 65537))]))]) hw_X1 tyX1 tyX1_ok nmX1 hK hP hD hS 0 rfl rfl 0 (by decide) hf_7 rfl rfl rfl rfl (Nat.le_of_ble_eq_true rfl) dX1_remainder_14 rfl (fun H locs hP hD hS => ?_)
  refine lv_iload_n S.1 S.2.1 dX1_remainder_17 rfl (lv_at hl 1 rfl) ?_
  refine kn_if_gt S (by omega) dX1_remainder_18 (tgt := 25) (by decide) (fun c18 => ?_) (fun c18 => ?_)
  · refine lv_aload_n S.1 S.2.1 dX1_remainder_25 rfl (lv_at hl 0 rfl) ?_
    refine k_get S (C := RX1) (T := TX1) (N := 1) (ci := 1) hw_X1 hK hP 0 rfl rfl 0 (by decide) hf_7 rfl (v := .int (nI (((75 * x) + 74) % 65537))) rfl dX1_remainder_26 ?_
    refine lv_iload_n S.1 S.2.1 dX1_remainder_29 rfl (lv_at hl 1 rfl) ?_
    refine kn_irem S (by omega) (by omega) (by omega) dX1_remainder_30 ?_
    refine k_topi (y := nI (nx x % k)) (by rfl) ?_
    exact hret _ _ _ _ dX1_remainder_31 hP hD hS
  · exact absurd c18 (by omega)

set_option maxHeartbeats 4000000 in
set_option maxRecDepth 100000 in
theorem c_X1_change (l : Launch) (D : va_G) (cyI cyJ cyZ : ClassId) (sz : Nat) (h0 : Nat) (x : Nat) (k : Nat) : Met l yX1_change wsX1_change ({ frames := 2, cells := 0, slots := 0, locals := 60 } : Room) (mPc D [(cyI, .int), (cyJ, .long), (cyZ, .boolean)] [(h0, .inr (1, [.int (nI x)]))] sz [.ref h0, .int (nI k)]) (va_Qi (fun (r : Int32) (u : va_W) => r = nI x ∧ u = [(h0, .inr (1, [.int (nI k)]))]) (mB D [(cyI, .int), (cyJ, .long), (cyZ, .boolean)] (va_A [(h0, .inr (1, [.int (nI x)]))] sz)) (va_A [(h0, .inr (1, [.int (nI x)]))] sz)) 0 0 (va_A [(h0, .inr (1, [.int (nI x)]))] sz) := by
  refine st_i (own := RX1) (lv0 := [(0, .ref h0), (1, .int (nI k))]) (by decide) rfl rfl (Nat.le_of_ble_eq_true rfl) rfl ?_
  intro p e s m below meth c A Q S hin hA hK hP hD hG hS hret ls hl
  have hw_X1 : ∀ w ∈ u_ws RX1 TX1 1, w ∈ wsX1_change := by decide +kernel
  have hf_7 := S.2.2.2.2 (.fieldLink RX1 7 "Particleway$Chance" "x" "I") (by decide +kernel)
  refine lv_aload_n S.1 S.2.1 dX1_change_0 rfl (lv_at hl 0 rfl) ?_
  refine k_get S (C := RX1) (T := TX1) (N := 1) (ci := 1) hw_X1 hK hP 0 rfl rfl 0 (by decide) hf_7 rfl (v := .int (nI x)) rfl dX1_change_1 ?_
  refine lv_istore_n (lv' := [(2, .int (nI x)), (0, .ref h0), (1, .int (nI k))]) S.1 S.2.1 dX1_change_4 rfl hl (by decide) rfl (fun ls hl => ?_)
  refine lv_aload_n S.1 S.2.1 dX1_change_5 rfl (lv_at hl 1 rfl) ?_
  refine lv_iload_n S.1 S.2.1 dX1_change_6 rfl (lv_at hl 2 rfl) ?_
  refine k_put S (C := RX1) (T := TX1) (N := 1) (ci := 1) (ws2 := [(h0, .inr (1, [.int (nI k)]))]) hw_X1 tyX1 tyX1_ok nmX1 hK hP hD hS 0 rfl rfl 0 (by decide) hf_7 rfl rfl rfl rfl (Nat.le_of_ble_eq_true rfl) dX1_change_7 rfl (fun H locs hP hD hS => ?_)
  refine lv_iload_n S.1 S.2.1 dX1_change_10 rfl (lv_at hl 0 rfl) ?_
  exact hret _ _ _ _ dX1_change_11 hP hD hS

set_option maxHeartbeats 4000000 in
set_option maxRecDepth 100000 in
theorem c_X5_isInField (l : Launch) (D : va_G) (cyI cyJ cyZ : ClassId) (sz : Nat) (x : Nat) (y : Nat) (hx : x < 8) (hy : y < 8) : Met l yX5_isInField wsX5_isInField ({ frames := 2, cells := 0, slots := 0, locals := 60 } : Room) (mPc D [(cyI, .int), (cyJ, .long), (cyZ, .boolean)] [] sz [.int (nI x), .int (nI y)]) (va_Qi (fun (r : Int32) (u : va_W) => r = bI true ∧ u = []) (mB D [(cyI, .int), (cyJ, .long), (cyZ, .boolean)] (va_A [] sz)) (va_A [] sz)) 0 0 (va_A [] sz) := by
  refine st_z (own := RX5) (lv0 := [(0, .int (nI x)), (1, .int (nI y))]) (by decide) rfl rfl (Nat.le_of_ble_eq_true rfl) rfl ?_
  intro p e s m below meth c A Q S hin hA hK hP hD hG hS hret ls hl
  refine lv_iload_n S.1 S.2.1 dX5_isInField_0 rfl (lv_at hl 0 rfl) ?_
  refine kn_if_lt S (by omega) dX5_isInField_1 (tgt := 24) (by decide) ?_
  refine lv_iload_n S.1 S.2.1 dX5_isInField_4 rfl (lv_at hl 0 rfl) ?_
  refine lv_bipush (v := nI 8) S.1 S.2.1 dX5_isInField_5 (by decide) ?_
  refine kn_icmp_ge S (by omega) (by omega) dX5_isInField_7 (tgt := 24) (by decide) (fun c7 => ?_) (fun c7 => ?_)
  · exact absurd c7 (by omega)
  · refine lv_iload_n S.1 S.2.1 dX5_isInField_10 rfl (lv_at hl 1 rfl) ?_
    refine kn_if_lt S (by omega) dX5_isInField_11 (tgt := 24) (by decide) ?_
    refine lv_iload_n S.1 S.2.1 dX5_isInField_14 rfl (lv_at hl 1 rfl) ?_
    refine lv_bipush (v := nI 8) S.1 S.2.1 dX5_isInField_15 (by decide) ?_
    refine kn_icmp_ge S (by omega) (by omega) dX5_isInField_17 (tgt := 24) (by decide) (fun c17 => ?_) (fun c17 => ?_)
    · exact absurd c17 (by omega)
    · refine lv_iconst (v := nI 1) S.1 S.2.1 dX5_isInField_20 (by decide) ?_
      refine lv_goto (tgt := 25) S.1 S.2.1 dX5_isInField_21 (by decide) ?_
      refine k_topi (y := bI true) (by rfl) ?_
      exact hret _ _ _ _ dX5_isInField_25 hP hD hS

set_option maxHeartbeats 4000000 in
set_option maxRecDepth 100000 in
theorem c_X5_isInField_r (l : Launch) (D : va_G) (cyI cyJ cyZ : ClassId) (sz : Nat) (x : Int32) (y : Int32) : Met l yX5_isInField wsX5_isInField ({ frames := 2, cells := 0, slots := 0, locals := 60 } : Room) (mPc D [(cyI, .int), (cyJ, .long), (cyZ, .boolean)] [] sz [.int x, .int y]) (va_Qi (fun (r : Int32) (u : va_W) => r = bI (inF x y) ∧ u = []) (mB D [(cyI, .int), (cyJ, .long), (cyZ, .boolean)] (va_A [] sz)) (va_A [] sz)) 0 0 (va_A [] sz) := by
  refine st_z (own := RX5) (lv0 := [(0, .int x), (1, .int y)]) (by decide) rfl rfl (Nat.le_of_ble_eq_true rfl) rfl ?_
  intro p e s m below meth c A Q S hin hA hK hP hD hG hS hret ls hl
  refine lv_iload_n S.1 S.2.1 dX5_isInField_0 rfl (lv_at hl 0 rfl) ?_
  refine lv_if_lt S.1 S.2.1 dX5_isInField_1 (tgt := 24) (by decide) (fun c1 => ?_) (fun c1 => ?_)
  · refine lv_iconst (v := nI 0) S.1 S.2.1 dX5_isInField_24 (by decide) ?_
    refine k_topi (y := bI (inF x y)) (by rw [inF, decide_eq_false (fun h => h.1 c1)]; rfl) ?_
    exact hret _ _ _ _ dX5_isInField_25 hP hD hS
  · refine lv_iload_n S.1 S.2.1 dX5_isInField_4 rfl (lv_at hl 0 rfl) ?_
    refine lv_bipush (v := nI 8) S.1 S.2.1 dX5_isInField_5 (by decide) ?_
    refine lv_icmp_ge S.1 S.2.1 dX5_isInField_7 (tgt := 24) (by decide) (fun c7 => ?_) (fun c7 => ?_)
    · refine lv_iconst (v := nI 0) S.1 S.2.1 dX5_isInField_24 (by decide) ?_
      refine k_topi (y := bI (inF x y)) (by rw [inF, decide_eq_false (fun h => h.2.1 c7)]; rfl) ?_
      exact hret _ _ _ _ dX5_isInField_25 hP hD hS
    · refine lv_iload_n S.1 S.2.1 dX5_isInField_10 rfl (lv_at hl 1 rfl) ?_
      refine lv_if_lt S.1 S.2.1 dX5_isInField_11 (tgt := 24) (by decide) (fun c11 => ?_) (fun c11 => ?_)
      · refine lv_iconst (v := nI 0) S.1 S.2.1 dX5_isInField_24 (by decide) ?_
        refine k_topi (y := bI (inF x y)) (by rw [inF, decide_eq_false (fun h => h.2.2.1 c11)]; rfl) ?_
        exact hret _ _ _ _ dX5_isInField_25 hP hD hS
      · refine lv_iload_n S.1 S.2.1 dX5_isInField_14 rfl (lv_at hl 1 rfl) ?_
        refine lv_bipush (v := nI 8) S.1 S.2.1 dX5_isInField_15 (by decide) ?_
        refine lv_icmp_ge S.1 S.2.1 dX5_isInField_17 (tgt := 24) (by decide) (fun c17 => ?_) (fun c17 => ?_)
        · refine lv_iconst (v := nI 0) S.1 S.2.1 dX5_isInField_24 (by decide) ?_
          refine k_topi (y := bI (inF x y)) (by rw [inF, decide_eq_false (fun h => h.2.2.2 c17)]; rfl) ?_
          exact hret _ _ _ _ dX5_isInField_25 hP hD hS
        · refine lv_iconst (v := nI 1) S.1 S.2.1 dX5_isInField_20 (by decide) ?_
          refine lv_goto (tgt := 25) S.1 S.2.1 dX5_isInField_21 (by decide) ?_
          refine k_topi (y := bI (inF x y)) (by rw [inF, decide_eq_true ⟨c1, c7, c11, c17⟩]; rfl) ?_
          exact hret _ _ _ _ dX5_isInField_25 hP hD hS

set_option maxHeartbeats 4000000 in
set_option maxRecDepth 100000 in
theorem c_X5_isCell (l : Launch) (D : va_G) (cyI cyJ cyZ : ClassId) (sz : Nat) (k : Nat) (hk : k < 64) : Met l yX5_isCell wsX5_isCell ({ frames := 2, cells := 0, slots := 0, locals := 60 } : Room) (mPc D [(cyI, .int), (cyJ, .long), (cyZ, .boolean)] [] sz [.int (nI k)]) (va_Qi (fun (r : Int32) (u : va_W) => r = bI true ∧ u = []) (mB D [(cyI, .int), (cyJ, .long), (cyZ, .boolean)] (va_A [] sz)) (va_A [] sz)) 0 0 (va_A [] sz) := by
  refine st_z (own := RX5) (lv0 := [(0, .int (nI k))]) (by decide) rfl rfl (Nat.le_of_ble_eq_true rfl) rfl ?_
  intro p e s m below meth c A Q S hin hA hK hP hD hG hS hret ls hl
  refine lv_iload_n S.1 S.2.1 dX5_isCell_0 rfl (lv_at hl 0 rfl) ?_
  refine kn_if_lt S (by omega) dX5_isCell_1 (tgt := 14) (by decide) ?_
  refine lv_iload_n S.1 S.2.1 dX5_isCell_4 rfl (lv_at hl 0 rfl) ?_
  refine lv_bipush (v := nI 64) S.1 S.2.1 dX5_isCell_5 (by decide) ?_
  refine kn_icmp_ge S (by omega) (by omega) dX5_isCell_7 (tgt := 14) (by decide) (fun c7 => ?_) (fun c7 => ?_)
  · exact absurd c7 (by omega)
  · refine lv_iconst (v := nI 1) S.1 S.2.1 dX5_isCell_10 (by decide) ?_
    refine lv_goto (tgt := 15) S.1 S.2.1 dX5_isCell_11 (by decide) ?_
    refine k_topi (y := bI true) (by rfl) ?_
    exact hret _ _ _ _ dX5_isCell_15 hP hD hS

set_option maxHeartbeats 4000000 in
set_option maxRecDepth 100000 in
theorem c_X5_isCell_no (l : Launch) (D : va_G) (cyI cyJ cyZ : ClassId) (sz : Nat)  : Met l yX5_isCell wsX5_isCell ({ frames := 2, cells := 0, slots := 0, locals := 60 } : Room) (mPc D [(cyI, .int), (cyJ, .long), (cyZ, .boolean)] [] sz [.int (-1)]) (va_Qi (fun (r : Int32) (u : va_W) => r = bI false ∧ u = []) (mB D [(cyI, .int), (cyJ, .long), (cyZ, .boolean)] (va_A [] sz)) (va_A [] sz)) 0 0 (va_A [] sz) := by
  refine st_z (own := RX5) (lv0 := [(0, .int (-1))]) (by decide) rfl rfl (Nat.le_of_ble_eq_true rfl) rfl ?_
  intro p e s m below meth c A Q S hin hA hK hP hD hG hS hret ls hl
  refine lv_iload_n S.1 S.2.1 dX5_isCell_0 rfl (lv_at hl 0 rfl) ?_
  refine lv_if_lt S.1 S.2.1 dX5_isCell_1 (tgt := 14) (by decide) (fun c1 => ?_) (fun c1 => ?_)
  · refine lv_iconst (v := nI 0) S.1 S.2.1 dX5_isCell_14 (by decide) ?_
    refine k_topi (y := bI false) (by rfl) ?_
    exact hret _ _ _ _ dX5_isCell_15 hP hD hS
  · exact absurd c1 (by decide)

set_option maxHeartbeats 4000000 in
set_option maxRecDepth 100000 in
theorem c_X5_isDirection (l : Launch) (D : va_G) (cyI cyJ cyZ : ClassId) (sz : Nat) (k : Nat) (hk : k < 4) : Met l yX5_isDirection wsX5_isDirection ({ frames := 2, cells := 0, slots := 0, locals := 60 } : Room) (mPc D [(cyI, .int), (cyJ, .long), (cyZ, .boolean)] [] sz [.int (nI k)]) (va_Qi (fun (r : Int32) (u : va_W) => r = bI true ∧ u = []) (mB D [(cyI, .int), (cyJ, .long), (cyZ, .boolean)] (va_A [] sz)) (va_A [] sz)) 0 0 (va_A [] sz) := by
  refine st_z (own := RX5) (lv0 := [(0, .int (nI k))]) (by decide) rfl rfl (Nat.le_of_ble_eq_true rfl) rfl ?_
  intro p e s m below meth c A Q S hin hA hK hP hD hG hS hret ls hl
  refine lv_iload_n S.1 S.2.1 dX5_isDirection_0 rfl (lv_at hl 0 rfl) ?_
  refine kn_if_lt S (by omega) dX5_isDirection_1 (tgt := 13) (by decide) ?_
  refine lv_iload_n S.1 S.2.1 dX5_isDirection_4 rfl (lv_at hl 0 rfl) ?_
  refine lv_iconst (v := nI 4) S.1 S.2.1 dX5_isDirection_5 (by decide) ?_
  refine kn_icmp_ge S (by omega) (by omega) dX5_isDirection_6 (tgt := 13) (by decide) (fun c6 => ?_) (fun c6 => ?_)
  · exact absurd c6 (by omega)
  · refine lv_iconst (v := nI 1) S.1 S.2.1 dX5_isDirection_9 (by decide) ?_
    refine lv_goto (tgt := 14) S.1 S.2.1 dX5_isDirection_10 (by decide) ?_
    refine k_topi (y := bI true) (by rfl) ?_
    exact hret _ _ _ _ dX5_isDirection_14 hP hD hS

set_option maxHeartbeats 4000000 in
set_option maxRecDepth 100000 in
theorem c_X5_isDirection_r (l : Launch) (D : va_G) (cyI cyJ cyZ : ClassId) (sz : Nat) (k : Int32) : Met l yX5_isDirection wsX5_isDirection ({ frames := 2, cells := 0, slots := 0, locals := 60 } : Room) (mPc D [(cyI, .int), (cyJ, .long), (cyZ, .boolean)] [] sz [.int k]) (va_Qi (fun (r : Int32) (u : va_W) => r = bI (dirP k) ∧ u = []) (mB D [(cyI, .int), (cyJ, .long), (cyZ, .boolean)] (va_A [] sz)) (va_A [] sz)) 0 0 (va_A [] sz) := by
  refine st_z (own := RX5) (lv0 := [(0, .int k)]) (by decide) rfl rfl (Nat.le_of_ble_eq_true rfl) rfl ?_
  intro p e s m below meth c A Q S hin hA hK hP hD hG hS hret ls hl
  refine lv_iload_n S.1 S.2.1 dX5_isDirection_0 rfl (lv_at hl 0 rfl) ?_
  refine lv_if_lt S.1 S.2.1 dX5_isDirection_1 (tgt := 13) (by decide) (fun c1 => ?_) (fun c1 => ?_)
  · refine lv_iconst (v := nI 0) S.1 S.2.1 dX5_isDirection_13 (by decide) ?_
    refine k_topi (y := bI (dirP k)) (by rw [dirP, decide_eq_false (fun h => h.1 c1)]; rfl) ?_
    exact hret _ _ _ _ dX5_isDirection_14 hP hD hS
  · refine lv_iload_n S.1 S.2.1 dX5_isDirection_4 rfl (lv_at hl 0 rfl) ?_
    refine lv_iconst (v := nI 4) S.1 S.2.1 dX5_isDirection_5 (by decide) ?_
    refine lv_icmp_ge S.1 S.2.1 dX5_isDirection_6 (tgt := 13) (by decide) (fun c6 => ?_) (fun c6 => ?_)
    · refine lv_iconst (v := nI 0) S.1 S.2.1 dX5_isDirection_13 (by decide) ?_
      refine k_topi (y := bI (dirP k)) (by rw [dirP, decide_eq_false (fun h => h.2 c6)]; rfl) ?_
      exact hret _ _ _ _ dX5_isDirection_14 hP hD hS
    · refine lv_iconst (v := nI 1) S.1 S.2.1 dX5_isDirection_9 (by decide) ?_
      refine lv_goto (tgt := 14) S.1 S.2.1 dX5_isDirection_10 (by decide) ?_
      refine k_topi (y := bI (dirP k)) (by rw [dirP, decide_eq_true ⟨c1, c6⟩]; rfl) ?_
      exact hret _ _ _ _ dX5_isDirection_14 hP hD hS

set_option maxHeartbeats 4000000 in
set_option maxRecDepth 100000 in
theorem c_X5_numberOf (l : Launch) (D : va_G) (cyI cyJ cyZ : ClassId) (sz : Nat) (x : Nat) (y : Nat) : Met l yX5_numberOf wsX5_numberOf ({ frames := 2, cells := 0, slots := 0, locals := 60 } : Room) (mPc D [(cyI, .int), (cyJ, .long), (cyZ, .boolean)] [] sz [.int (nI x), .int (nI y)]) (va_Qi (fun (r : Int32) (u : va_W) => r = nI (8 * y + x) ∧ u = []) (mB D [(cyI, .int), (cyJ, .long), (cyZ, .boolean)] (va_A [] sz)) (va_A [] sz)) 0 0 (va_A [] sz) := by
  refine st_i (own := RX5) (lv0 := [(0, .int (nI x)), (1, .int (nI y))]) (by decide) rfl rfl (Nat.le_of_ble_eq_true rfl) rfl ?_
  intro p e s m below meth c A Q S hin hA hK hP hD hG hS hret ls hl
  refine lv_bipush (v := nI 8) S.1 S.2.1 dX5_numberOf_0 (by decide) ?_
  refine lv_iload_n S.1 S.2.1 dX5_numberOf_2 rfl (lv_at hl 1 rfl) ?_
  refine kn_imul S dX5_numberOf_3 ?_
  refine lv_iload_n S.1 S.2.1 dX5_numberOf_4 rfl (lv_at hl 0 rfl) ?_
  refine kn_iadd S dX5_numberOf_5 ?_
  refine k_topi (y := nI (8 * y + x)) (by rfl) ?_
  exact hret _ _ _ _ dX5_numberOf_6 hP hD hS

set_option maxHeartbeats 4000000 in
set_option maxRecDepth 100000 in
theorem c_X5_numberOf_r (l : Launch) (D : va_G) (cyI cyJ cyZ : ClassId) (sz : Nat) (x : Int32) (y : Int32) : Met l yX5_numberOf wsX5_numberOf ({ frames := 2, cells := 0, slots := 0, locals := 60 } : Room) (mPc D [(cyI, .int), (cyJ, .long), (cyZ, .boolean)] [] sz [.int x, .int y]) (va_Qi (fun (r : Int32) (u : va_W) => r = nI 8 * y + x ∧ u = []) (mB D [(cyI, .int), (cyJ, .long), (cyZ, .boolean)] (va_A [] sz)) (va_A [] sz)) 0 0 (va_A [] sz) := by
  refine st_i (own := RX5) (lv0 := [(0, .int x), (1, .int y)]) (by decide) rfl rfl (Nat.le_of_ble_eq_true rfl) rfl ?_
  intro p e s m below meth c A Q S hin hA hK hP hD hG hS hret ls hl
  refine lv_bipush (v := nI 8) S.1 S.2.1 dX5_numberOf_0 (by decide) ?_
  refine lv_iload_n S.1 S.2.1 dX5_numberOf_2 rfl (lv_at hl 1 rfl) ?_
  refine lv_imul S.1 S.2.1 dX5_numberOf_3 ?_
  refine lv_iload_n S.1 S.2.1 dX5_numberOf_4 rfl (lv_at hl 0 rfl) ?_
  refine lv_iadd S.1 S.2.1 dX5_numberOf_5 ?_
  refine k_topi (y := nI 8 * y + x) (by rfl) ?_
  exact hret _ _ _ _ dX5_numberOf_6 hP hD hS

set_option maxHeartbeats 4000000 in
set_option maxRecDepth 100000 in
theorem c_X5_quotient (l : Launch) (D : va_G) (cyI cyJ cyZ : ClassId) (sz : Nat) (x : Nat) (y : Nat) (hx : x < 9223372036854775808) (hy0 : 0 < y) (hy : y < 9223372036854775808) : Met l yX5_quotient wsX5_quotient ({ frames := 2, cells := 0, slots := 0, locals := 60 } : Room) (mPc D [(cyI, .int), (cyJ, .long), (cyZ, .boolean)] [] sz [.long (lN x), .long (lN y)]) (va_Ql (fun (r : Int64) (u : va_W) => r = lN (x / y) ∧ u = []) (mB D [(cyI, .int), (cyJ, .long), (cyZ, .boolean)] (va_A [] sz)) (va_A [] sz)) 0 0 (va_A [] sz) := by
  refine st_l (own := RX5) (lv0 := [(0, .long (lN x)), (2, .long (lN y))]) (by decide) rfl rfl (Nat.le_of_ble_eq_true rfl) rfl ?_
  intro p e s m below meth c A Q S hin hA hK hP hD hG hS hret ls hl
  refine lv_lload_n S.1 S.2.1 dX5_quotient_0 rfl (lv_at hl 1 rfl) ?_
  refine lv_lconst (v := lN 0) S.1 S.2.1 dX5_quotient_1 (by decide) ?_
  refine kn_lcmp_ne S (by omega) (by omega) dX5_quotient_2 rfl dX5_quotient_3 (tgt := 10) (by decide) (fun c3 => ?_) (fun c3 => ?_)
  · refine lv_lload_n S.1 S.2.1 dX5_quotient_10 rfl (lv_at hl 0 rfl) ?_
    refine lv_lload_n S.1 S.2.1 dX5_quotient_11 rfl (lv_at hl 1 rfl) ?_
    refine kn_ldiv S (by omega) (by omega) (by omega) dX5_quotient_12 ?_
    exact hret _ _ _ _ dX5_quotient_13 hP hD hS
  · exact absurd c3 (by omega)

set_option maxHeartbeats 4000000 in
set_option maxRecDepth 100000 in
theorem c_X2_at (l : Launch) (D : va_G) (cyI cyJ cyZ : ClassId) (sz : Nat) (h0 : Nat) (h1 : Nat) (f : Nat → Nat) (k : Nat) (hk : k < 64) : Met l yX2_at wsX2_at ({ frames := 3, cells := 0, slots := 0, locals := 80 } : Room) (mPc D [(cyI, .int), (cyJ, .long), (cyZ, .boolean)] [(h0, .inr (2, [.ref h1])), (h1, .inl (cyJ, 64, .inr (.inl (aL f))))] sz [.ref h0, .int (nI k)]) (va_Ql (fun (r : Int64) (u : va_W) => r = lN (f k) ∧ u = [(h0, .inr (2, [.ref h1])), (h1, .inl (cyJ, 64, .inr (.inl (aL f))))]) (mB D [(cyI, .int), (cyJ, .long), (cyZ, .boolean)] (va_A [(h0, .inr (2, [.ref h1])), (h1, .inl (cyJ, 64, .inr (.inl (aL f))))] sz)) (va_A [(h0, .inr (2, [.ref h1])), (h1, .inl (cyJ, 64, .inr (.inl (aL f))))] sz)) 0 0 (va_A [(h0, .inr (2, [.ref h1])), (h1, .inl (cyJ, 64, .inr (.inl (aL f))))] sz) := by
  refine st_l (own := RX2) (lv0 := [(0, .ref h0), (1, .int (nI k))]) (by decide) rfl rfl (Nat.le_of_ble_eq_true rfl) rfl ?_
  intro p e s m below meth c A Q S hin hA hK hP hD hG hS hret ls hl
  have hw_X2 : ∀ w ∈ u_ws RX2 TX2 1, w ∈ wsX2_at := by decide +kernel
  have hf_9 := S.2.2.2.2 (.fieldLink RX2 9 "Particleway$Chart" "numbers" "[J") (by decide +kernel)
  refine lv_iload_n S.1 S.2.1 dX2_at_0 rfl (lv_at hl 1 rfl) ?_
  refine kcSN_i S (wc := []) (wr := [(h0, .inr (2, [.ref h1])), (h1, .inl (cyJ, 64, .inr (.inl (aL f))))]) (ws2 := [(h0, .inr (2, [.ref h1])), (h1, .inl (cyJ, 64, .inr (.inl (aL f))))]) (As := [.int (nI k)]) (rest := []) (c_X5_isCell l D cyI cyJ cyZ s.heap.size k (by first | assumption | omega)) ⟨va_cnB 1 S.2.2.2.2 gX2_at_X5_isCell_n15 rfl rfl rfl hG.2.1 (S.2.2.2.2 (.initialized RX5) (by decide +kernel)) (by decide +kernel) ⟨Nat.le_of_ble_eq_true rfl, Nat.le_of_ble_eq_true rfl⟩, S.2.2.2.2 (.static yX5_isCell) (by decide +kernel), trivial⟩ hK hP hD hS hA hG [] [0, 1] [0, 1] rfl rfl rfl rfl (by decide) rfl rfl rfl hl.1 rfl (Nat.le_of_ble_eq_true rfl) dX2_at_1 ⟨Nat.le_of_ble_eq_true rfl, Nat.le_of_ble_eq_true rfl⟩ (fun H locs hP hD hS => ?_)
  refine kb_if_eq S dX2_at_4 (tgt := 16) (by decide) (fun c4 => ?_) (fun c4 => ?_)
  · exact absurd c4 (by decide)
  · refine lv_aload_n S.1 S.2.1 dX2_at_7 rfl (lv_at hl 0 rfl) ?_
    refine k_get S (C := RX2) (T := TX2) (N := 1) (ci := 2) hw_X2 hK hP 0 rfl rfl 0 (by decide) hf_9 rfl (v := .ref h1) rfl dX2_at_8 ?_
    refine lv_iload_n S.1 S.2.1 dX2_at_11 rfl (lv_at hl 1 rfl) ?_
    refine kn_lald S hK hP 1 1 rfl rfl (by omega) (by decide) dX2_at_12 ?_
    refine lv_goto (tgt := 17) S.1 S.2.1 dX2_at_13 (by decide) ?_
    exact hret _ _ _ _ dX2_at_17 hP hD hS

set_option maxHeartbeats 4000000 in
set_option maxRecDepth 100000 in
theorem c_X2_put (l : Launch) (D : va_G) (cyI cyJ cyZ : ClassId) (sz : Nat) (h0 : Nat) (h1 : Nat) (f : Nat → Nat) (k : Nat) (v : Nat) (hk : k < 64) : Met l yX2_put wsX2_put ({ frames := 3, cells := 0, slots := 0, locals := 80 } : Room) (mPc D [(cyI, .int), (cyJ, .long), (cyZ, .boolean)] [(h0, .inr (2, [.ref h1])), (h1, .inl (cyJ, 64, .inr (.inl (aL f))))] sz [.ref h0, .int (nI k), .long (lN v)]) (va_Qv (fun (u : va_W) => u = [(h0, .inr (2, [.ref h1])), (h1, .inl (cyJ, 64, .inr (.inl (aL (va_up f k v)))))]) (mB D [(cyI, .int), (cyJ, .long), (cyZ, .boolean)] (va_A [(h0, .inr (2, [.ref h1])), (h1, .inl (cyJ, 64, .inr (.inl (aL f))))] sz)) (va_A [(h0, .inr (2, [.ref h1])), (h1, .inl (cyJ, 64, .inr (.inl (aL f))))] sz)) 0 0 (va_A [(h0, .inr (2, [.ref h1])), (h1, .inl (cyJ, 64, .inr (.inl (aL f))))] sz) := by
  refine st_v (own := RX2) (lv0 := [(0, .ref h0), (1, .int (nI k)), (2, .long (lN v))]) (by decide) rfl rfl (Nat.le_of_ble_eq_true rfl) rfl ?_
  intro p e s m below meth c A Q S hin hA hK hP hD hG hS hret ls hl
  have hw_X2 : ∀ w ∈ u_ws RX2 TX2 1, w ∈ wsX2_put := by decide +kernel
  have hf_9 := S.2.2.2.2 (.fieldLink RX2 9 "Particleway$Chart" "numbers" "[J") (by decide +kernel)
  refine lv_iload_n S.1 S.2.1 dX2_put_0 rfl (lv_at hl 1 rfl) ?_
  refine kcSN_i S (wc := []) (wr := [(h0, .inr (2, [.ref h1])), (h1, .inl (cyJ, 64, .inr (.inl (aL f))))]) (ws2 := [(h0, .inr (2, [.ref h1])), (h1, .inl (cyJ, 64, .inr (.inl (aL f))))]) (As := [.int (nI k)]) (rest := []) (c_X5_isCell l D cyI cyJ cyZ s.heap.size k (by first | assumption | omega)) ⟨va_cnB 1 S.2.2.2.2 gX2_put_X5_isCell_n15 rfl rfl rfl hG.2.1 (S.2.2.2.2 (.initialized RX5) (by decide +kernel)) (by decide +kernel) ⟨Nat.le_of_ble_eq_true rfl, Nat.le_of_ble_eq_true rfl⟩, S.2.2.2.2 (.static yX5_isCell) (by decide +kernel), trivial⟩ hK hP hD hS hA hG [] [0, 1] [0, 1] rfl rfl rfl rfl (by decide) rfl rfl rfl hl.1 rfl (Nat.le_of_ble_eq_true rfl) dX2_put_1 ⟨Nat.le_of_ble_eq_true rfl, Nat.le_of_ble_eq_true rfl⟩ (fun H locs hP hD hS => ?_)
  refine kb_if_eq S dX2_put_4 (tgt := 14) (by decide) (fun c4 => ?_) (fun c4 => ?_)
  · exact absurd c4 (by decide)
  · refine lv_aload_n S.1 S.2.1 dX2_put_7 rfl (lv_at hl 0 rfl) ?_
    refine k_get S (C := RX2) (T := TX2) (N := 1) (ci := 2) hw_X2 hK hP 0 rfl rfl 0 (by decide) hf_9 rfl (v := .ref h1) rfl dX2_put_8 ?_
    refine lv_iload_n S.1 S.2.1 dX2_put_11 rfl (lv_at hl 1 rfl) ?_
    refine lv_lload_n S.1 S.2.1 dX2_put_12 rfl (lv_at hl 2 rfl) ?_
    refine kn_last S hK hP hD hS (ws2 := [(h0, .inr (2, [.ref h1])), (h1, .inl (cyJ, 64, .inr (.inl (aL (va_up f k v)))))]) 1 1 rfl rfl (by omega) (by decide) dX2_put_13 rfl (fun H locs hP hD hS => ?_)
    exact hret _ _ _ _ dX2_put_14 hP hD hS

set_option maxHeartbeats 4000000 in
set_option maxRecDepth 100000 in
theorem c_X2_add (l : Launch) (D : va_G) (cyI cyJ cyZ : ClassId) (sz : Nat) (h0 : Nat) (h1 : Nat) (f : Nat → Nat) (k : Nat) (v : Nat) (hk : k < 64) : Met l yX2_add wsX2_add ({ frames := 3, cells := 0, slots := 0, locals := 80 } : Room) (mPc D [(cyI, .int), (cyJ, .long), (cyZ, .boolean)] [(h0, .inr (2, [.ref h1])), (h1, .inl (cyJ, 64, .inr (.inl (aL f))))] sz [.ref h0, .int (nI k), .long (lN v)]) (va_Qv (fun (u : va_W) => u = [(h0, .inr (2, [.ref h1])), (h1, .inl (cyJ, 64, .inr (.inl (aL (adF f k v)))))]) (mB D [(cyI, .int), (cyJ, .long), (cyZ, .boolean)] (va_A [(h0, .inr (2, [.ref h1])), (h1, .inl (cyJ, 64, .inr (.inl (aL f))))] sz)) (va_A [(h0, .inr (2, [.ref h1])), (h1, .inl (cyJ, 64, .inr (.inl (aL f))))] sz)) 0 0 (va_A [(h0, .inr (2, [.ref h1])), (h1, .inl (cyJ, 64, .inr (.inl (aL f))))] sz) := by
  refine st_v (own := RX2) (lv0 := [(0, .ref h0), (1, .int (nI k)), (2, .long (lN v))]) (by decide) rfl rfl (Nat.le_of_ble_eq_true rfl) rfl ?_
  intro p e s m below meth c A Q S hin hA hK hP hD hG hS hret ls hl
  have hw_X2 : ∀ w ∈ u_ws RX2 TX2 1, w ∈ wsX2_add := by decide +kernel
  have hf_9 := S.2.2.2.2 (.fieldLink RX2 9 "Particleway$Chart" "numbers" "[J") (by decide +kernel)
  refine lv_iload_n S.1 S.2.1 dX2_add_0 rfl (lv_at hl 1 rfl) ?_
  refine kcSN_i S (wc := []) (wr := [(h0, .inr (2, [.ref h1])), (h1, .inl (cyJ, 64, .inr (.inl (aL f))))]) (ws2 := [(h0, .inr (2, [.ref h1])), (h1, .inl (cyJ, 64, .inr (.inl (aL f))))]) (As := [.int (nI k)]) (rest := []) (c_X5_isCell l D cyI cyJ cyZ s.heap.size k (by first | assumption | omega)) ⟨va_cnB 1 S.2.2.2.2 gX2_add_X5_isCell_n15 rfl rfl rfl hG.2.1 (S.2.2.2.2 (.initialized RX5) (by decide +kernel)) (by decide +kernel) ⟨Nat.le_of_ble_eq_true rfl, Nat.le_of_ble_eq_true rfl⟩, S.2.2.2.2 (.static yX5_isCell) (by decide +kernel), trivial⟩ hK hP hD hS hA hG [] [0, 1] [0, 1] rfl rfl rfl rfl (by decide) rfl rfl rfl hl.1 rfl (Nat.le_of_ble_eq_true rfl) dX2_add_1 ⟨Nat.le_of_ble_eq_true rfl, Nat.le_of_ble_eq_true rfl⟩ (fun H locs hP hD hS => ?_)
  refine kb_if_eq S dX2_add_4 (tgt := 17) (by decide) (fun c4 => ?_) (fun c4 => ?_)
  · exact absurd c4 (by decide)
  · refine lv_aload_n S.1 S.2.1 dX2_add_7 rfl (lv_at hl 0 rfl) ?_
    refine k_get S (C := RX2) (T := TX2) (N := 1) (ci := 2) hw_X2 hK hP 0 rfl rfl 0 (by decide) hf_9 rfl (v := .ref h1) rfl dX2_add_8 ?_
    refine lv_iload_n S.1 S.2.1 dX2_add_11 rfl (lv_at hl 1 rfl) ?_
    refine lv_dup2_11 S.1 S.2.1 dX2_add_12 rfl rfl ?_
    refine kn_lald S hK hP 1 1 rfl rfl (by omega) (by decide) dX2_add_13 ?_
    refine lv_lload_n S.1 S.2.1 dX2_add_14 rfl (lv_at hl 2 rfl) ?_
    refine kn_ladd S dX2_add_15 ?_
    refine kn_last S hK hP hD hS (ws2 := [(h0, .inr (2, [.ref h1])), (h1, .inl (cyJ, 64, .inr (.inl (aL (va_up f k ((f k) + v))))))]) 1 1 rfl rfl (by omega) (by decide) dX2_add_16 rfl (fun H locs hP hD hS => ?_)
    obtain ⟨hP, hD⟩ := P_re (ws2 := [(h0, .inr (2, [.ref h1])), (h1, .inl (cyJ, 64, .inr (.inl (aL (adF f k v)))))]) hP hD 1 rfl (by rw [va_adF]) rfl
    exact hret _ _ _ _ dX2_add_17 hP hD hS

set_option maxHeartbeats 4000000 in
set_option maxRecDepth 100000 in
theorem c_X2_clear (l : Launch) (D : va_G) (cyI cyJ cyZ : ClassId) (sz : Nat) (h0 : Nat) (h1 : Nat) (f : Nat → Nat) : Met l yX2_clear wsX2_clear ({ frames := 2, cells := 0, slots := 0, locals := 60 } : Room) (mPc D [(cyI, .int), (cyJ, .long), (cyZ, .boolean)] [(h0, .inr (2, [.ref h1])), (h1, .inl (cyJ, 64, .inr (.inl (aL f))))] sz [.ref h0]) (va_Qv (fun (u : va_W) => u = [(h0, .inr (2, [.ref h1])), (h1, .inl (cyJ, 64, .inr (.inl (aL (fun _ => 0)))))]) (mB D [(cyI, .int), (cyJ, .long), (cyZ, .boolean)] (va_A [(h0, .inr (2, [.ref h1])), (h1, .inl (cyJ, 64, .inr (.inl (aL f))))] sz)) (va_A [(h0, .inr (2, [.ref h1])), (h1, .inl (cyJ, 64, .inr (.inl (aL f))))] sz)) 0 0 (va_A [(h0, .inr (2, [.ref h1])), (h1, .inl (cyJ, 64, .inr (.inl (aL f))))] sz) := by
  refine st_v (own := RX2) (lv0 := [(0, .ref h0)]) (by decide) rfl rfl (Nat.le_of_ble_eq_true rfl) rfl ?_
  intro p e s m below meth c A Q S hin hA hK hP hD hG hS hret ls hl
  have hw_X2 : ∀ w ∈ u_ws RX2 TX2 1, w ∈ wsX2_clear := by decide +kernel
  have hf_9 := S.2.2.2.2 (.fieldLink RX2 9 "Particleway$Chart" "numbers" "[J") (by decide +kernel)
  refine lv_iconst (v := nI 0) S.1 S.2.1 dX2_clear_0 (by decide) ?_
  refine lv_istore_n (lv' := [(1, .int (nI 0)), (0, .ref h0)]) S.1 S.2.1 dX2_clear_1 rfl hl (by decide) rfl (fun ls hl => ?_)
  refine wl (σ := Nat × (Nat → Nat)) (fun (i, g) => [(h0, .inr (2, [.ref h1])), (h1, .inl (cyJ, 64, .inr (.inl (aL g))))]) (fun (i, g) => [(1, .int (nI i)), (0, .ref h0)]) (fun (i, g) => (i ≤ 64) ∧ (∀ j, j < i → g j = 0)) (fun (i, g) => 64 - i) ?_ (0, f) ⟨by omega, fun j hj => by omega⟩ hP hD hS (lv_sub hl [0, 1] rfl)
  rintro ⟨i, g⟩ ⟨hi, hg⟩ ih2 H locs ls hP hD hS hl
  have hP : va_P D vwCl [(h0, .inr (2, [.ref h1])), (h1, .inl (cyJ, 64, .inr (.inl (aL g))))] H := hP
  have hD : va_D A [(h0, .inr (2, [.ref h1])), (h1, .inl (cyJ, 64, .inr (.inl (aL g))))] := hD
  have hl : lv_has ls 2 [(1, .int (nI i)), (0, .ref h0)] := hl
  refine lv_iload_n S.1 S.2.1 dX2_clear_2 rfl (lv_at hl 0 rfl) ?_
  refine lv_bipush (v := nI 64) S.1 S.2.1 dX2_clear_3 (by decide) ?_
  refine kn_icmp_ge S (by omega) (by omega) dX2_clear_5 (tgt := 21) (by decide) (fun c5 => ?_) (fun c5 => ?_)
  · obtain ⟨hP, hD⟩ := P_re (ws2 := [(h0, .inr (2, [.ref h1])), (h1, .inl (cyJ, 64, .inr (.inl (aL (fun _ => 0)))))]) hP hD 1 rfl (cell_aL (fun j hj => hg j (by omega))) rfl
    exact hret _ _ _ _ dX2_clear_21 hP hD hS
  · refine lv_aload_n S.1 S.2.1 dX2_clear_8 rfl (lv_at hl 1 rfl) ?_
    refine k_get S (C := RX2) (T := TX2) (N := 1) (ci := 2) hw_X2 hK hP 0 rfl rfl 0 (by decide) hf_9 rfl (v := .ref h1) rfl dX2_clear_9 ?_
    refine lv_iload_n S.1 S.2.1 dX2_clear_12 rfl (lv_at hl 0 rfl) ?_
    refine lv_lconst (v := lN 0) S.1 S.2.1 dX2_clear_13 (by decide) ?_
    refine kn_last S hK hP hD hS (ws2 := [(h0, .inr (2, [.ref h1])), (h1, .inl (cyJ, 64, .inr (.inl (aL (va_up g i 0)))))]) 1 1 rfl rfl (by omega) (by decide) dX2_clear_14 rfl (fun H locs hP hD hS => ?_)
    refine lv_iinc (v := nI (i + 1)) (lv' := [(1, .int (nI (i + 1))), (0, .ref h0)]) S.1 S.2.1 dX2_clear_15 hl (k := 0) rfl (iinc_1 _) (by decide) rfl (fun ls hl => ?_)
    refine lv_goto (tgt := 2) S.1 S.2.1 dX2_clear_18 (by decide) ?_
    exact ih2 (i + 1, va_up g i 0) ⟨by omega, fun j hj => by by_cases h : j = i; (· subst h; exact up_at _ _ _); (· rw [up_ne _ _ h]; exact hg j (by omega))⟩ (by show 64 - (i + 1) < 64 - i; omega) _ _ _ hP hD hS (lv_sub hl [0, 1] rfl)

set_option maxHeartbeats 4000000 in
set_option maxRecDepth 100000 in
theorem c_X2_halve (l : Launch) (D : va_G) (cyI cyJ cyZ : ClassId) (sz : Nat) (h0 : Nat) (h1 : Nat) (f : Nat → Nat) (hf : ∀ j, j < 64 → f j < 9223372036854775808) : Met l yX2_halve wsX2_halve ({ frames := 2, cells := 0, slots := 0, locals := 60 } : Room) (mPc D [(cyI, .int), (cyJ, .long), (cyZ, .boolean)] [(h0, .inr (2, [.ref h1])), (h1, .inl (cyJ, 64, .inr (.inl (aL f))))] sz [.ref h0]) (va_Qv (fun (u : va_W) => u = [(h0, .inr (2, [.ref h1])), (h1, .inl (cyJ, 64, .inr (.inl (aL (fun j => f j / 2)))))]) (mB D [(cyI, .int), (cyJ, .long), (cyZ, .boolean)] (va_A [(h0, .inr (2, [.ref h1])), (h1, .inl (cyJ, 64, .inr (.inl (aL f))))] sz)) (va_A [(h0, .inr (2, [.ref h1])), (h1, .inl (cyJ, 64, .inr (.inl (aL f))))] sz)) 0 0 (va_A [(h0, .inr (2, [.ref h1])), (h1, .inl (cyJ, 64, .inr (.inl (aL f))))] sz) := by
  refine st_v (own := RX2) (lv0 := [(0, .ref h0)]) (by decide) rfl rfl (Nat.le_of_ble_eq_true rfl) rfl ?_
  intro p e s m below meth c A Q S hin hA hK hP hD hG hS hret ls hl
  have hw_X2 : ∀ w ∈ u_ws RX2 TX2 1, w ∈ wsX2_halve := by decide +kernel
  have hf_9 := S.2.2.2.2 (.fieldLink RX2 9 "Particleway$Chart" "numbers" "[J") (by decide +kernel)
  refine lv_iconst (v := nI 0) S.1 S.2.1 dX2_halve_0 (by decide) ?_
  refine lv_istore_n (lv' := [(1, .int (nI 0)), (0, .ref h0)]) S.1 S.2.1 dX2_halve_1 rfl hl (by decide) rfl (fun ls hl => ?_)
  refine wl (σ := Nat × (Nat → Nat)) (fun (i, g) => [(h0, .inr (2, [.ref h1])), (h1, .inl (cyJ, 64, .inr (.inl (aL g))))]) (fun (i, g) => [(1, .int (nI i)), (0, .ref h0)]) (fun (i, g) => (i ≤ 64) ∧ (∀ j, j < i → g j = f j / 2) ∧ (∀ j, i ≤ j → g j = f j)) (fun (i, g) => 64 - i) ?_ (0, f) ⟨by omega, fun j hj => by omega, fun j hj => rfl⟩ hP hD hS (lv_sub hl [0, 1] rfl)
  rintro ⟨i, g⟩ ⟨hi, hg, hg2⟩ ih2 H locs ls hP hD hS hl
  have hP : va_P D vwCl [(h0, .inr (2, [.ref h1])), (h1, .inl (cyJ, 64, .inr (.inl (aL g))))] H := hP
  have hD : va_D A [(h0, .inr (2, [.ref h1])), (h1, .inl (cyJ, 64, .inr (.inl (aL g))))] := hD
  have hl : lv_has ls 2 [(1, .int (nI i)), (0, .ref h0)] := hl
  refine lv_iload_n S.1 S.2.1 dX2_halve_2 rfl (lv_at hl 0 rfl) ?_
  refine lv_bipush (v := nI 64) S.1 S.2.1 dX2_halve_3 (by decide) ?_
  refine kn_icmp_ge S (by omega) (by omega) dX2_halve_5 (tgt := 26) (by decide) (fun c5 => ?_) (fun c5 => ?_)
  · obtain ⟨hP, hD⟩ := P_re (ws2 := [(h0, .inr (2, [.ref h1])), (h1, .inl (cyJ, 64, .inr (.inl (aL (fun j => f j / 2)))))]) hP hD 1 rfl (cell_aL (fun j hj => hg j (by omega))) rfl
    exact hret _ _ _ _ dX2_halve_26 hP hD hS
  · have hgi := hg2 i (Nat.le_refl _)
    have hfi := hf i (by omega)
    refine lv_aload_n S.1 S.2.1 dX2_halve_8 rfl (lv_at hl 1 rfl) ?_
    refine k_get S (C := RX2) (T := TX2) (N := 1) (ci := 2) hw_X2 hK hP 0 rfl rfl 0 (by decide) hf_9 rfl (v := .ref h1) rfl dX2_halve_9 ?_
    refine lv_iload_n S.1 S.2.1 dX2_halve_12 rfl (lv_at hl 0 rfl) ?_
    refine lv_dup2_11 S.1 S.2.1 dX2_halve_13 rfl rfl ?_
    refine kn_lald S hK hP 1 1 rfl rfl (by omega) (by decide) dX2_halve_14 ?_
    refine lv_ldc2 (v := 2) S.1 S.2.1 S.2.2.2.1 (S.2.2.2.2 (.constantLong RX2 19 2) (by decide +kernel)) dX2_halve_15 ?_
    refine k_topl (y := lN 2) (by decide) ?_
    refine kn_ldiv S (by omega) (by omega) (by omega) dX2_halve_18 ?_
    refine kn_last S hK hP hD hS (ws2 := [(h0, .inr (2, [.ref h1])), (h1, .inl (cyJ, 64, .inr (.inl (aL (va_up g i ((g i) / 2))))))]) 1 1 rfl rfl (by omega) (by decide) dX2_halve_19 rfl (fun H locs hP hD hS => ?_)
    refine lv_iinc (v := nI (i + 1)) (lv' := [(1, .int (nI (i + 1))), (0, .ref h0)]) S.1 S.2.1 dX2_halve_20 hl (k := 0) rfl (iinc_1 _) (by decide) rfl (fun ls hl => ?_)
    refine lv_goto (tgt := 2) S.1 S.2.1 dX2_halve_23 (by decide) ?_
    exact ih2 (i + 1, va_up g i ((g i) / 2)) ⟨by omega, fun j hj => by by_cases h : j = i; (· subst h; rw [up_at, hg2 j (by omega)]); (· rw [up_ne _ _ h]; exact hg j (by omega)), fun j hj => by rw [up_ne _ _ (by omega)]; exact hg2 j (by omega)⟩ (by show 64 - (i + 1) < 64 - i; omega) _ _ _ hP hD hS (lv_sub hl [0, 1] rfl)

set_option maxHeartbeats 4000000 in
set_option maxRecDepth 100000 in
theorem c_X2_copy (l : Launch) (D : va_G) (cyI cyJ cyZ : ClassId) (sz : Nat) (h0 : Nat) (h1 : Nat) (f : Nat → Nat) (o0 : Nat) (o1 : Nat) (f2 : Nat → Nat) : Met l yX2_copy wsX2_copy ({ frames := 2, cells := 0, slots := 0, locals := 60 } : Room) (mPc D [(cyI, .int), (cyJ, .long), (cyZ, .boolean)] [(h0, .inr (2, [.ref h1])), (h1, .inl (cyJ, 64, .inr (.inl (aL f)))), (o0, .inr (2, [.ref o1])), (o1, .inl (cyJ, 64, .inr (.inl (aL f2))))] sz [.ref h0, .ref o0]) (va_Qv (fun (u : va_W) => u = [(h0, .inr (2, [.ref h1])), (h1, .inl (cyJ, 64, .inr (.inl (aL f2)))), (o0, .inr (2, [.ref o1])), (o1, .inl (cyJ, 64, .inr (.inl (aL f2))))]) (mB D [(cyI, .int), (cyJ, .long), (cyZ, .boolean)] (va_A [(h0, .inr (2, [.ref h1])), (h1, .inl (cyJ, 64, .inr (.inl (aL f)))), (o0, .inr (2, [.ref o1])), (o1, .inl (cyJ, 64, .inr (.inl (aL f2))))] sz)) (va_A [(h0, .inr (2, [.ref h1])), (h1, .inl (cyJ, 64, .inr (.inl (aL f)))), (o0, .inr (2, [.ref o1])), (o1, .inl (cyJ, 64, .inr (.inl (aL f2))))] sz)) 0 0 (va_A [(h0, .inr (2, [.ref h1])), (h1, .inl (cyJ, 64, .inr (.inl (aL f)))), (o0, .inr (2, [.ref o1])), (o1, .inl (cyJ, 64, .inr (.inl (aL f2))))] sz) := by
  refine st_v (own := RX2) (lv0 := [(0, .ref h0), (1, .ref o0)]) (by decide) rfl rfl (Nat.le_of_ble_eq_true rfl) rfl ?_
  intro p e s m below meth c A Q S hin hA hK hP hD hG hS hret ls hl
  have hw_X2 : ∀ w ∈ u_ws RX2 TX2 1, w ∈ wsX2_copy := by decide +kernel
  have hf_9 := S.2.2.2.2 (.fieldLink RX2 9 "Particleway$Chart" "numbers" "[J") (by decide +kernel)
  refine lv_aload_n S.1 S.2.1 dX2_copy_0 rfl (lv_at hl 1 rfl) ?_
  refine k_get S (C := RX2) (T := TX2) (N := 1) (ci := 2) hw_X2 hK hP 2 rfl rfl 0 (by decide) hf_9 rfl (v := .ref o1) rfl dX2_copy_1 ?_
  refine lv_iconst (v := nI 0) S.1 S.2.1 dX2_copy_4 (by decide) ?_
  refine lv_aload_n S.1 S.2.1 dX2_copy_5 rfl (lv_at hl 0 rfl) ?_
  refine k_get S (C := RX2) (T := TX2) (N := 1) (ci := 2) hw_X2 hK hP 0 rfl rfl 0 (by decide) hf_9 rfl (v := .ref h1) rfl dX2_copy_6 ?_
  refine lv_iconst (v := nI 0) S.1 S.2.1 dX2_copy_9 (by decide) ?_
  refine lv_bipush (v := nI 64) S.1 S.2.1 dX2_copy_10 (by decide) ?_
  refine va_copyl S.1 S.2.1 (S.2.2.1.trans hl.1.symm) S.2.2.2.1 (S.2.2.2.2 (.methodLink RX2 21 arraycopyName) (by decide +kernel)) (S.2.2.2.2 (.native arraycopyName) (by decide +kernel)) (S.2.2.2.2 (.static arraycopyName) (by decide +kernel)) (S.2.2.2.2 (.initialized "java/lang/System") (by decide +kernel)) hK hP hD hS 3 1 1 1 rfl rfl rfl rfl rfl (by decide) (by decide) (by decide) (by decide) (by decide) (fun _ _ => rfl) (Nat.le_of_ble_eq_true rfl) (Nat.le_of_ble_eq_true rfl) dX2_copy_12 (fun H locs hP hD hS => ?_)
  have hP : va_P D vwCl [(h0, .inr (2, [.ref h1])), (h1, .inl (cyJ, 64, .inr (.inl (va_cpy (aL f2) (aL f) (nI 0).toNatClampNeg (nI 0).toNatClampNeg (nI 64).toNatClampNeg)))), (o0, .inr (2, [.ref o1])), (o1, .inl (cyJ, 64, .inr (.inl (aL f2))))] H := hP
  have hD : va_D A [(h0, .inr (2, [.ref h1])), (h1, .inl (cyJ, 64, .inr (.inl (va_cpy (aL f2) (aL f) (nI 0).toNatClampNeg (nI 0).toNatClampNeg (nI 64).toNatClampNeg)))), (o0, .inr (2, [.ref o1])), (o1, .inl (cyJ, 64, .inr (.inl (aL f2))))] := hD
  obtain ⟨hP, hD⟩ := P_re (ws2 := [(h0, .inr (2, [.ref h1])), (h1, .inl (cyJ, 64, .inr (.inl (aL f2)))), (o0, .inr (2, [.ref o1])), (o1, .inl (cyJ, 64, .inr (.inl (aL f2))))]) hP hD 1 rfl (cell_lL (fun j hj => cpy_in _ _ (by decide) hj)) rfl
  exact hret _ _ _ _ dX2_copy_15 hP hD hS

set_option maxHeartbeats 4000000 in
set_option maxRecDepth 100000 in
theorem c_X2_greatest (l : Launch) (D : va_G) (cyI cyJ cyZ : ClassId) (sz : Nat) (h0 : Nat) (h1 : Nat) (f : Nat → Nat) (hf : ∀ j, j < 64 → f j < 9223372036854775808) : Met l yX2_greatest wsX2_greatest ({ frames := 2, cells := 0, slots := 0, locals := 60 } : Room) (mPc D [(cyI, .int), (cyJ, .long), (cyZ, .boolean)] [(h0, .inr (2, [.ref h1])), (h1, .inl (cyJ, 64, .inr (.inl (aL f))))] sz [.ref h0]) (va_Ql (fun (r : Int64) (u : va_W) => r = lN (mx f) ∧ u = [(h0, .inr (2, [.ref h1])), (h1, .inl (cyJ, 64, .inr (.inl (aL f))))]) (mB D [(cyI, .int), (cyJ, .long), (cyZ, .boolean)] (va_A [(h0, .inr (2, [.ref h1])), (h1, .inl (cyJ, 64, .inr (.inl (aL f))))] sz)) (va_A [(h0, .inr (2, [.ref h1])), (h1, .inl (cyJ, 64, .inr (.inl (aL f))))] sz)) 0 0 (va_A [(h0, .inr (2, [.ref h1])), (h1, .inl (cyJ, 64, .inr (.inl (aL f))))] sz) := by
  refine st_l (own := RX2) (lv0 := [(0, .ref h0)]) (by decide) rfl rfl (Nat.le_of_ble_eq_true rfl) rfl ?_
  intro p e s m below meth c A Q S hin hA hK hP hD hG hS hret ls hl
  have hw_X2 : ∀ w ∈ u_ws RX2 TX2 1, w ∈ wsX2_greatest := by decide +kernel
  have hf_9 := S.2.2.2.2 (.fieldLink RX2 9 "Particleway$Chart" "numbers" "[J") (by decide +kernel)
  refine lv_lconst (v := lN 0) S.1 S.2.1 dX2_greatest_0 (by decide) ?_
  refine lv_lstore_n (lv' := [(1, .long (lN 0)), (0, .ref h0)]) S.1 S.2.1 dX2_greatest_1 rfl hl (by decide) rfl (fun ls hl => ?_)
  refine lv_iconst (v := nI 0) S.1 S.2.1 dX2_greatest_2 (by decide) ?_
  refine lv_istore_n (lv' := [(3, .int (nI 0)), (1, .long (lN 0)), (0, .ref h0)]) S.1 S.2.1 dX2_greatest_3 rfl hl (by decide) rfl (fun ls hl => ?_)
  refine wl (σ := Nat × Nat) (fun (i, g) => [(h0, .inr (2, [.ref h1])), (h1, .inl (cyJ, 64, .inr (.inl (aL f))))]) (fun (i, g) => [(3, .int (nI i)), (1, .long (lN g)), (0, .ref h0)]) (fun (i, g) => (i ≤ 64) ∧ (g = mxF f i)) (fun (i, g) => 64 - i) ?_ (0, 0) ⟨by omega, rfl⟩ hP hD hS (lv_sub hl [0, 1, 2] rfl)
  rintro ⟨i, g⟩ ⟨hi, hg⟩ ih4 H locs ls hP hD hS hl
  have hP : va_P D vwCl [(h0, .inr (2, [.ref h1])), (h1, .inl (cyJ, 64, .inr (.inl (aL f))))] H := hP
  have hD : va_D A [(h0, .inr (2, [.ref h1])), (h1, .inl (cyJ, 64, .inr (.inl (aL f))))] := hD
  have hl : lv_has ls 4 [(3, .int (nI i)), (1, .long (lN g)), (0, .ref h0)] := hl
  subst hg
  refine lv_iload_n S.1 S.2.1 dX2_greatest_4 rfl (lv_at hl 0 rfl) ?_
  refine lv_bipush (v := nI 64) S.1 S.2.1 dX2_greatest_5 (by decide) ?_
  refine kn_icmp_ge S (by omega) (by omega) dX2_greatest_7 (tgt := 27) (by decide) (fun c7 => ?_) (fun c7 => ?_)
  · refine lv_lload_n S.1 S.2.1 dX2_greatest_27 rfl (lv_at hl 1 rfl) ?_
    refine k_topl (y := lN (mx f)) (by rw [show i = 64 by omega]) ?_
    exact hret _ _ _ _ dX2_greatest_28 hP hD hS
  · refine lv_lload_n S.1 S.2.1 dX2_greatest_10 rfl (lv_at hl 1 rfl) ?_
    refine lv_aload_n S.1 S.2.1 dX2_greatest_11 rfl (lv_at hl 2 rfl) ?_
    refine k_get S (C := RX2) (T := TX2) (N := 1) (ci := 2) hw_X2 hK hP 0 rfl rfl 0 (by decide) hf_9 rfl (v := .ref h1) rfl dX2_greatest_12 ?_
    refine lv_iload_n S.1 S.2.1 dX2_greatest_15 rfl (lv_at hl 0 rfl) ?_
    refine kn_lald S hK hP 1 1 rfl rfl (by omega) (by decide) dX2_greatest_16 ?_
    refine va_mmax_long S.1 S.2.1 (S.2.2.1.trans hl.1.symm) S.2.2.2.1 (S.2.2.2.2 (.methodLink RX2 27 Lib.MathLoose.max_long.x) (by decide +kernel)) (S.2.2.2.2 (.static Lib.MathLoose.max_long.x) (by decide +kernel)) (S.2.2.2.2 (.initialized "java/lang/Math") (by decide +kernel)) (S.2.2.2.2 (.code Lib.MathLoose.max_long.x Lib.MathLoose.max_long.code 4 (some .long)) (by decide +kernel)) (Nat.le_of_ble_eq_true rfl) (Nat.le_of_ble_eq_true rfl) (Nat.le_of_ble_eq_true rfl) (Nat.le_of_ble_eq_true rfl) dX2_greatest_17 ?_
    have hm := mxF_lt (f := f) (B := 9223372036854775808) (n := i) (by omega) (fun j hj => hf j (by omega))
    have hfi := hf i (by omega)
    refine k_topl (y := lN (mxF f (i + 1))) (mxF_stepL hm hfi) ?_
    refine lv_lstore_n (lv' := [(1, .long (lN (mxF f (i + 1)))), (3, .int (nI i)), (0, .ref h0)]) S.1 S.2.1 dX2_greatest_20 rfl hl (by decide) rfl (fun ls hl => ?_)
    refine lv_iinc (v := nI (i + 1)) (lv' := [(3, .int (nI (i + 1))), (1, .long (lN (mxF f (i + 1)))), (0, .ref h0)]) S.1 S.2.1 dX2_greatest_21 hl (k := 1) rfl (iinc_1 _) (by decide) rfl (fun ls hl => ?_)
    refine lv_goto (tgt := 4) S.1 S.2.1 dX2_greatest_24 (by decide) ?_
    exact ih4 (i + 1, mxF f (i + 1)) ⟨by omega, rfl⟩ (by show 64 - (i + 1) < 64 - i; omega) _ _ _ hP hD hS (lv_sub hl [0, 1, 2] rfl)

set_option maxHeartbeats 4000000 in
set_option maxRecDepth 100000 in
theorem c_X2_greatestCell (l : Launch) (D : va_G) (cyI cyJ cyZ : ClassId) (sz : Nat) (h0 : Nat) (h1 : Nat) (f : Nat → Nat) (hf : ∀ j, j < 64 → f j < 9223372036854775808) : Met l yX2_greatestCell wsX2_greatestCell ({ frames := 3, cells := 0, slots := 0, locals := 83 } : Room) (mPc D [(cyI, .int), (cyJ, .long), (cyZ, .boolean)] [(h0, .inr (2, [.ref h1])), (h1, .inl (cyJ, 64, .inr (.inl (aL f))))] sz [.ref h0]) (va_Qi (fun (r : Int32) (u : va_W) => r = nI (md f) ∧ u = [(h0, .inr (2, [.ref h1])), (h1, .inl (cyJ, 64, .inr (.inl (aL f))))]) (mB D [(cyI, .int), (cyJ, .long), (cyZ, .boolean)] (va_A [(h0, .inr (2, [.ref h1])), (h1, .inl (cyJ, 64, .inr (.inl (aL f))))] sz)) (va_A [(h0, .inr (2, [.ref h1])), (h1, .inl (cyJ, 64, .inr (.inl (aL f))))] sz)) 0 0 (va_A [(h0, .inr (2, [.ref h1])), (h1, .inl (cyJ, 64, .inr (.inl (aL f))))] sz) := by
  refine st_i (own := RX2) (lv0 := [(0, .ref h0)]) (by decide) rfl rfl (Nat.le_of_ble_eq_true rfl) rfl ?_
  intro p e s m below meth c A Q S hin hA hK hP hD hG hS hret ls hl
  have hw_X2 : ∀ w ∈ u_ws RX2 TX2 1, w ∈ wsX2_greatestCell := by decide +kernel
  have hf_9 := S.2.2.2.2 (.fieldLink RX2 9 "Particleway$Chart" "numbers" "[J") (by decide +kernel)
  have hm := mxF_lt (f := f) (B := 9223372036854775808) (n := 64) (by omega) hf
  refine lv_aload_n S.1 S.2.1 dX2_greatestCell_0 rfl (lv_at hl 0 rfl) ?_
  refine kcV_l S (wc := [(h0, .inr (2, [.ref h1])), (h1, .inl (cyJ, 64, .inr (.inl (aL f))))]) (wr := []) (ws2 := [(h0, .inr (2, [.ref h1])), (h1, .inl (cyJ, 64, .inr (.inl (aL f))))]) (As := []) (rest := []) (c_X2_greatest l D cyI cyJ cyZ s.heap.size h0 h1 f (by first | assumption | omega)) (cwV 0 S.2.2.2.2 gX2_greatestCell_X2_greatest rfl rfl rfl (by decide +kernel) ⟨Nat.le_of_ble_eq_true rfl, Nat.le_of_ble_eq_true rfl⟩) hK hP hD hS hA hG [0, 1] [] [0, 1] rfl rfl rfl rfl (by decide) rfl rfl (ci := 2) (q0 := 0) rfl rfl rfl hl.1 rfl (Nat.le_of_ble_eq_true rfl) dX2_greatestCell_1 ⟨Nat.le_of_ble_eq_true rfl, Nat.le_of_ble_eq_true rfl⟩ (fun H locs hP hD hS => ?_)
  refine lv_lstore_n (lv' := [(1, .long (lN (mx f))), (0, .ref h0)]) S.1 S.2.1 dX2_greatestCell_4 rfl hl (by decide) rfl (fun ls hl => ?_)
  refine lv_iconst (v := nI 0) S.1 S.2.1 dX2_greatestCell_5 (by decide) ?_
  refine lv_istore_n (lv' := [(3, .int (nI 0)), (1, .long (lN (mx f))), (0, .ref h0)]) S.1 S.2.1 dX2_greatestCell_6 rfl hl (by decide) rfl (fun ls hl => ?_)
  refine wl (σ := Nat) (fun i => [(h0, .inr (2, [.ref h1])), (h1, .inl (cyJ, 64, .inr (.inl (aL f))))]) (fun i => [(3, .int (nI i)), (1, .long (lN (mx f))), (0, .ref h0)]) (fun i => (i ≤ 64) ∧ (mdF f (mx f) (64 - i) i = md f)) (fun i => 64 - i) ?_ 0 ⟨by omega, rfl⟩ hP hD hS (lv_sub hl [0, 1, 2] rfl)
  rintro i ⟨hi, hg⟩ ih7 H locs ls hP hD hS hl
  have hP : va_P D vwCl [(h0, .inr (2, [.ref h1])), (h1, .inl (cyJ, 64, .inr (.inl (aL f))))] H := hP
  have hD : va_D A [(h0, .inr (2, [.ref h1])), (h1, .inl (cyJ, 64, .inr (.inl (aL f))))] := hD
  have hl : lv_has ls 4 [(3, .int (nI i)), (1, .long (lN (mx f))), (0, .ref h0)] := hl
  refine lv_iload_n S.1 S.2.1 dX2_greatestCell_7 rfl (lv_at hl 0 rfl) ?_
  refine lv_bipush (v := nI 64) S.1 S.2.1 dX2_greatestCell_8 (by decide) ?_
  refine kn_icmp_ge S (by omega) (by omega) dX2_greatestCell_10 (tgt := 32) (by decide) (fun c10 => ?_) (fun c10 => ?_)
  · exfalso; have h6 := (md_lt f).1; rw [← hg, show i = 64 by omega] at h6; exact Nat.lt_irrefl 64 h6
  · have hfi := hf i (by omega)
    refine lv_aload_n S.1 S.2.1 dX2_greatestCell_13 rfl (lv_at hl 2 rfl) ?_
    refine k_get S (C := RX2) (T := TX2) (N := 1) (ci := 2) hw_X2 hK hP 0 rfl rfl 0 (by decide) hf_9 rfl (v := .ref h1) rfl dX2_greatestCell_14 ?_
    refine lv_iload_n S.1 S.2.1 dX2_greatestCell_17 rfl (lv_at hl 0 rfl) ?_
    refine kn_lald S hK hP 1 1 rfl rfl (by omega) (by decide) dX2_greatestCell_18 ?_
    refine lv_lload_n S.1 S.2.1 dX2_greatestCell_19 rfl (lv_at hl 1 rfl) ?_
    refine kn_lcmp_ne S (by omega) (by omega) dX2_greatestCell_20 rfl dX2_greatestCell_21 (tgt := 26) (by decide) (fun c21 => ?_) (fun c21 => ?_)
    · refine lv_iinc (v := nI (i + 1)) (lv' := [(3, .int (nI (i + 1))), (1, .long (lN (mx f))), (0, .ref h0)]) S.1 S.2.1 dX2_greatestCell_26 hl (k := 0) rfl (iinc_1 _) (by decide) rfl (fun ls hl => ?_)
      refine lv_goto (tgt := 7) S.1 S.2.1 dX2_greatestCell_29 (by decide) ?_
      exact ih7 (i + 1) ⟨by omega, by rw [mdF_step (by omega) c21]; exact hg⟩ (by show 64 - (i + 1) < 64 - i; omega) _ _ _ hP hD hS (lv_sub hl [0, 1, 2] rfl)
    · refine lv_iload_n S.1 S.2.1 dX2_greatestCell_24 rfl (lv_at hl 0 rfl) ?_
      refine k_topi (y := nI (md f)) (by rw [← hg, mdF_hit (by omega) c21]) ?_
      exact hret _ _ _ _ dX2_greatestCell_25 hP hD hS

set_option maxHeartbeats 4000000 in
set_option maxRecDepth 100000 in
theorem c_X2_sumOf (l : Launch) (D : va_G) (cyI cyJ cyZ : ClassId) (sz : Nat) (h0 : Nat) (h1 : Nat) (f : Nat → Nat) (a : Nat) (b : Nat) (c0 : Nat) (d0 : Nat) (ha : a < 8) (hb : b < 8) (hc : c0 < 8) (hd : d0 < 8) : Met l yX2_sumOf wsX2_sumOf ({ frames := 2, cells := 0, slots := 0, locals := 60 } : Room) (mPc D [(cyI, .int), (cyJ, .long), (cyZ, .boolean)] [(h0, .inr (2, [.ref h1])), (h1, .inl (cyJ, 64, .inr (.inl (aL f))))] sz [.ref h0, .int (nI a), .int (nI b), .int (nI c0), .int (nI d0)]) (va_Ql (fun (r : Int64) (u : va_W) => r = lN (boxF f a b c0 d0 64) ∧ u = [(h0, .inr (2, [.ref h1])), (h1, .inl (cyJ, 64, .inr (.inl (aL f))))]) (mB D [(cyI, .int), (cyJ, .long), (cyZ, .boolean)] (va_A [(h0, .inr (2, [.ref h1])), (h1, .inl (cyJ, 64, .inr (.inl (aL f))))] sz)) (va_A [(h0, .inr (2, [.ref h1])), (h1, .inl (cyJ, 64, .inr (.inl (aL f))))] sz)) 0 0 (va_A [(h0, .inr (2, [.ref h1])), (h1, .inl (cyJ, 64, .inr (.inl (aL f))))] sz) := by
  refine st_l (own := RX2) (lv0 := [(0, .ref h0), (1, .int (nI a)), (2, .int (nI b)), (3, .int (nI c0)), (4, .int (nI d0))]) (by decide) rfl rfl (Nat.le_of_ble_eq_true rfl) rfl ?_
  intro p e s m below meth c A Q S hin hA hK hP hD hG hS hret ls hl
  have hw_X2 : ∀ w ∈ u_ws RX2 TX2 1, w ∈ wsX2_sumOf := by decide +kernel
  have hf_9 := S.2.2.2.2 (.fieldLink RX2 9 "Particleway$Chart" "numbers" "[J") (by decide +kernel)
  refine lv_lconst (v := lN 0) S.1 S.2.1 dX2_sumOf_0 (by decide) ?_
  refine lv_lstore (lv' := [(5, .long (lN 0)), (0, .ref h0), (1, .int (nI a)), (2, .int (nI b)), (3, .int (nI c0)), (4, .int (nI d0))]) S.1 S.2.1 dX2_sumOf_1 hl (by decide) rfl (fun ls hl => ?_)
  refine lv_iconst (v := nI 0) S.1 S.2.1 dX2_sumOf_3 (by decide) ?_
  refine lv_istore (lv' := [(7, .int (nI 0)), (5, .long (lN 0)), (0, .ref h0), (1, .int (nI a)), (2, .int (nI b)), (3, .int (nI c0)), (4, .int (nI d0))]) S.1 S.2.1 dX2_sumOf_4 hl (by decide) rfl (fun ls hl => ?_)
  refine wl (σ := Nat × Nat) (fun (i, g) => [(h0, .inr (2, [.ref h1])), (h1, .inl (cyJ, 64, .inr (.inl (aL f))))]) (fun (i, g) => [(7, .int (nI i)), (5, .long (lN g)), (0, .ref h0), (1, .int (nI a)), (2, .int (nI b)), (3, .int (nI c0)), (4, .int (nI d0))]) (fun (i, g) => (i ≤ 64) ∧ (g = boxF f a b c0 d0 i)) (fun (i, g) => 64 - i) ?_ (0, 0) ⟨by omega, rfl⟩ hP hD hS (lv_sub hl [0, 1, 2, 3, 4, 5, 6] rfl)
  rintro ⟨i, g⟩ ⟨hi, hg⟩ ih6 H locs ls hP hD hS hl
  have hP : va_P D vwCl [(h0, .inr (2, [.ref h1])), (h1, .inl (cyJ, 64, .inr (.inl (aL f))))] H := hP
  have hD : va_D A [(h0, .inr (2, [.ref h1])), (h1, .inl (cyJ, 64, .inr (.inl (aL f))))] := hD
  have hl : lv_has ls 10 [(7, .int (nI i)), (5, .long (lN g)), (0, .ref h0), (1, .int (nI a)), (2, .int (nI b)), (3, .int (nI c0)), (4, .int (nI d0))] := hl
  refine lv_iload S.1 S.2.1 dX2_sumOf_6 (lv_at hl 0 rfl) ?_
  refine lv_bipush (v := nI 64) S.1 S.2.1 dX2_sumOf_8 (by decide) ?_
  refine kn_icmp_ge S (by omega) (by omega) dX2_sumOf_10 (tgt := 70) (by decide) (fun c10 => ?_) (fun c10 => ?_)
  · refine lv_lload S.1 S.2.1 dX2_sumOf_70 (lv_at hl 1 rfl) ?_
    refine k_topl (y := lN (boxF f a b c0 d0 64)) (by rw [hg, show i = 64 by omega]) ?_
    exact hret _ _ _ _ dX2_sumOf_72 hP hD hS
  · refine lv_iload S.1 S.2.1 dX2_sumOf_13 (lv_at hl 0 rfl) ?_
    refine lv_bipush (v := nI 8) S.1 S.2.1 dX2_sumOf_15 (by decide) ?_
    refine kn_irem S (by omega) (by omega) (by omega) dX2_sumOf_17 ?_
    refine lv_istore (lv' := [(8, .int (nI (i % 8))), (7, .int (nI i)), (5, .long (lN g)), (0, .ref h0), (1, .int (nI a)), (2, .int (nI b)), (3, .int (nI c0)), (4, .int (nI d0))]) S.1 S.2.1 dX2_sumOf_18 hl (by decide) rfl (fun ls hl => ?_)
    refine lv_iload S.1 S.2.1 dX2_sumOf_20 (lv_at hl 1 rfl) ?_
    refine lv_bipush (v := nI 8) S.1 S.2.1 dX2_sumOf_22 (by decide) ?_
    refine kn_idiv S (by omega) (by omega) (by omega) dX2_sumOf_24 ?_
    refine lv_istore (lv' := [(9, .int (nI (i / 8))), (8, .int (nI (i % 8))), (7, .int (nI i)), (5, .long (lN g)), (0, .ref h0), (1, .int (nI a)), (2, .int (nI b)), (3, .int (nI c0)), (4, .int (nI d0))]) S.1 S.2.1 dX2_sumOf_25 hl (by decide) rfl (fun ls hl => ?_)
    refine lv_iload S.1 S.2.1 dX2_sumOf_27 (lv_at hl 1 rfl) ?_
    refine lv_iload_n S.1 S.2.1 dX2_sumOf_29 rfl (lv_at hl 5 rfl) ?_
    refine kn_icmp_lt S (by omega) (by omega) dX2_sumOf_30 (tgt := 64) (by decide) (fun c30 => ?_) (fun c30 => ?_)
    · refine lv_iinc (v := nI (i + 1)) (lv' := [(7, .int (nI (i + 1))), (9, .int (nI (i / 8))), (8, .int (nI (i % 8))), (5, .long (lN g)), (0, .ref h0), (1, .int (nI a)), (2, .int (nI b)), (3, .int (nI c0)), (4, .int (nI d0))]) S.1 S.2.1 dX2_sumOf_64 hl (k := 2) rfl (iinc_1 _) (by decide) rfl (fun ls hl => ?_)
      refine lv_goto (tgt := 6) S.1 S.2.1 dX2_sumOf_67 (by decide) ?_
      exact ih6 (i + 1, g) ⟨by omega, by first | (rw [boxF, if_pos (by omega), hg]) | (rw [boxF, if_neg (by omega), hg]; rfl)⟩ (by show 64 - (i + 1) < 64 - i; omega) _ _ _ hP hD hS (lv_sub hl [0, 3, 4, 5, 6, 7, 8] rfl)
    · refine lv_iload S.1 S.2.1 dX2_sumOf_33 (lv_at hl 1 rfl) ?_
      refine lv_iload_n S.1 S.2.1 dX2_sumOf_35 rfl (lv_at hl 7 rfl) ?_
      refine kn_icmp_gt S (by omega) (by omega) dX2_sumOf_36 (tgt := 64) (by decide) (fun c36 => ?_) (fun c36 => ?_)
      · refine lv_iinc (v := nI (i + 1)) (lv' := [(7, .int (nI (i + 1))), (9, .int (nI (i / 8))), (8, .int (nI (i % 8))), (5, .long (lN g)), (0, .ref h0), (1, .int (nI a)), (2, .int (nI b)), (3, .int (nI c0)), (4, .int (nI d0))]) S.1 S.2.1 dX2_sumOf_64 hl (k := 2) rfl (iinc_1 _) (by decide) rfl (fun ls hl => ?_)
        refine lv_goto (tgt := 6) S.1 S.2.1 dX2_sumOf_67 (by decide) ?_
        exact ih6 (i + 1, g) ⟨by omega, by first | (rw [boxF, if_pos (by omega), hg]) | (rw [boxF, if_neg (by omega), hg]; rfl)⟩ (by show 64 - (i + 1) < 64 - i; omega) _ _ _ hP hD hS (lv_sub hl [0, 3, 4, 5, 6, 7, 8] rfl)
      · refine lv_iload S.1 S.2.1 dX2_sumOf_39 (lv_at hl 0 rfl) ?_
        refine lv_iload_n S.1 S.2.1 dX2_sumOf_41 rfl (lv_at hl 6 rfl) ?_
        refine kn_icmp_lt S (by omega) (by omega) dX2_sumOf_42 (tgt := 64) (by decide) (fun c42 => ?_) (fun c42 => ?_)
        · refine lv_iinc (v := nI (i + 1)) (lv' := [(7, .int (nI (i + 1))), (9, .int (nI (i / 8))), (8, .int (nI (i % 8))), (5, .long (lN g)), (0, .ref h0), (1, .int (nI a)), (2, .int (nI b)), (3, .int (nI c0)), (4, .int (nI d0))]) S.1 S.2.1 dX2_sumOf_64 hl (k := 2) rfl (iinc_1 _) (by decide) rfl (fun ls hl => ?_)
          refine lv_goto (tgt := 6) S.1 S.2.1 dX2_sumOf_67 (by decide) ?_
          exact ih6 (i + 1, g) ⟨by omega, by first | (rw [boxF, if_pos (by omega), hg]) | (rw [boxF, if_neg (by omega), hg]; rfl)⟩ (by show 64 - (i + 1) < 64 - i; omega) _ _ _ hP hD hS (lv_sub hl [0, 3, 4, 5, 6, 7, 8] rfl)
        · refine lv_iload S.1 S.2.1 dX2_sumOf_45 (lv_at hl 0 rfl) ?_
          refine lv_iload S.1 S.2.1 dX2_sumOf_47 (lv_at hl 8 rfl) ?_
          refine kn_icmp_gt S (by omega) (by omega) dX2_sumOf_49 (tgt := 64) (by decide) (fun c49 => ?_) (fun c49 => ?_)
          · refine lv_iinc (v := nI (i + 1)) (lv' := [(7, .int (nI (i + 1))), (9, .int (nI (i / 8))), (8, .int (nI (i % 8))), (5, .long (lN g)), (0, .ref h0), (1, .int (nI a)), (2, .int (nI b)), (3, .int (nI c0)), (4, .int (nI d0))]) S.1 S.2.1 dX2_sumOf_64 hl (k := 2) rfl (iinc_1 _) (by decide) rfl (fun ls hl => ?_)
            refine lv_goto (tgt := 6) S.1 S.2.1 dX2_sumOf_67 (by decide) ?_
            exact ih6 (i + 1, g) ⟨by omega, by first | (rw [boxF, if_pos (by omega), hg]) | (rw [boxF, if_neg (by omega), hg]; rfl)⟩ (by show 64 - (i + 1) < 64 - i; omega) _ _ _ hP hD hS (lv_sub hl [0, 3, 4, 5, 6, 7, 8] rfl)
          · refine lv_lload S.1 S.2.1 dX2_sumOf_52 (lv_at hl 3 rfl) ?_
            refine lv_aload_n S.1 S.2.1 dX2_sumOf_54 rfl (lv_at hl 4 rfl) ?_
            refine k_get S (C := RX2) (T := TX2) (N := 1) (ci := 2) hw_X2 hK hP 0 rfl rfl 0 (by decide) hf_9 rfl (v := .ref h1) rfl dX2_sumOf_55 ?_
            refine lv_iload S.1 S.2.1 dX2_sumOf_58 (lv_at hl 2 rfl) ?_
            refine kn_lald S hK hP 1 1 rfl rfl (by omega) (by decide) dX2_sumOf_60 ?_
            refine kn_ladd S dX2_sumOf_61 ?_
            refine lv_lstore (lv' := [(5, .long (lN (g + (f i)))), (9, .int (nI (i / 8))), (8, .int (nI (i % 8))), (7, .int (nI i)), (0, .ref h0), (1, .int (nI a)), (2, .int (nI b)), (3, .int (nI c0)), (4, .int (nI d0))]) S.1 S.2.1 dX2_sumOf_62 hl (by decide) rfl (fun ls hl => ?_)
            refine lv_iinc (v := nI (i + 1)) (lv' := [(7, .int (nI (i + 1))), (5, .long (lN (g + (f i)))), (9, .int (nI (i / 8))), (8, .int (nI (i % 8))), (0, .ref h0), (1, .int (nI a)), (2, .int (nI b)), (3, .int (nI c0)), (4, .int (nI d0))]) S.1 S.2.1 dX2_sumOf_64 hl (k := 3) rfl (iinc_1 _) (by decide) rfl (fun ls hl => ?_)
            refine lv_goto (tgt := 6) S.1 S.2.1 dX2_sumOf_67 (by decide) ?_
            exact ih6 (i + 1, g + (f i)) ⟨by omega, by first | (rw [boxF, if_pos (by omega), hg]) | (rw [boxF, if_neg (by omega), hg]; rfl)⟩ (by show 64 - (i + 1) < 64 - i; omega) _ _ _ hP hD hS (lv_sub hl [0, 1, 4, 5, 6, 7, 8] rfl)

set_option maxHeartbeats 4000000 in
set_option maxRecDepth 100000 in
theorem c_X2_sum (l : Launch) (D : va_G) (cyI cyJ cyZ : ClassId) (sz : Nat) (h0 : Nat) (h1 : Nat) (f : Nat → Nat) : Met l yX2_sum wsX2_sum ({ frames := 3, cells := 0, slots := 0, locals := 89 } : Room) (mPc D [(cyI, .int), (cyJ, .long), (cyZ, .boolean)] [(h0, .inr (2, [.ref h1])), (h1, .inl (cyJ, 64, .inr (.inl (aL f))))] sz [.ref h0]) (va_Ql (fun (r : Int64) (u : va_W) => r = lN (smF f 64) ∧ u = [(h0, .inr (2, [.ref h1])), (h1, .inl (cyJ, 64, .inr (.inl (aL f))))]) (mB D [(cyI, .int), (cyJ, .long), (cyZ, .boolean)] (va_A [(h0, .inr (2, [.ref h1])), (h1, .inl (cyJ, 64, .inr (.inl (aL f))))] sz)) (va_A [(h0, .inr (2, [.ref h1])), (h1, .inl (cyJ, 64, .inr (.inl (aL f))))] sz)) 0 0 (va_A [(h0, .inr (2, [.ref h1])), (h1, .inl (cyJ, 64, .inr (.inl (aL f))))] sz) := by
  refine st_l (own := RX2) (lv0 := [(0, .ref h0)]) (by decide) rfl rfl (Nat.le_of_ble_eq_true rfl) rfl ?_
  intro p e s m below meth c A Q S hin hA hK hP hD hG hS hret ls hl
  refine lv_aload_n S.1 S.2.1 dX2_sum_0 rfl (lv_at hl 0 rfl) ?_
  refine lv_iconst (v := nI 0) S.1 S.2.1 dX2_sum_1 (by decide) ?_
  refine lv_iconst (v := nI 0) S.1 S.2.1 dX2_sum_2 (by decide) ?_
  refine lv_bipush (v := nI 7) S.1 S.2.1 dX2_sum_3 (by decide) ?_
  refine lv_bipush (v := nI 7) S.1 S.2.1 dX2_sum_5 (by decide) ?_
  refine kcV_l S (wc := [(h0, .inr (2, [.ref h1])), (h1, .inl (cyJ, 64, .inr (.inl (aL f))))]) (wr := []) (ws2 := [(h0, .inr (2, [.ref h1])), (h1, .inl (cyJ, 64, .inr (.inl (aL f))))]) (As := [.int (nI 0), .int (nI 0), .int (nI 7), .int (nI 7)]) (rest := []) (c_X2_sumOf l D cyI cyJ cyZ s.heap.size h0 h1 f 0 0 7 7 (by first | assumption | omega) (by first | assumption | omega) (by first | assumption | omega) (by first | assumption | omega)) (cwV 4 S.2.2.2.2 gX2_sum_X2_sumOf rfl rfl rfl (by decide +kernel) ⟨Nat.le_of_ble_eq_true rfl, Nat.le_of_ble_eq_true rfl⟩) hK hP hD hS hA hG [0, 1] [] [0, 1] rfl rfl rfl rfl (by decide) rfl rfl (ci := 2) (q0 := 0) rfl rfl rfl hl.1 rfl (Nat.le_of_ble_eq_true rfl) dX2_sum_7 ⟨Nat.le_of_ble_eq_true rfl, Nat.le_of_ble_eq_true rfl⟩ (fun H locs hP hD hS => ?_)
  refine k_topl (y := lN (smF f 64)) (by rw [boxF_all f (by omega)]) ?_
  exact hret _ _ _ _ dX2_sum_10 hP hD hS

set_option maxHeartbeats 4000000 in
set_option maxRecDepth 100000 in
theorem c_X2_coordinateSum (l : Launch) (D : va_G) (cyI cyJ cyZ : ClassId) (sz : Nat) (h0 : Nat) (h1 : Nat) (f : Nat → Nat) (b : Bool) : Met l yX2_coordinateSum wsX2_coordinateSum ({ frames := 2, cells := 0, slots := 0, locals := 60 } : Room) (mPc D [(cyI, .int), (cyJ, .long), (cyZ, .boolean)] [(h0, .inr (2, [.ref h1])), (h1, .inl (cyJ, 64, .inr (.inl (aL f))))] sz [.ref h0, .int (bI b)]) (va_Ql (fun (r : Int64) (u : va_W) => r = lN (csF f b 64) ∧ u = [(h0, .inr (2, [.ref h1])), (h1, .inl (cyJ, 64, .inr (.inl (aL f))))]) (mB D [(cyI, .int), (cyJ, .long), (cyZ, .boolean)] (va_A [(h0, .inr (2, [.ref h1])), (h1, .inl (cyJ, 64, .inr (.inl (aL f))))] sz)) (va_A [(h0, .inr (2, [.ref h1])), (h1, .inl (cyJ, 64, .inr (.inl (aL f))))] sz)) 0 0 (va_A [(h0, .inr (2, [.ref h1])), (h1, .inl (cyJ, 64, .inr (.inl (aL f))))] sz) := by
  refine st_l (own := RX2) (lv0 := [(0, .ref h0), (1, .int (bI b))]) (by decide) rfl rfl (Nat.le_of_ble_eq_true rfl) rfl ?_
  intro p e s m below meth c A Q S hin hA hK hP hD hG hS hret ls hl
  have hw_X2 : ∀ w ∈ u_ws RX2 TX2 1, w ∈ wsX2_coordinateSum := by decide +kernel
  have hf_9 := S.2.2.2.2 (.fieldLink RX2 9 "Particleway$Chart" "numbers" "[J") (by decide +kernel)
  refine lv_lconst (v := lN 0) S.1 S.2.1 dX2_coordinateSum_0 (by decide) ?_
  refine lv_lstore_n (lv' := [(2, .long (lN 0)), (0, .ref h0), (1, .int (bI b))]) S.1 S.2.1 dX2_coordinateSum_1 rfl hl (by decide) rfl (fun ls hl => ?_)
  refine lv_iconst (v := nI 0) S.1 S.2.1 dX2_coordinateSum_2 (by decide) ?_
  refine lv_istore (lv' := [(4, .int (nI 0)), (2, .long (lN 0)), (0, .ref h0), (1, .int (bI b))]) S.1 S.2.1 dX2_coordinateSum_3 hl (by decide) rfl (fun ls hl => ?_)
  refine wl (σ := Nat × Nat) (fun (i, g) => [(h0, .inr (2, [.ref h1])), (h1, .inl (cyJ, 64, .inr (.inl (aL f))))]) (fun (i, g) => [(4, .int (nI i)), (2, .long (lN g)), (0, .ref h0), (1, .int (bI b))]) (fun (i, g) => (i ≤ 64) ∧ (g = csF f b i)) (fun (i, g) => 64 - i) ?_ (0, 0) ⟨by omega, rfl⟩ hP hD hS (lv_sub hl [0, 1, 2, 3] rfl)
  rintro ⟨i, g⟩ ⟨hi, hg⟩ ih5 H locs ls hP hD hS hl
  have hP : va_P D vwCl [(h0, .inr (2, [.ref h1])), (h1, .inl (cyJ, 64, .inr (.inl (aL f))))] H := hP
  have hD : va_D A [(h0, .inr (2, [.ref h1])), (h1, .inl (cyJ, 64, .inr (.inl (aL f))))] := hD
  have hl : lv_has ls 5 [(4, .int (nI i)), (2, .long (lN g)), (0, .ref h0), (1, .int (bI b))] := hl
  refine lv_iload S.1 S.2.1 dX2_coordinateSum_5 (lv_at hl 0 rfl) ?_
  refine lv_bipush (v := nI 64) S.1 S.2.1 dX2_coordinateSum_7 (by decide) ?_
  refine kn_icmp_ge S (by omega) (by omega) dX2_coordinateSum_9 (tgt := 47) (by decide) (fun c9 => ?_) (fun c9 => ?_)
  · refine lv_lload_n S.1 S.2.1 dX2_coordinateSum_47 rfl (lv_at hl 1 rfl) ?_
    refine k_topl (y := lN (csF f b 64)) (by rw [hg, show i = 64 by omega]) ?_
    exact hret _ _ _ _ dX2_coordinateSum_48 hP hD hS
  · refine lv_lload_n S.1 S.2.1 dX2_coordinateSum_12 rfl (lv_at hl 1 rfl) ?_
    refine lv_aload_n S.1 S.2.1 dX2_coordinateSum_13 rfl (lv_at hl 2 rfl) ?_
    refine k_get S (C := RX2) (T := TX2) (N := 1) (ci := 2) hw_X2 hK hP 0 rfl rfl 0 (by decide) hf_9 rfl (v := .ref h1) rfl dX2_coordinateSum_14 ?_
    refine lv_iload S.1 S.2.1 dX2_coordinateSum_17 (lv_at hl 0 rfl) ?_
    refine kn_lald S hK hP 1 1 rfl rfl (by omega) (by decide) dX2_coordinateSum_19 ?_
    refine lv_iload_n S.1 S.2.1 dX2_coordinateSum_20 rfl (lv_at hl 3 rfl) ?_
    refine kb_if_eq S dX2_coordinateSum_21 (tgt := 32) (by decide) (fun c21 => ?_) (fun c21 => ?_)
    · refine lv_iload S.1 S.2.1 dX2_coordinateSum_32 (lv_at hl 0 rfl) ?_
      refine lv_bipush (v := nI 8) S.1 S.2.1 dX2_coordinateSum_34 (by decide) ?_
      refine kn_irem S (by omega) (by omega) (by omega) dX2_coordinateSum_36 ?_
      refine kn_i2l S (by omega) dX2_coordinateSum_37 ?_
      refine kn_lmul S dX2_coordinateSum_38 ?_
      refine kn_ladd S dX2_coordinateSum_39 ?_
      refine lv_lstore_n (lv' := [(2, .long (lN (g + ((f i) * (i % 8))))), (4, .int (nI i)), (0, .ref h0), (1, .int (bI b))]) S.1 S.2.1 dX2_coordinateSum_40 rfl hl (by decide) rfl (fun ls hl => ?_)
      refine lv_iinc (v := nI (i + 1)) (lv' := [(4, .int (nI (i + 1))), (2, .long (lN (g + ((f i) * (i % 8))))), (0, .ref h0), (1, .int (bI b))]) S.1 S.2.1 dX2_coordinateSum_41 hl (k := 1) rfl (iinc_1 _) (by decide) rfl (fun ls hl => ?_)
      refine lv_goto (tgt := 5) S.1 S.2.1 dX2_coordinateSum_44 (by decide) ?_
      exact ih5 (i + 1, g + ((f i) * (i % 8))) ⟨by omega, by rw [csF, hg]; simp [c21]⟩ (by show 64 - (i + 1) < 64 - i; omega) _ _ _ hP hD hS (lv_sub hl [0, 1, 2, 3] rfl)
    · refine lv_iload S.1 S.2.1 dX2_coordinateSum_24 (lv_at hl 0 rfl) ?_
      refine lv_bipush (v := nI 8) S.1 S.2.1 dX2_coordinateSum_26 (by decide) ?_
      refine kn_idiv S (by omega) (by omega) (by omega) dX2_coordinateSum_28 ?_
      refine lv_goto (tgt := 37) S.1 S.2.1 dX2_coordinateSum_29 (by decide) ?_
      refine kn_i2l S (by omega) dX2_coordinateSum_37 ?_
      refine kn_lmul S dX2_coordinateSum_38 ?_
      refine kn_ladd S dX2_coordinateSum_39 ?_
      refine lv_lstore_n (lv' := [(2, .long (lN (g + ((f i) * (i / 8))))), (4, .int (nI i)), (0, .ref h0), (1, .int (bI b))]) S.1 S.2.1 dX2_coordinateSum_40 rfl hl (by decide) rfl (fun ls hl => ?_)
      refine lv_iinc (v := nI (i + 1)) (lv' := [(4, .int (nI (i + 1))), (2, .long (lN (g + ((f i) * (i / 8))))), (0, .ref h0), (1, .int (bI b))]) S.1 S.2.1 dX2_coordinateSum_41 hl (k := 1) rfl (iinc_1 _) (by decide) rfl (fun ls hl => ?_)
      refine lv_goto (tgt := 5) S.1 S.2.1 dX2_coordinateSum_44 (by decide) ?_
      exact ih5 (i + 1, g + ((f i) * (i / 8))) ⟨by omega, by rw [csF, hg]; simp [c21]⟩ (by show 64 - (i + 1) < 64 - i; omega) _ _ _ hP hD hS (lv_sub hl [0, 1, 2, 3] rfl)

set_option maxHeartbeats 4000000 in
set_option maxRecDepth 100000 in
theorem c_X2_placeOf (l : Launch) (D : va_G) (cyI cyJ cyZ : ClassId) (sz : Nat) (h0 : Nat) (h1 : Nat) (f : Nat → Nat) (k : Nat) (hk : k < 64) (hf : ∀ j, j < 64 → f j < 9223372036854775808) : Met l yX2_placeOf wsX2_placeOf ({ frames := 4, cells := 0, slots := 0, locals := 101 } : Room) (mPc D [(cyI, .int), (cyJ, .long), (cyZ, .boolean)] [(h0, .inr (2, [.ref h1])), (h1, .inl (cyJ, 64, .inr (.inl (aL f))))] sz [.ref h0, .int (nI k)]) (va_Qi (fun (r : Int32) (u : va_W) => r = nI (plF f k 64) ∧ u = [(h0, .inr (2, [.ref h1])), (h1, .inl (cyJ, 64, .inr (.inl (aL f))))]) (mB D [(cyI, .int), (cyJ, .long), (cyZ, .boolean)] (va_A [(h0, .inr (2, [.ref h1])), (h1, .inl (cyJ, 64, .inr (.inl (aL f))))] sz)) (va_A [(h0, .inr (2, [.ref h1])), (h1, .inl (cyJ, 64, .inr (.inl (aL f))))] sz)) 0 0 (va_A [(h0, .inr (2, [.ref h1])), (h1, .inl (cyJ, 64, .inr (.inl (aL f))))] sz) := by
  refine st_i (own := RX2) (lv0 := [(0, .ref h0), (1, .int (nI k))]) (by decide) rfl rfl (Nat.le_of_ble_eq_true rfl) rfl ?_
  intro p e s m below meth c A Q S hin hA hK hP hD hG hS hret ls hl
  have hw_X2 : ∀ w ∈ u_ws RX2 TX2 1, w ∈ wsX2_placeOf := by decide +kernel
  have hf_9 := S.2.2.2.2 (.fieldLink RX2 9 "Particleway$Chart" "numbers" "[J") (by decide +kernel)
  have hfk := hf k hk
  refine lv_iconst (v := nI 0) S.1 S.2.1 dX2_placeOf_0 (by decide) ?_
  refine lv_istore_n (lv' := [(2, .int (nI 0)), (0, .ref h0), (1, .int (nI k))]) S.1 S.2.1 dX2_placeOf_1 rfl hl (by decide) rfl (fun ls hl => ?_)
  refine lv_iconst (v := nI 0) S.1 S.2.1 dX2_placeOf_2 (by decide) ?_
  refine lv_istore_n (lv' := [(3, .int (nI 0)), (2, .int (nI 0)), (0, .ref h0), (1, .int (nI k))]) S.1 S.2.1 dX2_placeOf_3 rfl hl (by decide) rfl (fun ls hl => ?_)
  refine wl (σ := Nat × Nat) (fun (i, g) => [(h0, .inr (2, [.ref h1])), (h1, .inl (cyJ, 64, .inr (.inl (aL f))))]) (fun (i, g) => [(3, .int (nI i)), (2, .int (nI g)), (0, .ref h0), (1, .int (nI k))]) (fun (i, g) => (i ≤ 64) ∧ (g = plF f k i)) (fun (i, g) => 64 - i) ?_ (0, 0) ⟨by omega, rfl⟩ hP hD hS (lv_sub hl [0, 1, 2, 3] rfl)
  rintro ⟨i, g⟩ ⟨hi, hg⟩ ih4 H locs ls hP hD hS hl
  have hP : va_P D vwCl [(h0, .inr (2, [.ref h1])), (h1, .inl (cyJ, 64, .inr (.inl (aL f))))] H := hP
  have hD : va_D A [(h0, .inr (2, [.ref h1])), (h1, .inl (cyJ, 64, .inr (.inl (aL f))))] := hD
  have hl : lv_has ls 5 [(3, .int (nI i)), (2, .int (nI g)), (0, .ref h0), (1, .int (nI k))] := hl
  refine lv_iload_n S.1 S.2.1 dX2_placeOf_4 rfl (lv_at hl 0 rfl) ?_
  refine lv_bipush (v := nI 64) S.1 S.2.1 dX2_placeOf_5 (by decide) ?_
  refine kn_icmp_ge S (by omega) (by omega) dX2_placeOf_7 (tgt := 66) (by decide) (fun c7 => ?_) (fun c7 => ?_)
  · refine lv_iload_n S.1 S.2.1 dX2_placeOf_66 rfl (lv_at hl 1 rfl) ?_
    refine k_topi (y := nI (plF f k 64)) (by rw [hg, show i = 64 by omega]) ?_
    exact hret _ _ _ _ dX2_placeOf_67 hP hD hS
  · have hfi := hf i (by omega)
    refine lv_aload_n S.1 S.2.1 dX2_placeOf_10 rfl (lv_at hl 2 rfl) ?_
    refine k_get S (C := RX2) (T := TX2) (N := 1) (ci := 2) hw_X2 hK hP 0 rfl rfl 0 (by decide) hf_9 rfl (v := .ref h1) rfl dX2_placeOf_11 ?_
    refine lv_iload_n S.1 S.2.1 dX2_placeOf_14 rfl (lv_at hl 0 rfl) ?_
    refine kn_lald S hK hP 1 1 rfl rfl (by omega) (by decide) dX2_placeOf_15 ?_
    refine lv_aload_n S.1 S.2.1 dX2_placeOf_16 rfl (lv_at hl 2 rfl) ?_
    refine lv_iload_n S.1 S.2.1 dX2_placeOf_17 rfl (lv_at hl 3 rfl) ?_
    refine kcV_l S (wc := [(h0, .inr (2, [.ref h1])), (h1, .inl (cyJ, 64, .inr (.inl (aL f))))]) (wr := []) (ws2 := [(h0, .inr (2, [.ref h1])), (h1, .inl (cyJ, 64, .inr (.inl (aL f))))]) (As := [.int (nI k)]) (rest := [.long (lN (f i))]) (c_X2_at l D cyI cyJ cyZ H.size h0 h1 f k (by first | assumption | omega)) (cwV 1 S.2.2.2.2 gX2_placeOf_X2_at rfl rfl rfl (by decide +kernel) ⟨Nat.le_of_ble_eq_true rfl, Nat.le_of_ble_eq_true rfl⟩) hK hP hD hS hA hG [0, 1] [] [0, 1] rfl rfl rfl rfl (by decide) rfl rfl (ci := 2) (q0 := 0) rfl rfl rfl hl.1 rfl (Nat.le_of_ble_eq_true rfl) dX2_placeOf_18 ⟨Nat.le_of_ble_eq_true rfl, Nat.le_of_ble_eq_true rfl⟩ (fun H locs hP hD hS => ?_)
    refine kn_lcmp_ne S (by omega) (by omega) dX2_placeOf_21 rfl dX2_placeOf_22 (tgt := 34) (by decide) (fun c22 => ?_) (fun c22 => ?_)
    · refine lv_iconst (v := nI 0) S.1 S.2.1 dX2_placeOf_34 (by decide) ?_
      refine lv_istore (lv' := [(4, .int (nI 0)), (3, .int (nI i)), (2, .int (nI g)), (0, .ref h0), (1, .int (nI k))]) S.1 S.2.1 dX2_placeOf_35 hl (by decide) rfl (fun ls hl => ?_)
      refine lv_aload_n S.1 S.2.1 dX2_placeOf_37 rfl (lv_at hl 3 rfl) ?_
      refine k_get S (C := RX2) (T := TX2) (N := 1) (ci := 2) hw_X2 hK hP 0 rfl rfl 0 (by decide) hf_9 rfl (v := .ref h1) rfl dX2_placeOf_38 ?_
      refine lv_iload_n S.1 S.2.1 dX2_placeOf_41 rfl (lv_at hl 1 rfl) ?_
      refine kn_lald S hK hP 1 1 rfl rfl (by omega) (by decide) dX2_placeOf_42 ?_
      refine lv_aload_n S.1 S.2.1 dX2_placeOf_43 rfl (lv_at hl 3 rfl) ?_
      refine lv_iload_n S.1 S.2.1 dX2_placeOf_44 rfl (lv_at hl 4 rfl) ?_
      refine kcV_l S (wc := [(h0, .inr (2, [.ref h1])), (h1, .inl (cyJ, 64, .inr (.inl (aL f))))]) (wr := []) (ws2 := [(h0, .inr (2, [.ref h1])), (h1, .inl (cyJ, 64, .inr (.inl (aL f))))]) (As := [.int (nI k)]) (rest := [.long (lN (f i))]) (c_X2_at l D cyI cyJ cyZ H.size h0 h1 f k (by first | assumption | omega)) (cwV 1 S.2.2.2.2 gX2_placeOf_X2_at rfl rfl rfl (by decide +kernel) ⟨Nat.le_of_ble_eq_true rfl, Nat.le_of_ble_eq_true rfl⟩) hK hP hD hS hA hG [0, 1] [] [0, 1] rfl rfl rfl rfl (by decide) rfl rfl (ci := 2) (q0 := 0) rfl rfl rfl hl.1 rfl (Nat.le_of_ble_eq_true rfl) dX2_placeOf_45 ⟨Nat.le_of_ble_eq_true rfl, Nat.le_of_ble_eq_true rfl⟩ (fun H locs hP hD hS => ?_)
      refine kn_lcmp_gt S (by omega) (by omega) dX2_placeOf_48 rfl dX2_placeOf_49 (tgt := 57) (by decide) (fun c49 => ?_) (fun c49 => ?_)
      · refine lv_iinc (v := nI (g + 1)) (lv' := [(2, .int (nI (g + 1))), (4, .int (nI 0)), (3, .int (nI i)), (0, .ref h0), (1, .int (nI k))]) S.1 S.2.1 dX2_placeOf_57 hl (k := 2) rfl (iinc_1 _) (by decide) rfl (fun ls hl => ?_)
        refine lv_iinc (v := nI (i + 1)) (lv' := [(3, .int (nI (i + 1))), (2, .int (nI (g + 1))), (4, .int (nI 0)), (0, .ref h0), (1, .int (nI k))]) S.1 S.2.1 dX2_placeOf_60 hl (k := 2) rfl (iinc_1 _) (by decide) rfl (fun ls hl => ?_)
        refine lv_goto (tgt := 4) S.1 S.2.1 dX2_placeOf_63 (by decide) ?_
        exact ih4 (i + 1, g + 1) ⟨by omega, by first | (rw [plF, if_pos (by omega), hg]) | (rw [plF, if_neg (by omega), hg]; rfl)⟩ (by show 64 - (i + 1) < 64 - i; omega) _ _ _ hP hD hS (lv_sub hl [0, 1, 3, 4] rfl)
      · refine lv_iload S.1 S.2.1 dX2_placeOf_52 (lv_at hl 0 rfl) ?_
        refine kn_if_eq S (by omega) dX2_placeOf_54 (tgt := 60) (by decide) (fun c54 => ?_) (fun c54 => ?_)
        · refine lv_iinc (v := nI (i + 1)) (lv' := [(3, .int (nI (i + 1))), (4, .int (nI 0)), (2, .int (nI g)), (0, .ref h0), (1, .int (nI k))]) S.1 S.2.1 dX2_placeOf_60 hl (k := 1) rfl (iinc_1 _) (by decide) rfl (fun ls hl => ?_)
          refine lv_goto (tgt := 4) S.1 S.2.1 dX2_placeOf_63 (by decide) ?_
          exact ih4 (i + 1, g) ⟨by omega, by first | (rw [plF, if_pos (by omega), hg]) | (rw [plF, if_neg (by omega), hg]; rfl)⟩ (by show 64 - (i + 1) < 64 - i; omega) _ _ _ hP hD hS (lv_sub hl [0, 2, 3, 4] rfl)
        · exact absurd c54 (by omega)
    · refine lv_iload_n S.1 S.2.1 dX2_placeOf_25 rfl (lv_at hl 0 rfl) ?_
      refine lv_iload_n S.1 S.2.1 dX2_placeOf_26 rfl (lv_at hl 3 rfl) ?_
      refine kn_icmp_ge S (by omega) (by omega) dX2_placeOf_27 (tgt := 34) (by decide) (fun c27 => ?_) (fun c27 => ?_)
      · refine lv_iconst (v := nI 0) S.1 S.2.1 dX2_placeOf_34 (by decide) ?_
        refine lv_istore (lv' := [(4, .int (nI 0)), (3, .int (nI i)), (2, .int (nI g)), (0, .ref h0), (1, .int (nI k))]) S.1 S.2.1 dX2_placeOf_35 hl (by decide) rfl (fun ls hl => ?_)
        refine lv_aload_n S.1 S.2.1 dX2_placeOf_37 rfl (lv_at hl 3 rfl) ?_
        refine k_get S (C := RX2) (T := TX2) (N := 1) (ci := 2) hw_X2 hK hP 0 rfl rfl 0 (by decide) hf_9 rfl (v := .ref h1) rfl dX2_placeOf_38 ?_
        refine lv_iload_n S.1 S.2.1 dX2_placeOf_41 rfl (lv_at hl 1 rfl) ?_
        refine kn_lald S hK hP 1 1 rfl rfl (by omega) (by decide) dX2_placeOf_42 ?_
        refine lv_aload_n S.1 S.2.1 dX2_placeOf_43 rfl (lv_at hl 3 rfl) ?_
        refine lv_iload_n S.1 S.2.1 dX2_placeOf_44 rfl (lv_at hl 4 rfl) ?_
        refine kcV_l S (wc := [(h0, .inr (2, [.ref h1])), (h1, .inl (cyJ, 64, .inr (.inl (aL f))))]) (wr := []) (ws2 := [(h0, .inr (2, [.ref h1])), (h1, .inl (cyJ, 64, .inr (.inl (aL f))))]) (As := [.int (nI k)]) (rest := [.long (lN (f i))]) (c_X2_at l D cyI cyJ cyZ H.size h0 h1 f k (by first | assumption | omega)) (cwV 1 S.2.2.2.2 gX2_placeOf_X2_at rfl rfl rfl (by decide +kernel) ⟨Nat.le_of_ble_eq_true rfl, Nat.le_of_ble_eq_true rfl⟩) hK hP hD hS hA hG [0, 1] [] [0, 1] rfl rfl rfl rfl (by decide) rfl rfl (ci := 2) (q0 := 0) rfl rfl rfl hl.1 rfl (Nat.le_of_ble_eq_true rfl) dX2_placeOf_45 ⟨Nat.le_of_ble_eq_true rfl, Nat.le_of_ble_eq_true rfl⟩ (fun H locs hP hD hS => ?_)
        refine kn_lcmp_gt S (by omega) (by omega) dX2_placeOf_48 rfl dX2_placeOf_49 (tgt := 57) (by decide) (fun c49 => ?_) (fun c49 => ?_)
        · refine lv_iinc (v := nI (g + 1)) (lv' := [(2, .int (nI (g + 1))), (4, .int (nI 0)), (3, .int (nI i)), (0, .ref h0), (1, .int (nI k))]) S.1 S.2.1 dX2_placeOf_57 hl (k := 2) rfl (iinc_1 _) (by decide) rfl (fun ls hl => ?_)
          refine lv_iinc (v := nI (i + 1)) (lv' := [(3, .int (nI (i + 1))), (2, .int (nI (g + 1))), (4, .int (nI 0)), (0, .ref h0), (1, .int (nI k))]) S.1 S.2.1 dX2_placeOf_60 hl (k := 2) rfl (iinc_1 _) (by decide) rfl (fun ls hl => ?_)
          refine lv_goto (tgt := 4) S.1 S.2.1 dX2_placeOf_63 (by decide) ?_
          exact ih4 (i + 1, g + 1) ⟨by omega, by first | (rw [plF, if_pos (by omega), hg]) | (rw [plF, if_neg (by omega), hg]; rfl)⟩ (by show 64 - (i + 1) < 64 - i; omega) _ _ _ hP hD hS (lv_sub hl [0, 1, 3, 4] rfl)
        · refine lv_iload S.1 S.2.1 dX2_placeOf_52 (lv_at hl 0 rfl) ?_
          refine kn_if_eq S (by omega) dX2_placeOf_54 (tgt := 60) (by decide) (fun c54 => ?_) (fun c54 => ?_)
          · refine lv_iinc (v := nI (i + 1)) (lv' := [(3, .int (nI (i + 1))), (4, .int (nI 0)), (2, .int (nI g)), (0, .ref h0), (1, .int (nI k))]) S.1 S.2.1 dX2_placeOf_60 hl (k := 1) rfl (iinc_1 _) (by decide) rfl (fun ls hl => ?_)
            refine lv_goto (tgt := 4) S.1 S.2.1 dX2_placeOf_63 (by decide) ?_
            exact ih4 (i + 1, g) ⟨by omega, by first | (rw [plF, if_pos (by omega), hg]) | (rw [plF, if_neg (by omega), hg]; rfl)⟩ (by show 64 - (i + 1) < 64 - i; omega) _ _ _ hP hD hS (lv_sub hl [0, 2, 3, 4] rfl)
          · exact absurd c54 (by omega)
      · refine lv_iconst (v := nI 1) S.1 S.2.1 dX2_placeOf_30 (by decide) ?_
        refine lv_goto (tgt := 35) S.1 S.2.1 dX2_placeOf_31 (by decide) ?_
        refine lv_istore (lv' := [(4, .int (nI 1)), (3, .int (nI i)), (2, .int (nI g)), (0, .ref h0), (1, .int (nI k))]) S.1 S.2.1 dX2_placeOf_35 hl (by decide) rfl (fun ls hl => ?_)
        refine lv_aload_n S.1 S.2.1 dX2_placeOf_37 rfl (lv_at hl 3 rfl) ?_
        refine k_get S (C := RX2) (T := TX2) (N := 1) (ci := 2) hw_X2 hK hP 0 rfl rfl 0 (by decide) hf_9 rfl (v := .ref h1) rfl dX2_placeOf_38 ?_
        refine lv_iload_n S.1 S.2.1 dX2_placeOf_41 rfl (lv_at hl 1 rfl) ?_
        refine kn_lald S hK hP 1 1 rfl rfl (by omega) (by decide) dX2_placeOf_42 ?_
        refine lv_aload_n S.1 S.2.1 dX2_placeOf_43 rfl (lv_at hl 3 rfl) ?_
        refine lv_iload_n S.1 S.2.1 dX2_placeOf_44 rfl (lv_at hl 4 rfl) ?_
        refine kcV_l S (wc := [(h0, .inr (2, [.ref h1])), (h1, .inl (cyJ, 64, .inr (.inl (aL f))))]) (wr := []) (ws2 := [(h0, .inr (2, [.ref h1])), (h1, .inl (cyJ, 64, .inr (.inl (aL f))))]) (As := [.int (nI k)]) (rest := [.long (lN (f i))]) (c_X2_at l D cyI cyJ cyZ H.size h0 h1 f k (by first | assumption | omega)) (cwV 1 S.2.2.2.2 gX2_placeOf_X2_at rfl rfl rfl (by decide +kernel) ⟨Nat.le_of_ble_eq_true rfl, Nat.le_of_ble_eq_true rfl⟩) hK hP hD hS hA hG [0, 1] [] [0, 1] rfl rfl rfl rfl (by decide) rfl rfl (ci := 2) (q0 := 0) rfl rfl rfl hl.1 rfl (Nat.le_of_ble_eq_true rfl) dX2_placeOf_45 ⟨Nat.le_of_ble_eq_true rfl, Nat.le_of_ble_eq_true rfl⟩ (fun H locs hP hD hS => ?_)
        refine kn_lcmp_gt S (by omega) (by omega) dX2_placeOf_48 rfl dX2_placeOf_49 (tgt := 57) (by decide) (fun c49 => ?_) (fun c49 => ?_)
        · refine lv_iinc (v := nI (g + 1)) (lv' := [(2, .int (nI (g + 1))), (4, .int (nI 1)), (3, .int (nI i)), (0, .ref h0), (1, .int (nI k))]) S.1 S.2.1 dX2_placeOf_57 hl (k := 2) rfl (iinc_1 _) (by decide) rfl (fun ls hl => ?_)
          refine lv_iinc (v := nI (i + 1)) (lv' := [(3, .int (nI (i + 1))), (2, .int (nI (g + 1))), (4, .int (nI 1)), (0, .ref h0), (1, .int (nI k))]) S.1 S.2.1 dX2_placeOf_60 hl (k := 2) rfl (iinc_1 _) (by decide) rfl (fun ls hl => ?_)
          refine lv_goto (tgt := 4) S.1 S.2.1 dX2_placeOf_63 (by decide) ?_
          exact ih4 (i + 1, g + 1) ⟨by omega, by first | (rw [plF, if_pos (by omega), hg]) | (rw [plF, if_neg (by omega), hg]; rfl)⟩ (by show 64 - (i + 1) < 64 - i; omega) _ _ _ hP hD hS (lv_sub hl [0, 1, 3, 4] rfl)
        · refine lv_iload S.1 S.2.1 dX2_placeOf_52 (lv_at hl 0 rfl) ?_
          refine kn_if_eq S (by omega) dX2_placeOf_54 (tgt := 60) (by decide) (fun c54 => ?_) (fun c54 => ?_)
          · exact absurd c54 (by omega)
          · refine lv_iinc (v := nI (g + 1)) (lv' := [(2, .int (nI (g + 1))), (4, .int (nI 1)), (3, .int (nI i)), (0, .ref h0), (1, .int (nI k))]) S.1 S.2.1 dX2_placeOf_57 hl (k := 2) rfl (iinc_1 _) (by decide) rfl (fun ls hl => ?_)
            refine lv_iinc (v := nI (i + 1)) (lv' := [(3, .int (nI (i + 1))), (2, .int (nI (g + 1))), (4, .int (nI 1)), (0, .ref h0), (1, .int (nI k))]) S.1 S.2.1 dX2_placeOf_60 hl (k := 2) rfl (iinc_1 _) (by decide) rfl (fun ls hl => ?_)
            refine lv_goto (tgt := 4) S.1 S.2.1 dX2_placeOf_63 (by decide) ?_
            exact ih4 (i + 1, g + 1) ⟨by omega, by first | (rw [plF, if_pos (by omega), hg]) | (rw [plF, if_neg (by omega), hg]; rfl)⟩ (by show 64 - (i + 1) < 64 - i; omega) _ _ _ hP hD hS (lv_sub hl [0, 1, 3, 4] rfl)

set_option maxHeartbeats 4000000 in
set_option maxRecDepth 100000 in
theorem c_X2_cellAtPlace (l : Launch) (D : va_G) (cyI cyJ cyZ : ClassId) (sz : Nat) (h0 : Nat) (h1 : Nat) (f : Nat → Nat) (pl : Int32) (hf : ∀ j, j < 64 → f j < 9223372036854775808) : Met l yX2_cellAtPlace wsX2_cellAtPlace ({ frames := 5, cells := 0, slots := 0, locals := 125 } : Room) (mPc D [(cyI, .int), (cyJ, .long), (cyZ, .boolean)] [(h0, .inr (2, [.ref h1])), (h1, .inl (cyJ, 64, .inr (.inl (aL f))))] sz [.ref h0, .int pl]) (va_Qi (fun (r : Int32) (u : va_W) => r = bpF f pl 64 0 ∧ u = [(h0, .inr (2, [.ref h1])), (h1, .inl (cyJ, 64, .inr (.inl (aL f))))]) (mB D [(cyI, .int), (cyJ, .long), (cyZ, .boolean)] (va_A [(h0, .inr (2, [.ref h1])), (h1, .inl (cyJ, 64, .inr (.inl (aL f))))] sz)) (va_A [(h0, .inr (2, [.ref h1])), (h1, .inl (cyJ, 64, .inr (.inl (aL f))))] sz)) 0 0 (va_A [(h0, .inr (2, [.ref h1])), (h1, .inl (cyJ, 64, .inr (.inl (aL f))))] sz) := by
  refine st_i (own := RX2) (lv0 := [(0, .ref h0), (1, .int pl)]) (by decide) rfl rfl (Nat.le_of_ble_eq_true rfl) rfl ?_
  intro p e s m below meth c A Q S hin hA hK hP hD hG hS hret ls hl
  have hw_X2 : ∀ w ∈ u_ws RX2 TX2 1, w ∈ wsX2_cellAtPlace := by decide +kernel
  have hf_9 := S.2.2.2.2 (.fieldLink RX2 9 "Particleway$Chart" "numbers" "[J") (by decide +kernel)
  refine lv_iconst (v := nI 0) S.1 S.2.1 dX2_cellAtPlace_0 (by decide) ?_
  refine lv_istore_n (lv' := [(2, .int (nI 0)), (0, .ref h0), (1, .int pl)]) S.1 S.2.1 dX2_cellAtPlace_1 rfl hl (by decide) rfl (fun ls hl => ?_)
  refine wl (σ := Nat) (fun i => [(h0, .inr (2, [.ref h1])), (h1, .inl (cyJ, 64, .inr (.inl (aL f))))]) (fun i => [(2, .int (nI i)), (0, .ref h0), (1, .int pl)]) (fun i => (i ≤ 64) ∧ (bpF f pl (64 - i) i = bpF f pl 64 0)) (fun i => 64 - i) ?_ 0 ⟨by omega, rfl⟩ hP hD hS (lv_sub hl [0, 1, 2] rfl)
  rintro i ⟨hi, hg⟩ ih2 H locs ls hP hD hS hl
  have hP : va_P D vwCl [(h0, .inr (2, [.ref h1])), (h1, .inl (cyJ, 64, .inr (.inl (aL f))))] H := hP
  have hD : va_D A [(h0, .inr (2, [.ref h1])), (h1, .inl (cyJ, 64, .inr (.inl (aL f))))] := hD
  have hl : lv_has ls 3 [(2, .int (nI i)), (0, .ref h0), (1, .int pl)] := hl
  refine lv_iload_n S.1 S.2.1 dX2_cellAtPlace_2 rfl (lv_at hl 0 rfl) ?_
  refine lv_bipush (v := nI 64) S.1 S.2.1 dX2_cellAtPlace_3 (by decide) ?_
  refine kn_icmp_ge S (by omega) (by omega) dX2_cellAtPlace_5 (tgt := 36) (by decide) (fun c5 => ?_) (fun c5 => ?_)
  · refine lv_iconst (v := (-1)) S.1 S.2.1 dX2_cellAtPlace_36 (by decide) ?_
    refine k_topi (y := bpF f pl 64 0) (by rw [← hg, show i = 64 by omega]; rfl) ?_
    exact hret _ _ _ _ dX2_cellAtPlace_37 hP hD hS
  · have hfi := hf i (by omega)
    refine lv_aload_n S.1 S.2.1 dX2_cellAtPlace_8 rfl (lv_at hl 1 rfl) ?_
    refine k_get S (C := RX2) (T := TX2) (N := 1) (ci := 2) hw_X2 hK hP 0 rfl rfl 0 (by decide) hf_9 rfl (v := .ref h1) rfl dX2_cellAtPlace_9 ?_
    refine lv_iload_n S.1 S.2.1 dX2_cellAtPlace_12 rfl (lv_at hl 0 rfl) ?_
    refine kn_lald S hK hP 1 1 rfl rfl (by omega) (by decide) dX2_cellAtPlace_13 ?_
    refine lv_lconst (v := lN 0) S.1 S.2.1 dX2_cellAtPlace_14 (by decide) ?_
    refine kn_lcmp_le S (by omega) (by omega) dX2_cellAtPlace_15 rfl dX2_cellAtPlace_16 (tgt := 30) (by decide) (fun c16 => ?_) (fun c16 => ?_)
    · refine lv_iinc (v := nI (i + 1)) (lv' := [(2, .int (nI (i + 1))), (0, .ref h0), (1, .int pl)]) S.1 S.2.1 dX2_cellAtPlace_30 hl (k := 0) rfl (iinc_1 _) (by decide) rfl (fun ls hl => ?_)
      refine lv_goto (tgt := 2) S.1 S.2.1 dX2_cellAtPlace_33 (by decide) ?_
      exact ih2 (i + 1) ⟨by omega, by rw [bpF_step (by omega) (fun h => by first | omega | exact c25 h.2)]; exact hg⟩ (by show 64 - (i + 1) < 64 - i; omega) _ _ _ hP hD hS (lv_sub hl [0, 1, 2] rfl)
    · refine lv_aload_n S.1 S.2.1 dX2_cellAtPlace_19 rfl (lv_at hl 1 rfl) ?_
      refine lv_iload_n S.1 S.2.1 dX2_cellAtPlace_20 rfl (lv_at hl 0 rfl) ?_
      refine kcV_i S (wc := [(h0, .inr (2, [.ref h1])), (h1, .inl (cyJ, 64, .inr (.inl (aL f))))]) (wr := []) (ws2 := [(h0, .inr (2, [.ref h1])), (h1, .inl (cyJ, 64, .inr (.inl (aL f))))]) (As := [.int (nI i)]) (rest := []) (c_X2_placeOf l D cyI cyJ cyZ H.size h0 h1 f i (by first | assumption | omega) (by first | assumption | omega)) (cwV 1 S.2.2.2.2 gX2_cellAtPlace_X2_placeOf rfl rfl rfl (by decide +kernel) ⟨Nat.le_of_ble_eq_true rfl, Nat.le_of_ble_eq_true rfl⟩) hK hP hD hS hA hG [0, 1] [] [0, 1] rfl rfl rfl rfl (by decide) rfl rfl (ci := 2) (q0 := 0) rfl rfl rfl hl.1 rfl (Nat.le_of_ble_eq_true rfl) dX2_cellAtPlace_21 ⟨Nat.le_of_ble_eq_true rfl, Nat.le_of_ble_eq_true rfl⟩ (fun H locs hP hD hS => ?_)
      refine lv_iload_n S.1 S.2.1 dX2_cellAtPlace_24 rfl (lv_at hl 2 rfl) ?_
      refine lv_icmp_ne S.1 S.2.1 dX2_cellAtPlace_25 (tgt := 30) (by decide) (fun c25 => ?_) (fun c25 => ?_)
      · refine lv_iinc (v := nI (i + 1)) (lv' := [(2, .int (nI (i + 1))), (0, .ref h0), (1, .int pl)]) S.1 S.2.1 dX2_cellAtPlace_30 hl (k := 0) rfl (iinc_1 _) (by decide) rfl (fun ls hl => ?_)
        refine lv_goto (tgt := 2) S.1 S.2.1 dX2_cellAtPlace_33 (by decide) ?_
        exact ih2 (i + 1) ⟨by omega, by rw [bpF_step (by omega) (fun h => by first | omega | exact c25 h.2)]; exact hg⟩ (by show 64 - (i + 1) < 64 - i; omega) _ _ _ hP hD hS (lv_sub hl [0, 1, 2] rfl)
      · refine lv_iload_n S.1 S.2.1 dX2_cellAtPlace_28 rfl (lv_at hl 0 rfl) ?_
        refine k_topi (y := bpF f pl 64 0) (by rw [← hg, bpF_hit (by omega) ⟨c16, c25⟩]) ?_
        exact hret _ _ _ _ dX2_cellAtPlace_29 hP hD hS
end CHART
