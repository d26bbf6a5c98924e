section CHART
set_option maxHeartbeats 4000000 in
set_option maxRecDepth 100000 in
theorem c_X5_isInField (l : Launch) (D : va_G) (cyI cyJ cyZ : ClassId) (sz : Nat) (x : Nat) (y : Nat) (hx : x < 8) (hy : y < 8) : Met l yX5_isInField wsX5_isInField ({ frames := 2, cells := 0, slots := 0, locals := 60 } : Room) (mPc D [(cyI, .int), (cyJ, .long), (cyZ, .boolean)] [] sz [.int (nI x), .int (nI y)]) (va_Qi (fun (r : Int32) (u : va_W) => r = bI true ∧ u = []) (mB D [(cyI, .int), (cyJ, .long), (cyZ, .boolean)] (va_A [] sz)) (va_A [] sz)) 0 0 (va_A [] sz) := by
  refine st_z (own := RX5) (lv0 := [(0, .int (nI x)), (1, .int (nI y))]) (by decide) rfl rfl (Nat.le_of_ble_eq_true rfl) rfl ?_
  intro p e s m below meth c A Q S hin hA hK hP hD hG hS hret ls hl
  refine lv_iload_n S.1 S.2.1 dX5_isInField_0 rfl (lv_at hl 0 rfl) ?_
  refine kn_if_lt S (by omega) dX5_isInField_1 (tgt := 24) (by decide) ?_
  refine lv_iload_n S.1 S.2.1 dX5_isInField_4 rfl (lv_at hl 0 rfl) ?_
  refine lv_bipush (v := nI 8) S.1 S.2.1 dX5_isInField_5 (by decide) ?_
  refine kn_icmp_ge S (by omega) (by omega) dX5_isInField_7 (tgt := 24) (by decide) (fun c7 => ?_) (fun c7 => ?_)
  · exact absurd c7 (by omega)
  · refine lv_iload_n S.1 S.2.1 dX5_isInField_10 rfl (lv_at hl 1 rfl) ?_
    refine kn_if_lt S (by omega) dX5_isInField_11 (tgt := 24) (by decide) ?_
    refine lv_iload_n S.1 S.2.1 dX5_isInField_14 rfl (lv_at hl 1 rfl) ?_
    refine lv_bipush (v := nI 8) S.1 S.2.1 dX5_isInField_15 (by decide) ?_
    refine kn_icmp_ge S (by omega) (by omega) dX5_isInField_17 (tgt := 24) (by decide) (fun c17 => ?_) (fun c17 => ?_)
    · exact absurd c17 (by omega)
    · refine lv_iconst (v := nI 1) S.1 S.2.1 dX5_isInField_20 (by decide) ?_
      refine lv_goto (tgt := 25) S.1 S.2.1 dX5_isInField_21 (by decide) ?_
      refine k_topi (y := bI true) (by rfl) ?_
      exact hret _ _ _ _ dX5_isInField_25 hP hD hS
set_option maxHeartbeats 4000000 in
set_option maxRecDepth 100000 in
theorem c_X5_isInField_r (l : Launch) (D : va_G) (cyI cyJ cyZ : ClassId) (sz : Nat) (x : Int32) (y : Int32) : Met l yX5_isInField wsX5_isInField ({ frames := 2, cells := 0, slots := 0, locals := 60 } : Room) (mPc D [(cyI, .int), (cyJ, .long), (cyZ, .boolean)] [] sz [.int x, .int y]) (va_Qi (fun (r : Int32) (u : va_W) => r = bI (inF x y) ∧ u = []) (mB D [(cyI, .int), (cyJ, .long), (cyZ, .boolean)] (va_A [] sz)) (va_A [] sz)) 0 0 (va_A [] sz) := by
  refine st_z (own := RX5) (lv0 := [(0, .int x), (1, .int y)]) (by decide) rfl rfl (Nat.le_of_ble_eq_true rfl) rfl ?_
  intro p e s m below meth c A Q S hin hA hK hP hD hG hS hret ls hl
  refine lv_iload_n S.1 S.2.1 dX5_isInField_0 rfl (lv_at hl 0 rfl) ?_
  refine lv_if_lt S.1 S.2.1 dX5_isInField_1 (tgt := 24) (by decide) (fun c1 => ?_) (fun c1 => ?_)
  · refine lv_iconst (v := nI 0) S.1 S.2.1 dX5_isInField_24 (by decide) ?_
    refine k_topi (y := bI (inF x y)) (by rw [inF, decide_eq_false (fun h => h.1 c1)]; rfl) ?_
    exact hret _ _ _ _ dX5_isInField_25 hP hD hS
  · refine lv_iload_n S.1 S.2.1 dX5_isInField_4 rfl (lv_at hl 0 rfl) ?_
    refine lv_bipush (v := nI 8) S.1 S.2.1 dX5_isInField_5 (by decide) ?_
    refine lv_icmp_ge S.1 S.2.1 dX5_isInField_7 (tgt := 24) (by decide) (fun c7 => ?_) (fun c7 => ?_)
    · refine lv_iconst (v := nI 0) S.1 S.2.1 dX5_isInField_24 (by decide) ?_
      refine k_topi (y := bI (inF x y)) (by rw [inF, decide_eq_false (fun h => h.2.1 c7)]; rfl) ?_
      exact hret _ _ _ _ dX5_isInField_25 hP hD hS
    · refine lv_iload_n S.1 S.2.1 dX5_isInField_10 rfl (lv_at hl 1 rfl) ?_
      refine lv_if_lt S.1 S.2.1 dX5_isInField_11 (tgt := 24) (by decide) (fun c11 => ?_) (fun c11 => ?_)
      · refine lv_iconst (v := nI 0) S.1 S.2.1 dX5_isInField_24 (by decide) ?_
        refine k_topi (y := bI (inF x y)) (by rw [inF, decide_eq_false (fun h => h.2.2.1 c11)]; rfl) ?_
        exact hret _ _ _ _ dX5_isInField_25 hP hD hS
      · refine lv_iload_n S.1 S.2.1 dX5_isInField_14 rfl (lv_at hl 1 rfl) ?_
        refine lv_bipush (v := nI 8) S.1 S.2.1 dX5_isInField_15 (by decide) ?_
        refine lv_icmp_ge S.1 S.2.1 dX5_isInField_17 (tgt := 24) (by decide) (fun c17 => ?_) (fun c17 => ?_)
        · refine lv_iconst (v := nI 0) S.1 S.2.1 dX5_isInField_24 (by decide) ?_
          refine k_topi (y := bI (inF x y)) (by rw [inF, decide_eq_false (fun h => h.2.2.2 c17)]; rfl) ?_
          exact hret _ _ _ _ dX5_isInField_25 hP hD hS
        · refine lv_iconst (v := nI 1) S.1 S.2.1 dX5_isInField_20 (by decide) ?_
          refine lv_goto (tgt := 25) S.1 S.2.1 dX5_isInField_21 (by decide) ?_
          refine k_topi (y := bI (inF x y)) (by rw [inF, decide_eq_true ⟨c1, c7, c11, c17⟩]; rfl) ?_
          exact hret _ _ _ _ dX5_isInField_25 hP hD hS
set_option maxHeartbeats 4000000 in
set_option maxRecDepth 100000 in
theorem c_X5_isCell (l : Launch) (D : va_G) (cyI cyJ cyZ : ClassId) (sz : Nat) (k : Nat) (hk : k < 64) : Met l yX5_isCell wsX5_isCell ({ frames := 2, cells := 0, slots := 0, locals := 60 } : Room) (mPc D [(cyI, .int), (cyJ, .long), (cyZ, .boolean)] [] sz [.int (nI k)]) (va_Qi (fun (r : Int32) (u : va_W) => r = bI true ∧ u = []) (mB D [(cyI, .int), (cyJ, .long), (cyZ, .boolean)] (va_A [] sz)) (va_A [] sz)) 0 0 (va_A [] sz) := by
  refine st_z (own := RX5) (lv0 := [(0, .int (nI k))]) (by decide) rfl rfl (Nat.le_of_ble_eq_true rfl) rfl ?_
  intro p e s m below meth c A Q S hin hA hK hP hD hG hS hret ls hl
  refine lv_iload_n S.1 S.2.1 dX5_isCell_0 rfl (lv_at hl 0 rfl) ?_
  refine kn_if_lt S (by omega) dX5_isCell_1 (tgt := 14) (by decide) ?_
  refine lv_iload_n S.1 S.2.1 dX5_isCell_4 rfl (lv_at hl 0 rfl) ?_
  refine lv_bipush (v := nI 64) S.1 S.2.1 dX5_isCell_5 (by decide) ?_
  refine kn_icmp_ge S (by omega) (by omega) dX5_isCell_7 (tgt := 14) (by decide) (fun c7 => ?_) (fun c7 => ?_)
  · exact absurd c7 (by omega)
  · refine lv_iconst (v := nI 1) S.1 S.2.1 dX5_isCell_10 (by decide) ?_
    refine lv_goto (tgt := 15) S.1 S.2.1 dX5_isCell_11 (by decide) ?_
    refine k_topi (y := bI true) (by rfl) ?_
    exact hret _ _ _ _ dX5_isCell_15 hP hD hS
set_option maxHeartbeats 4000000 in
set_option maxRecDepth 100000 in
theorem c_X5_isCell_no (l : Launch) (D : va_G) (cyI cyJ cyZ : ClassId) (sz : Nat)  : Met l yX5_isCell wsX5_isCell ({ frames := 2, cells := 0, slots := 0, locals := 60 } : Room) (mPc D [(cyI, .int), (cyJ, .long), (cyZ, .boolean)] [] sz [.int (-1)]) (va_Qi (fun (r : Int32) (u : va_W) => r = bI false ∧ u = []) (mB D [(cyI, .int), (cyJ, .long), (cyZ, .boolean)] (va_A [] sz)) (va_A [] sz)) 0 0 (va_A [] sz) := by
  refine st_z (own := RX5) (lv0 := [(0, .int (-1))]) (by decide) rfl rfl (Nat.le_of_ble_eq_true rfl) rfl ?_
  intro p e s m below meth c A Q S hin hA hK hP hD hG hS hret ls hl
  refine lv_iload_n S.1 S.2.1 dX5_isCell_0 rfl (lv_at hl 0 rfl) ?_
  refine lv_if_lt S.1 S.2.1 dX5_isCell_1 (tgt := 14) (by decide) (fun c1 => ?_) (fun c1 => ?_)
  · refine lv_iconst (v := nI 0) S.1 S.2.1 dX5_isCell_14 (by decide) ?_
    refine k_topi (y := bI false) (by rfl) ?_
    exact hret _ _ _ _ dX5_isCell_15 hP hD hS
  · exact absurd c1 (by decide)
set_option maxHeartbeats 4000000 in
set_option maxRecDepth 100000 in
theorem c_X5_isDirection (l : Launch) (D : va_G) (cyI cyJ cyZ : ClassId) (sz : Nat) (k : Nat) (hk : k < 4) : Met l yX5_isDirection wsX5_isDirection ({ frames := 2, cells := 0, slots := 0, locals := 60 } : Room) (mPc D [(cyI, .int), (cyJ, .long), (cyZ, .boolean)] [] sz [.int (nI k)]) (va_Qi (fun (r : Int32) (u : va_W) => r = bI true ∧ u = []) (mB D [(cyI, .int), (cyJ, .long), (cyZ, .boolean)] (va_A [] sz)) (va_A [] sz)) 0 0 (va_A [] sz) := by
  refine st_z (own := RX5) (lv0 := [(0, .int (nI k))]) (by decide) rfl rfl (Nat.le_of_ble_eq_true rfl) rfl ?_
  intro p e s m below meth c A Q S hin hA hK hP hD hG hS hret ls hl
  refine lv_iload_n S.1 S.2.1 dX5_isDirection_0 rfl (lv_at hl 0 rfl) ?_
  refine kn_if_lt S (by omega) dX5_isDirection_1 (tgt := 13) (by decide) ?_
  refine lv_iload_n S.1 S.2.1 dX5_isDirection_4 rfl (lv_at hl 0 rfl) ?_
  refine lv_iconst (v := nI 4) S.1 S.2.1 dX5_isDirection_5 (by decide) ?_
  refine kn_icmp_ge S (by omega) (by omega) dX5_isDirection_6 (tgt := 13) (by decide) (fun c6 => ?_) (fun c6 => ?_)
  · exact absurd c6 (by omega)
  · refine lv_iconst (v := nI 1) S.1 S.2.1 dX5_isDirection_9 (by decide) ?_
    refine lv_goto (tgt := 14) S.1 S.2.1 dX5_isDirection_10 (by decide) ?_
    refine k_topi (y := bI true) (by rfl) ?_
    exact hret _ _ _ _ dX5_isDirection_14 hP hD hS
set_option maxHeartbeats 4000000 in
set_option maxRecDepth 100000 in
theorem c_X5_numberOf_r (l : Launch) (D : va_G) (cyI cyJ cyZ : ClassId) (sz : Nat) (x : Int32) (y : Int32) : Met l yX5_numberOf wsX5_numberOf ({ frames := 2, cells := 0, slots := 0, locals := 60 } : Room) (mPc D [(cyI, .int), (cyJ, .long), (cyZ, .boolean)] [] sz [.int x, .int y]) (va_Qi (fun (r : Int32) (u : va_W) => r = nI 8 * y + x ∧ u = []) (mB D [(cyI, .int), (cyJ, .long), (cyZ, .boolean)] (va_A [] sz)) (va_A [] sz)) 0 0 (va_A [] sz) := by
  refine st_i (own := RX5) (lv0 := [(0, .int x), (1, .int y)]) (by decide) rfl rfl (Nat.le_of_ble_eq_true rfl) rfl ?_
  intro p e s m below meth c A Q S hin hA hK hP hD hG hS hret ls hl
  refine lv_bipush (v := nI 8) S.1 S.2.1 dX5_numberOf_0 (by decide) ?_
  refine lv_iload_n S.1 S.2.1 dX5_numberOf_2 rfl (lv_at hl 1 rfl) ?_
  refine lv_imul S.1 S.2.1 dX5_numberOf_3 ?_
  refine lv_iload_n S.1 S.2.1 dX5_numberOf_4 rfl (lv_at hl 0 rfl) ?_
  refine lv_iadd S.1 S.2.1 dX5_numberOf_5 ?_
  refine k_topi (y := nI 8 * y + x) (by rfl) ?_
  exact hret _ _ _ _ dX5_numberOf_6 hP hD hS
end CHART
