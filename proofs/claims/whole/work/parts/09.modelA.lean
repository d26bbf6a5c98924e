section MODELA
set_option maxHeartbeats 4000000 in
set_option maxRecDepth 100000 in
theorem c_X6_thrown (l : Launch) (D : va_G) (cyI cyJ cyZ : ClassId) (sz : Nat) (m0 : Nat) (m1 : Nat) (m2 : Nat) (m3 : Nat) (m4 : Nat) (m5 : Nat) (m6 : Nat) (th : Int32) (x : Nat) (sp : Bool) (n0 : Nat) (ac : Nat) (re : Nat) (sl : Int32) (fa : Int32) (db : Int32) : Met l yX6_thrown wsX6_thrown ({ frames := 2, cells := 0, slots := 0, locals := 60 } : Room) (mPc D [(cyI, .int), (cyJ, .long), (cyZ, .boolean)] [(m0, .inr (6, [.int th, .ref m1, .int (nI x), .int (bI sp), .int (nI n0), .ref m2, .ref m3, .ref m4, .ref m5, .ref m6, .int (nI ac), .int (nI re), .int sl, .int fa, .int db]))] sz [.ref m0]) (va_Qi (fun (r : Int32) (u : va_W) => r = th ∧ u = [(m0, .inr (6, [.int th, .ref m1, .int (nI x), .int (bI sp), .int (nI n0), .ref m2, .ref m3, .ref m4, .ref m5, .ref m6, .int (nI ac), .int (nI re), .int sl, .int fa, .int db]))]) (mB D [(cyI, .int), (cyJ, .long), (cyZ, .boolean)] (va_A [(m0, .inr (6, [.int th, .ref m1, .int (nI x), .int (bI sp), .int (nI n0), .ref m2, .ref m3, .ref m4, .ref m5, .ref m6, .int (nI ac), .int (nI re), .int sl, .int fa, .int db]))] sz)) (va_A [(m0, .inr (6, [.int th, .ref m1, .int (nI x), .int (bI sp), .int (nI n0), .ref m2, .ref m3, .ref m4, .ref m5, .ref m6, .int (nI ac), .int (nI re), .int sl, .int fa, .int db]))] sz)) 0 0 (va_A [(m0, .inr (6, [.int th, .ref m1, .int (nI x), .int (bI sp), .int (nI n0), .ref m2, .ref m3, .ref m4, .ref m5, .ref m6, .int (nI ac), .int (nI re), .int sl, .int fa, .int db]))] sz) := by
  refine st_i (own := RX6) (lv0 := [(0, .ref m0)]) (by decide) rfl rfl (Nat.le_of_ble_eq_true rfl) rfl ?_
  intro p e s m below meth c A Q S hin hA hK hP hD hG hS hret ls hl
  have hw_X6 : ∀ w ∈ u_ws RX6 TX6 15, w ∈ wsX6_thrown := by decide +kernel
  have hf_34 := S.2.2.2.2 (.fieldLink RX6 34 "ParticlewayModel" "thrown" "I") (by decide +kernel)
  refine lv_aload_n S.1 S.2.1 dX6_thrown_0 rfl (lv_at hl 0 rfl) ?_
  refine k_get S (C := RX6) (T := TX6) (N := 15) (ci := 6) hw_X6 hK hP 0 rfl rfl 0 (by decide) hf_34 rfl (v := .int th) rfl dX6_thrown_1 ?_
  exact hret _ _ _ _ dX6_thrown_4 hP hD hS

set_option maxHeartbeats 4000000 in
set_option maxRecDepth 100000 in
theorem c_X6_goesWell_0 (l : Launch) (D : va_G) (cyI cyJ cyZ : ClassId) (sz : Nat) (m0 : Nat) (m1 : Nat) (m2 : Nat) (m3 : Nat) (m4 : Nat) (m5 : Nat) (m6 : Nat) (th : Int32) (x : Nat) (sp : Bool) (n0 : Nat) (ac : Nat) (re : Nat) (sl : Int32) (fa : Int32) (db : Int32) : Met l yX6_goesWell wsX6_goesWell ({ frames := 2, cells := 0, slots := 0, locals := 60 } : Room) (mPc D [(cyI, .int), (cyJ, .long), (cyZ, .boolean)] [(m0, .inr (6, [.int th, .ref m1, .int (nI x), .int (bI sp), .int (nI n0), .ref m2, .ref m3, .ref m4, .ref m5, .ref m6, .int (nI ac), .int (nI re), .int sl, .int fa, .int db]))] sz [.ref m0, .int (nI 0)]) (va_Qi (fun (r : Int32) (u : va_W) => r = bI true ∧ u = [(m0, .inr (6, [.int (nI 0), .ref m1, .int (nI x), .int (bI sp), .int (nI n0), .ref m2, .ref m3, .ref m4, .ref m5, .ref m6, .int (nI ac), .int (nI re), .int sl, .int fa, .int db]))]) (mB D [(cyI, .int), (cyJ, .long), (cyZ, .boolean)] (va_A [(m0, .inr (6, [.int th, .ref m1, .int (nI x), .int (bI sp), .int (nI n0), .ref m2, .ref m3, .ref m4, .ref m5, .ref m6, .int (nI ac), .int (nI re), .int sl, .int fa, .int db]))] sz)) (va_A [(m0, .inr (6, [.int th, .ref m1, .int (nI x), .int (bI sp), .int (nI n0), .ref m2, .ref m3, .ref m4, .ref m5, .ref m6, .int (nI ac), .int (nI re), .int sl, .int fa, .int db]))] sz)) 0 0 (va_A [(m0, .inr (6, [.int th, .ref m1, .int (nI x), .int (bI sp), .int (nI n0), .ref m2, .ref m3, .ref m4, .ref m5, .ref m6, .int (nI ac), .int (nI re), .int sl, .int fa, .int db]))] sz) := by
  refine st_z (own := RX6) (lv0 := [(0, .ref m0), (1, .int (nI 0))]) (by decide) rfl rfl (Nat.le_of_ble_eq_true rfl) rfl ?_
  intro p e s m below meth c A Q S hin hA hK hP hD hG hS hret ls hl
  have hw_X6 : ∀ w ∈ u_ws RX6 TX6 15, w ∈ wsX6_goesWell := by decide +kernel
  have hf_34 := S.2.2.2.2 (.fieldLink RX6 34 "ParticlewayModel" "thrown" "I") (by decide +kernel)
  refine lv_aload_n S.1 S.2.1 dX6_goesWell_0 rfl (lv_at hl 0 rfl) ?_
  refine lv_iload_n S.1 S.2.1 dX6_goesWell_1 rfl (lv_at hl 1 rfl) ?_
  refine k_put S (C := RX6) (T := TX6) (N := 15) (ci := 6) (ws2 := [(m0, .inr (6, [.int (nI 0), .ref m1, .int (nI x), .int (bI sp), .int (nI n0), .ref m2, .ref m3, .ref m4, .ref m5, .ref m6, .int (nI ac), .int (nI re), .int sl, .int fa, .int db]))]) hw_X6 tyX6 tyX6_ok nmX6 hK hP hD hS 0 rfl rfl 0 (by decide) hf_34 rfl rfl rfl rfl (Nat.le_of_ble_eq_true rfl) dX6_goesWell_2 rfl (fun H locs hP hD hS => ?_)
  refine lv_iload_n S.1 S.2.1 dX6_goesWell_5 rfl (lv_at hl 1 rfl) ?_
  refine kn_if_ne S (by omega) dX6_goesWell_6 (tgt := 13) (by decide) (fun c6 => ?_) (fun c6 => ?_)
  · exact absurd c6 (by omega)
  · refine lv_iconst (v := nI 1) S.1 S.2.1 dX6_goesWell_9 (by decide) ?_
    refine lv_goto (tgt := 14) S.1 S.2.1 dX6_goesWell_10 (by decide) ?_
    refine k_topi (y := bI true) (by rfl) ?_
    exact hret _ _ _ _ dX6_goesWell_14 hP hD hS

set_option maxHeartbeats 4000000 in
set_option maxRecDepth 100000 in
theorem c_X6_goesWell_k (l : Launch) (D : va_G) (cyI cyJ cyZ : ClassId) (sz : Nat) (m0 : Nat) (m1 : Nat) (m2 : Nat) (m3 : Nat) (m4 : Nat) (m5 : Nat) (m6 : Nat) (th : Int32) (x : Nat) (sp : Bool) (n0 : Nat) (ac : Nat) (re : Nat) (sl : Int32) (fa : Int32) (db : Int32) (k : Nat) (hk0 : 0 < k) (hk : k < 2147483648) : Met l yX6_goesWell wsX6_goesWell ({ frames := 2, cells := 0, slots := 0, locals := 60 } : Room) (mPc D [(cyI, .int), (cyJ, .long), (cyZ, .boolean)] [(m0, .inr (6, [.int th, .ref m1, .int (nI x), .int (bI sp), .int (nI n0), .ref m2, .ref m3, .ref m4, .ref m5, .ref m6, .int (nI ac), .int (nI re), .int sl, .int fa, .int db]))] sz [.ref m0, .int (nI k)]) (va_Qi (fun (r : Int32) (u : va_W) => r = bI false ∧ u = [(m0, .inr (6, [.int (nI k), .ref m1, .int (nI x), .int (bI sp), .int (nI n0), .ref m2, .ref m3, .ref m4, .ref m5, .ref m6, .int (nI ac), .int (nI re), .int sl, .int fa, .int db]))]) (mB D [(cyI, .int), (cyJ, .long), (cyZ, .boolean)] (va_A [(m0, .inr (6, [.int th, .ref m1, .int (nI x), .int (bI sp), .int (nI n0), .ref m2, .ref m3, .ref m4, .ref m5, .ref m6, .int (nI ac), .int (nI re), .int sl, .int fa, .int db]))] sz)) (va_A [(m0, .inr (6, [.int th, .ref m1, .int (nI x), .int (bI sp), .int (nI n0), .ref m2, .ref m3, .ref m4, .ref m5, .ref m6, .int (nI ac), .int (nI re), .int sl, .int fa, .int db]))] sz)) 0 0 (va_A [(m0, .inr (6, [.int th, .ref m1, .int (nI x), .int (bI sp), .int (nI n0), .ref m2, .ref m3, .ref m4, .ref m5, .ref m6, .int (nI ac), .int (nI re), .int sl, .int fa, .int db]))] sz) := by
  refine st_z (own := RX6) (lv0 := [(0, .ref m0), (1, .int (nI k))]) (by decide) rfl rfl (Nat.le_of_ble_eq_true rfl) rfl ?_
  intro p e s m below meth c A Q S hin hA hK hP hD hG hS hret ls hl
  have hw_X6 : ∀ w ∈ u_ws RX6 TX6 15, w ∈ wsX6_goesWell := by decide +kernel
  have hf_34 := S.2.2.2.2 (.fieldLink RX6 34 "ParticlewayModel" "thrown" "I") (by decide +kernel)
  refine lv_aload_n S.1 S.2.1 dX6_goesWell_0 rfl (lv_at hl 0 rfl) ?_
  refine lv_iload_n S.1 S.2.1 dX6_goesWell_1 rfl (lv_at hl 1 rfl) ?_
  refine k_put S (C := RX6) (T := TX6) (N := 15) (ci := 6) (ws2 := [(m0, .inr (6, [.int (nI k), .ref m1, .int (nI x), .int (bI sp), .int (nI n0), .ref m2, .ref m3, .ref m4, .ref m5, .ref m6, .int (nI ac), .int (nI re), .int sl, .int fa, .int db]))]) hw_X6 tyX6 tyX6_ok nmX6 hK hP hD hS 0 rfl rfl 0 (by decide) hf_34 rfl rfl rfl rfl (Nat.le_of_ble_eq_true rfl) dX6_goesWell_2 rfl (fun H locs hP hD hS => ?_)
  refine lv_iload_n S.1 S.2.1 dX6_goesWell_5 rfl (lv_at hl 1 rfl) ?_
  refine kn_if_ne S (by omega) dX6_goesWell_6 (tgt := 13) (by decide) (fun c6 => ?_) (fun c6 => ?_)
  · refine lv_iconst (v := nI 0) S.1 S.2.1 dX6_goesWell_13 (by decide) ?_
    refine k_topi (y := bI false) (by rfl) ?_
    exact hret _ _ _ _ dX6_goesWell_14 hP hD hS
  · exact absurd c6 (by omega)

set_option maxHeartbeats 4000000 in
set_option maxRecDepth 100000 in
theorem c_X6_in (l : Launch) (D : va_G) (cyI cyJ cyZ : ClassId) (sz : Nat) (v : Int32) (a : Int32) (b : Int32) : Met l yX6_in wsX6_in ({ frames := 2, cells := 0, slots := 0, locals := 60 } : Room) (mPc D [(cyI, .int), (cyJ, .long), (cyZ, .boolean)] [] sz [.int v, .int a, .int b]) (va_Qi (fun (r : Int32) (u : va_W) => r = bI (inB v a b) ∧ u = []) (mB D [(cyI, .int), (cyJ, .long), (cyZ, .boolean)] (va_A [] sz)) (va_A [] sz)) 0 0 (va_A [] sz) := by
  refine st_z (own := RX6) (lv0 := [(0, .int v), (1, .int a), (2, .int b)]) (by decide) rfl rfl (Nat.le_of_ble_eq_true rfl) rfl ?_
  intro p e s m below meth c A Q S hin hA hK hP hD hG hS hret ls hl
  refine lv_iload_n S.1 S.2.1 dX6_in_0 rfl (lv_at hl 0 rfl) ?_
  refine lv_iload_n S.1 S.2.1 dX6_in_1 rfl (lv_at hl 1 rfl) ?_
  refine lv_icmp_lt S.1 S.2.1 dX6_in_2 (tgt := 14) (by decide) (fun c2 => ?_) (fun c2 => ?_)
  · refine lv_iconst (v := nI 0) S.1 S.2.1 dX6_in_14 (by decide) ?_
    refine k_topi (y := bI (inB v a b)) (by rw [inB, decide_eq_false (fun h => h.1 c2)]; rfl) ?_
    exact hret _ _ _ _ dX6_in_15 hP hD hS
  · refine lv_iload_n S.1 S.2.1 dX6_in_5 rfl (lv_at hl 0 rfl) ?_
    refine lv_iload_n S.1 S.2.1 dX6_in_6 rfl (lv_at hl 2 rfl) ?_
    refine lv_icmp_gt S.1 S.2.1 dX6_in_7 (tgt := 14) (by decide) (fun c7 => ?_) (fun c7 => ?_)
    · refine lv_iconst (v := nI 0) S.1 S.2.1 dX6_in_14 (by decide) ?_
      refine k_topi (y := bI (inB v a b)) (by rw [inB, decide_eq_false (fun h => h.2 c7)]; rfl) ?_
      exact hret _ _ _ _ dX6_in_15 hP hD hS
    · refine lv_iconst (v := nI 1) S.1 S.2.1 dX6_in_10 (by decide) ?_
      refine lv_goto (tgt := 15) S.1 S.2.1 dX6_in_11 (by decide) ?_
      refine k_topi (y := bI (inB v a b)) (by rw [inB, decide_eq_true ⟨c2, c7⟩]; rfl) ?_
      exact hret _ _ _ _ dX6_in_15 hP hD hS

set_option maxHeartbeats 4000000 in
set_option maxRecDepth 100000 in
theorem c_X6_in_n (l : Launch) (D : va_G) (cyI cyJ cyZ : ClassId) (sz : Nat) (v : Nat) (a : Nat) (b : Nat) (hv : v < 2147483648) (ha : a < 2147483648) (hb : b < 2147483648) : Met l yX6_in wsX6_in ({ frames := 2, cells := 0, slots := 0, locals := 60 } : Room) (mPc D [(cyI, .int), (cyJ, .long), (cyZ, .boolean)] [] sz [.int (nI v), .int (nI a), .int (nI b)]) (va_Qi (fun (r : Int32) (u : va_W) => r = bI (decide (a ≤ v ∧ v ≤ b)) ∧ u = []) (mB D [(cyI, .int), (cyJ, .long), (cyZ, .boolean)] (va_A [] sz)) (va_A [] sz)) 0 0 (va_A [] sz) := by
  refine st_z (own := RX6) (lv0 := [(0, .int (nI v)), (1, .int (nI a)), (2, .int (nI b))]) (by decide) rfl rfl (Nat.le_of_ble_eq_true rfl) rfl ?_
  intro p e s m below meth c A Q S hin hA hK hP hD hG hS hret ls hl
  refine lv_iload_n S.1 S.2.1 dX6_in_0 rfl (lv_at hl 0 rfl) ?_
  refine lv_iload_n S.1 S.2.1 dX6_in_1 rfl (lv_at hl 1 rfl) ?_
  refine kn_icmp_lt S (by omega) (by omega) dX6_in_2 (tgt := 14) (by decide) (fun c2 => ?_) (fun c2 => ?_)
  · refine lv_iconst (v := nI 0) S.1 S.2.1 dX6_in_14 (by decide) ?_
    refine k_topi (y := bI (decide (a ≤ v ∧ v ≤ b))) (by rw [decide_eq_false (by omega)]; rfl) ?_
    exact hret _ _ _ _ dX6_in_15 hP hD hS
  · refine lv_iload_n S.1 S.2.1 dX6_in_5 rfl (lv_at hl 0 rfl) ?_
    refine lv_iload_n S.1 S.2.1 dX6_in_6 rfl (lv_at hl 2 rfl) ?_
    refine kn_icmp_gt S (by omega) (by omega) dX6_in_7 (tgt := 14) (by decide) (fun c7 => ?_) (fun c7 => ?_)
    · refine lv_iconst (v := nI 0) S.1 S.2.1 dX6_in_14 (by decide) ?_
      refine k_topi (y := bI (decide (a ≤ v ∧ v ≤ b))) (by rw [decide_eq_false (by omega)]; rfl) ?_
      exact hret _ _ _ _ dX6_in_15 hP hD hS
    · refine lv_iconst (v := nI 1) S.1 S.2.1 dX6_in_10 (by decide) ?_
      refine lv_goto (tgt := 15) S.1 S.2.1 dX6_in_11 (by decide) ?_
      refine k_topi (y := bI (decide (a ≤ v ∧ v ≤ b))) (by rw [decide_eq_true (by omega)]; rfl) ?_
      exact hret _ _ _ _ dX6_in_15 hP hD hS

set_option maxHeartbeats 4000000 in
set_option maxRecDepth 100000 in
theorem c_X6_isCell (l : Launch) (D : va_G) (cyI cyJ cyZ : ClassId) (sz : Nat) (v : Int32) (v2 : Int32) : Met l yX6_isCell wsX6_isCell ({ frames := 3, cells := 0, slots := 0, locals := 82 } : Room) (mPc D [(cyI, .int), (cyJ, .long), (cyZ, .boolean)] [] sz [.int v, .int v2]) (va_Qi (fun (r : Int32) (u : va_W) => r = bI (inF v v2) ∧ u = []) (mB D [(cyI, .int), (cyJ, .long), (cyZ, .boolean)] (va_A [] sz)) (va_A [] sz)) 0 0 (va_A [] sz) := by
  refine st_z (own := RX6) (lv0 := [(0, .int v), (1, .int v2)]) (by decide) rfl rfl (Nat.le_of_ble_eq_true rfl) rfl ?_
  intro p e s m below meth c A Q S hin hA hK hP hD hG hS hret ls hl
  refine lv_iload_n S.1 S.2.1 dX6_isCell_0 rfl (lv_at hl 0 rfl) ?_
  refine lv_iconst (v := nI 0) S.1 S.2.1 dX6_isCell_1 (by decide) ?_
  refine lv_bipush (v := nI 7) S.1 S.2.1 dX6_isCell_2 (by decide) ?_
  refine kcS_i S (wc := []) (wr := []) (ws2 := []) (As := [.int v, .int (nI 0), .int (nI 7)]) (rest := []) (c_X6_in l D cyI cyJ cyZ s.heap.size v (nI 0) (nI 7) ) (va_cwS 3 S.2.2.2.2 gX6_isCell_X6_in rfl rfl rfl (by decide +kernel) ⟨Nat.le_of_ble_eq_true rfl, Nat.le_of_ble_eq_true rfl⟩) hK hP hD hS hA hG [] [] [] rfl rfl rfl rfl (by decide) rfl rfl rfl hl.1 rfl (Nat.le_of_ble_eq_true rfl) dX6_isCell_4 ⟨Nat.le_of_ble_eq_true rfl, Nat.le_of_ble_eq_true rfl⟩ (fun H locs hP hD hS => ?_)
  refine kb_if_eq S dX6_isCell_7 (tgt := 24) (by decide) (fun c7 => ?_) (fun c7 => ?_)
  · refine lv_iconst (v := nI 0) S.1 S.2.1 dX6_isCell_24 (by decide) ?_
    refine k_topi (y := bI (inF v v2)) (by rw [← inB_fld, c7]; rfl) ?_
    exact hret _ _ _ _ dX6_isCell_25 hP hD hS
  · refine lv_iload_n S.1 S.2.1 dX6_isCell_10 rfl (lv_at hl 1 rfl) ?_
    refine lv_iconst (v := nI 0) S.1 S.2.1 dX6_isCell_11 (by decide) ?_
    refine lv_bipush (v := nI 7) S.1 S.2.1 dX6_isCell_12 (by decide) ?_
    refine kcS_i S (wc := []) (wr := []) (ws2 := []) (As := [.int v2, .int (nI 0), .int (nI 7)]) (rest := []) (c_X6_in l D cyI cyJ cyZ H.size v2 (nI 0) (nI 7) ) (va_cwS 3 S.2.2.2.2 gX6_isCell_X6_in rfl rfl rfl (by decide +kernel) ⟨Nat.le_of_ble_eq_true rfl, Nat.le_of_ble_eq_true rfl⟩) hK hP hD hS hA hG [] [] [] rfl rfl rfl rfl (by decide) rfl rfl rfl hl.1 rfl (Nat.le_of_ble_eq_true rfl) dX6_isCell_14 ⟨Nat.le_of_ble_eq_true rfl, Nat.le_of_ble_eq_true rfl⟩ (fun H locs hP hD hS => ?_)
    refine kb_if_eq S dX6_isCell_17 (tgt := 24) (by decide) (fun c17 => ?_) (fun c17 => ?_)
    · refine lv_iconst (v := nI 0) S.1 S.2.1 dX6_isCell_24 (by decide) ?_
      refine k_topi (y := bI (inF v v2)) (by rw [← inB_fld, c7, c17]; rfl) ?_
      exact hret _ _ _ _ dX6_isCell_25 hP hD hS
    · refine lv_iconst (v := nI 1) S.1 S.2.1 dX6_isCell_20 (by decide) ?_
      refine lv_goto (tgt := 25) S.1 S.2.1 dX6_isCell_21 (by decide) ?_
      refine k_topi (y := bI (inF v v2)) (by rw [← inB_fld, c7, c17]; rfl) ?_
      exact hret _ _ _ _ dX6_isCell_25 hP hD hS

set_option maxHeartbeats 4000000 in
set_option maxRecDepth 100000 in
theorem c_X6_isCell_n (l : Launch) (D : va_G) (cyI cyJ cyZ : ClassId) (sz : Nat) (v : Nat) (v2 : Nat) (hv : v < 8) (hv2 : v2 < 8) : Met l yX6_isCell wsX6_isCell ({ frames := 3, cells := 0, slots := 0, locals := 82 } : Room) (mPc D [(cyI, .int), (cyJ, .long), (cyZ, .boolean)] [] sz [.int (nI v), .int (nI v2)]) (va_Qi (fun (r : Int32) (u : va_W) => r = bI true ∧ u = []) (mB D [(cyI, .int), (cyJ, .long), (cyZ, .boolean)] (va_A [] sz)) (va_A [] sz)) 0 0 (va_A [] sz) := by
  refine st_z (own := RX6) (lv0 := [(0, .int (nI v)), (1, .int (nI v2))]) (by decide) rfl rfl (Nat.le_of_ble_eq_true rfl) rfl ?_
  intro p e s m below meth c A Q S hin hA hK hP hD hG hS hret ls hl
  refine lv_iload_n S.1 S.2.1 dX6_isCell_0 rfl (lv_at hl 0 rfl) ?_
  refine lv_iconst (v := nI 0) S.1 S.2.1 dX6_isCell_1 (by decide) ?_
  refine lv_bipush (v := nI 7) S.1 S.2.1 dX6_isCell_2 (by decide) ?_
  refine kcS_i S (wc := []) (wr := []) (ws2 := []) (As := [.int (nI v), .int (nI 0), .int (nI 7)]) (rest := []) (c_X6_in l D cyI cyJ cyZ s.heap.size (nI v) (nI 0) (nI 7) ) (va_cwS 3 S.2.2.2.2 gX6_isCell_X6_in rfl rfl rfl (by decide +kernel) ⟨Nat.le_of_ble_eq_true rfl, Nat.le_of_ble_eq_true rfl⟩) hK hP hD hS hA hG [] [] [] rfl rfl rfl rfl (by decide) rfl rfl rfl hl.1 rfl (Nat.le_of_ble_eq_true rfl) dX6_isCell_4 ⟨Nat.le_of_ble_eq_true rfl, Nat.le_of_ble_eq_true rfl⟩ (fun H locs hP hD hS => ?_)
  refine kb_if_eq S dX6_isCell_7 (tgt := 24) (by decide) (fun c7 => ?_) (fun c7 => ?_)
  · exfalso; rw [inB_n (by omega) (by decide) (by decide), decide_eq_true (by omega)] at c7; cases c7
  · refine lv_iload_n S.1 S.2.1 dX6_isCell_10 rfl (lv_at hl 1 rfl) ?_
    refine lv_iconst (v := nI 0) S.1 S.2.1 dX6_isCell_11 (by decide) ?_
    refine lv_bipush (v := nI 7) S.1 S.2.1 dX6_isCell_12 (by decide) ?_
    refine kcS_i S (wc := []) (wr := []) (ws2 := []) (As := [.int (nI v2), .int (nI 0), .int (nI 7)]) (rest := []) (c_X6_in l D cyI cyJ cyZ H.size (nI v2) (nI 0) (nI 7) ) (va_cwS 3 S.2.2.2.2 gX6_isCell_X6_in rfl rfl rfl (by decide +kernel) ⟨Nat.le_of_ble_eq_true rfl, Nat.le_of_ble_eq_true rfl⟩) hK hP hD hS hA hG [] [] [] rfl rfl rfl rfl (by decide) rfl rfl rfl hl.1 rfl (Nat.le_of_ble_eq_true rfl) dX6_isCell_14 ⟨Nat.le_of_ble_eq_true rfl, Nat.le_of_ble_eq_true rfl⟩ (fun H locs hP hD hS => ?_)
    refine kb_if_eq S dX6_isCell_17 (tgt := 24) (by decide) (fun c17 => ?_) (fun c17 => ?_)
    · exfalso; rw [inB_n (by omega) (by decide) (by decide), decide_eq_true (by omega)] at c17; cases c17
    · refine lv_iconst (v := nI 1) S.1 S.2.1 dX6_isCell_20 (by decide) ?_
      refine lv_goto (tgt := 25) S.1 S.2.1 dX6_isCell_21 (by decide) ?_
      refine k_topi (y := bI true) (by rfl) ?_
      exact hret _ _ _ _ dX6_isCell_25 hP hD hS

set_option maxHeartbeats 4000000 in
set_option maxRecDepth 100000 in
theorem c_X6_isDirection (l : Launch) (D : va_G) (cyI cyJ cyZ : ClassId) (sz : Nat) (v : Int32) : Met l yX6_isDirection wsX6_isDirection ({ frames := 3, cells := 0, slots := 0, locals := 82 } : Room) (mPc D [(cyI, .int), (cyJ, .long), (cyZ, .boolean)] [] sz [.int v]) (va_Qi (fun (r : Int32) (u : va_W) => r = bI (dirP v) ∧ u = []) (mB D [(cyI, .int), (cyJ, .long), (cyZ, .boolean)] (va_A [] sz)) (va_A [] sz)) 0 0 (va_A [] sz) := by
  refine st_z (own := RX6) (lv0 := [(0, .int v)]) (by decide) rfl rfl (Nat.le_of_ble_eq_true rfl) rfl ?_
  intro p e s m below meth c A Q S hin hA hK hP hD hG hS hret ls hl
  refine lv_iload_n S.1 S.2.1 dX6_isDirection_0 rfl (lv_at hl 0 rfl) ?_
  refine lv_iconst (v := nI 0) S.1 S.2.1 dX6_isDirection_1 (by decide) ?_
  refine lv_iconst (v := nI 3) S.1 S.2.1 dX6_isDirection_2 (by decide) ?_
  refine kcS_i S (wc := []) (wr := []) (ws2 := []) (As := [.int v, .int (nI 0), .int (nI 3)]) (rest := []) (c_X6_in l D cyI cyJ cyZ s.heap.size v (nI 0) (nI 3) ) (va_cwS 3 S.2.2.2.2 gX6_isDirection_X6_in rfl rfl rfl (by decide +kernel) ⟨Nat.le_of_ble_eq_true rfl, Nat.le_of_ble_eq_true rfl⟩) hK hP hD hS hA hG [] [] [] rfl rfl rfl rfl (by decide) rfl rfl rfl hl.1 rfl (Nat.le_of_ble_eq_true rfl) dX6_isDirection_3 ⟨Nat.le_of_ble_eq_true rfl, Nat.le_of_ble_eq_true rfl⟩ (fun H locs hP hD hS => ?_)
  refine k_topi (y := bI (dirP v)) (by rw [inB_dir]) ?_
  exact hret _ _ _ _ dX6_isDirection_6 hP hD hS

set_option maxHeartbeats 4000000 in
set_option maxRecDepth 100000 in
theorem c_X6_isDirection_n (l : Launch) (D : va_G) (cyI cyJ cyZ : ClassId) (sz : Nat) (v : Nat) (hv : v < 4) : Met l yX6_isDirection wsX6_isDirection ({ frames := 3, cells := 0, slots := 0, locals := 82 } : Room) (mPc D [(cyI, .int), (cyJ, .long), (cyZ, .boolean)] [] sz [.int (nI v)]) (va_Qi (fun (r : Int32) (u : va_W) => r = bI true ∧ u = []) (mB D [(cyI, .int), (cyJ, .long), (cyZ, .boolean)] (va_A [] sz)) (va_A [] sz)) 0 0 (va_A [] sz) := by
  refine st_z (own := RX6) (lv0 := [(0, .int (nI v))]) (by decide) rfl rfl (Nat.le_of_ble_eq_true rfl) rfl ?_
  intro p e s m below meth c A Q S hin hA hK hP hD hG hS hret ls hl
  refine lv_iload_n S.1 S.2.1 dX6_isDirection_0 rfl (lv_at hl 0 rfl) ?_
  refine lv_iconst (v := nI 0) S.1 S.2.1 dX6_isDirection_1 (by decide) ?_
  refine lv_iconst (v := nI 3) S.1 S.2.1 dX6_isDirection_2 (by decide) ?_
  refine kcS_i S (wc := []) (wr := []) (ws2 := []) (As := [.int (nI v), .int (nI 0), .int (nI 3)]) (rest := []) (c_X6_in l D cyI cyJ cyZ s.heap.size (nI v) (nI 0) (nI 3) ) (va_cwS 3 S.2.2.2.2 gX6_isDirection_X6_in rfl rfl rfl (by decide +kernel) ⟨Nat.le_of_ble_eq_true rfl, Nat.le_of_ble_eq_true rfl⟩) hK hP hD hS hA hG [] [] [] rfl rfl rfl rfl (by decide) rfl rfl rfl hl.1 rfl (Nat.le_of_ble_eq_true rfl) dX6_isDirection_3 ⟨Nat.le_of_ble_eq_true rfl, Nat.le_of_ble_eq_true rfl⟩ (fun H locs hP hD hS => ?_)
  refine k_topi (y := bI true) (by rw [inB_dir, dirP_n hv]) ?_
  exact hret _ _ _ _ dX6_isDirection_6 hP hD hS

set_option maxHeartbeats 4000000 in
set_option maxRecDepth 100000 in
theorem c_X6_free (l : Launch) (D : va_G) (cyI cyJ cyZ : ClassId) (sz : Nat) (m0 : Nat) (m1 : Nat) (m2 : Nat) (m3 : Nat) (m4 : Nat) (m5 : Nat) (m6 : Nat) (th : Int32) (x : Nat) (sp : Bool) (n0 : Nat) (ac : Nat) (re : Nat) (sl : Int32) (fa : Int32) (db : Int32) (w : Nat → Bool) : Met l yX6_free wsX6_free ({ frames := 2, cells := 0, slots := 0, locals := 60 } : Room) (mPc D [(cyI, .int), (cyJ, .long), (cyZ, .boolean)] [(m0, .inr (6, [.int th, .ref m1, .int (nI x), .int (bI sp), .int (nI n0), .ref m2, .ref m3, .ref m4, .ref m5, .ref m6, .int (nI ac), .int (nI re), .int sl, .int fa, .int db])), (m1, .inl (cyZ, 64, .inl (aZ w)))] sz [.ref m0]) (va_Qi (fun (r : Int32) (u : va_W) => r = nI (cntF w 64) ∧ u = [(m0, .inr (6, [.int th, .ref m1, .int (nI x), .int (bI sp), .int (nI n0), .ref m2, .ref m3, .ref m4, .ref m5, .ref m6, .int (nI ac), .int (nI re), .int sl, .int fa, .int db])), (m1, .inl (cyZ, 64, .inl (aZ w)))]) (mB D [(cyI, .int), (cyJ, .long), (cyZ, .boolean)] (va_A [(m0, .inr (6, [.int th, .ref m1, .int (nI x), .int (bI sp), .int (nI n0), .ref m2, .ref m3, .ref m4, .ref m5, .ref m6, .int (nI ac), .int (nI re), .int sl, .int fa, .int db])), (m1, .inl (cyZ, 64, .inl (aZ w)))] sz)) (va_A [(m0, .inr (6, [.int th, .ref m1, .int (nI x), .int (bI sp), .int (nI n0), .ref m2, .ref m3, .ref m4, .ref m5, .ref m6, .int (nI ac), .int (nI re), .int sl, .int fa, .int db])), (m1, .inl (cyZ, 64, .inl (aZ w)))] sz)) 0 0 (va_A [(m0, .inr (6, [.int th, .ref m1, .int (nI x), .int (bI sp), .int (nI n0), .ref m2, .ref m3, .ref m4, .ref m5, .ref m6, .int (nI ac), .int (nI re), .int sl, .int fa, .int db])), (m1, .inl (cyZ, 64, .inl (aZ w)))] sz) := by
  refine st_i (own := RX6) (lv0 := [(0, .ref m0)]) (by decide) rfl rfl (Nat.le_of_ble_eq_true rfl) rfl ?_
  intro p e s m below meth c A Q S hin hA hK hP hD hG hS hret ls hl
  have hw_X6 : ∀ w ∈ u_ws RX6 TX6 15, w ∈ wsX6_free := by decide +kernel
  have hf_7 := S.2.2.2.2 (.fieldLink RX6 7 "ParticlewayModel" "isWall" "[Z") (by decide +kernel)
  refine lv_iconst (v := nI 0) S.1 S.2.1 dX6_free_0 (by decide) ?_
  refine lv_istore_n (lv' := [(1, .int (nI 0)), (0, .ref m0)]) S.1 S.2.1 dX6_free_1 rfl hl (by decide) rfl (fun ls hl => ?_)
  refine lv_iconst (v := nI 0) S.1 S.2.1 dX6_free_2 (by decide) ?_
  refine lv_istore_n (lv' := [(2, .int (nI 0)), (1, .int (nI 0)), (0, .ref m0)]) S.1 S.2.1 dX6_free_3 rfl hl (by decide) rfl (fun ls hl => ?_)
  refine wl (σ := Nat × Nat) (fun (i, g) => [(m0, .inr (6, [.int th, .ref m1, .int (nI x), .int (bI sp), .int (nI n0), .ref m2, .ref m3, .ref m4, .ref m5, .ref m6, .int (nI ac), .int (nI re), .int sl, .int fa, .int db])), (m1, .inl (cyZ, 64, .inl (aZ w)))]) (fun (i, g) => [(2, .int (nI i)), (1, .int (nI g)), (0, .ref m0)]) (fun (i, g) => (i ≤ 64) ∧ (g = cntF w i)) (fun (i, g) => 64 - i) ?_ (0, 0) ⟨by omega, rfl⟩ hP hD hS (lv_sub hl [0, 1, 2] rfl)
  rintro ⟨i, g⟩ ⟨hi, hg⟩ ih4 H locs ls hP hD hS hl
  have hP : va_P D vwCl [(m0, .inr (6, [.int th, .ref m1, .int (nI x), .int (bI sp), .int (nI n0), .ref m2, .ref m3, .ref m4, .ref m5, .ref m6, .int (nI ac), .int (nI re), .int sl, .int fa, .int db])), (m1, .inl (cyZ, 64, .inl (aZ w)))] H := hP
  have hD : va_D A [(m0, .inr (6, [.int th, .ref m1, .int (nI x), .int (bI sp), .int (nI n0), .ref m2, .ref m3, .ref m4, .ref m5, .ref m6, .int (nI ac), .int (nI re), .int sl, .int fa, .int db])), (m1, .inl (cyZ, 64, .inl (aZ w)))] := hD
  have hl : lv_has ls 3 [(2, .int (nI i)), (1, .int (nI g)), (0, .ref m0)] := hl
  refine lv_iload_n S.1 S.2.1 dX6_free_4 rfl (lv_at hl 0 rfl) ?_
  refine lv_bipush (v := nI 64) S.1 S.2.1 dX6_free_5 (by decide) ?_
  refine kn_icmp_ge S (by omega) (by omega) dX6_free_7 (tgt := 33) (by decide) (fun c7 => ?_) (fun c7 => ?_)
  · refine lv_iload_n S.1 S.2.1 dX6_free_33 rfl (lv_at hl 1 rfl) ?_
    refine k_topi (y := nI (cntF w 64)) (by rw [hg, show i = 64 by omega]) ?_
    exact hret _ _ _ _ dX6_free_34 hP hD hS
  · refine lv_iload_n S.1 S.2.1 dX6_free_10 rfl (lv_at hl 1 rfl) ?_
    refine lv_aload_n S.1 S.2.1 dX6_free_11 rfl (lv_at hl 2 rfl) ?_
    refine k_get S (C := RX6) (T := TX6) (N := 15) (ci := 6) hw_X6 hK hP 0 rfl rfl 1 (by decide) hf_7 rfl (v := .ref m1) rfl dX6_free_12 ?_
    refine lv_iload_n S.1 S.2.1 dX6_free_15 rfl (lv_at hl 0 rfl) ?_
    refine kn_zald S hK hP 1 2 rfl rfl (by omega) (by decide) dX6_free_16 ?_
    refine kb_if_eq S dX6_free_17 (tgt := 24) (by decide) (fun c17 => ?_) (fun c17 => ?_)
    · refine lv_iconst (v := nI 1) S.1 S.2.1 dX6_free_24 (by decide) ?_
      refine kn_iadd S dX6_free_25 ?_
      refine lv_istore_n (lv' := [(1, .int (nI (g + 1))), (2, .int (nI i)), (0, .ref m0)]) S.1 S.2.1 dX6_free_26 rfl hl (by decide) rfl (fun ls hl => ?_)
      refine lv_iinc (v := nI (i + 1)) (lv' := [(2, .int (nI (i + 1))), (1, .int (nI (g + 1))), (0, .ref m0)]) S.1 S.2.1 dX6_free_27 hl (k := 1) rfl (iinc_1 _) (by decide) rfl (fun ls hl => ?_)
      refine lv_goto (tgt := 4) S.1 S.2.1 dX6_free_30 (by decide) ?_
      exact ih4 (i + 1, g + 1) ⟨by omega, by rw [cntF, hg, c17]; rfl⟩ (by show 64 - (i + 1) < 64 - i; omega) _ _ _ hP hD hS (lv_sub hl [0, 1, 2] rfl)
    · refine lv_iconst (v := nI 0) S.1 S.2.1 dX6_free_20 (by decide) ?_
      refine lv_goto (tgt := 25) S.1 S.2.1 dX6_free_21 (by decide) ?_
      refine kn_iadd S dX6_free_25 ?_
      refine lv_istore_n (lv' := [(1, .int (nI (g + 0))), (2, .int (nI i)), (0, .ref m0)]) S.1 S.2.1 dX6_free_26 rfl hl (by decide) rfl (fun ls hl => ?_)
      refine lv_iinc (v := nI (i + 1)) (lv' := [(2, .int (nI (i + 1))), (1, .int (nI (g + 0))), (0, .ref m0)]) S.1 S.2.1 dX6_free_27 hl (k := 1) rfl (iinc_1 _) (by decide) rfl (fun ls hl => ?_)
      refine lv_goto (tgt := 4) S.1 S.2.1 dX6_free_30 (by decide) ?_
      exact ih4 (i + 1, g + 0) ⟨by omega, by rw [cntF, hg, c17]; rfl⟩ (by show 64 - (i + 1) < 64 - i; omega) _ _ _ hP hD hS (lv_sub hl [0, 1, 2] rfl)

set_option maxHeartbeats 4000000 in
set_option maxRecDepth 100000 in
theorem c_X6_next (l : Launch) (D : va_G) (cyI cyJ cyZ : ClassId) (sz : Nat) (m0 : Nat) (m1 : Nat) (m2 : Nat) (m3 : Nat) (m4 : Nat) (m5 : Nat) (m6 : Nat) (th : Int32) (x : Nat) (sp : Bool) (n0 : Nat) (ac : Nat) (re : Nat) (sl : Int32) (fa : Int32) (db : Int32) (hx : x < 65537) : Met l yX6_next wsX6_next ({ frames := 2, cells := 0, slots := 0, locals := 60 } : Room) (mPc D [(cyI, .int), (cyJ, .long), (cyZ, .boolean)] [(m0, .inr (6, [.int th, .ref m1, .int (nI x), .int (bI sp), .int (nI n0), .ref m2, .ref m3, .ref m4, .ref m5, .ref m6, .int (nI ac), .int (nI re), .int sl, .int fa, .int db]))] sz [.ref m0]) (va_Qi (fun (r : Int32) (u : va_W) => r = nI (nx x) ∧ u = [(m0, .inr (6, [.int th, .ref m1, .int (nI (nx x)), .int (bI sp), .int (nI n0), .ref m2, .ref m3, .ref m4, .ref m5, .ref m6, .int (nI ac), .int (nI re), .int sl, .int fa, .int db]))]) (mB D [(cyI, .int), (cyJ, .long), (cyZ, .boolean)] (va_A [(m0, .inr (6, [.int th, .ref m1, .int (nI x), .int (bI sp), .int (nI n0), .ref m2, .ref m3, .ref m4, .ref m5, .ref m6, .int (nI ac), .int (nI re), .int sl, .int fa, .int db]))] sz)) (va_A [(m0, .inr (6, [.int th, .ref m1, .int (nI x), .int (bI sp), .int (nI n0), .ref m2, .ref m3, .ref m4, .ref m5, .ref m6, .int (nI ac), .int (nI re), .int sl, .int fa, .int db]))] sz)) 0 0 (va_A [(m0, .inr (6, [.int th, .ref m1, .int (nI x), .int (bI sp), .int (nI n0), .ref m2, .ref m3, .ref m4, .ref m5, .ref m6, .int (nI ac), .int (nI re), .int sl, .int fa, .int db]))] sz) := by
  refine st_i (own := RX6) (lv0 := [(0, .ref m0)]) (by decide) rfl rfl (Nat.le_of_ble_eq_true rfl) rfl ?_
  intro p e s m below meth c A Q S hin hA hK hP hD hG hS hret ls hl
  have hw_X6 : ∀ w ∈ u_ws RX6 TX6 15, w ∈ wsX6_next := by decide +kernel
  have hf_13 := S.2.2.2.2 (.fieldLink RX6 13 "ParticlewayModel" "chance" "I") (by decide +kernel)
  refine lv_aload_n S.1 S.2.1 dX6_next_0 rfl (lv_at hl 0 rfl) ?_
  refine lv_bipush (v := nI 75) S.1 S.2.1 dX6_next_1 (by decide) ?_
  refine lv_aload_n S.1 S.2.1 dX6_next_3 rfl (lv_at hl 0 rfl) ?_
  refine k_get S (C := RX6) (T := TX6) (N := 15) (ci := 6) hw_X6 hK hP 0 rfl rfl 2 (by decide) hf_13 rfl (v := .int (nI x)) rfl dX6_next_4 ?_
  refine kn_imul S dX6_next_7 ?_
  refine lv_bipush (v := nI 74) S.1 S.2.1 dX6_next_8 (by decide) ?_
  refine kn_iadd S dX6_next_10 ?_
  refine lv_ldc (v := 65537) S.1 S.2.1 S.2.2.2.1 (S.2.2.2.2 (.constant RX6 58 65537) (by decide +kernel)) dX6_next_11 ?_
  refine k_topi (y := nI 65537) (by decide) ?_
  refine kn_irem S (by omega) (by omega) (by omega) dX6_next_13 ?_
  refine k_put S (C := RX6) (T := TX6) (N := 15) (ci := 6) (ws2 := [(m0, .inr (6, [.int th, .ref m1, .int (nI (((75 * x) + 74) % 65537)), .int (bI sp), .int (nI n0), .ref m2, .ref m3, .ref m4, .ref m5, .ref m6, .int (nI ac), .int (nI re), .int sl, .int fa, .int db]))]) hw_X6 tyX6 tyX6_ok nmX6 hK hP hD hS 0 rfl rfl 2 (by decide) hf_13 rfl rfl rfl rfl (Nat.le_of_ble_eq_true rfl) dX6_next_14 rfl (fun H locs hP hD hS => ?_)
  refine lv_aload_n S.1 S.2.1 dX6_next_17 rfl (lv_at hl 0 rfl) ?_
  refine k_get S (C := RX6) (T := TX6) (N := 15) (ci := 6) hw_X6 hK hP 0 rfl rfl 2 (by decide) hf_13 rfl (v := .int (nI (((75 * x) + 74) % 65537))) rfl dX6_next_18 ?_
  refine k_topi (y := nI (nx x)) (by rfl) ?_
  exact hret _ _ _ _ dX6_next_21 hP hD hS

set_option maxHeartbeats 4000000 in
set_option maxRecDepth 100000 in
theorem c_X6_drawCell (l : Launch) (D : va_G) (cyI cyJ cyZ : ClassId) (sz : Nat) (m0 : Nat) (m1 : Nat) (m2 : Nat) (m3 : Nat) (m4 : Nat) (m5 : Nat) (m6 : Nat) (th : Int32) (x : Nat) (sp : Bool) (n0 : Nat) (ac : Nat) (re : Nat) (sl : Int32) (fa : Int32) (db : Int32) (w : Nat → Bool) (hx : x < 65537) (hf0 : 0 < cntF w 64) : Met l yX6_drawCell wsX6_drawCell ({ frames := 3, cells := 0, slots := 0, locals := 82 } : Room) (mPc D [(cyI, .int), (cyJ, .long), (cyZ, .boolean)] [(m0, .inr (6, [.int th, .ref m1, .int (nI x), .int (bI sp), .int (nI n0), .ref m2, .ref m3, .ref m4, .ref m5, .ref m6, .int (nI ac), .int (nI re), .int sl, .int fa, .int db])), (m1, .inl (cyZ, 64, .inl (aZ w)))] sz [.ref m0]) (va_Qi (fun (r : Int32) (u : va_W) => r = nI (kth w (nx x % (cntF w 64))) ∧ u = [(m0, .inr (6, [.int th, .ref m1, .int (nI (nx x)), .int (bI sp), .int (nI n0), .ref m2, .ref m3, .ref m4, .ref m5, .ref m6, .int (nI ac), .int (nI re), .int sl, .int fa, .int db])), (m1, .inl (cyZ, 64, .inl (aZ w)))]) (mB D [(cyI, .int), (cyJ, .long), (cyZ, .boolean)] (va_A [(m0, .inr (6, [.int th, .ref m1, .int (nI x), .int (bI sp), .int (nI n0), .ref m2, .ref m3, .ref m4, .ref m5, .ref m6, .int (nI ac), .int (nI re), .int sl, .int fa, .int db])), (m1, .inl (cyZ, 64, .inl (aZ w)))] sz)) (va_A [(m0, .inr (6, [.int th, .ref m1, .int (nI x), .int (bI sp), .int (nI n0), .ref m2, .ref m3, .ref m4, .ref m5, .ref m6, .int (nI ac), .int (nI re), .int sl, .int fa, .int db])), (m1, .inl (cyZ, 64, .inl (aZ w)))] sz)) 0 0 (va_A [(m0, .inr (6, [.int th, .ref m1, .int (nI x), .int (bI sp), .int (nI n0), .ref m2, .ref m3, .ref m4, .ref m5, .ref m6, .int (nI ac), .int (nI re), .int sl, .int fa, .int db])), (m1, .inl (cyZ, 64, .inl (aZ w)))] sz) := by
  refine st_i (own := RX6) (lv0 := [(0, .ref m0)]) (by decide) rfl rfl (Nat.le_of_ble_eq_true rfl) rfl ?_
  intro p e s m below meth c A Q S hin hA hK hP hD hG hS hret ls hl
  have hw_X6 : ∀ w ∈ u_ws RX6 TX6 15, w ∈ wsX6_drawCell := by decide +kernel
  have hf_7 := S.2.2.2.2 (.fieldLink RX6 7 "ParticlewayModel" "isWall" "[Z") (by decide +kernel)
  have hcf := cntF_le w 64
  have h8 := Nat.mod_lt (nx x) hf0
  have h7 := nx_lt x
  refine lv_aload_n S.1 S.2.1 dX6_drawCell_0 rfl (lv_at hl 0 rfl) ?_
  refine kcV_i S (wc := [(m0, .inr (6, [.int th, .ref m1, .int (nI x), .int (bI sp), .int (nI n0), .ref m2, .ref m3, .ref m4, .ref m5, .ref m6, .int (nI ac), .int (nI re), .int sl, .int fa, .int db]))]) (wr := [(m1, .inl (cyZ, 64, .inl (aZ w)))]) (ws2 := [(m0, .inr (6, [.int th, .ref m1, .int (nI (nx x)), .int (bI sp), .int (nI n0), .ref m2, .ref m3, .ref m4, .ref m5, .ref m6, .int (nI ac), .int (nI re), .int sl, .int fa, .int db])), (m1, .inl (cyZ, 64, .inl (aZ w)))]) (As := []) (rest := []) (c_X6_next l D cyI cyJ cyZ s.heap.size m0 m1 m2 m3 m4 m5 m6 th x sp n0 ac re sl fa db (by first | assumption | omega)) (cwV 0 S.2.2.2.2 gX6_drawCell_X6_next rfl rfl rfl (by decide +kernel) ⟨Nat.le_of_ble_eq_true rfl, Nat.le_of_ble_eq_true rfl⟩) hK hP hD hS hA hG [0] [1] [1, 0] rfl rfl rfl rfl (by decide) rfl rfl (ci := 6) (q0 := 0) rfl rfl rfl hl.1 rfl (Nat.le_of_ble_eq_true rfl) dX6_drawCell_1 ⟨Nat.le_of_ble_eq_true rfl, Nat.le_of_ble_eq_true rfl⟩ (fun H locs hP hD hS => ?_)
  refine lv_aload_n S.1 S.2.1 dX6_drawCell_4 rfl (lv_at hl 0 rfl) ?_
  refine kcV_i S (wc := [(m0, .inr (6, [.int th, .ref m1, .int (nI (nx x)), .int (bI sp), .int (nI n0), .ref m2, .ref m3, .ref m4, .ref m5, .ref m6, .int (nI ac), .int (nI re), .int sl, .int fa, .int db])), (m1, .inl (cyZ, 64, .inl (aZ w)))]) (wr := []) (ws2 := [(m0, .inr (6, [.int th, .ref m1, .int (nI (nx x)), .int (bI sp), .int (nI n0), .ref m2, .ref m3, .ref m4, .ref m5, .ref m6, .int (nI ac), .int (nI re), .int sl, .int fa, .int db])), (m1, .inl (cyZ, 64, .inl (aZ w)))]) (As := []) (rest := [.int (nI (nx x))]) (c_X6_free l D cyI cyJ cyZ H.size m0 m1 m2 m3 m4 m5 m6 th (nx x) sp n0 ac re sl fa db w ) (cwV 0 S.2.2.2.2 gX6_drawCell_X6_free rfl rfl rfl (by decide +kernel) ⟨Nat.le_of_ble_eq_true rfl, Nat.le_of_ble_eq_true rfl⟩) hK hP hD hS hA hG [0, 1] [] [0, 1] rfl rfl rfl rfl (by decide) rfl rfl (ci := 6) (q0 := 0) rfl rfl rfl hl.1 rfl (Nat.le_of_ble_eq_true rfl) dX6_drawCell_5 ⟨Nat.le_of_ble_eq_true rfl, Nat.le_of_ble_eq_true rfl⟩ (fun H locs hP hD hS => ?_)
  refine kn_irem S (by omega) (by omega) (by omega) dX6_drawCell_8 ?_
  refine lv_istore_n (lv' := [(1, .int (nI ((nx x) % (cntF w 64)))), (0, .ref m0)]) S.1 S.2.1 dX6_drawCell_9 rfl hl (by decide) rfl (fun ls hl => ?_)
  refine lv_iconst (v := nI 0) S.1 S.2.1 dX6_drawCell_10 (by decide) ?_
  refine lv_istore_n (lv' := [(2, .int (nI 0)), (1, .int (nI ((nx x) % (cntF w 64)))), (0, .ref m0)]) S.1 S.2.1 dX6_drawCell_11 rfl hl (by decide) rfl (fun ls hl => ?_)
  refine wl (σ := Nat × Nat) (fun (i, q) => [(m0, .inr (6, [.int th, .ref m1, .int (nI (nx x)), .int (bI sp), .int (nI n0), .ref m2, .ref m3, .ref m4, .ref m5, .ref m6, .int (nI ac), .int (nI re), .int sl, .int fa, .int db])), (m1, .inl (cyZ, 64, .inl (aZ w)))]) (fun (i, q) => [(2, .int (nI i)), (1, .int (nI q)), (0, .ref m0)]) (fun (i, q) => (i ≤ 64) ∧ (kthF w (64 - i) i q = kth w (nx x % (cntF w 64))) ∧ (q < cntF w 64 - cntF w i)) (fun (i, q) => 64 - i) ?_ (0, (nx x) % (cntF w 64)) ⟨by omega, rfl, by rw [cntF]; omega⟩ hP hD hS (lv_sub hl [0, 1, 2] rfl)
  rintro ⟨i, q⟩ ⟨hi, hg, hql⟩ ih12 H locs ls hP hD hS hl
  have hP : va_P D vwCl [(m0, .inr (6, [.int th, .ref m1, .int (nI (nx x)), .int (bI sp), .int (nI n0), .ref m2, .ref m3, .ref m4, .ref m5, .ref m6, .int (nI ac), .int (nI re), .int sl, .int fa, .int db])), (m1, .inl (cyZ, 64, .inl (aZ w)))] H := hP
  have hD : va_D A [(m0, .inr (6, [.int th, .ref m1, .int (nI (nx x)), .int (bI sp), .int (nI n0), .ref m2, .ref m3, .ref m4, .ref m5, .ref m6, .int (nI ac), .int (nI re), .int sl, .int fa, .int db])), (m1, .inl (cyZ, 64, .inl (aZ w)))] := hD
  have hl : lv_has ls 3 [(2, .int (nI i)), (1, .int (nI q)), (0, .ref m0)] := hl
  have hi64 : i < 64 := (by rcases Nat.lt_or_ge i 64 with h9 | h9; (· exact h9); (· exfalso; have h6 : i = 64 := (by omega); subst h6; omega))
  refine lv_aload_n S.1 S.2.1 dX6_drawCell_12 rfl (lv_at hl 2 rfl) ?_
  refine k_get S (C := RX6) (T := TX6) (N := 15) (ci := 6) hw_X6 hK hP 0 rfl rfl 1 (by decide) hf_7 rfl (v := .ref m1) rfl dX6_drawCell_13 ?_
  refine lv_iload_n S.1 S.2.1 dX6_drawCell_16 rfl (lv_at hl 0 rfl) ?_
  refine kn_zald S hK hP 1 2 rfl rfl (by omega) (by decide) dX6_drawCell_17 ?_
  refine kb_if_ne S dX6_drawCell_18 (tgt := 25) (by decide) (fun c18 => ?_) (fun c18 => ?_)
  · refine lv_iload_n S.1 S.2.1 dX6_drawCell_25 rfl (lv_at hl 1 rfl) ?_
    refine lv_aload_n S.1 S.2.1 dX6_drawCell_26 rfl (lv_at hl 2 rfl) ?_
    refine k_get S (C := RX6) (T := TX6) (N := 15) (ci := 6) hw_X6 hK hP 0 rfl rfl 1 (by decide) hf_7 rfl (v := .ref m1) rfl dX6_drawCell_27 ?_
    refine lv_iload_n S.1 S.2.1 dX6_drawCell_30 rfl (lv_at hl 0 rfl) ?_
    refine kn_zald S hK hP 1 2 rfl rfl (by omega) (by decide) dX6_drawCell_31 ?_
    refine kb_if_eq S dX6_drawCell_32 (tgt := 39) (by decide) (fun c32 => ?_) (fun c32 => ?_)
    · exact absurd (c18.symm.trans c32) (by decide)
    · refine lv_iconst (v := nI 0) S.1 S.2.1 dX6_drawCell_35 (by decide) ?_
      refine lv_goto (tgt := 40) S.1 S.2.1 dX6_drawCell_36 (by decide) ?_
      refine kn_isub S (by omega) dX6_drawCell_40 ?_
      refine lv_istore_n (lv' := [(1, .int (nI (q - 0))), (2, .int (nI i)), (0, .ref m0)]) S.1 S.2.1 dX6_drawCell_41 rfl hl (by decide) rfl (fun ls hl => ?_)
      refine lv_iinc (v := nI (i + 1)) (lv' := [(2, .int (nI (i + 1))), (1, .int (nI (q - 0))), (0, .ref m0)]) S.1 S.2.1 dX6_drawCell_42 hl (k := 1) rfl (iinc_1 _) (by decide) rfl (fun ls hl => ?_)
      refine lv_goto (tgt := 12) S.1 S.2.1 dX6_drawCell_45 (by decide) ?_
      exact ih12 (i + 1, q - 0) ⟨by omega, by first | (rw [kthF_w (by omega) c18]; exact hg) | (rw [kthF_s (by omega) c18 c22]; exact hg), by have e9 : cntF w (i + 1) = cntF w i + (if w i then 0 else 1) := rfl; simp [c18] at e9; omega⟩ (by show 64 - (i + 1) < 64 - i; omega) _ _ _ hP hD hS (lv_sub hl [0, 1, 2] rfl)
  · refine lv_iload_n S.1 S.2.1 dX6_drawCell_21 rfl (lv_at hl 1 rfl) ?_
    refine kn_if_le S (by omega) dX6_drawCell_22 (tgt := 48) (by decide) (fun c22 => ?_) (fun c22 => ?_)
    · refine lv_iload_n S.1 S.2.1 dX6_drawCell_48 rfl (lv_at hl 0 rfl) ?_
      refine k_topi (y := nI (kth w (nx x % (cntF w 64)))) (by rw [← hg, c22, kthF_h (by omega) c18]) ?_
      exact hret _ _ _ _ dX6_drawCell_49 hP hD hS
    · refine lv_iload_n S.1 S.2.1 dX6_drawCell_25 rfl (lv_at hl 1 rfl) ?_
      refine lv_aload_n S.1 S.2.1 dX6_drawCell_26 rfl (lv_at hl 2 rfl) ?_
      refine k_get S (C := RX6) (T := TX6) (N := 15) (ci := 6) hw_X6 hK hP 0 rfl rfl 1 (by decide) hf_7 rfl (v := .ref m1) rfl dX6_drawCell_27 ?_
      refine lv_iload_n S.1 S.2.1 dX6_drawCell_30 rfl (lv_at hl 0 rfl) ?_
      refine kn_zald S hK hP 1 2 rfl rfl (by omega) (by decide) dX6_drawCell_31 ?_
      refine kb_if_eq S dX6_drawCell_32 (tgt := 39) (by decide) (fun c32 => ?_) (fun c32 => ?_)
      · refine lv_iconst (v := nI 1) S.1 S.2.1 dX6_drawCell_39 (by decide) ?_
        refine kn_isub S (by omega) dX6_drawCell_40 ?_
        refine lv_istore_n (lv' := [(1, .int (nI (q - 1))), (2, .int (nI i)), (0, .ref m0)]) S.1 S.2.1 dX6_drawCell_41 rfl hl (by decide) rfl (fun ls hl => ?_)
        refine lv_iinc (v := nI (i + 1)) (lv' := [(2, .int (nI (i + 1))), (1, .int (nI (q - 1))), (0, .ref m0)]) S.1 S.2.1 dX6_drawCell_42 hl (k := 1) rfl (iinc_1 _) (by decide) rfl (fun ls hl => ?_)
        refine lv_goto (tgt := 12) S.1 S.2.1 dX6_drawCell_45 (by decide) ?_
        exact ih12 (i + 1, q - 1) ⟨by omega, by first | (rw [kthF_w (by omega) c18]; exact hg) | (rw [kthF_s (by omega) c18 c22]; exact hg), by have e9 : cntF w (i + 1) = cntF w i + (if w i then 0 else 1) := rfl; simp [c18] at e9; omega⟩ (by show 64 - (i + 1) < 64 - i; omega) _ _ _ hP hD hS (lv_sub hl [0, 1, 2] rfl)
      · exact absurd (c18.symm.trans c32) (by decide)

set_option maxHeartbeats 4000000 in
set_option maxRecDepth 100000 in
theorem c_X6_step (l : Launch) (D : va_G) (cyI cyJ cyZ : ClassId) (sz : Nat) (m0 : Nat) (m1 : Nat) (m2 : Nat) (m3 : Nat) (m4 : Nat) (m5 : Nat) (m6 : Nat) (th : Int32) (x : Nat) (sp : Bool) (n0 : Nat) (ac : Nat) (re : Nat) (sl : Int32) (fa : Int32) (db : Int32) (w : Nat → Bool) (c0 : Nat) (d0 : Nat) (hc : c0 < 64) (hd : d0 < 4) : Met l yX6_step wsX6_step ({ frames := 4, cells := 0, slots := 0, locals := 103 } : Room) (mPc D [(cyI, .int), (cyJ, .long), (cyZ, .boolean)] [(m0, .inr (6, [.int th, .ref m1, .int (nI x), .int (bI sp), .int (nI n0), .ref m2, .ref m3, .ref m4, .ref m5, .ref m6, .int (nI ac), .int (nI re), .int sl, .int fa, .int db])), (m1, .inl (cyZ, 64, .inl (aZ w)))] sz [.ref m0, .int (nI c0), .int (nI d0)]) (va_Qi (fun (r : Int32) (u : va_W) => r = nI (stp w c0 d0) ∧ u = [(m0, .inr (6, [.int th, .ref m1, .int (nI x), .int (bI sp), .int (nI n0), .ref m2, .ref m3, .ref m4, .ref m5, .ref m6, .int (nI ac), .int (nI re), .int sl, .int fa, .int db])), (m1, .inl (cyZ, 64, .inl (aZ w)))]) (mB D [(cyI, .int), (cyJ, .long), (cyZ, .boolean)] (va_A [(m0, .inr (6, [.int th, .ref m1, .int (nI x), .int (bI sp), .int (nI n0), .ref m2, .ref m3, .ref m4, .ref m5, .ref m6, .int (nI ac), .int (nI re), .int sl, .int fa, .int db])), (m1, .inl (cyZ, 64, .inl (aZ w)))] sz)) (va_A [(m0, .inr (6, [.int th, .ref m1, .int (nI x), .int (bI sp), .int (nI n0), .ref m2, .ref m3, .ref m4, .ref m5, .ref m6, .int (nI ac), .int (nI re), .int sl, .int fa, .int db])), (m1, .inl (cyZ, 64, .inl (aZ w)))] sz)) 0 0 (va_A [(m0, .inr (6, [.int th, .ref m1, .int (nI x), .int (bI sp), .int (nI n0), .ref m2, .ref m3, .ref m4, .ref m5, .ref m6, .int (nI ac), .int (nI re), .int sl, .int fa, .int db])), (m1, .inl (cyZ, 64, .inl (aZ w)))] sz) := by
  refine st_i (own := RX6) (lv0 := [(0, .ref m0), (1, .int (nI c0)), (2, .int (nI d0))]) (by decide) rfl rfl (Nat.le_of_ble_eq_true rfl) rfl ?_
  intro p e s m below meth c A Q S hin hA hK hP hD hG hS hret ls hl
  have hw_X6 : ∀ w ∈ u_ws RX6 TX6 15, w ∈ wsX6_step := by decide +kernel
  have hf_7 := S.2.2.2.2 (.fieldLink RX6 7 "ParticlewayModel" "isWall" "[Z") (by decide +kernel)
  rcases (show d0 = 0 ∨ d0 = 1 ∨ d0 = 2 ∨ d0 = 3 by omega) with rfl | rfl | rfl | rfl
  · refine lv_iload_n S.1 S.2.1 dX6_step_0 rfl (lv_at hl 1 rfl) ?_
    refine lv_bipush (v := nI 8) S.1 S.2.1 dX6_step_1 (by decide) ?_
    refine kn_irem S (by omega) (by omega) (by omega) dX6_step_3 ?_
    refine lv_iload_n S.1 S.2.1 dX6_step_4 rfl (lv_at hl 2 rfl) ?_
    refine kn_if_ne S (by omega) dX6_step_5 (tgt := 12) (by decide) (fun c5 => ?_) (fun c5 => ?_)
    · exact absurd c5 (by omega)
    · refine lv_iconst (v := nI 1) S.1 S.2.1 dX6_step_8 (by decide) ?_
      refine lv_goto (tgt := 22) S.1 S.2.1 dX6_step_9 (by decide) ?_
      refine kn_iadd S dX6_step_22 ?_
      refine lv_istore_n (lv' := [(3, .int (nI ((c0 % 8) + 1))), (0, .ref m0), (1, .int (nI c0)), (2, .int (nI 0))]) S.1 S.2.1 dX6_step_23 rfl hl (by decide) rfl (fun ls hl => ?_)
      refine lv_iload_n S.1 S.2.1 dX6_step_24 rfl (lv_at hl 2 rfl) ?_
      refine lv_bipush (v := nI 8) S.1 S.2.1 dX6_step_25 (by decide) ?_
      refine kn_idiv S (by omega) (by omega) (by omega) dX6_step_27 ?_
      refine lv_iload_n S.1 S.2.1 dX6_step_28 rfl (lv_at hl 3 rfl) ?_
      refine lv_iconst (v := nI 1) S.1 S.2.1 dX6_step_29 (by decide) ?_
      refine kn_icmp_ne S (by omega) (by omega) dX6_step_30 (tgt := 37) (by decide) (fun c30 => ?_) (fun c30 => ?_)
      · refine lv_iload_n S.1 S.2.1 dX6_step_37 rfl (lv_at hl 3 rfl) ?_
        refine lv_iconst (v := nI 3) S.1 S.2.1 dX6_step_38 (by decide) ?_
        refine kn_icmp_ne S (by omega) (by omega) dX6_step_39 (tgt := 46) (by decide) (fun c39 => ?_) (fun c39 => ?_)
        · refine lv_iconst (v := nI 0) S.1 S.2.1 dX6_step_46 (by decide) ?_
          refine kn_iadd S dX6_step_47 ?_
          refine lv_istore (lv' := [(4, .int (nI ((c0 / 8) + 0))), (3, .int (nI ((c0 % 8) + 1))), (0, .ref m0), (1, .int (nI c0)), (2, .int (nI 0))]) S.1 S.2.1 dX6_step_48 hl (by decide) rfl (fun ls hl => ?_)
          refine lv_iload_n S.1 S.2.1 dX6_step_50 rfl (lv_at hl 1 rfl) ?_
          refine lv_iload S.1 S.2.1 dX6_step_51 (lv_at hl 0 rfl) ?_
          refine kcS_i S (wc := []) (wr := [(m0, .inr (6, [.int th, .ref m1, .int (nI x), .int (bI sp), .int (nI n0), .ref m2, .ref m3, .ref m4, .ref m5, .ref m6, .int (nI ac), .int (nI re), .int sl, .int fa, .int db])), (m1, .inl (cyZ, 64, .inl (aZ w)))]) (ws2 := [(m0, .inr (6, [.int th, .ref m1, .int (nI x), .int (bI sp), .int (nI n0), .ref m2, .ref m3, .ref m4, .ref m5, .ref m6, .int (nI ac), .int (nI re), .int sl, .int fa, .int db])), (m1, .inl (cyZ, 64, .inl (aZ w)))]) (As := [.int (nI ((c0 % 8) + 1)), .int (nI ((c0 / 8) + 0))]) (rest := []) (c_X6_isCell l D cyI cyJ cyZ s.heap.size (nI ((c0 % 8) + 1)) (nI ((c0 / 8) + 0)) ) (va_cwS 2 S.2.2.2.2 gX6_step_X6_isCell rfl rfl rfl (by decide +kernel) ⟨Nat.le_of_ble_eq_true rfl, Nat.le_of_ble_eq_true rfl⟩) hK hP hD hS hA hG [] [0, 1] [0, 1] rfl rfl rfl rfl (by decide) rfl rfl rfl hl.1 rfl (Nat.le_of_ble_eq_true rfl) dX6_step_53 ⟨Nat.le_of_ble_eq_true rfl, Nat.le_of_ble_eq_true rfl⟩ (fun H locs hP hD hS => ?_)
          refine k_topi (y := bI (decide (((c0 % 8) + 1) < 8 ∧ ((c0 / 8) + 0) < 8))) (by rw [inF_n (by omega) (by omega)]) ?_
          refine kb_if_eq S dX6_step_56 (tgt := 84) (by decide) (fun c56 => ?_) (fun c56 => ?_)
          · have hin4 := of_decide_eq_false c56
            refine lv_iload_n S.1 S.2.1 dX6_step_84 rfl (lv_at hl 3 rfl) ?_
            refine k_topi (y := nI (stp w c0 0)) (by rw [← stp_64 (nb_0f c0 hc (by omega))]) ?_
            exact hret _ _ _ _ dX6_step_85 hP hD hS
          · have hin3 := of_decide_eq_true c56
            refine lv_aload_n S.1 S.2.1 dX6_step_59 rfl (lv_at hl 2 rfl) ?_
            refine k_get S (C := RX6) (T := TX6) (N := 15) (ci := 6) hw_X6 hK hP 0 rfl rfl 1 (by decide) hf_7 rfl (v := .ref m1) rfl dX6_step_60 ?_
            refine lv_bipush (v := nI 8) S.1 S.2.1 dX6_step_63 (by decide) ?_
            refine lv_iload S.1 S.2.1 dX6_step_65 (lv_at hl 0 rfl) ?_
            refine kn_imul S dX6_step_67 ?_
            refine lv_iload_n S.1 S.2.1 dX6_step_68 rfl (lv_at hl 1 rfl) ?_
            refine kn_iadd S dX6_step_69 ?_
            refine kn_zald S hK hP 1 2 rfl rfl (by omega) (by decide) dX6_step_70 ?_
            refine kb_if_ne S dX6_step_71 (tgt := 84) (by decide) (fun c71 => ?_) (fun c71 => ?_)
            · refine lv_iload_n S.1 S.2.1 dX6_step_84 rfl (lv_at hl 3 rfl) ?_
              refine k_topi (y := nI (stp w c0 0)) (by rw [← stp_w (k := (8 * ((c0 / 8) + 0)) + ((c0 % 8) + 1)) ((nb_0t c0 hc (by omega)).trans (by omega)) c71]) ?_
              exact hret _ _ _ _ dX6_step_85 hP hD hS
            · refine lv_bipush (v := nI 8) S.1 S.2.1 dX6_step_74 (by decide) ?_
              refine lv_iload S.1 S.2.1 dX6_step_76 (lv_at hl 0 rfl) ?_
              refine kn_imul S dX6_step_78 ?_
              refine lv_iload_n S.1 S.2.1 dX6_step_79 rfl (lv_at hl 1 rfl) ?_
              refine kn_iadd S dX6_step_80 ?_
              refine lv_goto (tgt := 85) S.1 S.2.1 dX6_step_81 (by decide) ?_
              refine k_topi (y := nI (stp w c0 0)) (by rw [← stp_go (k := (8 * ((c0 / 8) + 0)) + ((c0 % 8) + 1)) ((nb_0t c0 hc (by omega)).trans (by omega)) (by omega) c71]) ?_
              exact hret _ _ _ _ dX6_step_85 hP hD hS
        · exact absurd c39 (by omega)
      · exact absurd c30 (by omega)
  · refine lv_iload_n S.1 S.2.1 dX6_step_0 rfl (lv_at hl 1 rfl) ?_
    refine lv_bipush (v := nI 8) S.1 S.2.1 dX6_step_1 (by decide) ?_
    refine kn_irem S (by omega) (by omega) (by omega) dX6_step_3 ?_
    refine lv_iload_n S.1 S.2.1 dX6_step_4 rfl (lv_at hl 2 rfl) ?_
    refine kn_if_ne S (by omega) dX6_step_5 (tgt := 12) (by decide) (fun c5 => ?_) (fun c5 => ?_)
    · refine lv_iload_n S.1 S.2.1 dX6_step_12 rfl (lv_at hl 2 rfl) ?_
      refine lv_iconst (v := nI 2) S.1 S.2.1 dX6_step_13 (by decide) ?_
      refine kn_icmp_ne S (by omega) (by omega) dX6_step_14 (tgt := 21) (by decide) (fun c14 => ?_) (fun c14 => ?_)
      · refine lv_iconst (v := nI 0) S.1 S.2.1 dX6_step_21 (by decide) ?_
        refine kn_iadd S dX6_step_22 ?_
        refine lv_istore_n (lv' := [(3, .int (nI ((c0 % 8) + 0))), (0, .ref m0), (1, .int (nI c0)), (2, .int (nI 1))]) S.1 S.2.1 dX6_step_23 rfl hl (by decide) rfl (fun ls hl => ?_)
        refine lv_iload_n S.1 S.2.1 dX6_step_24 rfl (lv_at hl 2 rfl) ?_
        refine lv_bipush (v := nI 8) S.1 S.2.1 dX6_step_25 (by decide) ?_
        refine kn_idiv S (by omega) (by omega) (by omega) dX6_step_27 ?_
        refine lv_iload_n S.1 S.2.1 dX6_step_28 rfl (lv_at hl 3 rfl) ?_
        refine lv_iconst (v := nI 1) S.1 S.2.1 dX6_step_29 (by decide) ?_
        refine kn_icmp_ne S (by omega) (by omega) dX6_step_30 (tgt := 37) (by decide) (fun c30 => ?_) (fun c30 => ?_)
        · exact absurd c30 (by omega)
        · refine lv_iconst (v := nI 1) S.1 S.2.1 dX6_step_33 (by decide) ?_
          refine lv_goto (tgt := 47) S.1 S.2.1 dX6_step_34 (by decide) ?_
          refine kn_iadd S dX6_step_47 ?_
          refine lv_istore (lv' := [(4, .int (nI ((c0 / 8) + 1))), (3, .int (nI ((c0 % 8) + 0))), (0, .ref m0), (1, .int (nI c0)), (2, .int (nI 1))]) S.1 S.2.1 dX6_step_48 hl (by decide) rfl (fun ls hl => ?_)
          refine lv_iload_n S.1 S.2.1 dX6_step_50 rfl (lv_at hl 1 rfl) ?_
          refine lv_iload S.1 S.2.1 dX6_step_51 (lv_at hl 0 rfl) ?_
          refine kcS_i S (wc := []) (wr := [(m0, .inr (6, [.int th, .ref m1, .int (nI x), .int (bI sp), .int (nI n0), .ref m2, .ref m3, .ref m4, .ref m5, .ref m6, .int (nI ac), .int (nI re), .int sl, .int fa, .int db])), (m1, .inl (cyZ, 64, .inl (aZ w)))]) (ws2 := [(m0, .inr (6, [.int th, .ref m1, .int (nI x), .int (bI sp), .int (nI n0), .ref m2, .ref m3, .ref m4, .ref m5, .ref m6, .int (nI ac), .int (nI re), .int sl, .int fa, .int db])), (m1, .inl (cyZ, 64, .inl (aZ w)))]) (As := [.int (nI ((c0 % 8) + 0)), .int (nI ((c0 / 8) + 1))]) (rest := []) (c_X6_isCell l D cyI cyJ cyZ s.heap.size (nI ((c0 % 8) + 0)) (nI ((c0 / 8) + 1)) ) (va_cwS 2 S.2.2.2.2 gX6_step_X6_isCell rfl rfl rfl (by decide +kernel) ⟨Nat.le_of_ble_eq_true rfl, Nat.le_of_ble_eq_true rfl⟩) hK hP hD hS hA hG [] [0, 1] [0, 1] rfl rfl rfl rfl (by decide) rfl rfl rfl hl.1 rfl (Nat.le_of_ble_eq_true rfl) dX6_step_53 ⟨Nat.le_of_ble_eq_true rfl, Nat.le_of_ble_eq_true rfl⟩ (fun H locs hP hD hS => ?_)
          refine k_topi (y := bI (decide (((c0 % 8) + 0) < 8 ∧ ((c0 / 8) + 1) < 8))) (by rw [inF_n (by omega) (by omega)]) ?_
          refine kb_if_eq S dX6_step_56 (tgt := 84) (by decide) (fun c56 => ?_) (fun c56 => ?_)
          · have hin4 := of_decide_eq_false c56
            refine lv_iload_n S.1 S.2.1 dX6_step_84 rfl (lv_at hl 3 rfl) ?_
            refine k_topi (y := nI (stp w c0 1)) (by rw [← stp_64 (nb_1f c0 hc (by omega))]) ?_
            exact hret _ _ _ _ dX6_step_85 hP hD hS
          · have hin3 := of_decide_eq_true c56
            refine lv_aload_n S.1 S.2.1 dX6_step_59 rfl (lv_at hl 2 rfl) ?_
            refine k_get S (C := RX6) (T := TX6) (N := 15) (ci := 6) hw_X6 hK hP 0 rfl rfl 1 (by decide) hf_7 rfl (v := .ref m1) rfl dX6_step_60 ?_
            refine lv_bipush (v := nI 8) S.1 S.2.1 dX6_step_63 (by decide) ?_
            refine lv_iload S.1 S.2.1 dX6_step_65 (lv_at hl 0 rfl) ?_
            refine kn_imul S dX6_step_67 ?_
            refine lv_iload_n S.1 S.2.1 dX6_step_68 rfl (lv_at hl 1 rfl) ?_
            refine kn_iadd S dX6_step_69 ?_
            refine kn_zald S hK hP 1 2 rfl rfl (by omega) (by decide) dX6_step_70 ?_
            refine kb_if_ne S dX6_step_71 (tgt := 84) (by decide) (fun c71 => ?_) (fun c71 => ?_)
            · refine lv_iload_n S.1 S.2.1 dX6_step_84 rfl (lv_at hl 3 rfl) ?_
              refine k_topi (y := nI (stp w c0 1)) (by rw [← stp_w (k := (8 * ((c0 / 8) + 1)) + ((c0 % 8) + 0)) ((nb_1t c0 hc (by omega)).trans (by omega)) c71]) ?_
              exact hret _ _ _ _ dX6_step_85 hP hD hS
            · refine lv_bipush (v := nI 8) S.1 S.2.1 dX6_step_74 (by decide) ?_
              refine lv_iload S.1 S.2.1 dX6_step_76 (lv_at hl 0 rfl) ?_
              refine kn_imul S dX6_step_78 ?_
              refine lv_iload_n S.1 S.2.1 dX6_step_79 rfl (lv_at hl 1 rfl) ?_
              refine kn_iadd S dX6_step_80 ?_
              refine lv_goto (tgt := 85) S.1 S.2.1 dX6_step_81 (by decide) ?_
              refine k_topi (y := nI (stp w c0 1)) (by rw [← stp_go (k := (8 * ((c0 / 8) + 1)) + ((c0 % 8) + 0)) ((nb_1t c0 hc (by omega)).trans (by omega)) (by omega) c71]) ?_
              exact hret _ _ _ _ dX6_step_85 hP hD hS
      · exact absurd c14 (by omega)
    · exact absurd c5 (by omega)
  · refine lv_iload_n S.1 S.2.1 dX6_step_0 rfl (lv_at hl 1 rfl) ?_
    refine lv_bipush (v := nI 8) S.1 S.2.1 dX6_step_1 (by decide) ?_
    refine kn_irem S (by omega) (by omega) (by omega) dX6_step_3 ?_
    refine lv_iload_n S.1 S.2.1 dX6_step_4 rfl (lv_at hl 2 rfl) ?_
    refine kn_if_ne S (by omega) dX6_step_5 (tgt := 12) (by decide) (fun c5 => ?_) (fun c5 => ?_)
    · refine lv_iload_n S.1 S.2.1 dX6_step_12 rfl (lv_at hl 2 rfl) ?_
      refine lv_iconst (v := nI 2) S.1 S.2.1 dX6_step_13 (by decide) ?_
      refine kn_icmp_ne S (by omega) (by omega) dX6_step_14 (tgt := 21) (by decide) (fun c14 => ?_) (fun c14 => ?_)
      · exact absurd c14 (by omega)
      · refine lv_iconst (v := (-1)) S.1 S.2.1 dX6_step_17 (by decide) ?_
        refine lv_goto (tgt := 22) S.1 S.2.1 dX6_step_18 (by decide) ?_
        refine lv_iadd S.1 S.2.1 dX6_step_22 ?_
        rcases Nat.eq_zero_or_pos (c0 % 8) with hz | hz
        · refine lv_istore_n (lv' := [(3, .int ((nI (c0 % 8)) + (-1))), (0, .ref m0), (1, .int (nI c0)), (2, .int (nI 2))]) S.1 S.2.1 dX6_step_23 rfl hl (by decide) rfl (fun ls hl => ?_)
          refine lv_iload_n S.1 S.2.1 dX6_step_24 rfl (lv_at hl 2 rfl) ?_
          refine lv_bipush (v := nI 8) S.1 S.2.1 dX6_step_25 (by decide) ?_
          refine kn_idiv S (by omega) (by omega) (by omega) dX6_step_27 ?_
          refine lv_iload_n S.1 S.2.1 dX6_step_28 rfl (lv_at hl 3 rfl) ?_
          refine lv_iconst (v := nI 1) S.1 S.2.1 dX6_step_29 (by decide) ?_
          refine kn_icmp_ne S (by omega) (by omega) dX6_step_30 (tgt := 37) (by decide) (fun c30 => ?_) (fun c30 => ?_)
          · refine lv_iload_n S.1 S.2.1 dX6_step_37 rfl (lv_at hl 3 rfl) ?_
            refine lv_iconst (v := nI 3) S.1 S.2.1 dX6_step_38 (by decide) ?_
            refine kn_icmp_ne S (by omega) (by omega) dX6_step_39 (tgt := 46) (by decide) (fun c39 => ?_) (fun c39 => ?_)
            · refine lv_iconst (v := nI 0) S.1 S.2.1 dX6_step_46 (by decide) ?_
              refine kn_iadd S dX6_step_47 ?_
              refine lv_istore (lv' := [(4, .int (nI ((c0 / 8) + 0))), (3, .int ((nI (c0 % 8)) + (-1))), (0, .ref m0), (1, .int (nI c0)), (2, .int (nI 2))]) S.1 S.2.1 dX6_step_48 hl (by decide) rfl (fun ls hl => ?_)
              refine lv_iload_n S.1 S.2.1 dX6_step_50 rfl (lv_at hl 1 rfl) ?_
              refine lv_iload S.1 S.2.1 dX6_step_51 (lv_at hl 0 rfl) ?_
              refine kcS_i S (wc := []) (wr := [(m0, .inr (6, [.int th, .ref m1, .int (nI x), .int (bI sp), .int (nI n0), .ref m2, .ref m3, .ref m4, .ref m5, .ref m6, .int (nI ac), .int (nI re), .int sl, .int fa, .int db])), (m1, .inl (cyZ, 64, .inl (aZ w)))]) (ws2 := [(m0, .inr (6, [.int th, .ref m1, .int (nI x), .int (bI sp), .int (nI n0), .ref m2, .ref m3, .ref m4, .ref m5, .ref m6, .int (nI ac), .int (nI re), .int sl, .int fa, .int db])), (m1, .inl (cyZ, 64, .inl (aZ w)))]) (As := [.int ((nI (c0 % 8)) + (-1)), .int (nI ((c0 / 8) + 0))]) (rest := []) (c_X6_isCell l D cyI cyJ cyZ s.heap.size ((nI (c0 % 8)) + (-1)) (nI ((c0 / 8) + 0)) ) (va_cwS 2 S.2.2.2.2 gX6_step_X6_isCell rfl rfl rfl (by decide +kernel) ⟨Nat.le_of_ble_eq_true rfl, Nat.le_of_ble_eq_true rfl⟩) hK hP hD hS hA hG [] [0, 1] [0, 1] rfl rfl rfl rfl (by decide) rfl rfl rfl hl.1 rfl (Nat.le_of_ble_eq_true rfl) dX6_step_53 ⟨Nat.le_of_ble_eq_true rfl, Nat.le_of_ble_eq_true rfl⟩ (fun H locs hP hD hS => ?_)
              refine k_topi (y := bI false) (by rw [hz]; first | rw [inF_m1] | rw [inF_m2]) ?_
              refine kb_if_eq S dX6_step_56 (tgt := 84) (by decide) (fun c56 => ?_) (fun c56 => ?_)
              · refine lv_iload_n S.1 S.2.1 dX6_step_84 rfl (lv_at hl 3 rfl) ?_
                refine k_topi (y := nI (stp w c0 2)) (by rw [← stp_64 (nb_2f c0 hc (by omega))]) ?_
                exact hret _ _ _ _ dX6_step_85 hP hD hS
              · exact absurd c56 (by decide)
            · exact absurd c39 (by omega)
          · exact absurd c30 (by omega)
        · refine k_topi (y := nI (c0 % 8 - 1)) (i32_m1 hz) ?_
          refine lv_istore_n (lv' := [(3, .int (nI (c0 % 8 - 1))), (0, .ref m0), (1, .int (nI c0)), (2, .int (nI 2))]) S.1 S.2.1 dX6_step_23 rfl hl (by decide) rfl (fun ls hl => ?_)
          refine lv_iload_n S.1 S.2.1 dX6_step_24 rfl (lv_at hl 2 rfl) ?_
          refine lv_bipush (v := nI 8) S.1 S.2.1 dX6_step_25 (by decide) ?_
          refine kn_idiv S (by omega) (by omega) (by omega) dX6_step_27 ?_
          refine lv_iload_n S.1 S.2.1 dX6_step_28 rfl (lv_at hl 3 rfl) ?_
          refine lv_iconst (v := nI 1) S.1 S.2.1 dX6_step_29 (by decide) ?_
          refine kn_icmp_ne S (by omega) (by omega) dX6_step_30 (tgt := 37) (by decide) (fun c30 => ?_) (fun c30 => ?_)
          · refine lv_iload_n S.1 S.2.1 dX6_step_37 rfl (lv_at hl 3 rfl) ?_
            refine lv_iconst (v := nI 3) S.1 S.2.1 dX6_step_38 (by decide) ?_
            refine kn_icmp_ne S (by omega) (by omega) dX6_step_39 (tgt := 46) (by decide) (fun c39 => ?_) (fun c39 => ?_)
            · refine lv_iconst (v := nI 0) S.1 S.2.1 dX6_step_46 (by decide) ?_
              refine kn_iadd S dX6_step_47 ?_
              refine lv_istore (lv' := [(4, .int (nI ((c0 / 8) + 0))), (3, .int (nI (c0 % 8 - 1))), (0, .ref m0), (1, .int (nI c0)), (2, .int (nI 2))]) S.1 S.2.1 dX6_step_48 hl (by decide) rfl (fun ls hl => ?_)
              refine lv_iload_n S.1 S.2.1 dX6_step_50 rfl (lv_at hl 1 rfl) ?_
              refine lv_iload S.1 S.2.1 dX6_step_51 (lv_at hl 0 rfl) ?_
              refine kcS_i S (wc := []) (wr := [(m0, .inr (6, [.int th, .ref m1, .int (nI x), .int (bI sp), .int (nI n0), .ref m2, .ref m3, .ref m4, .ref m5, .ref m6, .int (nI ac), .int (nI re), .int sl, .int fa, .int db])), (m1, .inl (cyZ, 64, .inl (aZ w)))]) (ws2 := [(m0, .inr (6, [.int th, .ref m1, .int (nI x), .int (bI sp), .int (nI n0), .ref m2, .ref m3, .ref m4, .ref m5, .ref m6, .int (nI ac), .int (nI re), .int sl, .int fa, .int db])), (m1, .inl (cyZ, 64, .inl (aZ w)))]) (As := [.int (nI (c0 % 8 - 1)), .int (nI ((c0 / 8) + 0))]) (rest := []) (c_X6_isCell l D cyI cyJ cyZ s.heap.size (nI (c0 % 8 - 1)) (nI ((c0 / 8) + 0)) ) (va_cwS 2 S.2.2.2.2 gX6_step_X6_isCell rfl rfl rfl (by decide +kernel) ⟨Nat.le_of_ble_eq_true rfl, Nat.le_of_ble_eq_true rfl⟩) hK hP hD hS hA hG [] [0, 1] [0, 1] rfl rfl rfl rfl (by decide) rfl rfl rfl hl.1 rfl (Nat.le_of_ble_eq_true rfl) dX6_step_53 ⟨Nat.le_of_ble_eq_true rfl, Nat.le_of_ble_eq_true rfl⟩ (fun H locs hP hD hS => ?_)
              refine k_topi (y := bI (decide ((c0 % 8 - 1) < 8 ∧ ((c0 / 8) + 0) < 8))) (by rw [inF_n (by omega) (by omega)]) ?_
              refine kb_if_eq S dX6_step_56 (tgt := 84) (by decide) (fun c56 => ?_) (fun c56 => ?_)
              · have hin4 := of_decide_eq_false c56
                refine lv_iload_n S.1 S.2.1 dX6_step_84 rfl (lv_at hl 3 rfl) ?_
                refine k_topi (y := nI (stp w c0 2)) (by rw [← stp_64 (nb_2f c0 hc (by omega))]) ?_
                exact hret _ _ _ _ dX6_step_85 hP hD hS
              · have hin3 := of_decide_eq_true c56
                refine lv_aload_n S.1 S.2.1 dX6_step_59 rfl (lv_at hl 2 rfl) ?_
                refine k_get S (C := RX6) (T := TX6) (N := 15) (ci := 6) hw_X6 hK hP 0 rfl rfl 1 (by decide) hf_7 rfl (v := .ref m1) rfl dX6_step_60 ?_
                refine lv_bipush (v := nI 8) S.1 S.2.1 dX6_step_63 (by decide) ?_
                refine lv_iload S.1 S.2.1 dX6_step_65 (lv_at hl 0 rfl) ?_
                refine kn_imul S dX6_step_67 ?_
                refine lv_iload_n S.1 S.2.1 dX6_step_68 rfl (lv_at hl 1 rfl) ?_
                refine kn_iadd S dX6_step_69 ?_
                refine kn_zald S hK hP 1 2 rfl rfl (by omega) (by decide) dX6_step_70 ?_
                refine kb_if_ne S dX6_step_71 (tgt := 84) (by decide) (fun c71 => ?_) (fun c71 => ?_)
                · refine lv_iload_n S.1 S.2.1 dX6_step_84 rfl (lv_at hl 3 rfl) ?_
                  refine k_topi (y := nI (stp w c0 2)) (by rw [← stp_w (k := (8 * ((c0 / 8) + 0)) + (c0 % 8 - 1)) ((nb_2t c0 hc (by omega)).trans (by omega)) c71]) ?_
                  exact hret _ _ _ _ dX6_step_85 hP hD hS
                · refine lv_bipush (v := nI 8) S.1 S.2.1 dX6_step_74 (by decide) ?_
                  refine lv_iload S.1 S.2.1 dX6_step_76 (lv_at hl 0 rfl) ?_
                  refine kn_imul S dX6_step_78 ?_
                  refine lv_iload_n S.1 S.2.1 dX6_step_79 rfl (lv_at hl 1 rfl) ?_
                  refine kn_iadd S dX6_step_80 ?_
                  refine lv_goto (tgt := 85) S.1 S.2.1 dX6_step_81 (by decide) ?_
                  refine k_topi (y := nI (stp w c0 2)) (by rw [← stp_go (k := (8 * ((c0 / 8) + 0)) + (c0 % 8 - 1)) ((nb_2t c0 hc (by omega)).trans (by omega)) (by omega) c71]) ?_
                  exact hret _ _ _ _ dX6_step_85 hP hD hS
            · exact absurd c39 (by omega)
          · exact absurd c30 (by omega)
    · exact absurd c5 (by omega)
  · refine lv_iload_n S.1 S.2.1 dX6_step_0 rfl (lv_at hl 1 rfl) ?_
    refine lv_bipush (v := nI 8) S.1 S.2.1 dX6_step_1 (by decide) ?_
    refine kn_irem S (by omega) (by omega) (by omega) dX6_step_3 ?_
    refine lv_iload_n S.1 S.2.1 dX6_step_4 rfl (lv_at hl 2 rfl) ?_
    refine kn_if_ne S (by omega) dX6_step_5 (tgt := 12) (by decide) (fun c5 => ?_) (fun c5 => ?_)
    · refine lv_iload_n S.1 S.2.1 dX6_step_12 rfl (lv_at hl 2 rfl) ?_
      refine lv_iconst (v := nI 2) S.1 S.2.1 dX6_step_13 (by decide) ?_
      refine kn_icmp_ne S (by omega) (by omega) dX6_step_14 (tgt := 21) (by decide) (fun c14 => ?_) (fun c14 => ?_)
      · refine lv_iconst (v := nI 0) S.1 S.2.1 dX6_step_21 (by decide) ?_
        refine kn_iadd S dX6_step_22 ?_
        refine lv_istore_n (lv' := [(3, .int (nI ((c0 % 8) + 0))), (0, .ref m0), (1, .int (nI c0)), (2, .int (nI 3))]) S.1 S.2.1 dX6_step_23 rfl hl (by decide) rfl (fun ls hl => ?_)
        refine lv_iload_n S.1 S.2.1 dX6_step_24 rfl (lv_at hl 2 rfl) ?_
        refine lv_bipush (v := nI 8) S.1 S.2.1 dX6_step_25 (by decide) ?_
        refine kn_idiv S (by omega) (by omega) (by omega) dX6_step_27 ?_
        refine lv_iload_n S.1 S.2.1 dX6_step_28 rfl (lv_at hl 3 rfl) ?_
        refine lv_iconst (v := nI 1) S.1 S.2.1 dX6_step_29 (by decide) ?_
        refine kn_icmp_ne S (by omega) (by omega) dX6_step_30 (tgt := 37) (by decide) (fun c30 => ?_) (fun c30 => ?_)
        · refine lv_iload_n S.1 S.2.1 dX6_step_37 rfl (lv_at hl 3 rfl) ?_
          refine lv_iconst (v := nI 3) S.1 S.2.1 dX6_step_38 (by decide) ?_
          refine kn_icmp_ne S (by omega) (by omega) dX6_step_39 (tgt := 46) (by decide) (fun c39 => ?_) (fun c39 => ?_)
          · exact absurd c39 (by omega)
          · refine lv_iconst (v := (-1)) S.1 S.2.1 dX6_step_42 (by decide) ?_
            refine lv_goto (tgt := 47) S.1 S.2.1 dX6_step_43 (by decide) ?_
            refine lv_iadd S.1 S.2.1 dX6_step_47 ?_
            rcases Nat.eq_zero_or_pos (c0 / 8) with hz | hz
            · refine lv_istore (lv' := [(4, .int ((nI (c0 / 8)) + (-1))), (3, .int (nI ((c0 % 8) + 0))), (0, .ref m0), (1, .int (nI c0)), (2, .int (nI 3))]) S.1 S.2.1 dX6_step_48 hl (by decide) rfl (fun ls hl => ?_)
              refine lv_iload_n S.1 S.2.1 dX6_step_50 rfl (lv_at hl 1 rfl) ?_
              refine lv_iload S.1 S.2.1 dX6_step_51 (lv_at hl 0 rfl) ?_
              refine kcS_i S (wc := []) (wr := [(m0, .inr (6, [.int th, .ref m1, .int (nI x), .int (bI sp), .int (nI n0), .ref m2, .ref m3, .ref m4, .ref m5, .ref m6, .int (nI ac), .int (nI re), .int sl, .int fa, .int db])), (m1, .inl (cyZ, 64, .inl (aZ w)))]) (ws2 := [(m0, .inr (6, [.int th, .ref m1, .int (nI x), .int (bI sp), .int (nI n0), .ref m2, .ref m3, .ref m4, .ref m5, .ref m6, .int (nI ac), .int (nI re), .int sl, .int fa, .int db])), (m1, .inl (cyZ, 64, .inl (aZ w)))]) (As := [.int (nI ((c0 % 8) + 0)), .int ((nI (c0 / 8)) + (-1))]) (rest := []) (c_X6_isCell l D cyI cyJ cyZ s.heap.size (nI ((c0 % 8) + 0)) ((nI (c0 / 8)) + (-1)) ) (va_cwS 2 S.2.2.2.2 gX6_step_X6_isCell rfl rfl rfl (by decide +kernel) ⟨Nat.le_of_ble_eq_true rfl, Nat.le_of_ble_eq_true rfl⟩) hK hP hD hS hA hG [] [0, 1] [0, 1] rfl rfl rfl rfl (by decide) rfl rfl rfl hl.1 rfl (Nat.le_of_ble_eq_true rfl) dX6_step_53 ⟨Nat.le_of_ble_eq_true rfl, Nat.le_of_ble_eq_true rfl⟩ (fun H locs hP hD hS => ?_)
              refine k_topi (y := bI false) (by rw [hz]; first | rw [inF_m1] | rw [inF_m2]) ?_
              refine kb_if_eq S dX6_step_56 (tgt := 84) (by decide) (fun c56 => ?_) (fun c56 => ?_)
              · refine lv_iload_n S.1 S.2.1 dX6_step_84 rfl (lv_at hl 3 rfl) ?_
                refine k_topi (y := nI (stp w c0 3)) (by rw [← stp_64 (nb_3f c0 hc (by omega))]) ?_
                exact hret _ _ _ _ dX6_step_85 hP hD hS
              · exact absurd c56 (by decide)
            · refine k_topi (y := nI (c0 / 8 - 1)) (i32_m1 hz) ?_
              refine lv_istore (lv' := [(4, .int (nI (c0 / 8 - 1))), (3, .int (nI ((c0 % 8) + 0))), (0, .ref m0), (1, .int (nI c0)), (2, .int (nI 3))]) S.1 S.2.1 dX6_step_48 hl (by decide) rfl (fun ls hl => ?_)
              refine lv_iload_n S.1 S.2.1 dX6_step_50 rfl (lv_at hl 1 rfl) ?_
              refine lv_iload S.1 S.2.1 dX6_step_51 (lv_at hl 0 rfl) ?_
              refine kcS_i S (wc := []) (wr := [(m0, .inr (6, [.int th, .ref m1, .int (nI x), .int (bI sp), .int (nI n0), .ref m2, .ref m3, .ref m4, .ref m5, .ref m6, .int (nI ac), .int (nI re), .int sl, .int fa, .int db])), (m1, .inl (cyZ, 64, .inl (aZ w)))]) (ws2 := [(m0, .inr (6, [.int th, .ref m1, .int (nI x), .int (bI sp), .int (nI n0), .ref m2, .ref m3, .ref m4, .ref m5, .ref m6, .int (nI ac), .int (nI re), .int sl, .int fa, .int db])), (m1, .inl (cyZ, 64, .inl (aZ w)))]) (As := [.int (nI ((c0 % 8) + 0)), .int (nI (c0 / 8 - 1))]) (rest := []) (c_X6_isCell l D cyI cyJ cyZ s.heap.size (nI ((c0 % 8) + 0)) (nI (c0 / 8 - 1)) ) (va_cwS 2 S.2.2.2.2 gX6_step_X6_isCell rfl rfl rfl (by decide +kernel) ⟨Nat.le_of_ble_eq_true rfl, Nat.le_of_ble_eq_true rfl⟩) hK hP hD hS hA hG [] [0, 1] [0, 1] rfl rfl rfl rfl (by decide) rfl rfl rfl hl.1 rfl (Nat.le_of_ble_eq_true rfl) dX6_step_53 ⟨Nat.le_of_ble_eq_true rfl, Nat.le_of_ble_eq_true rfl⟩ (fun H locs hP hD hS => ?_)
              refine k_topi (y := bI (decide (((c0 % 8) + 0) < 8 ∧ (c0 / 8 - 1) < 8))) (by rw [inF_n (by omega) (by omega)]) ?_
              refine kb_if_eq S dX6_step_56 (tgt := 84) (by decide) (fun c56 => ?_) (fun c56 => ?_)
              · have hin4 := of_decide_eq_false c56
                refine lv_iload_n S.1 S.2.1 dX6_step_84 rfl (lv_at hl 3 rfl) ?_
                refine k_topi (y := nI (stp w c0 3)) (by rw [← stp_64 (nb_3f c0 hc (by omega))]) ?_
                exact hret _ _ _ _ dX6_step_85 hP hD hS
              · have hin3 := of_decide_eq_true c56
                refine lv_aload_n S.1 S.2.1 dX6_step_59 rfl (lv_at hl 2 rfl) ?_
                refine k_get S (C := RX6) (T := TX6) (N := 15) (ci := 6) hw_X6 hK hP 0 rfl rfl 1 (by decide) hf_7 rfl (v := .ref m1) rfl dX6_step_60 ?_
                refine lv_bipush (v := nI 8) S.1 S.2.1 dX6_step_63 (by decide) ?_
                refine lv_iload S.1 S.2.1 dX6_step_65 (lv_at hl 0 rfl) ?_
                refine kn_imul S dX6_step_67 ?_
                refine lv_iload_n S.1 S.2.1 dX6_step_68 rfl (lv_at hl 1 rfl) ?_
                refine kn_iadd S dX6_step_69 ?_
                refine kn_zald S hK hP 1 2 rfl rfl (by omega) (by decide) dX6_step_70 ?_
                refine kb_if_ne S dX6_step_71 (tgt := 84) (by decide) (fun c71 => ?_) (fun c71 => ?_)
                · refine lv_iload_n S.1 S.2.1 dX6_step_84 rfl (lv_at hl 3 rfl) ?_
                  refine k_topi (y := nI (stp w c0 3)) (by rw [← stp_w (k := (8 * (c0 / 8 - 1)) + ((c0 % 8) + 0)) ((nb_3t c0 hc (by omega)).trans (by omega)) c71]) ?_
                  exact hret _ _ _ _ dX6_step_85 hP hD hS
                · refine lv_bipush (v := nI 8) S.1 S.2.1 dX6_step_74 (by decide) ?_
                  refine lv_iload S.1 S.2.1 dX6_step_76 (lv_at hl 0 rfl) ?_
                  refine kn_imul S dX6_step_78 ?_
                  refine lv_iload_n S.1 S.2.1 dX6_step_79 rfl (lv_at hl 1 rfl) ?_
                  refine kn_iadd S dX6_step_80 ?_
                  refine lv_goto (tgt := 85) S.1 S.2.1 dX6_step_81 (by decide) ?_
                  refine k_topi (y := nI (stp w c0 3)) (by rw [← stp_go (k := (8 * (c0 / 8 - 1)) + ((c0 % 8) + 0)) ((nb_3t c0 hc (by omega)).trans (by omega)) (by omega) c71]) ?_
                  exact hret _ _ _ _ dX6_step_85 hP hD hS
        · exact absurd c30 (by omega)
      · exact absurd c14 (by omega)
    · exact absurd c5 (by omega)

set_option maxHeartbeats 4000000 in
set_option maxRecDepth 100000 in
theorem c_X6_reads (l : Launch) (D : va_G) (cyI cyJ cyZ : ClassId) (sz : Nat) (m0 : Nat) (m1 : Nat) (m2 : Nat) (m3 : Nat) (m4 : Nat) (m5 : Nat) (m6 : Nat) (th : Int32) (x : Nat) (sp : Bool) (n0 : Nat) (ac : Nat) (re : Nat) (sl : Int32) (fa : Int32) (db : Int32) (w : Nat → Bool) (c0 : Nat) (d0 : Nat) (hc : c0 < 64) (hd : d0 < 4) : Met l yX6_reads wsX6_reads ({ frames := 5, cells := 0, slots := 0, locals := 127 } : Room) (mPc D [(cyI, .int), (cyJ, .long), (cyZ, .boolean)] [(m0, .inr (6, [.int th, .ref m1, .int (nI x), .int (bI sp), .int (nI n0), .ref m2, .ref m3, .ref m4, .ref m5, .ref m6, .int (nI ac), .int (nI re), .int sl, .int fa, .int db])), (m1, .inl (cyZ, 64, .inl (aZ w)))] sz [.ref m0, .int (nI c0), .int (nI d0)]) (va_Qi (fun (r : Int32) (u : va_W) => r = nI (rd w c0 d0) ∧ u = [(m0, .inr (6, [.int th, .ref m1, .int (nI x), .int (bI sp), .int (nI n0), .ref m2, .ref m3, .ref m4, .ref m5, .ref m6, .int (nI ac), .int (nI re), .int sl, .int fa, .int db])), (m1, .inl (cyZ, 64, .inl (aZ w)))]) (mB D [(cyI, .int), (cyJ, .long), (cyZ, .boolean)] (va_A [(m0, .inr (6, [.int th, .ref m1, .int (nI x), .int (bI sp), .int (nI n0), .ref m2, .ref m3, .ref m4, .ref m5, .ref m6, .int (nI ac), .int (nI re), .int sl, .int fa, .int db])), (m1, .inl (cyZ, 64, .inl (aZ w)))] sz)) (va_A [(m0, .inr (6, [.int th, .ref m1, .int (nI x), .int (bI sp), .int (nI n0), .ref m2, .ref m3, .ref m4, .ref m5, .ref m6, .int (nI ac), .int (nI re), .int sl, .int fa, .int db])), (m1, .inl (cyZ, 64, .inl (aZ w)))] sz)) 0 0 (va_A [(m0, .inr (6, [.int th, .ref m1, .int (nI x), .int (bI sp), .int (nI n0), .ref m2, .ref m3, .ref m4, .ref m5, .ref m6, .int (nI ac), .int (nI re), .int sl, .int fa, .int db])), (m1, .inl (cyZ, 64, .inl (aZ w)))] sz) := by
  refine st_i (own := RX6) (lv0 := [(0, .ref m0), (1, .int (nI c0)), (2, .int (nI d0))]) (by decide) rfl rfl (Nat.le_of_ble_eq_true rfl) rfl ?_
  intro p e s m below meth c A Q S hin hA hK hP hD hG hS hret ls hl
  refine lv_iconst (v := nI 0) S.1 S.2.1 dX6_reads_0 (by decide) ?_
  refine lv_istore_n (lv' := [(3, .int (nI 0)), (0, .ref m0), (1, .int (nI c0)), (2, .int (nI d0))]) S.1 S.2.1 dX6_reads_1 rfl hl (by decide) rfl (fun ls hl => ?_)
  refine lv_iload_n S.1 S.2.1 dX6_reads_2 rfl (lv_at hl 2 rfl) ?_
  refine lv_istore (lv' := [(4, .int (nI c0)), (3, .int (nI 0)), (0, .ref m0), (1, .int (nI c0)), (2, .int (nI d0))]) S.1 S.2.1 dX6_reads_3 hl (by decide) rfl (fun ls hl => ?_)
  refine wl (σ := Nat × Nat) (fun (i, at9) => [(m0, .inr (6, [.int th, .ref m1, .int (nI x), .int (bI sp), .int (nI n0), .ref m2, .ref m3, .ref m4, .ref m5, .ref m6, .int (nI ac), .int (nI re), .int sl, .int fa, .int db])), (m1, .inl (cyZ, 64, .inl (aZ w)))]) (fun (i, at9) => [(4, .int (nI at9)), (3, .int (nI i)), (0, .ref m0), (1, .int (nI c0)), (2, .int (nI d0))]) (fun (i, at9) => (i < 8) ∧ (at9 = sh c0 d0 i) ∧ (at9 < 64) ∧ (rdF w c0 d0 (8 - i) i = rd w c0 d0)) (fun (i, at9) => 8 - i) ?_ (0, c0) ⟨by omega, (sh_0 c0 hc d0 hd).symm, hc, rfl⟩ hP hD hS (lv_sub hl [0, 1, 2, 3, 4] rfl)
  rintro ⟨i, at9⟩ ⟨hi, hat, hlt, hg⟩ ih5 H locs ls hP hD hS hl
  have hP : va_P D vwCl [(m0, .inr (6, [.int th, .ref m1, .int (nI x), .int (bI sp), .int (nI n0), .ref m2, .ref m3, .ref m4, .ref m5, .ref m6, .int (nI ac), .int (nI re), .int sl, .int fa, .int db])), (m1, .inl (cyZ, 64, .inl (aZ w)))] H := hP
  have hD : va_D A [(m0, .inr (6, [.int th, .ref m1, .int (nI x), .int (bI sp), .int (nI n0), .ref m2, .ref m3, .ref m4, .ref m5, .ref m6, .int (nI ac), .int (nI re), .int sl, .int fa, .int db])), (m1, .inl (cyZ, 64, .inl (aZ w)))] := hD
  have hl : lv_has ls 5 [(4, .int (nI at9)), (3, .int (nI i)), (0, .ref m0), (1, .int (nI c0)), (2, .int (nI d0))] := hl
  have hsl : stp w at9 d0 < 64 := (by rcases stp_cases w at9 d0 with h9 | ⟨h9, h8⟩; (· rw [h9]; exact hlt); (· rw [h9]; exact (fre_lt h8).1))
  refine lv_aload_n S.1 S.2.1 dX6_reads_5 rfl (lv_at hl 2 rfl) ?_
  refine lv_iload S.1 S.2.1 dX6_reads_6 (lv_at hl 0 rfl) ?_
  refine lv_iload_n S.1 S.2.1 dX6_reads_8 rfl (lv_at hl 4 rfl) ?_
  refine kcV_i S (wc := [(m0, .inr (6, [.int th, .ref m1, .int (nI x), .int (bI sp), .int (nI n0), .ref m2, .ref m3, .ref m4, .ref m5, .ref m6, .int (nI ac), .int (nI re), .int sl, .int fa, .int db])), (m1, .inl (cyZ, 64, .inl (aZ w)))]) (wr := []) (ws2 := [(m0, .inr (6, [.int th, .ref m1, .int (nI x), .int (bI sp), .int (nI n0), .ref m2, .ref m3, .ref m4, .ref m5, .ref m6, .int (nI ac), .int (nI re), .int sl, .int fa, .int db])), (m1, .inl (cyZ, 64, .inl (aZ w)))]) (As := [.int (nI at9), .int (nI d0)]) (rest := []) (c_X6_step l D cyI cyJ cyZ H.size m0 m1 m2 m3 m4 m5 m6 th x sp n0 ac re sl fa db w at9 d0 (hlt) (by first | assumption | omega)) (cwV 2 S.2.2.2.2 gX6_reads_X6_step rfl rfl rfl (by decide +kernel) ⟨Nat.le_of_ble_eq_true rfl, Nat.le_of_ble_eq_true rfl⟩) hK hP hD hS hA hG [0, 1] [] [0, 1] rfl rfl rfl rfl (by decide) rfl rfl (ci := 6) (q0 := 0) rfl rfl rfl hl.1 rfl (Nat.le_of_ble_eq_true rfl) dX6_reads_9 ⟨Nat.le_of_ble_eq_true rfl, Nat.le_of_ble_eq_true rfl⟩ (fun H locs hP hD hS => ?_)
  refine lv_iload S.1 S.2.1 dX6_reads_12 (lv_at hl 0 rfl) ?_
  refine kn_icmp_eq S (by omega) (by omega) dX6_reads_14 (tgt := 32) (by decide) (fun c14 => ?_) (fun c14 => ?_)
  · have hst : fre w (sh c0 d0 (i + 1)) = false := (by rw [sh_s c0 hc d0 hd i (by omega) (by rw [← hat]; exact hlt), ← hat]; cases h9 : fre w (nb at9 d0); (· rfl); (· exfalso; rw [stp, if_pos h9] at c14; exact nb_ne at9 hlt d0 hd c14))
    refine lv_iload_n S.1 S.2.1 dX6_reads_32 rfl (lv_at hl 1 rfl) ?_
    refine k_topi (y := nI (rd w c0 d0)) (by rw [← hg, rdF_stop hst]) ?_
    exact hret _ _ _ _ dX6_reads_33 hP hD hS
  · have hnx : stp w at9 d0 = nb at9 d0 ∧ fre w (nb at9 d0) = true := (stp_cases w at9 d0).resolve_left c14
    have hs1 : sh c0 d0 (i + 1) = nb at9 d0 := (by rw [hat]; exact sh_s c0 hc d0 hd i (by omega) (by rw [← hat]; exact hlt))
    have hi7 : i + 1 < 8 := (by rcases Nat.lt_or_ge (i + 1) 8 with h9 | h9; (· exact h9); (· exfalso; have h6 : i = 7 := (by omega); subst h6; have h5 := hnx.2; rw [← hs1, sh_8 c0 hc d0 hd, fre_64] at h5; cases h5))
    refine lv_aload_n S.1 S.2.1 dX6_reads_17 rfl (lv_at hl 2 rfl) ?_
    refine lv_iload S.1 S.2.1 dX6_reads_18 (lv_at hl 0 rfl) ?_
    refine lv_iload_n S.1 S.2.1 dX6_reads_20 rfl (lv_at hl 4 rfl) ?_
    refine kcV_i S (wc := [(m0, .inr (6, [.int th, .ref m1, .int (nI x), .int (bI sp), .int (nI n0), .ref m2, .ref m3, .ref m4, .ref m5, .ref m6, .int (nI ac), .int (nI re), .int sl, .int fa, .int db])), (m1, .inl (cyZ, 64, .inl (aZ w)))]) (wr := []) (ws2 := [(m0, .inr (6, [.int th, .ref m1, .int (nI x), .int (bI sp), .int (nI n0), .ref m2, .ref m3, .ref m4, .ref m5, .ref m6, .int (nI ac), .int (nI re), .int sl, .int fa, .int db])), (m1, .inl (cyZ, 64, .inl (aZ w)))]) (As := [.int (nI at9), .int (nI d0)]) (rest := []) (c_X6_step l D cyI cyJ cyZ H.size m0 m1 m2 m3 m4 m5 m6 th x sp n0 ac re sl fa db w at9 d0 (hlt) (by first | assumption | omega)) (cwV 2 S.2.2.2.2 gX6_reads_X6_step rfl rfl rfl (by decide +kernel) ⟨Nat.le_of_ble_eq_true rfl, Nat.le_of_ble_eq_true rfl⟩) hK hP hD hS hA hG [0, 1] [] [0, 1] rfl rfl rfl rfl (by decide) rfl rfl (ci := 6) (q0 := 0) rfl rfl rfl hl.1 rfl (Nat.le_of_ble_eq_true rfl) dX6_reads_21 ⟨Nat.le_of_ble_eq_true rfl, Nat.le_of_ble_eq_true rfl⟩ (fun H locs hP hD hS => ?_)
    refine lv_istore (lv' := [(4, .int (nI (stp w at9 d0))), (3, .int (nI i)), (0, .ref m0), (1, .int (nI c0)), (2, .int (nI d0))]) S.1 S.2.1 dX6_reads_24 hl (by decide) rfl (fun ls hl => ?_)
    refine lv_iinc (v := nI (i + 1)) (lv' := [(3, .int (nI (i + 1))), (4, .int (nI (stp w at9 d0))), (0, .ref m0), (1, .int (nI c0)), (2, .int (nI d0))]) S.1 S.2.1 dX6_reads_26 hl (k := 1) rfl (iinc_1 _) (by decide) rfl (fun ls hl => ?_)
    refine lv_goto (tgt := 5) S.1 S.2.1 dX6_reads_29 (by decide) ?_
    exact ih5 (i + 1, stp w at9 d0) ⟨by omega, by rw [hnx.1, hs1], hsl, by rw [rdF_step (by omega) (by rw [hs1, ← hnx.1]; rw [hnx.1]; exact hnx.2)]; exact hg⟩ (by show 8 - (i + 1) < 8 - i; omega) _ _ _ hP hD hS (lv_sub hl [1, 0, 2, 3, 4] rfl)

set_option maxHeartbeats 4000000 in
set_option maxRecDepth 100000 in
theorem c_X6_weightOf (l : Launch) (D : va_G) (cyI cyJ cyZ : ClassId) (sz : Nat) (m0 : Nat) (m1 : Nat) (m2 : Nat) (m3 : Nat) (m4 : Nat) (m5 : Nat) (m6 : Nat) (th : Int32) (x : Nat) (sp : Bool) (n0 : Nat) (ac : Nat) (re : Nat) (sl : Int32) (fa : Int32) (db : Int32) (w : Nat → Bool) (c0 : Nat) (d0 : Nat) (r0 : Nat) (hc : c0 < 64) (hd : d0 < 4) (hr : r0 < 8) : Met l yX6_weightOf wsX6_weightOf ({ frames := 6, cells := 0, slots := 0, locals := 151 } : Room) (mPc D [(cyI, .int), (cyJ, .long), (cyZ, .boolean)] [(m0, .inr (6, [.int th, .ref m1, .int (nI x), .int (bI sp), .int (nI n0), .ref m2, .ref m3, .ref m4, .ref m5, .ref m6, .int (nI ac), .int (nI re), .int sl, .int fa, .int db])), (m1, .inl (cyZ, 64, .inl (aZ w)))] sz [.ref m0, .int (nI c0), .int (nI d0), .int (nI r0)]) (va_Qi (fun (r : Int32) (u : va_W) => r = nI (wt w c0 d0 r0) ∧ u = [(m0, .inr (6, [.int th, .ref m1, .int (nI x), .int (bI sp), .int (nI n0), .ref m2, .ref m3, .ref m4, .ref m5, .ref m6, .int (nI ac), .int (nI re), .int sl, .int fa, .int db])), (m1, .inl (cyZ, 64, .inl (aZ w)))]) (mB D [(cyI, .int), (cyJ, .long), (cyZ, .boolean)] (va_A [(m0, .inr (6, [.int th, .ref m1, .int (nI x), .int (bI sp), .int (nI n0), .ref m2, .ref m3, .ref m4, .ref m5, .ref m6, .int (nI ac), .int (nI re), .int sl, .int fa, .int db])), (m1, .inl (cyZ, 64, .inl (aZ w)))] sz)) (va_A [(m0, .inr (6, [.int th, .ref m1, .int (nI x), .int (bI sp), .int (nI n0), .ref m2, .ref m3, .ref m4, .ref m5, .ref m6, .int (nI ac), .int (nI re), .int sl, .int fa, .int db])), (m1, .inl (cyZ, 64, .inl (aZ w)))] sz)) 0 0 (va_A [(m0, .inr (6, [.int th, .ref m1, .int (nI x), .int (bI sp), .int (nI n0), .ref m2, .ref m3, .ref m4, .ref m5, .ref m6, .int (nI ac), .int (nI re), .int sl, .int fa, .int db])), (m1, .inl (cyZ, 64, .inl (aZ w)))] sz) := by
  refine st_i (own := RX6) (lv0 := [(0, .ref m0), (1, .int (nI c0)), (2, .int (nI d0)), (3, .int (nI r0))]) (by decide) rfl rfl (Nat.le_of_ble_eq_true rfl) rfl ?_
  intro p e s m below meth c A Q S hin hA hK hP hD hG hS hret ls hl
  have hrl := rd_le w c0 d0
  have hdl := dst_le (w := w) (c := c0) (d := d0) hr
  refine lv_aload_n S.1 S.2.1 dX6_weightOf_0 rfl (lv_at hl 0 rfl) ?_
  refine lv_iload_n S.1 S.2.1 dX6_weightOf_1 rfl (lv_at hl 1 rfl) ?_
  refine lv_iload_n S.1 S.2.1 dX6_weightOf_2 rfl (lv_at hl 2 rfl) ?_
  refine kcV_i S (wc := [(m0, .inr (6, [.int th, .ref m1, .int (nI x), .int (bI sp), .int (nI n0), .ref m2, .ref m3, .ref m4, .ref m5, .ref m6, .int (nI ac), .int (nI re), .int sl, .int fa, .int db])), (m1, .inl (cyZ, 64, .inl (aZ w)))]) (wr := []) (ws2 := [(m0, .inr (6, [.int th, .ref m1, .int (nI x), .int (bI sp), .int (nI n0), .ref m2, .ref m3, .ref m4, .ref m5, .ref m6, .int (nI ac), .int (nI re), .int sl, .int fa, .int db])), (m1, .inl (cyZ, 64, .inl (aZ w)))]) (As := [.int (nI c0), .int (nI d0)]) (rest := []) (c_X6_reads l D cyI cyJ cyZ s.heap.size m0 m1 m2 m3 m4 m5 m6 th x sp n0 ac re sl fa db w c0 d0 (by first | assumption | omega) (by first | assumption | omega)) (cwV 2 S.2.2.2.2 gX6_weightOf_X6_reads rfl rfl rfl (by decide +kernel) ⟨Nat.le_of_ble_eq_true rfl, Nat.le_of_ble_eq_true rfl⟩) hK hP hD hS hA hG [0, 1] [] [0, 1] rfl rfl rfl rfl (by decide) rfl rfl (ci := 6) (q0 := 0) rfl rfl rfl hl.1 rfl (Nat.le_of_ble_eq_true rfl) dX6_weightOf_3 ⟨Nat.le_of_ble_eq_true rfl, Nat.le_of_ble_eq_true rfl⟩ (fun H locs hP hD hS => ?_)
  refine lv_iload_n S.1 S.2.1 dX6_weightOf_6 rfl (lv_at hl 3 rfl) ?_
  rcases Nat.lt_or_ge (rd w c0 d0) r0 with hlt | hge
  · refine lv_isub S.1 S.2.1 dX6_weightOf_7 ?_
    refine k_topi (y := -nI (r0 - rd w c0 d0)) (i32_neg hlt) ?_
    refine lv_istore (lv' := [(4, .int (-nI (r0 - rd w c0 d0))), (0, .ref m0), (1, .int (nI c0)), (2, .int (nI d0)), (3, .int (nI r0))]) S.1 S.2.1 dX6_weightOf_8 hl (by decide) rfl (fun ls hl => ?_)
    refine lv_iload S.1 S.2.1 dX6_weightOf_10 (lv_at hl 0 rfl) ?_
    refine lv_if_ge S.1 S.2.1 dX6_weightOf_12 (tgt := 21) (by decide) (fun c12 => ?_) (fun c12 => ?_)
    · exact absurd c12 (i32_neg_lt (by omega) (by omega))
    · refine lv_iload S.1 S.2.1 dX6_weightOf_15 (lv_at hl 0 rfl) ?_
      refine lv_ineg S.1 S.2.1 dX6_weightOf_17 ?_
      refine lv_goto (tgt := 23) S.1 S.2.1 dX6_weightOf_18 (by decide) ?_
      refine k_topi (y := nI (dst (rd w c0 d0) r0)) (by rw [i32_nn, dst_lt hlt]) ?_
      refine lv_istore (lv' := [(4, .int (nI (dst (rd w c0 d0) r0))), (0, .ref m0), (1, .int (nI c0)), (2, .int (nI d0)), (3, .int (nI r0))]) S.1 S.2.1 dX6_weightOf_23 hl (by decide) rfl (fun ls hl => ?_)
      refine lv_iload S.1 S.2.1 dX6_weightOf_25 (lv_at hl 0 rfl) ?_
      refine kn_if_ne S (by omega) dX6_weightOf_27 (tgt := 35) (by decide) (fun c27 => ?_) (fun c27 => ?_)
      · refine lv_iload S.1 S.2.1 dX6_weightOf_35 (lv_at hl 0 rfl) ?_
        refine lv_iconst (v := nI 1) S.1 S.2.1 dX6_weightOf_37 (by decide) ?_
        refine kn_icmp_ne S (by omega) (by omega) dX6_weightOf_38 (tgt := 45) (by decide) (fun c38 => ?_) (fun c38 => ?_)
        · refine lv_iload S.1 S.2.1 dX6_weightOf_45 (lv_at hl 0 rfl) ?_
          refine lv_iconst (v := nI 2) S.1 S.2.1 dX6_weightOf_47 (by decide) ?_
          refine kn_icmp_ne S (by omega) (by omega) dX6_weightOf_48 (tgt := 55) (by decide) (fun c48 => ?_) (fun c48 => ?_)
          · refine lv_iconst (v := nI 0) S.1 S.2.1 dX6_weightOf_55 (by decide) ?_
            refine k_topi (y := nI (wt w c0 d0 r0)) (by rw [wt, wv, if_neg (by omega), if_neg c38, if_neg c48]) ?_
            exact hret _ _ _ _ dX6_weightOf_56 hP hD hS
          · refine lv_iconst (v := nI 1) S.1 S.2.1 dX6_weightOf_51 (by decide) ?_
            refine lv_goto (tgt := 56) S.1 S.2.1 dX6_weightOf_52 (by decide) ?_
            refine k_topi (y := nI (wt w c0 d0 r0)) (by rw [wt, c48]; rfl) ?_
            exact hret _ _ _ _ dX6_weightOf_56 hP hD hS
        · refine lv_iconst (v := nI 3) S.1 S.2.1 dX6_weightOf_41 (by decide) ?_
          refine lv_goto (tgt := 56) S.1 S.2.1 dX6_weightOf_42 (by decide) ?_
          refine k_topi (y := nI (wt w c0 d0 r0)) (by rw [wt, c38]; rfl) ?_
          exact hret _ _ _ _ dX6_weightOf_56 hP hD hS
      · refine lv_bipush (v := nI 8) S.1 S.2.1 dX6_weightOf_30 (by decide) ?_
        refine lv_goto (tgt := 56) S.1 S.2.1 dX6_weightOf_32 (by decide) ?_
        refine k_topi (y := nI (wt w c0 d0 r0)) (by rw [wt, c27]; rfl) ?_
        exact hret _ _ _ _ dX6_weightOf_56 hP hD hS
  · refine kn_isub S (by omega) dX6_weightOf_7 ?_
    refine lv_istore (lv' := [(4, .int (nI ((rd w c0 d0) - r0))), (0, .ref m0), (1, .int (nI c0)), (2, .int (nI d0)), (3, .int (nI r0))]) S.1 S.2.1 dX6_weightOf_8 hl (by decide) rfl (fun ls hl => ?_)
    refine lv_iload S.1 S.2.1 dX6_weightOf_10 (lv_at hl 0 rfl) ?_
    refine kn_if_ge S (by omega) dX6_weightOf_12 (tgt := 21) (by decide) ?_
    refine lv_iload S.1 S.2.1 dX6_weightOf_21 (lv_at hl 0 rfl) ?_
    refine k_topi (y := nI (dst (rd w c0 d0) r0)) (by rw [dst_ge hge]) ?_
    refine lv_istore (lv' := [(4, .int (nI (dst (rd w c0 d0) r0))), (0, .ref m0), (1, .int (nI c0)), (2, .int (nI d0)), (3, .int (nI r0))]) S.1 S.2.1 dX6_weightOf_23 hl (by decide) rfl (fun ls hl => ?_)
    refine lv_iload S.1 S.2.1 dX6_weightOf_25 (lv_at hl 0 rfl) ?_
    refine kn_if_ne S (by omega) dX6_weightOf_27 (tgt := 35) (by decide) (fun c27 => ?_) (fun c27 => ?_)
    · refine lv_iload S.1 S.2.1 dX6_weightOf_35 (lv_at hl 0 rfl) ?_
      refine lv_iconst (v := nI 1) S.1 S.2.1 dX6_weightOf_37 (by decide) ?_
      refine kn_icmp_ne S (by omega) (by omega) dX6_weightOf_38 (tgt := 45) (by decide) (fun c38 => ?_) (fun c38 => ?_)
      · refine lv_iload S.1 S.2.1 dX6_weightOf_45 (lv_at hl 0 rfl) ?_
        refine lv_iconst (v := nI 2) S.1 S.2.1 dX6_weightOf_47 (by decide) ?_
        refine kn_icmp_ne S (by omega) (by omega) dX6_weightOf_48 (tgt := 55) (by decide) (fun c48 => ?_) (fun c48 => ?_)
        · refine lv_iconst (v := nI 0) S.1 S.2.1 dX6_weightOf_55 (by decide) ?_
          refine k_topi (y := nI (wt w c0 d0 r0)) (by rw [wt, wv, if_neg (by omega), if_neg c38, if_neg c48]) ?_
          exact hret _ _ _ _ dX6_weightOf_56 hP hD hS
        · refine lv_iconst (v := nI 1) S.1 S.2.1 dX6_weightOf_51 (by decide) ?_
          refine lv_goto (tgt := 56) S.1 S.2.1 dX6_weightOf_52 (by decide) ?_
          refine k_topi (y := nI (wt w c0 d0 r0)) (by rw [wt, c48]; rfl) ?_
          exact hret _ _ _ _ dX6_weightOf_56 hP hD hS
      · refine lv_iconst (v := nI 3) S.1 S.2.1 dX6_weightOf_41 (by decide) ?_
        refine lv_goto (tgt := 56) S.1 S.2.1 dX6_weightOf_42 (by decide) ?_
        refine k_topi (y := nI (wt w c0 d0 r0)) (by rw [wt, c38]; rfl) ?_
        exact hret _ _ _ _ dX6_weightOf_56 hP hD hS
    · refine lv_bipush (v := nI 8) S.1 S.2.1 dX6_weightOf_30 (by decide) ?_
      refine lv_goto (tgt := 56) S.1 S.2.1 dX6_weightOf_32 (by decide) ?_
      refine k_topi (y := nI (wt w c0 d0 r0)) (by rw [wt, c27]; rfl) ?_
      exact hret _ _ _ _ dX6_weightOf_56 hP hD hS
end MODELA
