section CLASSA
set_option maxHeartbeats 4000000 in
set_option maxRecDepth 100000 in
theorem c_X5_checkCell (l : Launch) (D : va_G) (cyI cyJ cyZ : ClassId) (sz : Nat) (v : Nat) (v2 : Nat) (hv : v < 8) (hv2 : v2 < 8) : Met l yX5_checkCell wsX5_checkCell ({ frames := 3, cells := 0, slots := 0, locals := 81 } : Room) (mPc D [(cyI, .int), (cyJ, .long), (cyZ, .boolean)] [] sz [.int (nI v), .int (nI v2)]) (va_Qv (fun (u : va_W) => u = []) (mB D [(cyI, .int), (cyJ, .long), (cyZ, .boolean)] (va_A [] sz)) (va_A [] sz)) 0 0 (va_A [] sz) := by
  refine st_v (own := RX5) (lv0 := [(0, .int (nI v)), (1, .int (nI v2))]) (by decide) rfl rfl (Nat.le_of_ble_eq_true rfl) rfl ?_
  intro p e s m below meth c A Q S hin hA hK hP hD hG hS hret ls hl
  refine lv_iload_n S.1 S.2.1 dX5_checkCell_0 rfl (lv_at hl 0 rfl) ?_
  refine lv_iload_n S.1 S.2.1 dX5_checkCell_1 rfl (lv_at hl 1 rfl) ?_
  refine kcS_i S (wc := []) (wr := []) (ws2 := []) (As := [.int (nI v), .int (nI v2)]) (rest := []) (c_X5_isInField l D cyI cyJ cyZ s.heap.size v v2 (by first | assumption | omega) (by first | assumption | omega)) (va_cwS 2 S.2.2.2.2 gX5_checkCell_X5_isInField rfl rfl rfl (by decide +kernel) ⟨Nat.le_of_ble_eq_true rfl, Nat.le_of_ble_eq_true rfl⟩) hK hP hD hS hA hG [] [] [] rfl rfl rfl rfl (by decide) rfl rfl rfl hl.1 rfl (Nat.le_of_ble_eq_true rfl) dX5_checkCell_2 ⟨Nat.le_of_ble_eq_true rfl, Nat.le_of_ble_eq_true rfl⟩ (fun H locs hP hD hS => ?_)
  refine kb_if_ne S dX5_checkCell_5 (tgt := 16) (by decide) (fun c5 => ?_) (fun c5 => ?_)
  · exact hret _ _ _ _ dX5_checkCell_16 hP hD hS
  · exact absurd c5 (by decide)
set_option maxHeartbeats 4000000 in
set_option maxRecDepth 100000 in
theorem c_X5_checkCell_x (l : Launch) (D : va_G) (cyI cyJ cyZ : ClassId) (sz : Nat) (hlt : l.stackTraces = false) (v : Int32) (v2 : Int32) (hxy : inF v v2 = false) : vx_Met l yX5_checkCell wsX5_checkCell ({ frames := 6, cells := 1, slots := 6, locals := 100 } : Room) (mPc D [(cyI, .int), (cyJ, .long), (cyZ, .boolean)] [] sz [.int v, .int v2]) (va_Qv (fun (u : va_W) => False) (mB D [(cyI, .int), (cyJ, .long), (cyZ, .boolean)] (va_A [] sz)) (va_A [] sz)) (mX D [(cyI, .int), (cyJ, .long), (cyZ, .boolean)] "java/lang/IndexOutOfBoundsException" [] sz) 1 6 (va_A [] sz) := by
  refine st_t (own := RX5) (lv0 := [(0, .int v), (1, .int v2)]) hlt (by decide) rfl rfl (Nat.le_of_ble_eq_true rfl) rfl (by decide +kernel) (Nat.le_of_ble_eq_true rfl) (Nat.le_of_ble_eq_true rfl) rfl rfl ?_
  intro p e s m below meth c A Q S hA hK hP hD hG hS hthr hprop ls hl
  refine lv_iload_n S.1 S.2.1 dX5_checkCell_0 rfl (lv_at hl 0 rfl) ?_
  refine lv_iload_n S.1 S.2.1 dX5_checkCell_1 rfl (lv_at hl 1 rfl) ?_
  refine kcS_i S (wc := []) (wr := []) (ws2 := []) (As := [.int v, .int v2]) (rest := []) (c_X5_isInField_r l D cyI cyJ cyZ s.heap.size v v2 ) (va_cwS 2 S.2.2.2.2 gX5_checkCell_X5_isInField rfl rfl rfl (by decide +kernel) ⟨Nat.le_of_ble_eq_true rfl, Nat.le_of_ble_eq_true rfl⟩) hK hP hD hS hA hG [] [] [] rfl rfl rfl rfl (by decide) rfl rfl rfl hl.1 rfl (Nat.le_of_ble_eq_true rfl) dX5_checkCell_2 ⟨Nat.le_of_ble_eq_true rfl, Nat.le_of_ble_eq_true rfl⟩ (fun H locs hP hD hS => ?_)
  refine k_topi (y := bI false) (by rw [hxy]) ?_
  refine kb_if_ne S dX5_checkCell_5 (tgt := 16) (by decide) (fun c5 => ?_) (fun c5 => ?_)
  · exact absurd c5 (by decide)
  · exact hthr _ _ _ _ _ 125 127 dX5_checkCell_8 dX5_checkCell_11 dX5_checkCell_12 dX5_checkCell_15 (S.2.2.2.2 (.classLink RX5 125 "java/lang/IndexOutOfBoundsException") (by decide +kernel)) (S.2.2.2.2 (.initialized "java/lang/IndexOutOfBoundsException") (by decide +kernel)) (fun w9 hw9 => S.2.2.2.2 w9 (by first | exact List.mem_cons_of_mem _ (List.mem_append_right _ hw9) | exact List.mem_cons_of_mem _ (List.mem_append_left _ (List.mem_append_right _ hw9)) | exact List.mem_cons_of_mem _ (List.mem_append_left _ (List.mem_append_left _ (List.mem_append_right _ hw9))))) (by decide +kernel) hG.2.2.2.2.2.2.2.1 (by decide +kernel) (by decide) (by decide) hP hD hS hl.1 (Nat.le_of_ble_eq_true rfl)
set_option maxHeartbeats 4000000 in
set_option maxRecDepth 100000 in
theorem c_X5_checkDirection (l : Launch) (D : va_G) (cyI cyJ cyZ : ClassId) (sz : Nat) (d0 : Nat) (hd : d0 < 4) : Met l yX5_checkDirection wsX5_checkDirection ({ frames := 3, cells := 0, slots := 0, locals := 80 } : Room) (mPc D [(cyI, .int), (cyJ, .long), (cyZ, .boolean)] [] sz [.int (nI d0)]) (va_Qv (fun (u : va_W) => u = []) (mB D [(cyI, .int), (cyJ, .long), (cyZ, .boolean)] (va_A [] sz)) (va_A [] sz)) 0 0 (va_A [] sz) := by
  refine st_v (own := RX5) (lv0 := [(0, .int (nI d0))]) (by decide) rfl rfl (Nat.le_of_ble_eq_true rfl) rfl ?_
  intro p e s m below meth c A Q S hin hA hK hP hD hG hS hret ls hl
  refine lv_iload_n S.1 S.2.1 dX5_checkDirection_0 rfl (lv_at hl 0 rfl) ?_
  refine kcS_i S (wc := []) (wr := []) (ws2 := []) (As := [.int (nI d0)]) (rest := []) (c_X5_isDirection l D cyI cyJ cyZ s.heap.size d0 (by first | assumption | omega)) (va_cwS 1 S.2.2.2.2 gX5_checkDirection_X5_isDirection rfl rfl rfl (by decide +kernel) ⟨Nat.le_of_ble_eq_true rfl, Nat.le_of_ble_eq_true rfl⟩) hK hP hD hS hA hG [] [] [] rfl rfl rfl rfl (by decide) rfl rfl rfl hl.1 rfl (Nat.le_of_ble_eq_true rfl) dX5_checkDirection_1 ⟨Nat.le_of_ble_eq_true rfl, Nat.le_of_ble_eq_true rfl⟩ (fun H locs hP hD hS => ?_)
  refine kb_if_ne S dX5_checkDirection_4 (tgt := 15) (by decide) (fun c4 => ?_) (fun c4 => ?_)
  · exact hret _ _ _ _ dX5_checkDirection_15 hP hD hS
  · exact absurd c4 (by decide)
set_option maxHeartbeats 4000000 in
set_option maxRecDepth 100000 in
theorem c_X5_checkSpread_x (l : Launch) (D : va_G) (cyI cyJ cyZ : ClassId) (sz : Nat) (hlt : l.stackTraces = false) (a0 : Nat) (p1 : Nat) (q1 : Nat) (q0 : Nat) (k0 : Nat) (e0 : Nat) (y1 : Nat) (y2 : Nat) (tl : Nat) : vx_Met l yX5_checkSpread wsX5_checkSpread ({ frames := 6, cells := 1, slots := 6, locals := 100 } : Room) (mPc D [(cyI, .int), (cyJ, .long), (cyZ, .boolean)] [(a0, .inr (5, [.ref p1, .ref q1, .ref q0, .ref k0, .ref e0, .ref y1, .ref y2, .int (nI tl), .int (bI false)]))] sz [.ref a0]) (va_Qv (fun (u : va_W) => False) (mB D [(cyI, .int), (cyJ, .long), (cyZ, .boolean)] (va_A [(a0, .inr (5, [.ref p1, .ref q1, .ref q0, .ref k0, .ref e0, .ref y1, .ref y2, .int (nI tl), .int (bI false)]))] sz)) (va_A [(a0, .inr (5, [.ref p1, .ref q1, .ref q0, .ref k0, .ref e0, .ref y1, .ref y2, .int (nI tl), .int (bI false)]))] sz)) (mX D [(cyI, .int), (cyJ, .long), (cyZ, .boolean)] "java/lang/IllegalStateException" [(a0, .inr (5, [.ref p1, .ref q1, .ref q0, .ref k0, .ref e0, .ref y1, .ref y2, .int (nI tl), .int (bI false)]))] sz) 1 6 (va_A [(a0, .inr (5, [.ref p1, .ref q1, .ref q0, .ref k0, .ref e0, .ref y1, .ref y2, .int (nI tl), .int (bI false)]))] sz) := by
  refine st_t (own := RX5) (lv0 := [(0, .ref a0)]) hlt (by decide) rfl rfl (Nat.le_of_ble_eq_true rfl) rfl (by decide +kernel) (Nat.le_of_ble_eq_true rfl) (Nat.le_of_ble_eq_true rfl) rfl rfl ?_
  intro p e s m below meth c A Q S hA hK hP hD hG hS hthr hprop ls hl
  have hw_X5 : ∀ w ∈ u_ws RX5 TX5 9, w ∈ wsX5_checkSpread := by decide +kernel
  have hf_55 := S.2.2.2.2 (.fieldLink RX5 55 "Particleway" "isSpread" "Z") (by decide +kernel)
  refine lv_aload_n S.1 S.2.1 dX5_checkSpread_0 rfl (lv_at hl 0 rfl) ?_
  refine k_get S (C := RX5) (T := TX5) (N := 9) (ci := 5) hw_X5 hK hP 0 rfl rfl 8 (by decide) hf_55 rfl (v := .int (bI false)) rfl dX5_checkSpread_1 ?_
  refine kb_if_ne S dX5_checkSpread_4 (tgt := 15) (by decide) (fun c4 => ?_) (fun c4 => ?_)
  · exact absurd c4 (by decide)
  · exact hthr _ _ _ _ _ 75 77 dX5_checkSpread_7 dX5_checkSpread_10 dX5_checkSpread_11 dX5_checkSpread_14 (S.2.2.2.2 (.classLink RX5 75 "java/lang/IllegalStateException") (by decide +kernel)) (S.2.2.2.2 (.initialized "java/lang/IllegalStateException") (by decide +kernel)) (fun w9 hw9 => S.2.2.2.2 w9 (by first | exact List.mem_cons_of_mem _ (List.mem_append_right _ hw9) | exact List.mem_cons_of_mem _ (List.mem_append_left _ (List.mem_append_right _ hw9)) | exact List.mem_cons_of_mem _ (List.mem_append_left _ (List.mem_append_left _ (List.mem_append_right _ hw9))))) (by decide +kernel) hG.2.2.2.2.2.2.2.2.2.1 (by decide +kernel) (by decide) (by decide) hP hD hS hl.1 (Nat.le_of_ble_eq_true rfl)
set_option maxHeartbeats 4000000 in
set_option maxRecDepth 100000 in
theorem c_X5_checkMayTell_xa (l : Launch) (D : va_G) (cyI cyJ cyZ : ClassId) (sz : Nat) (hlt : l.stackTraces = false) (a0 : Nat) (p1 : Nat) (q1 : Nat) (q0 : Nat) (k0 : Nat) (e0 : Nat) (y1 : Nat) (y2 : Nat) (tl : Nat) : vx_Met l yX5_checkMayTell wsX5_checkMayTell ({ frames := 6, cells := 1, slots := 6, locals := 100 } : Room) (mPc D [(cyI, .int), (cyJ, .long), (cyZ, .boolean)] [(a0, .inr (5, [.ref p1, .ref q1, .ref q0, .ref k0, .ref e0, .ref y1, .ref y2, .int (nI tl), .int (bI false)]))] sz [.ref a0]) (va_Qv (fun (u : va_W) => False) (mB D [(cyI, .int), (cyJ, .long), (cyZ, .boolean)] (va_A [(a0, .inr (5, [.ref p1, .ref q1, .ref q0, .ref k0, .ref e0, .ref y1, .ref y2, .int (nI tl), .int (bI false)]))] sz)) (va_A [(a0, .inr (5, [.ref p1, .ref q1, .ref q0, .ref k0, .ref e0, .ref y1, .ref y2, .int (nI tl), .int (bI false)]))] sz)) (mX D [(cyI, .int), (cyJ, .long), (cyZ, .boolean)] "java/lang/IllegalStateException" [(a0, .inr (5, [.ref p1, .ref q1, .ref q0, .ref k0, .ref e0, .ref y1, .ref y2, .int (nI tl), .int (bI false)]))] sz) 1 6 (va_A [(a0, .inr (5, [.ref p1, .ref q1, .ref q0, .ref k0, .ref e0, .ref y1, .ref y2, .int (nI tl), .int (bI false)]))] sz) := by
  refine st_t (own := RX5) (lv0 := [(0, .ref a0)]) hlt (by decide) rfl rfl (Nat.le_of_ble_eq_true rfl) rfl (by decide +kernel) (Nat.le_of_ble_eq_true rfl) (Nat.le_of_ble_eq_true rfl) rfl rfl ?_
  intro p e s m below meth c A Q S hA hK hP hD hG hS hthr hprop ls hl
  have hw_X5 : ∀ w ∈ u_ws RX5 TX5 9, w ∈ wsX5_checkMayTell := by decide +kernel
  have hf_55 := S.2.2.2.2 (.fieldLink RX5 55 "Particleway" "isSpread" "Z") (by decide +kernel)
  refine lv_aload_n S.1 S.2.1 dX5_checkMayTell_0 rfl (lv_at hl 0 rfl) ?_
  refine k_get S (C := RX5) (T := TX5) (N := 9) (ci := 5) hw_X5 hK hP 0 rfl rfl 8 (by decide) hf_55 rfl (v := .int (bI false)) rfl dX5_checkMayTell_1 ?_
  refine kb_if_eq S dX5_checkMayTell_4 (tgt := 17) (by decide) (fun c4 => ?_) (fun c4 => ?_)
  · exact hthr _ _ _ _ _ 75 77 dX5_checkMayTell_17 dX5_checkMayTell_20 dX5_checkMayTell_21 dX5_checkMayTell_24 (S.2.2.2.2 (.classLink RX5 75 "java/lang/IllegalStateException") (by decide +kernel)) (S.2.2.2.2 (.initialized "java/lang/IllegalStateException") (by decide +kernel)) (fun w9 hw9 => S.2.2.2.2 w9 (by first | exact List.mem_cons_of_mem _ (List.mem_append_right _ hw9) | exact List.mem_cons_of_mem _ (List.mem_append_left _ (List.mem_append_right _ hw9)) | exact List.mem_cons_of_mem _ (List.mem_append_left _ (List.mem_append_left _ (List.mem_append_right _ hw9))))) (by decide +kernel) hG.2.2.2.2.2.2.2.2.2.1 (by decide +kernel) (by decide) (by decide) hP hD hS hl.1 (Nat.le_of_ble_eq_true rfl)
  · exact absurd c4 (by decide)
end CLASSA
