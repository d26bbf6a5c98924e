section CLASSA
set_option maxHeartbeats 4000000 in
set_option maxRecDepth 100000 in
theorem c_X5_checkCell (l : Launch) (D : va_G) (cyI cyJ cyZ : ClassId) (sz : Nat) (v : Nat) (v2 : Nat) (hv : v < 8) (hv2 : v2 < 8) : Met l yX5_checkCell wsX5_checkCell ({ frames := 3, cells := 0, slots := 0, locals := 81 } : Room) (mPc D [(cyI, .int), (cyJ, .long), (cyZ, .boolean)] [] sz [.int (nI v), .int (nI v2)]) (va_Qv (fun (u : va_W) => u = []) (mB D [(cyI, .int), (cyJ, .long), (cyZ, .boolean)] (va_A [] sz)) (va_A [] sz)) 0 0 (va_A [] sz) := by
  refine st_v (own := RX5) (lv0 := [(0, .int (nI v)), (1, .int (nI v2))]) (by decide) rfl rfl (Nat.le_of_ble_eq_true rfl) rfl ?_
  intro p e s m below meth c A Q S hin hA hK hP hD hG hS hret ls hl
  refine lv_iload_n S.1 S.2.1 dX5_checkCell_0 rfl (lv_at hl 0 rfl) ?_
  refine lv_iload_n S.1 S.2.1 dX5_checkCell_1 rfl (lv_at hl 1 rfl) ?_
  refine kcS_i S (wc := []) (wr := []) (ws2 := []) (As := [.int (nI v), .int (nI v2)]) (rest := []) (c_X5_isInField l D cyI cyJ cyZ s.heap.size v v2 (by first | assumption | omega) (by first | assumption | omega)) (va_cwS 2 S.2.2.2.2 gX5_checkCell_X5_isInField rfl rfl rfl (by decide +kernel) ⟨Nat.le_of_ble_eq_true rfl, Nat.le_of_ble_eq_true rfl⟩) hK hP hD hS hA hG [] [] [] rfl rfl rfl rfl (by decide) rfl rfl rfl hl.1 rfl (Nat.le_of_ble_eq_true rfl) dX5_checkCell_2 ⟨Nat.le_of_ble_eq_true rfl, Nat.le_of_ble_eq_true rfl⟩ (fun H locs hP hD hS => ?_)
  refine kb_if_ne S dX5_checkCell_5 (tgt := 16) (by decide) (fun c5 => ?_) (fun c5 => ?_)
  · exact hret _ _ _ _ dX5_checkCell_16 hP hD hS
  · exact absurd c5 (by decide)

set_option maxHeartbeats 4000000 in
set_option maxRecDepth 100000 in
theorem c_X5_checkCell_x (l : Launch) (D : va_G) (cyI cyJ cyZ : ClassId) (sz : Nat) (hlt : l.stackTraces = false) (v : Int32) (v2 : Int32) (hxy : inF v v2 = false) : vx_Met l yX5_checkCell wsX5_checkCell ({ frames := 6, cells := 1, slots := 6, locals := 100 } : Room) (mPc D [(cyI, .int), (cyJ, .long), (cyZ, .boolean)] [] sz [.int v, .int v2]) (va_Qv (fun (u : va_W) => False) (mB D [(cyI, .int), (cyJ, .long), (cyZ, .boolean)] (va_A [] sz)) (va_A [] sz)) (mX D [(cyI, .int), (cyJ, .long), (cyZ, .boolean)] "java/lang/IndexOutOfBoundsException" [] (va_A [] sz)) 1 6 (va_A [] sz) := by
  refine st_t (own := RX5) (lv0 := [(0, .int v), (1, .int v2)]) hlt (by decide) rfl rfl (Nat.le_of_ble_eq_true rfl) rfl (by decide +kernel) (Nat.le_of_ble_eq_true rfl) (Nat.le_of_ble_eq_true rfl) rfl rfl ?_
  intro p e s m below meth c A Q S hA hK hP hD hG hS hthr hprop ls hl
  refine lv_iload_n S.1 S.2.1 dX5_checkCell_0 rfl (lv_at hl 0 rfl) ?_
  refine lv_iload_n S.1 S.2.1 dX5_checkCell_1 rfl (lv_at hl 1 rfl) ?_
  refine kcS_i S (wc := []) (wr := []) (ws2 := []) (As := [.int v, .int v2]) (rest := []) (c_X5_isInField_r l D cyI cyJ cyZ s.heap.size v v2 ) (va_cwS 2 S.2.2.2.2 gX5_checkCell_X5_isInField rfl rfl rfl (by decide +kernel) ⟨Nat.le_of_ble_eq_true rfl, Nat.le_of_ble_eq_true rfl⟩) hK hP hD hS hA hG [] [] [] rfl rfl rfl rfl (by decide) rfl rfl rfl hl.1 rfl (Nat.le_of_ble_eq_true rfl) dX5_checkCell_2 ⟨Nat.le_of_ble_eq_true rfl, Nat.le_of_ble_eq_true rfl⟩ (fun H locs hP hD hS => ?_)
  refine k_topi (y := bI false) (by rw [hxy]) ?_
  refine kb_if_ne S dX5_checkCell_5 (tgt := 16) (by decide) (fun c5 => ?_) (fun c5 => ?_)
  · exact absurd c5 (by decide)
  · exact hthr _ _ _ _ _ 125 127 dX5_checkCell_8 dX5_checkCell_11 dX5_checkCell_12 dX5_checkCell_15 (S.2.2.2.2 (.classLink RX5 125 "java/lang/IndexOutOfBoundsException") (by decide +kernel)) (S.2.2.2.2 (.initialized "java/lang/IndexOutOfBoundsException") (by decide +kernel)) (fun w9 hw9 => S.2.2.2.2 w9 (by first | exact List.mem_cons_of_mem _ (List.mem_append_right _ hw9) | exact List.mem_cons_of_mem _ (List.mem_append_left _ (List.mem_append_right _ hw9)) | exact List.mem_cons_of_mem _ (List.mem_append_left _ (List.mem_append_left _ (List.mem_append_right _ hw9))))) (by decide +kernel) hG.2.2.2.2.2.2.2.1 (by decide +kernel) (by decide) (by decide) hP hD hS hl.1 (Nat.le_of_ble_eq_true rfl)

set_option maxHeartbeats 4000000 in
set_option maxRecDepth 100000 in
theorem c_X5_checkDirection (l : Launch) (D : va_G) (cyI cyJ cyZ : ClassId) (sz : Nat) (d0 : Nat) (hd : d0 < 4) : Met l yX5_checkDirection wsX5_checkDirection ({ frames := 3, cells := 0, slots := 0, locals := 80 } : Room) (mPc D [(cyI, .int), (cyJ, .long), (cyZ, .boolean)] [] sz [.int (nI d0)]) (va_Qv (fun (u : va_W) => u = []) (mB D [(cyI, .int), (cyJ, .long), (cyZ, .boolean)] (va_A [] sz)) (va_A [] sz)) 0 0 (va_A [] sz) := by
  refine st_v (own := RX5) (lv0 := [(0, .int (nI d0))]) (by decide) rfl rfl (Nat.le_of_ble_eq_true rfl) rfl ?_
  intro p e s m below meth c A Q S hin hA hK hP hD hG hS hret ls hl
  refine lv_iload_n S.1 S.2.1 dX5_checkDirection_0 rfl (lv_at hl 0 rfl) ?_
  refine kcS_i S (wc := []) (wr := []) (ws2 := []) (As := [.int (nI d0)]) (rest := []) (c_X5_isDirection l D cyI cyJ cyZ s.heap.size d0 (by first | assumption | omega)) (va_cwS 1 S.2.2.2.2 gX5_checkDirection_X5_isDirection rfl rfl rfl (by decide +kernel) ⟨Nat.le_of_ble_eq_true rfl, Nat.le_of_ble_eq_true rfl⟩) hK hP hD hS hA hG [] [] [] rfl rfl rfl rfl (by decide) rfl rfl rfl hl.1 rfl (Nat.le_of_ble_eq_true rfl) dX5_checkDirection_1 ⟨Nat.le_of_ble_eq_true rfl, Nat.le_of_ble_eq_true rfl⟩ (fun H locs hP hD hS => ?_)
  refine kb_if_ne S dX5_checkDirection_4 (tgt := 15) (by decide) (fun c4 => ?_) (fun c4 => ?_)
  · exact hret _ _ _ _ dX5_checkDirection_15 hP hD hS
  · exact absurd c4 (by decide)

set_option maxHeartbeats 4000000 in
set_option maxRecDepth 100000 in
theorem c_X5_checkDirection_x (l : Launch) (D : va_G) (cyI cyJ cyZ : ClassId) (sz : Nat) (hlt : l.stackTraces = false) (v : Int32) (hv : dirP v = false) : vx_Met l yX5_checkDirection wsX5_checkDirection ({ frames := 6, cells := 1, slots := 6, locals := 100 } : Room) (mPc D [(cyI, .int), (cyJ, .long), (cyZ, .boolean)] [] sz [.int v]) (va_Qv (fun (u : va_W) => False) (mB D [(cyI, .int), (cyJ, .long), (cyZ, .boolean)] (va_A [] sz)) (va_A [] sz)) (mX D [(cyI, .int), (cyJ, .long), (cyZ, .boolean)] "java/lang/IndexOutOfBoundsException" [] (va_A [] sz)) 1 6 (va_A [] sz) := by
  refine st_t (own := RX5) (lv0 := [(0, .int v)]) hlt (by decide) rfl rfl (Nat.le_of_ble_eq_true rfl) rfl (by decide +kernel) (Nat.le_of_ble_eq_true rfl) (Nat.le_of_ble_eq_true rfl) rfl rfl ?_
  intro p e s m below meth c A Q S hA hK hP hD hG hS hthr hprop ls hl
  refine lv_iload_n S.1 S.2.1 dX5_checkDirection_0 rfl (lv_at hl 0 rfl) ?_
  refine kcS_i S (wc := []) (wr := []) (ws2 := []) (As := [.int v]) (rest := []) (c_X5_isDirection_r l D cyI cyJ cyZ s.heap.size v ) (va_cwS 1 S.2.2.2.2 gX5_checkDirection_X5_isDirection rfl rfl rfl (by decide +kernel) ⟨Nat.le_of_ble_eq_true rfl, Nat.le_of_ble_eq_true rfl⟩) hK hP hD hS hA hG [] [] [] rfl rfl rfl rfl (by decide) rfl rfl rfl hl.1 rfl (Nat.le_of_ble_eq_true rfl) dX5_checkDirection_1 ⟨Nat.le_of_ble_eq_true rfl, Nat.le_of_ble_eq_true rfl⟩ (fun H locs hP hD hS => ?_)
  refine k_topi (y := bI false) (by rw [hv]) ?_
  refine kb_if_ne S dX5_checkDirection_4 (tgt := 15) (by decide) (fun c4 => ?_) (fun c4 => ?_)
  · exact absurd c4 (by decide)
  · exact hthr _ _ _ _ _ 125 127 dX5_checkDirection_7 dX5_checkDirection_10 dX5_checkDirection_11 dX5_checkDirection_14 (S.2.2.2.2 (.classLink RX5 125 "java/lang/IndexOutOfBoundsException") (by decide +kernel)) (S.2.2.2.2 (.initialized "java/lang/IndexOutOfBoundsException") (by decide +kernel)) (fun w9 hw9 => S.2.2.2.2 w9 (by first | exact List.mem_cons_of_mem _ (List.mem_append_right _ hw9) | exact List.mem_cons_of_mem _ (List.mem_append_left _ (List.mem_append_right _ hw9)) | exact List.mem_cons_of_mem _ (List.mem_append_left _ (List.mem_append_left _ (List.mem_append_right _ hw9))))) (by decide +kernel) hG.2.2.2.2.2.2.2.1 (by decide +kernel) (by decide) (by decide) hP hD hS hl.1 (Nat.le_of_ble_eq_true rfl)

set_option maxHeartbeats 4000000 in
set_option maxRecDepth 100000 in
theorem c_X5_checkSpread (l : Launch) (D : va_G) (cyI cyJ cyZ : ClassId) (sz : Nat) (a0 : Nat) (p1 : Nat) (q1 : Nat) (q0 : Nat) (k0 : Nat) (e0 : Nat) (y1 : Nat) (y2 : Nat) (tl : Nat) : Met l yX5_checkSpread wsX5_checkSpread ({ frames := 2, cells := 0, slots := 0, locals := 60 } : Room) (mPc D [(cyI, .int), (cyJ, .long), (cyZ, .boolean)] [(a0, .inr (5, [.ref p1, .ref q1, .ref q0, .ref k0, .ref e0, .ref y1, .ref y2, .int (nI tl), .int (bI true)]))] sz [.ref a0]) (va_Qv (fun (u : va_W) => u = [(a0, .inr (5, [.ref p1, .ref q1, .ref q0, .ref k0, .ref e0, .ref y1, .ref y2, .int (nI tl), .int (bI true)]))]) (mB D [(cyI, .int), (cyJ, .long), (cyZ, .boolean)] (va_A [(a0, .inr (5, [.ref p1, .ref q1, .ref q0, .ref k0, .ref e0, .ref y1, .ref y2, .int (nI tl), .int (bI true)]))] sz)) (va_A [(a0, .inr (5, [.ref p1, .ref q1, .ref q0, .ref k0, .ref e0, .ref y1, .ref y2, .int (nI tl), .int (bI true)]))] sz)) 0 0 (va_A [(a0, .inr (5, [.ref p1, .ref q1, .ref q0, .ref k0, .ref e0, .ref y1, .ref y2, .int (nI tl), .int (bI true)]))] sz) := by
  refine st_v (own := RX5) (lv0 := [(0, .ref a0)]) (by decide) rfl rfl (Nat.le_of_ble_eq_true rfl) rfl ?_
  intro p e s m below meth c A Q S hin hA hK hP hD hG hS hret ls hl
  have hw_X5 : ∀ w ∈ u_ws RX5 TX5 9, w ∈ wsX5_checkSpread := by decide +kernel
  have hf_55 := S.2.2.2.2 (.fieldLink RX5 55 "Particleway" "isSpread" "Z") (by decide +kernel)
  refine lv_aload_n S.1 S.2.1 dX5_checkSpread_0 rfl (lv_at hl 0 rfl) ?_
  refine k_get S (C := RX5) (T := TX5) (N := 9) (ci := 5) hw_X5 hK hP 0 rfl rfl 8 (by decide) hf_55 rfl (v := .int (bI true)) rfl dX5_checkSpread_1 ?_
  refine kb_if_ne S dX5_checkSpread_4 (tgt := 15) (by decide) (fun c4 => ?_) (fun c4 => ?_)
  · exact hret _ _ _ _ dX5_checkSpread_15 hP hD hS
  · exact absurd c4 (by decide)

set_option maxHeartbeats 4000000 in
set_option maxRecDepth 100000 in
theorem c_X5_checkSpread_x (l : Launch) (D : va_G) (cyI cyJ cyZ : ClassId) (sz : Nat) (hlt : l.stackTraces = false) (a0 : Nat) (p1 : Nat) (q1 : Nat) (q0 : Nat) (k0 : Nat) (e0 : Nat) (y1 : Nat) (y2 : Nat) (tl : Nat) : vx_Met l yX5_checkSpread wsX5_checkSpread ({ frames := 6, cells := 1, slots := 6, locals := 100 } : Room) (mPc D [(cyI, .int), (cyJ, .long), (cyZ, .boolean)] [(a0, .inr (5, [.ref p1, .ref q1, .ref q0, .ref k0, .ref e0, .ref y1, .ref y2, .int (nI tl), .int (bI false)]))] sz [.ref a0]) (va_Qv (fun (u : va_W) => False) (mB D [(cyI, .int), (cyJ, .long), (cyZ, .boolean)] (va_A [(a0, .inr (5, [.ref p1, .ref q1, .ref q0, .ref k0, .ref e0, .ref y1, .ref y2, .int (nI tl), .int (bI false)]))] sz)) (va_A [(a0, .inr (5, [.ref p1, .ref q1, .ref q0, .ref k0, .ref e0, .ref y1, .ref y2, .int (nI tl), .int (bI false)]))] sz)) (mX D [(cyI, .int), (cyJ, .long), (cyZ, .boolean)] "java/lang/IllegalStateException" [(a0, .inr (5, [.ref p1, .ref q1, .ref q0, .ref k0, .ref e0, .ref y1, .ref y2, .int (nI tl), .int (bI false)]))] (va_A [(a0, .inr (5, [.ref p1, .ref q1, .ref q0, .ref k0, .ref e0, .ref y1, .ref y2, .int (nI tl), .int (bI false)]))] sz)) 1 6 (va_A [(a0, .inr (5, [.ref p1, .ref q1, .ref q0, .ref k0, .ref e0, .ref y1, .ref y2, .int (nI tl), .int (bI false)]))] sz) := by
  refine st_t (own := RX5) (lv0 := [(0, .ref a0)]) hlt (by decide) rfl rfl (Nat.le_of_ble_eq_true rfl) rfl (by decide +kernel) (Nat.le_of_ble_eq_true rfl) (Nat.le_of_ble_eq_true rfl) rfl rfl ?_
  intro p e s m below meth c A Q S hA hK hP hD hG hS hthr hprop ls hl
  have hw_X5 : ∀ w ∈ u_ws RX5 TX5 9, w ∈ wsX5_checkSpread := by decide +kernel
  have hf_55 := S.2.2.2.2 (.fieldLink RX5 55 "Particleway" "isSpread" "Z") (by decide +kernel)
  refine lv_aload_n S.1 S.2.1 dX5_checkSpread_0 rfl (lv_at hl 0 rfl) ?_
  refine k_get S (C := RX5) (T := TX5) (N := 9) (ci := 5) hw_X5 hK hP 0 rfl rfl 8 (by decide) hf_55 rfl (v := .int (bI false)) rfl dX5_checkSpread_1 ?_
  refine kb_if_ne S dX5_checkSpread_4 (tgt := 15) (by decide) (fun c4 => ?_) (fun c4 => ?_)
  · exact absurd c4 (by decide)
  · exact hthr _ _ _ _ _ 75 77 dX5_checkSpread_7 dX5_checkSpread_10 dX5_checkSpread_11 dX5_checkSpread_14 (S.2.2.2.2 (.classLink RX5 75 "java/lang/IllegalStateException") (by decide +kernel)) (S.2.2.2.2 (.initialized "java/lang/IllegalStateException") (by decide +kernel)) (fun w9 hw9 => S.2.2.2.2 w9 (by first | exact List.mem_cons_of_mem _ (List.mem_append_right _ hw9) | exact List.mem_cons_of_mem _ (List.mem_append_left _ (List.mem_append_right _ hw9)) | exact List.mem_cons_of_mem _ (List.mem_append_left _ (List.mem_append_left _ (List.mem_append_right _ hw9))))) (by decide +kernel) hG.2.2.2.2.2.2.2.2.2.1 (by decide +kernel) (by decide) (by decide) hP hD hS hl.1 (Nat.le_of_ble_eq_true rfl)

set_option maxHeartbeats 4000000 in
set_option maxRecDepth 100000 in
theorem c_X5_checkMayTell (l : Launch) (D : va_G) (cyI cyJ cyZ : ClassId) (sz : Nat) (a0 : Nat) (p1 : Nat) (q1 : Nat) (q0 : Nat) (k0 : Nat) (e0 : Nat) (y1 : Nat) (y2 : Nat) (tl : Nat) (htl : tl < 300) : Met l yX5_checkMayTell wsX5_checkMayTell ({ frames := 2, cells := 0, slots := 0, locals := 60 } : Room) (mPc D [(cyI, .int), (cyJ, .long), (cyZ, .boolean)] [(a0, .inr (5, [.ref p1, .ref q1, .ref q0, .ref k0, .ref e0, .ref y1, .ref y2, .int (nI tl), .int (bI true)]))] sz [.ref a0]) (va_Qv (fun (u : va_W) => u = [(a0, .inr (5, [.ref p1, .ref q1, .ref q0, .ref k0, .ref e0, .ref y1, .ref y2, .int (nI tl), .int (bI true)]))]) (mB D [(cyI, .int), (cyJ, .long), (cyZ, .boolean)] (va_A [(a0, .inr (5, [.ref p1, .ref q1, .ref q0, .ref k0, .ref e0, .ref y1, .ref y2, .int (nI tl), .int (bI true)]))] sz)) (va_A [(a0, .inr (5, [.ref p1, .ref q1, .ref q0, .ref k0, .ref e0, .ref y1, .ref y2, .int (nI tl), .int (bI true)]))] sz)) 0 0 (va_A [(a0, .inr (5, [.ref p1, .ref q1, .ref q0, .ref k0, .ref e0, .ref y1, .ref y2, .int (nI tl), .int (bI true)]))] sz) := by
  refine st_v (own := RX5) (lv0 := [(0, .ref a0)]) (by decide) rfl rfl (Nat.le_of_ble_eq_true rfl) rfl ?_
  intro p e s m below meth c A Q S hin hA hK hP hD hG hS hret ls hl
  have hw_X5 : ∀ w ∈ u_ws RX5 TX5 9, w ∈ wsX5_checkMayTell := by decide +kernel
  have hf_55 := S.2.2.2.2 (.fieldLink RX5 55 "Particleway" "isSpread" "Z") (by decide +kernel)
  have hf_51 := S.2.2.2.2 (.fieldLink RX5 51 "Particleway" "told" "I") (by decide +kernel)
  refine lv_aload_n S.1 S.2.1 dX5_checkMayTell_0 rfl (lv_at hl 0 rfl) ?_
  refine k_get S (C := RX5) (T := TX5) (N := 9) (ci := 5) hw_X5 hK hP 0 rfl rfl 8 (by decide) hf_55 rfl (v := .int (bI true)) rfl dX5_checkMayTell_1 ?_
  refine kb_if_eq S dX5_checkMayTell_4 (tgt := 17) (by decide) (fun c4 => ?_) (fun c4 => ?_)
  · exact absurd c4 (by decide)
  · refine lv_aload_n S.1 S.2.1 dX5_checkMayTell_7 rfl (lv_at hl 0 rfl) ?_
    refine k_get S (C := RX5) (T := TX5) (N := 9) (ci := 5) hw_X5 hK hP 0 rfl rfl 7 (by decide) hf_51 rfl (v := .int (nI tl)) rfl dX5_checkMayTell_8 ?_
    refine lv_sipush (v := nI 300) S.1 S.2.1 dX5_checkMayTell_11 (by decide) ?_
    refine kn_icmp_lt S (by omega) (by omega) dX5_checkMayTell_14 (tgt := 25) (by decide) (fun c14 => ?_) (fun c14 => ?_)
    · exact hret _ _ _ _ dX5_checkMayTell_25 hP hD hS
    · exfalso; omega

set_option maxHeartbeats 4000000 in
set_option maxRecDepth 100000 in
theorem c_X5_checkMayTell_xa (l : Launch) (D : va_G) (cyI cyJ cyZ : ClassId) (sz : Nat) (hlt : l.stackTraces = false) (a0 : Nat) (p1 : Nat) (q1 : Nat) (q0 : Nat) (k0 : Nat) (e0 : Nat) (y1 : Nat) (y2 : Nat) (tl : Nat) : vx_Met l yX5_checkMayTell wsX5_checkMayTell ({ frames := 6, cells := 1, slots := 6, locals := 100 } : Room) (mPc D [(cyI, .int), (cyJ, .long), (cyZ, .boolean)] [(a0, .inr (5, [.ref p1, .ref q1, .ref q0, .ref k0, .ref e0, .ref y1, .ref y2, .int (nI tl), .int (bI false)]))] sz [.ref a0]) (va_Qv (fun (u : va_W) => False) (mB D [(cyI, .int), (cyJ, .long), (cyZ, .boolean)] (va_A [(a0, .inr (5, [.ref p1, .ref q1, .ref q0, .ref k0, .ref e0, .ref y1, .ref y2, .int (nI tl), .int (bI false)]))] sz)) (va_A [(a0, .inr (5, [.ref p1, .ref q1, .ref q0, .ref k0, .ref e0, .ref y1, .ref y2, .int (nI tl), .int (bI false)]))] sz)) (mX D [(cyI, .int), (cyJ, .long), (cyZ, .boolean)] "java/lang/IllegalStateException" [(a0, .inr (5, [.ref p1, .ref q1, .ref q0, .ref k0, .ref e0, .ref y1, .ref y2, .int (nI tl), .int (bI false)]))] (va_A [(a0, .inr (5, [.ref p1, .ref q1, .ref q0, .ref k0, .ref e0, .ref y1, .ref y2, .int (nI tl), .int (bI false)]))] sz)) 1 6 (va_A [(a0, .inr (5, [.ref p1, .ref q1, .ref q0, .ref k0, .ref e0, .ref y1, .ref y2, .int (nI tl), .int (bI false)]))] sz) := by
  refine st_t (own := RX5) (lv0 := [(0, .ref a0)]) hlt (by decide) rfl rfl (Nat.le_of_ble_eq_true rfl) rfl (by decide +kernel) (Nat.le_of_ble_eq_true rfl) (Nat.le_of_ble_eq_true rfl) rfl rfl ?_
  intro p e s m below meth c A Q S hA hK hP hD hG hS hthr hprop ls hl
  have hw_X5 : ∀ w ∈ u_ws RX5 TX5 9, w ∈ wsX5_checkMayTell := by decide +kernel
  have hf_55 := S.2.2.2.2 (.fieldLink RX5 55 "Particleway" "isSpread" "Z") (by decide +kernel)
  refine lv_aload_n S.1 S.2.1 dX5_checkMayTell_0 rfl (lv_at hl 0 rfl) ?_
  refine k_get S (C := RX5) (T := TX5) (N := 9) (ci := 5) hw_X5 hK hP 0 rfl rfl 8 (by decide) hf_55 rfl (v := .int (bI false)) rfl dX5_checkMayTell_1 ?_
  refine kb_if_eq S dX5_checkMayTell_4 (tgt := 17) (by decide) (fun c4 => ?_) (fun c4 => ?_)
  · exact hthr _ _ _ _ _ 75 77 dX5_checkMayTell_17 dX5_checkMayTell_20 dX5_checkMayTell_21 dX5_checkMayTell_24 (S.2.2.2.2 (.classLink RX5 75 "java/lang/IllegalStateException") (by decide +kernel)) (S.2.2.2.2 (.initialized "java/lang/IllegalStateException") (by decide +kernel)) (fun w9 hw9 => S.2.2.2.2 w9 (by first | exact List.mem_cons_of_mem _ (List.mem_append_right _ hw9) | exact List.mem_cons_of_mem _ (List.mem_append_left _ (List.mem_append_right _ hw9)) | exact List.mem_cons_of_mem _ (List.mem_append_left _ (List.mem_append_left _ (List.mem_append_right _ hw9))))) (by decide +kernel) hG.2.2.2.2.2.2.2.2.2.1 (by decide +kernel) (by decide) (by decide) hP hD hS hl.1 (Nat.le_of_ble_eq_true rfl)
  · exact absurd c4 (by decide)

set_option maxHeartbeats 4000000 in
set_option maxRecDepth 100000 in
theorem c_X5_checkMayTell_xb (l : Launch) (D : va_G) (cyI cyJ cyZ : ClassId) (sz : Nat) (hlt : l.stackTraces = false) (a0 : Nat) (p1 : Nat) (q1 : Nat) (q0 : Nat) (k0 : Nat) (e0 : Nat) (y1 : Nat) (y2 : Nat) (tl : Nat) (htl : tl = 300) : vx_Met l yX5_checkMayTell wsX5_checkMayTell ({ frames := 6, cells := 1, slots := 6, locals := 100 } : Room) (mPc D [(cyI, .int), (cyJ, .long), (cyZ, .boolean)] [(a0, .inr (5, [.ref p1, .ref q1, .ref q0, .ref k0, .ref e0, .ref y1, .ref y2, .int (nI tl), .int (bI true)]))] sz [.ref a0]) (va_Qv (fun (u : va_W) => False) (mB D [(cyI, .int), (cyJ, .long), (cyZ, .boolean)] (va_A [(a0, .inr (5, [.ref p1, .ref q1, .ref q0, .ref k0, .ref e0, .ref y1, .ref y2, .int (nI tl), .int (bI true)]))] sz)) (va_A [(a0, .inr (5, [.ref p1, .ref q1, .ref q0, .ref k0, .ref e0, .ref y1, .ref y2, .int (nI tl), .int (bI true)]))] sz)) (mX D [(cyI, .int), (cyJ, .long), (cyZ, .boolean)] "java/lang/IllegalStateException" [(a0, .inr (5, [.ref p1, .ref q1, .ref q0, .ref k0, .ref e0, .ref y1, .ref y2, .int (nI tl), .int (bI true)]))] (va_A [(a0, .inr (5, [.ref p1, .ref q1, .ref q0, .ref k0, .ref e0, .ref y1, .ref y2, .int (nI tl), .int (bI true)]))] sz)) 1 6 (va_A [(a0, .inr (5, [.ref p1, .ref q1, .ref q0, .ref k0, .ref e0, .ref y1, .ref y2, .int (nI tl), .int (bI true)]))] sz) := by
  refine st_t (own := RX5) (lv0 := [(0, .ref a0)]) hlt (by decide) rfl rfl (Nat.le_of_ble_eq_true rfl) rfl (by decide +kernel) (Nat.le_of_ble_eq_true rfl) (Nat.le_of_ble_eq_true rfl) rfl rfl ?_
  intro p e s m below meth c A Q S hA hK hP hD hG hS hthr hprop ls hl
  have hw_X5 : ∀ w ∈ u_ws RX5 TX5 9, w ∈ wsX5_checkMayTell := by decide +kernel
  have hf_55 := S.2.2.2.2 (.fieldLink RX5 55 "Particleway" "isSpread" "Z") (by decide +kernel)
  have hf_51 := S.2.2.2.2 (.fieldLink RX5 51 "Particleway" "told" "I") (by decide +kernel)
  refine lv_aload_n S.1 S.2.1 dX5_checkMayTell_0 rfl (lv_at hl 0 rfl) ?_
  refine k_get S (C := RX5) (T := TX5) (N := 9) (ci := 5) hw_X5 hK hP 0 rfl rfl 8 (by decide) hf_55 rfl (v := .int (bI true)) rfl dX5_checkMayTell_1 ?_
  refine kb_if_eq S dX5_checkMayTell_4 (tgt := 17) (by decide) (fun c4 => ?_) (fun c4 => ?_)
  · exact absurd c4 (by decide)
  · refine lv_aload_n S.1 S.2.1 dX5_checkMayTell_7 rfl (lv_at hl 0 rfl) ?_
    refine k_get S (C := RX5) (T := TX5) (N := 9) (ci := 5) hw_X5 hK hP 0 rfl rfl 7 (by decide) hf_51 rfl (v := .int (nI tl)) rfl dX5_checkMayTell_8 ?_
    refine lv_sipush (v := nI 300) S.1 S.2.1 dX5_checkMayTell_11 (by decide) ?_
    refine kn_icmp_lt S (by omega) (by omega) dX5_checkMayTell_14 (tgt := 25) (by decide) (fun c14 => ?_) (fun c14 => ?_)
    · exfalso; omega
    · exact hthr _ _ _ _ _ 75 77 dX5_checkMayTell_17 dX5_checkMayTell_20 dX5_checkMayTell_21 dX5_checkMayTell_24 (S.2.2.2.2 (.classLink RX5 75 "java/lang/IllegalStateException") (by decide +kernel)) (S.2.2.2.2 (.initialized "java/lang/IllegalStateException") (by decide +kernel)) (fun w9 hw9 => S.2.2.2.2 w9 (by first | exact List.mem_cons_of_mem _ (List.mem_append_right _ hw9) | exact List.mem_cons_of_mem _ (List.mem_append_left _ (List.mem_append_right _ hw9)) | exact List.mem_cons_of_mem _ (List.mem_append_left _ (List.mem_append_left _ (List.mem_append_right _ hw9))))) (by decide +kernel) hG.2.2.2.2.2.2.2.2.2.1 (by decide +kernel) (by decide) (by decide) hP hD hS hl.1 (Nat.le_of_ble_eq_true rfl)

set_option maxHeartbeats 4000000 in
set_option maxRecDepth 100000 in
theorem c_X5_keep (l : Launch) (D : va_G) (cyI cyJ cyZ : ClassId) (sz : Nat) (a0 : Nat) (p1 : Nat) (q1 : Nat) (q0 : Nat) (k0 : Nat) (e0 : Nat) (y1 : Nat) (y2 : Nat) (tl : Nat) (sp : Bool) (td : Nat → Nat) (rc : Nat → Nat) (d0 : Nat) (r0 : Nat) (htl : tl < 300) : Met l yX5_keep wsX5_keep ({ frames := 2, cells := 0, slots := 0, locals := 60 } : Room) (mPc D [(cyI, .int), (cyJ, .long), (cyZ, .boolean)] [(a0, .inr (5, [.ref p1, .ref q1, .ref q0, .ref k0, .ref e0, .ref y1, .ref y2, .int (nI tl), .int (bI sp)])), (y1, .inl (cyI, 300, .inl (aI td))), (y2, .inl (cyI, 300, .inl (tQ rc)))] sz [.ref a0, .int (nI d0), .int (oc8 r0)]) (va_Qv (fun (u : va_W) => u = [(a0, .inr (5, [.ref p1, .ref q1, .ref q0, .ref k0, .ref e0, .ref y1, .ref y2, .int (nI (tl + 1)), .int (bI sp)])), (y1, .inl (cyI, 300, .inl (aI (va_up td tl d0)))), (y2, .inl (cyI, 300, .inl (tQ (va_up rc tl r0))))]) (mB D [(cyI, .int), (cyJ, .long), (cyZ, .boolean)] (va_A [(a0, .inr (5, [.ref p1, .ref q1, .ref q0, .ref k0, .ref e0, .ref y1, .ref y2, .int (nI tl), .int (bI sp)])), (y1, .inl (cyI, 300, .inl (aI td))), (y2, .inl (cyI, 300, .inl (tQ rc)))] sz)) (va_A [(a0, .inr (5, [.ref p1, .ref q1, .ref q0, .ref k0, .ref e0, .ref y1, .ref y2, .int (nI tl), .int (bI sp)])), (y1, .inl (cyI, 300, .inl (aI td))), (y2, .inl (cyI, 300, .inl (tQ rc)))] sz)) 0 0 (va_A [(a0, .inr (5, [.ref p1, .ref q1, .ref q0, .ref k0, .ref e0, .ref y1, .ref y2, .int (nI tl), .int (bI sp)])), (y1, .inl (cyI, 300, .inl (aI td))), (y2, .inl (cyI, 300, .inl (tQ rc)))] sz) := by
  refine st_v (own := RX5) (lv0 := [(0, .ref a0), (1, .int (nI d0)), (2, .int (oc8 r0))]) (by decide) rfl rfl (Nat.le_of_ble_eq_true rfl) rfl ?_
  intro p e s m below meth c A Q S hin hA hK hP hD hG hS hret ls hl
  have hw_X5 : ∀ w ∈ u_ws RX5 TX5 9, w ∈ wsX5_keep := by decide +kernel
  have hf_51 := S.2.2.2.2 (.fieldLink RX5 51 "Particleway" "told" "I") (by decide +kernel)
  have hf_44 := S.2.2.2.2 (.fieldLink RX5 44 "Particleway" "toldDirections" "[I") (by decide +kernel)
  have hf_48 := S.2.2.2.2 (.fieldLink RX5 48 "Particleway" "toldReadings" "[I") (by decide +kernel)
  refine lv_aload_n S.1 S.2.1 dX5_keep_0 rfl (lv_at hl 0 rfl) ?_
  refine k_get S (C := RX5) (T := TX5) (N := 9) (ci := 5) hw_X5 hK hP 0 rfl rfl 7 (by decide) hf_51 rfl (v := .int (nI tl)) rfl dX5_keep_1 ?_
  refine kn_if_lt S (by omega) dX5_keep_4 (tgt := 47) (by decide) ?_
  refine lv_aload_n S.1 S.2.1 dX5_keep_7 rfl (lv_at hl 0 rfl) ?_
  refine k_get S (C := RX5) (T := TX5) (N := 9) (ci := 5) hw_X5 hK hP 0 rfl rfl 7 (by decide) hf_51 rfl (v := .int (nI tl)) rfl dX5_keep_8 ?_
  refine lv_sipush (v := nI 300) S.1 S.2.1 dX5_keep_11 (by decide) ?_
  refine kn_icmp_ge S (by omega) (by omega) dX5_keep_14 (tgt := 47) (by decide) (fun c14 => ?_) (fun c14 => ?_)
  · exfalso; omega
  · refine lv_aload_n S.1 S.2.1 dX5_keep_17 rfl (lv_at hl 0 rfl) ?_
    refine k_get S (C := RX5) (T := TX5) (N := 9) (ci := 5) hw_X5 hK hP 0 rfl rfl 5 (by decide) hf_44 rfl (v := .ref y1) rfl dX5_keep_18 ?_
    refine lv_aload_n S.1 S.2.1 dX5_keep_21 rfl (lv_at hl 0 rfl) ?_
    refine k_get S (C := RX5) (T := TX5) (N := 9) (ci := 5) hw_X5 hK hP 0 rfl rfl 7 (by decide) hf_51 rfl (v := .int (nI tl)) rfl dX5_keep_22 ?_
    refine lv_iload_n S.1 S.2.1 dX5_keep_25 rfl (lv_at hl 1 rfl) ?_
    refine kn_iast S hK hP hD hS (ws2 := [(a0, .inr (5, [.ref p1, .ref q1, .ref q0, .ref k0, .ref e0, .ref y1, .ref y2, .int (nI tl), .int (bI sp)])), (y1, .inl (cyI, 300, .inl (aI (va_up td tl d0)))), (y2, .inl (cyI, 300, .inl (tQ rc)))]) 1 0 rfl rfl (by omega) (by decide) dX5_keep_26 rfl (fun H locs hP hD hS => ?_)
    refine lv_aload_n S.1 S.2.1 dX5_keep_27 rfl (lv_at hl 0 rfl) ?_
    refine k_get S (C := RX5) (T := TX5) (N := 9) (ci := 5) hw_X5 hK hP 0 rfl rfl 6 (by decide) hf_48 rfl (v := .ref y2) rfl dX5_keep_28 ?_
    refine lv_aload_n S.1 S.2.1 dX5_keep_31 rfl (lv_at hl 0 rfl) ?_
    refine k_get S (C := RX5) (T := TX5) (N := 9) (ci := 5) hw_X5 hK hP 0 rfl rfl 7 (by decide) hf_51 rfl (v := .int (nI tl)) rfl dX5_keep_32 ?_
    refine lv_iload_n S.1 S.2.1 dX5_keep_35 rfl (lv_at hl 2 rfl) ?_
    refine kr_iast S hK hP hD hS (ws2 := [(a0, .inr (5, [.ref p1, .ref q1, .ref q0, .ref k0, .ref e0, .ref y1, .ref y2, .int (nI tl), .int (bI sp)])), (y1, .inl (cyI, 300, .inl (aI (va_up td tl d0)))), (y2, .inl (cyI, 300, .inl (upd (tQ rc) tl (oc8 r0))))]) 2 0 rfl rfl (by omega) (by decide) dX5_keep_36 rfl (fun H locs hP hD hS => ?_)
    obtain ⟨hP, hD⟩ := P_re (ws2 := [(a0, .inr (5, [.ref p1, .ref q1, .ref q0, .ref k0, .ref e0, .ref y1, .ref y2, .int (nI tl), .int (bI sp)])), (y1, .inl (cyI, 300, .inl (aI (va_up td tl d0)))), (y2, .inl (cyI, 300, .inl (tQ (va_up rc tl r0))))]) hP hD 2 rfl (by rw [upd_tQ]) rfl
    refine lv_aload_n S.1 S.2.1 dX5_keep_37 rfl (lv_at hl 0 rfl) ?_
    refine lv_dup S.1 S.2.1 dX5_keep_38 rfl ?_
    refine k_get S (C := RX5) (T := TX5) (N := 9) (ci := 5) hw_X5 hK hP 0 rfl rfl 7 (by decide) hf_51 rfl (v := .int (nI tl)) rfl dX5_keep_39 ?_
    refine lv_iconst (v := nI 1) S.1 S.2.1 dX5_keep_42 (by decide) ?_
    refine kn_iadd S dX5_keep_43 ?_
    refine k_put S (C := RX5) (T := TX5) (N := 9) (ci := 5) (ws2 := [(a0, .inr (5, [.ref p1, .ref q1, .ref q0, .ref k0, .ref e0, .ref y1, .ref y2, .int (nI (tl + 1)), .int (bI sp)])), (y1, .inl (cyI, 300, .inl (aI (va_up td tl d0)))), (y2, .inl (cyI, 300, .inl (tQ (va_up rc tl r0))))]) hw_X5 tyX5 tyX5_ok nmX5 hK hP hD hS 0 rfl rfl 7 (by decide) hf_51 rfl rfl rfl rfl (Nat.le_of_ble_eq_true rfl) dX5_keep_44 rfl (fun H locs hP hD hS => ?_)
    exact hret _ _ _ _ dX5_keep_47 hP hD hS

set_option maxHeartbeats 4000000 in
set_option maxRecDepth 100000 in
theorem c_X5_repeatAllTold (l : Launch) (D : va_G) (cyI cyJ cyZ : ClassId) (sz : Nat) (a0 : Nat) (p1 : Nat) (q1 : Nat) (q0 : Nat) (k0 : Nat) (e0 : Nat) (y1 : Nat) (y2 : Nat) (tl : Nat) (sp : Bool) (p2 : Nat) (p3 : Nat) (e1 : Nat) (e2 : Nat) (e3 : Nat) (e4 : Nat) (w : Nat → Bool) (fe : Nat → Nat) (fe2 : Nat → Nat) (td : Nat → Nat) (rc : Nat → Nat) (htl : tl ≤ 300) (hf0 : 0 < cntF w 64) (hto : ∀ k, k < tl → td k < 4 ∧ rc k ≤ 8) : Met l yX5_repeatAllTold wsX5_repeatAllTold ({ frames := 7, cells := 0, slots := 0, locals := 176 } : Room) (mPc D [(cyI, .int), (cyJ, .long), (cyZ, .boolean)] [(a0, .inr (5, [.ref p1, .ref q1, .ref q0, .ref k0, .ref e0, .ref y1, .ref y2, .int (nI tl), .int (bI sp)])), (e0, .inr (0, [.ref p1, .ref e1, .ref e3])), (p1, .inr (3, [.ref p2, .ref p3, .int (nI (cntF w 64))])), (p2, .inl (cyZ, 64, .inl (aZ w))), (p3, .inl (cyI, 256, .inl (ahV w))), (e1, .inr (2, [.ref e2])), (e2, .inl (cyJ, 64, .inr (.inl (aL fe)))), (e3, .inr (2, [.ref e4])), (e4, .inl (cyJ, 64, .inr (.inl (aL fe2)))), (y1, .inl (cyI, 300, .inl (aI td))), (y2, .inl (cyI, 300, .inl (tQ rc)))] sz [.ref a0]) (va_Qv (fun (u : va_W) => u = [(a0, .inr (5, [.ref p1, .ref q1, .ref q0, .ref k0, .ref e0, .ref y1, .ref y2, .int (nI tl), .int (bI sp)])), (e0, .inr (0, [.ref p1, .ref e1, .ref e3])), (p1, .inr (3, [.ref p2, .ref p3, .int (nI (cntF w 64))])), (p2, .inl (cyZ, 64, .inl (aZ w))), (p3, .inl (cyI, 256, .inl (ahV w))), (e1, .inr (2, [.ref e2])), (e2, .inl (cyJ, 64, .inr (.inl (aL (bhF w td rc tl))))), (e3, .inr (2, [.ref e4])), (e4, .inl (cyJ, 64, .inr (.inl (aL (bqF w td rc fe2 tl))))), (y1, .inl (cyI, 300, .inl (aI td))), (y2, .inl (cyI, 300, .inl (tQ rc)))]) (mB D [(cyI, .int), (cyJ, .long), (cyZ, .boolean)] (va_A [(a0, .inr (5, [.ref p1, .ref q1, .ref q0, .ref k0, .ref e0, .ref y1, .ref y2, .int (nI tl), .int (bI sp)])), (e0, .inr (0, [.ref p1, .ref e1, .ref e3])), (p1, .inr (3, [.ref p2, .ref p3, .int (nI (cntF w 64))])), (p2, .inl (cyZ, 64, .inl (aZ w))), (p3, .inl (cyI, 256, .inl (ahV w))), (e1, .inr (2, [.ref e2])), (e2, .inl (cyJ, 64, .inr (.inl (aL fe)))), (e3, .inr (2, [.ref e4])), (e4, .inl (cyJ, 64, .inr (.inl (aL fe2)))), (y1, .inl (cyI, 300, .inl (aI td))), (y2, .inl (cyI, 300, .inl (tQ rc)))] sz)) (va_A [(a0, .inr (5, [.ref p1, .ref q1, .ref q0, .ref k0, .ref e0, .ref y1, .ref y2, .int (nI tl), .int (bI sp)])), (e0, .inr (0, [.ref p1, .ref e1, .ref e3])), (p1, .inr (3, [.ref p2, .ref p3, .int (nI (cntF w 64))])), (p2, .inl (cyZ, 64, .inl (aZ w))), (p3, .inl (cyI, 256, .inl (ahV w))), (e1, .inr (2, [.ref e2])), (e2, .inl (cyJ, 64, .inr (.inl (aL fe)))), (e3, .inr (2, [.ref e4])), (e4, .inl (cyJ, 64, .inr (.inl (aL fe2)))), (y1, .inl (cyI, 300, .inl (aI td))), (y2, .inl (cyI, 300, .inl (tQ rc)))] sz)) 0 0 (va_A [(a0, .inr (5, [.ref p1, .ref q1, .ref q0, .ref k0, .ref e0, .ref y1, .ref y2, .int (nI tl), .int (bI sp)])), (e0, .inr (0, [.ref p1, .ref e1, .ref e3])), (p1, .inr (3, [.ref p2, .ref p3, .int (nI (cntF w 64))])), (p2, .inl (cyZ, 64, .inl (aZ w))), (p3, .inl (cyI, 256, .inl (ahV w))), (e1, .inr (2, [.ref e2])), (e2, .inl (cyJ, 64, .inr (.inl (aL fe)))), (e3, .inr (2, [.ref e4])), (e4, .inl (cyJ, 64, .inr (.inl (aL fe2)))), (y1, .inl (cyI, 300, .inl (aI td))), (y2, .inl (cyI, 300, .inl (tQ rc)))] sz) := by
  refine st_v (own := RX5) (lv0 := [(0, .ref a0)]) (by decide) rfl rfl (Nat.le_of_ble_eq_true rfl) rfl ?_
  intro p e s m below meth c A Q S hin hA hK hP hD hG hS hret ls hl
  have hw_X5 : ∀ w ∈ u_ws RX5 TX5 9, w ∈ wsX5_repeatAllTold := by decide +kernel
  have hf_41 := S.2.2.2.2 (.fieldLink RX5 41 "Particleway" "beliefsAnew" "LParticleway$Beliefs;") (by decide +kernel)
  have hf_51 := S.2.2.2.2 (.fieldLink RX5 51 "Particleway" "told" "I") (by decide +kernel)
  have hf_48 := S.2.2.2.2 (.fieldLink RX5 48 "Particleway" "toldReadings" "[I") (by decide +kernel)
  have hf_44 := S.2.2.2.2 (.fieldLink RX5 44 "Particleway" "toldDirections" "[I") (by decide +kernel)
  refine lv_aload_n S.1 S.2.1 dX5_repeatAllTold_0 rfl (lv_at hl 0 rfl) ?_
  refine k_get S (C := RX5) (T := TX5) (N := 9) (ci := 5) hw_X5 hK hP 0 rfl rfl 4 (by decide) hf_41 rfl (v := .ref e0) rfl dX5_repeatAllTold_1 ?_
  refine kcV_v S (wc := [(e0, .inr (0, [.ref p1, .ref e1, .ref e3])), (p1, .inr (3, [.ref p2, .ref p3, .int (nI (cntF w 64))])), (p2, .inl (cyZ, 64, .inl (aZ w))), (p3, .inl (cyI, 256, .inl (ahV w))), (e1, .inr (2, [.ref e2])), (e2, .inl (cyJ, 64, .inr (.inl (aL fe))))]) (wr := [(a0, .inr (5, [.ref p1, .ref q1, .ref q0, .ref k0, .ref e0, .ref y1, .ref y2, .int (nI tl), .int (bI sp)])), (e3, .inr (2, [.ref e4])), (e4, .inl (cyJ, 64, .inr (.inl (aL fe2)))), (y1, .inl (cyI, 300, .inl (aI td))), (y2, .inl (cyI, 300, .inl (tQ rc)))]) (ws2 := [(a0, .inr (5, [.ref p1, .ref q1, .ref q0, .ref k0, .ref e0, .ref y1, .ref y2, .int (nI tl), .int (bI sp)])), (e0, .inr (0, [.ref p1, .ref e1, .ref e3])), (p1, .inr (3, [.ref p2, .ref p3, .int (nI (cntF w 64))])), (p2, .inl (cyZ, 64, .inl (aZ w))), (p3, .inl (cyI, 256, .inl (ahV w))), (e1, .inr (2, [.ref e2])), (e2, .inl (cyJ, 64, .inr (.inl (aL (bal w))))), (e3, .inr (2, [.ref e4])), (e4, .inl (cyJ, 64, .inr (.inl (aL fe2)))), (y1, .inl (cyI, 300, .inl (aI td))), (y2, .inl (cyI, 300, .inl (tQ rc)))]) (As := []) (rest := []) (c_X0_begin l D cyI cyJ cyZ s.heap.size e0 p1 p2 p3 e1 e2 e3 w (cntF w 64) fe (ahV w) ) (cwV 0 S.2.2.2.2 gX5_repeatAllTold_X0_begin rfl rfl rfl (by decide +kernel) ⟨Nat.le_of_ble_eq_true rfl, Nat.le_of_ble_eq_true rfl⟩) hK hP hD hS hA hG [1, 2, 3, 4, 5, 6] [0, 7, 8, 9, 10] [0, 5, 6, 7, 8, 9, 10, 1, 2, 3, 4] rfl rfl rfl rfl (by decide) rfl rfl (ci := 0) (q0 := 1) rfl rfl rfl hl.1 rfl (Nat.le_of_ble_eq_true rfl) dX5_repeatAllTold_4 ⟨Nat.le_of_ble_eq_true rfl, Nat.le_of_ble_eq_true rfl⟩ (fun H locs hP hD hS => ?_)
  refine lv_iconst (v := nI 0) S.1 S.2.1 dX5_repeatAllTold_7 (by decide) ?_
  refine lv_istore_n (lv' := [(1, .int (nI 0)), (0, .ref a0)]) S.1 S.2.1 dX5_repeatAllTold_8 rfl hl (by decide) rfl (fun ls hl => ?_)
  refine wl (σ := Nat × (Nat → Nat) × (Nat → Nat)) (fun (i, g, g2) => [(a0, .inr (5, [.ref p1, .ref q1, .ref q0, .ref k0, .ref e0, .ref y1, .ref y2, .int (nI tl), .int (bI sp)])), (e0, .inr (0, [.ref p1, .ref e1, .ref e3])), (p1, .inr (3, [.ref p2, .ref p3, .int (nI (cntF w 64))])), (p2, .inl (cyZ, 64, .inl (aZ w))), (p3, .inl (cyI, 256, .inl (ahV w))), (e1, .inr (2, [.ref e2])), (e2, .inl (cyJ, 64, .inr (.inl (aL g)))), (e3, .inr (2, [.ref e4])), (e4, .inl (cyJ, 64, .inr (.inl (aL g2)))), (y1, .inl (cyI, 300, .inl (aI td))), (y2, .inl (cyI, 300, .inl (tQ rc)))]) (fun (i, g, g2) => [(1, .int (nI i)), (0, .ref a0)]) (fun (i, g, g2) => (i ≤ tl) ∧ (g = bhF w td rc i) ∧ (g2 = bqF w td rc fe2 i)) (fun (i, g, g2) => tl - i) ?_ (0, bal w, fe2) ⟨by omega, rfl, rfl⟩ hP hD hS (lv_sub hl [0, 1] rfl)
  rintro ⟨i, g, g2⟩ ⟨hi, hg, hg2⟩ ih9 H locs ls hP hD hS hl
  have hP : va_P D vwCl [(a0, .inr (5, [.ref p1, .ref q1, .ref q0, .ref k0, .ref e0, .ref y1, .ref y2, .int (nI tl), .int (bI sp)])), (e0, .inr (0, [.ref p1, .ref e1, .ref e3])), (p1, .inr (3, [.ref p2, .ref p3, .int (nI (cntF w 64))])), (p2, .inl (cyZ, 64, .inl (aZ w))), (p3, .inl (cyI, 256, .inl (ahV w))), (e1, .inr (2, [.ref e2])), (e2, .inl (cyJ, 64, .inr (.inl (aL g)))), (e3, .inr (2, [.ref e4])), (e4, .inl (cyJ, 64, .inr (.inl (aL g2)))), (y1, .inl (cyI, 300, .inl (aI td))), (y2, .inl (cyI, 300, .inl (tQ rc)))] H := hP
  have hD : va_D A [(a0, .inr (5, [.ref p1, .ref q1, .ref q0, .ref k0, .ref e0, .ref y1, .ref y2, .int (nI tl), .int (bI sp)])), (e0, .inr (0, [.ref p1, .ref e1, .ref e3])), (p1, .inr (3, [.ref p2, .ref p3, .int (nI (cntF w 64))])), (p2, .inl (cyZ, 64, .inl (aZ w))), (p3, .inl (cyI, 256, .inl (ahV w))), (e1, .inr (2, [.ref e2])), (e2, .inl (cyJ, 64, .inr (.inl (aL g)))), (e3, .inr (2, [.ref e4])), (e4, .inl (cyJ, 64, .inr (.inl (aL g2)))), (y1, .inl (cyI, 300, .inl (aI td))), (y2, .inl (cyI, 300, .inl (tQ rc)))] := hD
  have hl : lv_has ls 2 [(1, .int (nI i)), (0, .ref a0)] := hl
  refine lv_iload_n S.1 S.2.1 dX5_repeatAllTold_9 rfl (lv_at hl 0 rfl) ?_
  refine lv_aload_n S.1 S.2.1 dX5_repeatAllTold_10 rfl (lv_at hl 1 rfl) ?_
  refine k_get S (C := RX5) (T := TX5) (N := 9) (ci := 5) hw_X5 hK hP 0 rfl rfl 7 (by decide) hf_51 rfl (v := .int (nI tl)) rfl dX5_repeatAllTold_11 ?_
  refine kn_icmp_ge S (by omega) (by omega) dX5_repeatAllTold_14 (tgt := 75) (by decide) (fun c14 => ?_) (fun c14 => ?_)
  · obtain ⟨hP, hD⟩ := P_re (ws2 := [(a0, .inr (5, [.ref p1, .ref q1, .ref q0, .ref k0, .ref e0, .ref y1, .ref y2, .int (nI tl), .int (bI sp)])), (e0, .inr (0, [.ref p1, .ref e1, .ref e3])), (p1, .inr (3, [.ref p2, .ref p3, .int (nI (cntF w 64))])), (p2, .inl (cyZ, 64, .inl (aZ w))), (p3, .inl (cyI, 256, .inl (ahV w))), (e1, .inr (2, [.ref e2])), (e2, .inl (cyJ, 64, .inr (.inl (aL (bhF w td rc tl))))), (e3, .inr (2, [.ref e4])), (e4, .inl (cyJ, 64, .inr (.inl (aL g2)))), (y1, .inl (cyI, 300, .inl (aI td))), (y2, .inl (cyI, 300, .inl (tQ rc)))]) hP hD 6 rfl (by rw [hg, show i = tl by omega]) rfl
    obtain ⟨hP, hD⟩ := P_re (ws2 := [(a0, .inr (5, [.ref p1, .ref q1, .ref q0, .ref k0, .ref e0, .ref y1, .ref y2, .int (nI tl), .int (bI sp)])), (e0, .inr (0, [.ref p1, .ref e1, .ref e3])), (p1, .inr (3, [.ref p2, .ref p3, .int (nI (cntF w 64))])), (p2, .inl (cyZ, 64, .inl (aZ w))), (p3, .inl (cyI, 256, .inl (ahV w))), (e1, .inr (2, [.ref e2])), (e2, .inl (cyJ, 64, .inr (.inl (aL (bhF w td rc tl))))), (e3, .inr (2, [.ref e4])), (e4, .inl (cyJ, 64, .inr (.inl (aL (bqF w td rc fe2 tl))))), (y1, .inl (cyI, 300, .inl (aI td))), (y2, .inl (cyI, 300, .inl (tQ rc)))]) hP hD 8 rfl (by rw [hg2, show i = tl by omega]) rfl
    exact hret _ _ _ _ dX5_repeatAllTold_75 hP hD hS
  · refine lv_iload_n S.1 S.2.1 dX5_repeatAllTold_17 rfl (lv_at hl 0 rfl) ?_
    refine lv_sipush (v := nI 300) S.1 S.2.1 dX5_repeatAllTold_18 (by decide) ?_
    refine kn_icmp_ge S (by omega) (by omega) dX5_repeatAllTold_21 (tgt := 75) (by decide) (fun c21 => ?_) (fun c21 => ?_)
    · exfalso; omega
    · have hti := hto i (by omega)
      have hok : okB w g := (by rw [hg]; exact okB_bh hf0 (fun k hk => (hto k (by omega)).1))
      refine lv_aload_n S.1 S.2.1 dX5_repeatAllTold_24 rfl (lv_at hl 1 rfl) ?_
      refine k_get S (C := RX5) (T := TX5) (N := 9) (ci := 5) hw_X5 hK hP 0 rfl rfl 6 (by decide) hf_48 rfl (v := .ref y2) rfl dX5_repeatAllTold_25 ?_
      refine lv_iload_n S.1 S.2.1 dX5_repeatAllTold_28 rfl (lv_at hl 0 rfl) ?_
      refine kr_iald S hK hP 10 0 rfl rfl (by omega) (by decide) dX5_repeatAllTold_29 ?_
      refine lv_iconst (v := (-1)) S.1 S.2.1 dX5_repeatAllTold_30 (by decide) ?_
      refine lv_icmp_ne S.1 S.2.1 dX5_repeatAllTold_31 (tgt := 50) (by decide) (fun c31 => ?_) (fun c31 => ?_)
      · have h7 := tQ_n1 hti.2 c31
        refine lv_aload_n S.1 S.2.1 dX5_repeatAllTold_50 rfl (lv_at hl 1 rfl) ?_
        refine k_get S (C := RX5) (T := TX5) (N := 9) (ci := 5) hw_X5 hK hP 0 rfl rfl 4 (by decide) hf_41 rfl (v := .ref e0) rfl dX5_repeatAllTold_51 ?_
        refine lv_aload_n S.1 S.2.1 dX5_repeatAllTold_54 rfl (lv_at hl 1 rfl) ?_
        refine k_get S (C := RX5) (T := TX5) (N := 9) (ci := 5) hw_X5 hK hP 0 rfl rfl 5 (by decide) hf_44 rfl (v := .ref y1) rfl dX5_repeatAllTold_55 ?_
        refine lv_iload_n S.1 S.2.1 dX5_repeatAllTold_58 rfl (lv_at hl 0 rfl) ?_
        refine kn_iald S hK hP 9 0 rfl rfl (by omega) (by decide) dX5_repeatAllTold_59 ?_
        refine lv_aload_n S.1 S.2.1 dX5_repeatAllTold_60 rfl (lv_at hl 1 rfl) ?_
        refine k_get S (C := RX5) (T := TX5) (N := 9) (ci := 5) hw_X5 hK hP 0 rfl rfl 6 (by decide) hf_48 rfl (v := .ref y2) rfl dX5_repeatAllTold_61 ?_
        refine lv_iload_n S.1 S.2.1 dX5_repeatAllTold_64 rfl (lv_at hl 0 rfl) ?_
        refine kr_iald S hK hP 10 0 rfl rfl (by omega) (by decide) dX5_repeatAllTold_65 ?_
        refine k_topi (y := nI (rc i)) (tQ_n h7) ?_
        refine kcV_v S (wc := [(e0, .inr (0, [.ref p1, .ref e1, .ref e3])), (p1, .inr (3, [.ref p2, .ref p3, .int (nI (cntF w 64))])), (p2, .inl (cyZ, 64, .inl (aZ w))), (p3, .inl (cyI, 256, .inl (ahV w))), (e1, .inr (2, [.ref e2])), (e2, .inl (cyJ, 64, .inr (.inl (aL g))))]) (wr := [(a0, .inr (5, [.ref p1, .ref q1, .ref q0, .ref k0, .ref e0, .ref y1, .ref y2, .int (nI tl), .int (bI sp)])), (e3, .inr (2, [.ref e4])), (e4, .inl (cyJ, 64, .inr (.inl (aL g2)))), (y1, .inl (cyI, 300, .inl (aI td))), (y2, .inl (cyI, 300, .inl (tQ rc)))]) (ws2 := [(a0, .inr (5, [.ref p1, .ref q1, .ref q0, .ref k0, .ref e0, .ref y1, .ref y2, .int (nI tl), .int (bI sp)])), (e0, .inr (0, [.ref p1, .ref e1, .ref e3])), (p1, .inr (3, [.ref p2, .ref p3, .int (nI (cntF w 64))])), (p2, .inl (cyZ, 64, .inl (aZ w))), (p3, .inl (cyI, 256, .inl (ahV w))), (e1, .inr (2, [.ref e2])), (e2, .inl (cyJ, 64, .inr (.inl (aL (rdg w g (td i) (rc i)))))), (e3, .inr (2, [.ref e4])), (e4, .inl (cyJ, 64, .inr (.inl (aL g2)))), (y1, .inl (cyI, 300, .inl (aI td))), (y2, .inl (cyI, 300, .inl (tQ rc)))]) (As := [.int (nI (td i)), .int (nI (rc i))]) (rest := []) (c_X0_weigh l D cyI cyJ cyZ H.size e0 p1 p2 p3 e1 e2 e3 w (cntF w 64) g (td i) (rc i) (hti.1) (h7) (hok.1)) (cwV 2 S.2.2.2.2 gX5_repeatAllTold_X0_weigh rfl rfl rfl (by decide +kernel) ⟨Nat.le_of_ble_eq_true rfl, Nat.le_of_ble_eq_true rfl⟩) hK hP hD hS hA hG [1, 2, 3, 4, 5, 6] [0, 7, 8, 9, 10] [0, 5, 6, 7, 8, 9, 10, 1, 2, 3, 4] rfl rfl rfl rfl (by decide) rfl rfl (ci := 0) (q0 := 1) rfl rfl rfl hl.1 rfl (Nat.le_of_ble_eq_true rfl) dX5_repeatAllTold_66 ⟨Nat.le_of_ble_eq_true rfl, Nat.le_of_ble_eq_true rfl⟩ (fun H locs hP hD hS => ?_)
        refine lv_iinc (v := nI (i + 1)) (lv' := [(1, .int (nI (i + 1))), (0, .ref a0)]) S.1 S.2.1 dX5_repeatAllTold_69 hl (k := 0) rfl (iinc_1 _) (by decide) rfl (fun ls hl => ?_)
        refine lv_goto (tgt := 9) S.1 S.2.1 dX5_repeatAllTold_72 (by decide) ?_
        exact ih9 (i + 1, rdg w g (td i) (rc i), g2) ⟨by omega, by rw [bhF, if_neg (by omega), hg], by rw [bqF, if_neg (by omega), hg2]⟩ (by show tl - (i + 1) < tl - i; omega) _ _ _ hP hD hS (lv_sub hl [0, 1] rfl)
      · have h8 := tQ_m1 hti.2 c31
        refine lv_aload_n S.1 S.2.1 dX5_repeatAllTold_34 rfl (lv_at hl 1 rfl) ?_
        refine k_get S (C := RX5) (T := TX5) (N := 9) (ci := 5) hw_X5 hK hP 0 rfl rfl 4 (by decide) hf_41 rfl (v := .ref e0) rfl dX5_repeatAllTold_35 ?_
        refine lv_aload_n S.1 S.2.1 dX5_repeatAllTold_38 rfl (lv_at hl 1 rfl) ?_
        refine k_get S (C := RX5) (T := TX5) (N := 9) (ci := 5) hw_X5 hK hP 0 rfl rfl 5 (by decide) hf_44 rfl (v := .ref y1) rfl dX5_repeatAllTold_39 ?_
        refine lv_iload_n S.1 S.2.1 dX5_repeatAllTold_42 rfl (lv_at hl 0 rfl) ?_
        refine kn_iald S hK hP 9 0 rfl rfl (by omega) (by decide) dX5_repeatAllTold_43 ?_
        refine kcV_v S (wc := [(e0, .inr (0, [.ref p1, .ref e1, .ref e3])), (p1, .inr (3, [.ref p2, .ref p3, .int (nI (cntF w 64))])), (p2, .inl (cyZ, 64, .inl (aZ w))), (p3, .inl (cyI, 256, .inl (ahV w))), (e1, .inr (2, [.ref e2])), (e2, .inl (cyJ, 64, .inr (.inl (aL g)))), (e3, .inr (2, [.ref e4])), (e4, .inl (cyJ, 64, .inr (.inl (aL g2))))]) (wr := [(a0, .inr (5, [.ref p1, .ref q1, .ref q0, .ref k0, .ref e0, .ref y1, .ref y2, .int (nI tl), .int (bI sp)])), (y1, .inl (cyI, 300, .inl (aI td))), (y2, .inl (cyI, 300, .inl (tQ rc)))]) (ws2 := [(a0, .inr (5, [.ref p1, .ref q1, .ref q0, .ref k0, .ref e0, .ref y1, .ref y2, .int (nI tl), .int (bI sp)])), (e0, .inr (0, [.ref p1, .ref e1, .ref e3])), (p1, .inr (3, [.ref p2, .ref p3, .int (nI (cntF w 64))])), (p2, .inl (cyZ, 64, .inl (aZ w))), (p3, .inl (cyI, 256, .inl (ahV w))), (e1, .inr (2, [.ref e2])), (e2, .inl (cyJ, 64, .inr (.inl (aL (drv w g (td i)))))), (e3, .inr (2, [.ref e4])), (e4, .inl (cyJ, 64, .inr (.inl (aL g)))), (y1, .inl (cyI, 300, .inl (aI td))), (y2, .inl (cyI, 300, .inl (tQ rc)))]) (As := [.int (nI (td i))]) (rest := []) (c_X0_fetch l D cyI cyJ cyZ H.size e0 p1 p2 p3 e1 e2 e3 e4 w (cntF w 64) g g2 (td i) (hti.1) (hok.1) (hok.2.1)) (cwV 1 S.2.2.2.2 gX5_repeatAllTold_X0_fetch rfl rfl rfl (by decide +kernel) ⟨Nat.le_of_ble_eq_true rfl, Nat.le_of_ble_eq_true rfl⟩) hK hP hD hS hA hG [1, 2, 3, 4, 5, 6, 7, 8] [0, 9, 10] [0, 3, 4, 5, 6, 7, 8, 9, 10, 1, 2] rfl rfl rfl rfl (by decide) rfl rfl (ci := 0) (q0 := 1) rfl rfl rfl hl.1 rfl (Nat.le_of_ble_eq_true rfl) dX5_repeatAllTold_44 ⟨Nat.le_of_ble_eq_true rfl, Nat.le_of_ble_eq_true rfl⟩ (fun H locs hP hD hS => ?_)
        refine lv_goto (tgt := 69) S.1 S.2.1 dX5_repeatAllTold_47 (by decide) ?_
        refine lv_iinc (v := nI (i + 1)) (lv' := [(1, .int (nI (i + 1))), (0, .ref a0)]) S.1 S.2.1 dX5_repeatAllTold_69 hl (k := 0) rfl (iinc_1 _) (by decide) rfl (fun ls hl => ?_)
        refine lv_goto (tgt := 9) S.1 S.2.1 dX5_repeatAllTold_72 (by decide) ?_
        exact ih9 (i + 1, drv w g (td i), g) ⟨by omega, by rw [bhF, if_pos h8, hg], by rw [bqF, if_pos h8, hg]⟩ (by show tl - (i + 1) < tl - i; omega) _ _ _ hP hD hS (lv_sub hl [0, 1] rfl)

set_option maxHeartbeats 4000000 in
set_option maxRecDepth 100000 in
theorem c_X5_chartOf_s (l : Launch) (D : va_G) (cyI cyJ cyZ : ClassId) (sz : Nat) (a0 : Nat) (p1 : Nat) (q1 : Nat) (q0 : Nat) (k0 : Nat) (e0 : Nat) (y1 : Nat) (y2 : Nat) (tl : Nat) (sp : Bool) (q2 : Nat) (q3 : Nat) (q4 : Nat) (q5 : Nat) (n0 : Nat) (rd : Bool) (sl : Int32) (fa : Int32) (db : Int32) (q6 : Nat) (cs : Nat → Nat) (g0 : Nat → Nat) (hn : n0 ≤ 64) (hca : ∀ j, j < 64 → cs j < 64) : Met l yX5_chartOf wsX5_chartOf ({ frames := 5, cells := 0, slots := 0, locals := 124 } : Room) (mPc D [(cyI, .int), (cyJ, .long), (cyZ, .boolean)] [(a0, .inr (5, [.ref p1, .ref q1, .ref q0, .ref k0, .ref e0, .ref y1, .ref y2, .int (nI tl), .int (bI sp)])), (q0, .inr (4, [.ref p1, .ref q1, .ref q2, .ref q3, .ref q4, .ref q5, .int (nI n0), .int (bI rd), .int sl, .int fa, .int db])), (q2, .inl (cyI, 64, .inl (aI cs))), (q5, .inr (2, [.ref q6])), (q6, .inl (cyJ, 64, .inr (.inl (aL g0))))] sz [.ref a0, .int (bI true)]) (va_Qr (fun (u : va_W) => u = [(a0, .inr (5, [.ref p1, .ref q1, .ref q0, .ref k0, .ref e0, .ref y1, .ref y2, .int (nI tl), .int (bI sp)])), (q0, .inr (4, [.ref p1, .ref q1, .ref q2, .ref q3, .ref q4, .ref q5, .int (nI n0), .int (bI rd), .int sl, .int fa, .int db])), (q2, .inl (cyI, 64, .inl (aI cs))), (q5, .inr (2, [.ref q6])), (q6, .inl (cyJ, 64, .inr (.inl (aL (ctF cs n0)))))]) (fun u a t => a = q5 ∧ mB D [(cyI, .int), (cyJ, .long), (cyZ, .boolean)] (va_A [(a0, .inr (5, [.ref p1, .ref q1, .ref q0, .ref k0, .ref e0, .ref y1, .ref y2, .int (nI tl), .int (bI sp)])), (q0, .inr (4, [.ref p1, .ref q1, .ref q2, .ref q3, .ref q4, .ref q5, .int (nI n0), .int (bI rd), .int sl, .int fa, .int db])), (q2, .inl (cyI, 64, .inl (aI cs))), (q5, .inr (2, [.ref q6])), (q6, .inl (cyJ, 64, .inr (.inl (aL g0))))] sz) u t) (va_A [(a0, .inr (5, [.ref p1, .ref q1, .ref q0, .ref k0, .ref e0, .ref y1, .ref y2, .int (nI tl), .int (bI sp)])), (q0, .inr (4, [.ref p1, .ref q1, .ref q2, .ref q3, .ref q4, .ref q5, .int (nI n0), .int (bI rd), .int sl, .int fa, .int db])), (q2, .inl (cyI, 64, .inl (aI cs))), (q5, .inr (2, [.ref q6])), (q6, .inl (cyJ, 64, .inr (.inl (aL g0))))] sz)) 0 0 (va_A [(a0, .inr (5, [.ref p1, .ref q1, .ref q0, .ref k0, .ref e0, .ref y1, .ref y2, .int (nI tl), .int (bI sp)])), (q0, .inr (4, [.ref p1, .ref q1, .ref q2, .ref q3, .ref q4, .ref q5, .int (nI n0), .int (bI rd), .int sl, .int fa, .int db])), (q2, .inl (cyI, 64, .inl (aI cs))), (q5, .inr (2, [.ref q6])), (q6, .inl (cyJ, 64, .inr (.inl (aL g0))))] sz) := by
  refine st_r (own := RX5) (lv0 := [(0, .ref a0), (1, .int (bI true))]) (by decide) rfl rfl (Nat.le_of_ble_eq_true rfl) rfl ?_
  intro p e s m below meth c A Q S hin hA hK hP hD hG hS hret ls hl
  have hw_X5 : ∀ w ∈ u_ws RX5 TX5 9, w ∈ wsX5_chartOf := by decide +kernel
  have hf_28 := S.2.2.2.2 (.fieldLink RX5 28 "Particleway" "samples" "LParticleway$Samples;") (by decide +kernel)
  refine lv_iload_n S.1 S.2.1 dX5_chartOf_0 rfl (lv_at hl 1 rfl) ?_
  refine kb_if_eq S dX5_chartOf_1 (tgt := 14) (by decide) (fun c1 => ?_) (fun c1 => ?_)
  · exact absurd c1 (by decide)
  · refine lv_aload_n S.1 S.2.1 dX5_chartOf_4 rfl (lv_at hl 0 rfl) ?_
    refine k_get S (C := RX5) (T := TX5) (N := 9) (ci := 5) hw_X5 hK hP 0 rfl rfl 2 (by decide) hf_28 rfl (v := .ref q0) rfl dX5_chartOf_5 ?_
    refine kcV_r S (wc := [(q0, .inr (4, [.ref p1, .ref q1, .ref q2, .ref q3, .ref q4, .ref q5, .int (nI n0), .int (bI rd), .int sl, .int fa, .int db])), (q2, .inl (cyI, 64, .inl (aI cs))), (q5, .inr (2, [.ref q6])), (q6, .inl (cyJ, 64, .inr (.inl (aL g0))))]) (wr := [(a0, .inr (5, [.ref p1, .ref q1, .ref q0, .ref k0, .ref e0, .ref y1, .ref y2, .int (nI tl), .int (bI sp)]))]) (ws2 := [(a0, .inr (5, [.ref p1, .ref q1, .ref q0, .ref k0, .ref e0, .ref y1, .ref y2, .int (nI tl), .int (bI sp)])), (q0, .inr (4, [.ref p1, .ref q1, .ref q2, .ref q3, .ref q4, .ref q5, .int (nI n0), .int (bI rd), .int sl, .int fa, .int db])), (q2, .inl (cyI, 64, .inl (aI cs))), (q5, .inr (2, [.ref q6])), (q6, .inl (cyJ, 64, .inr (.inl (aL (ctF cs n0)))))]) (As := []) (rest := []) (c_X4_chart l D cyI cyJ cyZ s.heap.size q0 p1 q1 q2 q3 q4 q5 n0 rd sl fa db q6 cs g0 (by first | assumption | omega) (fun j hj => hca j (by omega))) (cwV 0 S.2.2.2.2 gX5_chartOf_X4_chart rfl rfl rfl (by decide +kernel) ⟨Nat.le_of_ble_eq_true rfl, Nat.le_of_ble_eq_true rfl⟩) hK hP hD hS hA hG [1, 2, 3, 4] [0] [0, 1, 2, 3, 4] rfl rfl rfl rfl (by decide) rfl rfl (ci := 4) (q0 := 1) rfl rfl rfl hl.1 rfl (Nat.le_of_ble_eq_true rfl) dX5_chartOf_8 ⟨Nat.le_of_ble_eq_true rfl, Nat.le_of_ble_eq_true rfl⟩ (fun H locs hP hD hS => ?_)
    refine lv_goto (tgt := 21) S.1 S.2.1 dX5_chartOf_11 (by decide) ?_
    exact hret _ _ _ _ dX5_chartOf_21 hP hD hS

set_option maxHeartbeats 4000000 in
set_option maxRecDepth 100000 in
theorem c_X5_chartOf_b (l : Launch) (D : va_G) (cyI cyJ cyZ : ClassId) (sz : Nat) (a0 : Nat) (p1 : Nat) (q1 : Nat) (q0 : Nat) (k0 : Nat) (e0 : Nat) (y1 : Nat) (y2 : Nat) (tl : Nat) (sp : Bool) (k1 : Nat) (k3 : Nat) : Met l yX5_chartOf wsX5_chartOf ({ frames := 3, cells := 0, slots := 0, locals := 80 } : Room) (mPc D [(cyI, .int), (cyJ, .long), (cyZ, .boolean)] [(a0, .inr (5, [.ref p1, .ref q1, .ref q0, .ref k0, .ref e0, .ref y1, .ref y2, .int (nI tl), .int (bI sp)])), (k0, .inr (0, [.ref p1, .ref k1, .ref k3]))] sz [.ref a0, .int (bI false)]) (va_Qr (fun (u : va_W) => u = [(a0, .inr (5, [.ref p1, .ref q1, .ref q0, .ref k0, .ref e0, .ref y1, .ref y2, .int (nI tl), .int (bI sp)])), (k0, .inr (0, [.ref p1, .ref k1, .ref k3]))]) (fun u a t => a = k1 ∧ mB D [(cyI, .int), (cyJ, .long), (cyZ, .boolean)] (va_A [(a0, .inr (5, [.ref p1, .ref q1, .ref q0, .ref k0, .ref e0, .ref y1, .ref y2, .int (nI tl), .int (bI sp)])), (k0, .inr (0, [.ref p1, .ref k1, .ref k3]))] sz) u t) (va_A [(a0, .inr (5, [.ref p1, .ref q1, .ref q0, .ref k0, .ref e0, .ref y1, .ref y2, .int (nI tl), .int (bI sp)])), (k0, .inr (0, [.ref p1, .ref k1, .ref k3]))] sz)) 0 0 (va_A [(a0, .inr (5, [.ref p1, .ref q1, .ref q0, .ref k0, .ref e0, .ref y1, .ref y2, .int (nI tl), .int (bI sp)])), (k0, .inr (0, [.ref p1, .ref k1, .ref k3]))] sz) := by
  refine st_r (own := RX5) (lv0 := [(0, .ref a0), (1, .int (bI false))]) (by decide) rfl rfl (Nat.le_of_ble_eq_true rfl) rfl ?_
  intro p e s m below meth c A Q S hin hA hK hP hD hG hS hret ls hl
  have hw_X5 : ∀ w ∈ u_ws RX5 TX5 9, w ∈ wsX5_chartOf := by decide +kernel
  have hf_37 := S.2.2.2.2 (.fieldLink RX5 37 "Particleway" "beliefs" "LParticleway$Beliefs;") (by decide +kernel)
  refine lv_iload_n S.1 S.2.1 dX5_chartOf_0 rfl (lv_at hl 1 rfl) ?_
  refine kb_if_eq S dX5_chartOf_1 (tgt := 14) (by decide) (fun c1 => ?_) (fun c1 => ?_)
  · refine lv_aload_n S.1 S.2.1 dX5_chartOf_14 rfl (lv_at hl 0 rfl) ?_
    refine k_get S (C := RX5) (T := TX5) (N := 9) (ci := 5) hw_X5 hK hP 0 rfl rfl 3 (by decide) hf_37 rfl (v := .ref k0) rfl dX5_chartOf_15 ?_
    refine kcV_r S (wc := [(k0, .inr (0, [.ref p1, .ref k1, .ref k3]))]) (wr := [(a0, .inr (5, [.ref p1, .ref q1, .ref q0, .ref k0, .ref e0, .ref y1, .ref y2, .int (nI tl), .int (bI sp)]))]) (ws2 := [(a0, .inr (5, [.ref p1, .ref q1, .ref q0, .ref k0, .ref e0, .ref y1, .ref y2, .int (nI tl), .int (bI sp)])), (k0, .inr (0, [.ref p1, .ref k1, .ref k3]))]) (As := []) (rest := []) (c_X0_chart l D cyI cyJ cyZ s.heap.size k0 p1 k1 k3 ) (cwV 0 S.2.2.2.2 gX5_chartOf_X0_chart rfl rfl rfl (by decide +kernel) ⟨Nat.le_of_ble_eq_true rfl, Nat.le_of_ble_eq_true rfl⟩) hK hP hD hS hA hG [1] [0] [0, 1] rfl rfl rfl rfl (by decide) rfl rfl (ci := 0) (q0 := 1) rfl rfl rfl hl.1 rfl (Nat.le_of_ble_eq_true rfl) dX5_chartOf_18 ⟨Nat.le_of_ble_eq_true rfl, Nat.le_of_ble_eq_true rfl⟩ (fun H locs hP hD hS => ?_)
    exact hret _ _ _ _ dX5_chartOf_21 hP hD hS
  · exact absurd c1 (by decide)
end CLASSA
