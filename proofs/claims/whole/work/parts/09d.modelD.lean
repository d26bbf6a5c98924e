section MODELD
set_option maxHeartbeats 4000000 in
set_option maxRecDepth 100000 in
theorem c_X6_wall_1 (l : Launch) (D : va_G) (cyI cyJ cyZ : ClassId) (sz : Nat) (m0 : Nat) (m1 : Nat) (m2 : Nat) (m3 : Nat) (m4 : Nat) (m5 : Nat) (m6 : Nat) (th : Int32) (x : Nat) (sp : Bool) (n0 : Nat) (ac : Nat) (re : Nat) (sl : Int32) (fa : Int32) (db : Int32) (w : Nat → Bool) (v : Int32) (v2 : Int32) (is9 : Bool) (hxy : inF v v2 = false) : Met l yX6_wall wsX6_wall ({ frames := 4, cells := 0, slots := 0, locals := 103 } : Room) (mPc D [(cyI, .int), (cyJ, .long), (cyZ, .boolean)] [(m0, .inr (6, [.int th, .ref m1, .int (nI x), .int (bI sp), .int (nI n0), .ref m2, .ref m3, .ref m4, .ref m5, .ref m6, .int (nI ac), .int (nI re), .int sl, .int fa, .int db])), (m1, .inl (cyZ, 64, .inl (aZ w)))] sz [.ref m0, .int v, .int v2, .int (bI is9)]) (va_Qi (fun (r : Int32) (u : va_W) => r = bI false ∧ u = [(m0, .inr (6, [.int (nI 1), .ref m1, .int (nI x), .int (bI sp), .int (nI n0), .ref m2, .ref m3, .ref m4, .ref m5, .ref m6, .int (nI ac), .int (nI re), .int sl, .int fa, .int db])), (m1, .inl (cyZ, 64, .inl (aZ w)))]) (mB D [(cyI, .int), (cyJ, .long), (cyZ, .boolean)] (va_A [(m0, .inr (6, [.int th, .ref m1, .int (nI x), .int (bI sp), .int (nI n0), .ref m2, .ref m3, .ref m4, .ref m5, .ref m6, .int (nI ac), .int (nI re), .int sl, .int fa, .int db])), (m1, .inl (cyZ, 64, .inl (aZ w)))] sz)) (va_A [(m0, .inr (6, [.int th, .ref m1, .int (nI x), .int (bI sp), .int (nI n0), .ref m2, .ref m3, .ref m4, .ref m5, .ref m6, .int (nI ac), .int (nI re), .int sl, .int fa, .int db])), (m1, .inl (cyZ, 64, .inl (aZ w)))] sz)) 0 0 (va_A [(m0, .inr (6, [.int th, .ref m1, .int (nI x), .int (bI sp), .int (nI n0), .ref m2, .ref m3, .ref m4, .ref m5, .ref m6, .int (nI ac), .int (nI re), .int sl, .int fa, .int db])), (m1, .inl (cyZ, 64, .inl (aZ w)))] sz) := by
  refine st_z (own := RX6) (lv0 := [(0, .ref m0), (1, .int v), (2, .int v2), (3, .int (bI is9))]) (by decide) rfl rfl (Nat.le_of_ble_eq_true rfl) rfl ?_
  intro p e s m below meth c A Q S hin hA hK hP hD hG hS hret ls hl
  have hw_X6 : ∀ w ∈ u_ws RX6 TX6 15, w ∈ wsX6_wall := by decide +kernel
  have hf_7 := S.2.2.2.2 (.fieldLink RX6 7 "ParticlewayModel" "isWall" "[Z") (by decide +kernel)
  have hcf := cntF_le w 64
  refine lv_iload_n S.1 S.2.1 dX6_wall_0 rfl (lv_at hl 1 rfl) ?_
  refine lv_iload_n S.1 S.2.1 dX6_wall_1 rfl (lv_at hl 2 rfl) ?_
  refine kcS_i S (wc := []) (wr := [(m0, .inr (6, [.int th, .ref m1, .int (nI x), .int (bI sp), .int (nI n0), .ref m2, .ref m3, .ref m4, .ref m5, .ref m6, .int (nI ac), .int (nI re), .int sl, .int fa, .int db])), (m1, .inl (cyZ, 64, .inl (aZ w)))]) (ws2 := [(m0, .inr (6, [.int th, .ref m1, .int (nI x), .int (bI sp), .int (nI n0), .ref m2, .ref m3, .ref m4, .ref m5, .ref m6, .int (nI ac), .int (nI re), .int sl, .int fa, .int db])), (m1, .inl (cyZ, 64, .inl (aZ w)))]) (As := [.int v, .int v2]) (rest := []) (c_X6_isCell l D cyI cyJ cyZ s.heap.size v v2 ) (va_cwS 2 S.2.2.2.2 gX6_wall_X6_isCell rfl rfl rfl (by decide +kernel) ⟨Nat.le_of_ble_eq_true rfl, Nat.le_of_ble_eq_true rfl⟩) hK hP hD hS hA hG [] [0, 1] [0, 1] rfl rfl rfl rfl (by decide) rfl rfl rfl hl.1 rfl (Nat.le_of_ble_eq_true rfl) dX6_wall_2 ⟨Nat.le_of_ble_eq_true rfl, Nat.le_of_ble_eq_true rfl⟩ (fun H locs hP hD hS => ?_)
  refine k_topi (y := bI false) (by rw [hxy]) ?_
  refine lv_istore (lv' := [(4, .int (bI false)), (0, .ref m0), (1, .int v), (2, .int v2), (3, .int (bI is9))]) S.1 S.2.1 dX6_wall_5 hl (by decide) rfl (fun ls hl => ?_)
  refine lv_iload S.1 S.2.1 dX6_wall_7 (lv_at hl 0 rfl) ?_
  refine kb_if_eq S dX6_wall_9 (tgt := 21) (by decide) (fun c9 => ?_) (fun c9 => ?_)
  · refine lv_iconst (v := nI 0) S.1 S.2.1 dX6_wall_21 (by decide) ?_
    refine lv_istore (lv' := [(5, .int (nI 0)), (4, .int (bI false)), (0, .ref m0), (1, .int v), (2, .int v2), (3, .int (bI is9))]) S.1 S.2.1 dX6_wall_22 hl (by decide) rfl (fun ls hl => ?_)
    refine lv_iload_n S.1 S.2.1 dX6_wall_24 rfl (lv_at hl 5 rfl) ?_
    refine kb_if_eq S dX6_wall_25 (tgt := 50) (by decide) (fun c25 => ?_) (fun c25 => ?_)
    · refine lv_iconst (v := nI 0) S.1 S.2.1 dX6_wall_50 (by decide) ?_
      refine lv_istore (lv' := [(6, .int (nI 0)), (5, .int (nI 0)), (4, .int (bI false)), (0, .ref m0), (1, .int v), (2, .int v2), (3, .int (bI is9))]) S.1 S.2.1 dX6_wall_51 hl (by decide) rfl (fun ls hl => ?_)
      refine lv_aload_n S.1 S.2.1 dX6_wall_53 rfl (lv_at hl 3 rfl) ?_
      refine lv_iload S.1 S.2.1 dX6_wall_54 (lv_at hl 2 rfl) ?_
      refine kb_if_ne S dX6_wall_56 (tgt := 63) (by decide) (fun c56 => ?_) (fun c56 => ?_)
      · exact absurd c56 (by decide)
      · refine lv_iconst (v := nI 1) S.1 S.2.1 dX6_wall_59 (by decide) ?_
        refine lv_goto (tgt := 80) S.1 S.2.1 dX6_wall_60 (by decide) ?_
        refine kcV_i S (wc := [(m0, .inr (6, [.int th, .ref m1, .int (nI x), .int (bI sp), .int (nI n0), .ref m2, .ref m3, .ref m4, .ref m5, .ref m6, .int (nI ac), .int (nI re), .int sl, .int fa, .int db]))]) (wr := [(m1, .inl (cyZ, 64, .inl (aZ w)))]) (ws2 := [(m0, .inr (6, [.int (nI 1), .ref m1, .int (nI x), .int (bI sp), .int (nI n0), .ref m2, .ref m3, .ref m4, .ref m5, .ref m6, .int (nI ac), .int (nI re), .int sl, .int fa, .int db])), (m1, .inl (cyZ, 64, .inl (aZ w)))]) (As := [.int (nI 1)]) (rest := []) (c_X6_goesWell_k l D cyI cyJ cyZ H.size m0 m1 m2 m3 m4 m5 m6 th x sp n0 ac re sl fa db 1 (by first | assumption | omega) (by first | assumption | omega)) (cwV 1 S.2.2.2.2 gX6_wall_X6_goesWell rfl rfl rfl (by decide +kernel) ⟨Nat.le_of_ble_eq_true rfl, Nat.le_of_ble_eq_true rfl⟩) hK hP hD hS hA hG [0] [1] [1, 0] rfl rfl rfl rfl (by decide) rfl rfl (ci := 6) (q0 := 0) rfl rfl rfl hl.1 rfl (Nat.le_of_ble_eq_true rfl) dX6_wall_80 ⟨Nat.le_of_ble_eq_true rfl, Nat.le_of_ble_eq_true rfl⟩ (fun H locs hP hD hS => ?_)
        refine kb_if_ne S dX6_wall_83 (tgt := 88) (by decide) (fun c83 => ?_) (fun c83 => ?_)
        · exact absurd c83 (by decide)
        · refine lv_iconst (v := nI 0) S.1 S.2.1 dX6_wall_86 (by decide) ?_
          refine k_topi (y := bI false) (by rfl) ?_
          exact hret _ _ _ _ dX6_wall_87 hP hD hS
    · refine lv_aload_n S.1 S.2.1 dX6_wall_28 rfl (lv_at hl 2 rfl) ?_
      refine k_get S (C := RX6) (T := TX6) (N := 15) (ci := 6) hw_X6 hK hP 0 rfl rfl 1 (by decide) hf_7 rfl (v := .ref m1) rfl dX6_wall_29 ?_
      refine lv_iload S.1 S.2.1 dX6_wall_32 (lv_at hl 0 rfl) ?_
      refine kn_zald S hK hP 1 2 rfl rfl (by omega) (by decide) dX6_wall_34 ?_
      refine kb_if_ne S dX6_wall_35 (tgt := 50) (by decide) (fun c35 => ?_) (fun c35 => ?_)
      · refine lv_iconst (v := nI 0) S.1 S.2.1 dX6_wall_50 (by decide) ?_
        refine lv_istore (lv' := [(6, .int (nI 0)), (5, .int (nI 0)), (4, .int (bI false)), (0, .ref m0), (1, .int v), (2, .int v2), (3, .int (bI is9))]) S.1 S.2.1 dX6_wall_51 hl (by decide) rfl (fun ls hl => ?_)
        refine lv_aload_n S.1 S.2.1 dX6_wall_53 rfl (lv_at hl 3 rfl) ?_
        refine lv_iload S.1 S.2.1 dX6_wall_54 (lv_at hl 2 rfl) ?_
        refine kb_if_ne S dX6_wall_56 (tgt := 63) (by decide) (fun c56 => ?_) (fun c56 => ?_)
        · exact absurd c56 (by decide)
        · refine lv_iconst (v := nI 1) S.1 S.2.1 dX6_wall_59 (by decide) ?_
          refine lv_goto (tgt := 80) S.1 S.2.1 dX6_wall_60 (by decide) ?_
          refine kcV_i S (wc := [(m0, .inr (6, [.int th, .ref m1, .int (nI x), .int (bI sp), .int (nI n0), .ref m2, .ref m3, .ref m4, .ref m5, .ref m6, .int (nI ac), .int (nI re), .int sl, .int fa, .int db]))]) (wr := [(m1, .inl (cyZ, 64, .inl (aZ w)))]) (ws2 := [(m0, .inr (6, [.int (nI 1), .ref m1, .int (nI x), .int (bI sp), .int (nI n0), .ref m2, .ref m3, .ref m4, .ref m5, .ref m6, .int (nI ac), .int (nI re), .int sl, .int fa, .int db])), (m1, .inl (cyZ, 64, .inl (aZ w)))]) (As := [.int (nI 1)]) (rest := []) (c_X6_goesWell_k l D cyI cyJ cyZ H.size m0 m1 m2 m3 m4 m5 m6 th x sp n0 ac re sl fa db 1 (by first | assumption | omega) (by first | assumption | omega)) (cwV 1 S.2.2.2.2 gX6_wall_X6_goesWell rfl rfl rfl (by decide +kernel) ⟨Nat.le_of_ble_eq_true rfl, Nat.le_of_ble_eq_true rfl⟩) hK hP hD hS hA hG [0] [1] [1, 0] rfl rfl rfl rfl (by decide) rfl rfl (ci := 6) (q0 := 0) rfl rfl rfl hl.1 rfl (Nat.le_of_ble_eq_true rfl) dX6_wall_80 ⟨Nat.le_of_ble_eq_true rfl, Nat.le_of_ble_eq_true rfl⟩ (fun H locs hP hD hS => ?_)
          refine kb_if_ne S dX6_wall_83 (tgt := 88) (by decide) (fun c83 => ?_) (fun c83 => ?_)
          · exact absurd c83 (by decide)
          · refine lv_iconst (v := nI 0) S.1 S.2.1 dX6_wall_86 (by decide) ?_
            refine k_topi (y := bI false) (by rfl) ?_
            exact hret _ _ _ _ dX6_wall_87 hP hD hS
      · refine lv_aload_n S.1 S.2.1 dX6_wall_38 rfl (lv_at hl 2 rfl) ?_
        refine kcV_i S (wc := [(m0, .inr (6, [.int th, .ref m1, .int (nI x), .int (bI sp), .int (nI n0), .ref m2, .ref m3, .ref m4, .ref m5, .ref m6, .int (nI ac), .int (nI re), .int sl, .int fa, .int db])), (m1, .inl (cyZ, 64, .inl (aZ w)))]) (wr := []) (ws2 := [(m0, .inr (6, [.int th, .ref m1, .int (nI x), .int (bI sp), .int (nI n0), .ref m2, .ref m3, .ref m4, .ref m5, .ref m6, .int (nI ac), .int (nI re), .int sl, .int fa, .int db])), (m1, .inl (cyZ, 64, .inl (aZ w)))]) (As := []) (rest := []) (c_X6_free l D cyI cyJ cyZ H.size m0 m1 m2 m3 m4 m5 m6 th x sp n0 ac re sl fa db w ) (cwV 0 S.2.2.2.2 gX6_wall_X6_free rfl rfl rfl (by decide +kernel) ⟨Nat.le_of_ble_eq_true rfl, Nat.le_of_ble_eq_true rfl⟩) hK hP hD hS hA hG [0, 1] [] [0, 1] rfl rfl rfl rfl (by decide) rfl rfl (ci := 6) (q0 := 0) rfl rfl rfl hl.1 rfl (Nat.le_of_ble_eq_true rfl) dX6_wall_39 ⟨Nat.le_of_ble_eq_true rfl, Nat.le_of_ble_eq_true rfl⟩ (fun H locs hP hD hS => ?_)
        refine lv_iconst (v := nI 1) S.1 S.2.1 dX6_wall_42 (by decide) ?_
        refine kn_icmp_ne S (by omega) (by omega) dX6_wall_43 (tgt := 50) (by decide) (fun c43 => ?_) (fun c43 => ?_)
        · refine lv_iconst (v := nI 0) S.1 S.2.1 dX6_wall_50 (by decide) ?_
          refine lv_istore (lv' := [(6, .int (nI 0)), (5, .int (nI 0)), (4, .int (bI false)), (0, .ref m0), (1, .int v), (2, .int v2), (3, .int (bI is9))]) S.1 S.2.1 dX6_wall_51 hl (by decide) rfl (fun ls hl => ?_)
          refine lv_aload_n S.1 S.2.1 dX6_wall_53 rfl (lv_at hl 3 rfl) ?_
          refine lv_iload S.1 S.2.1 dX6_wall_54 (lv_at hl 2 rfl) ?_
          refine kb_if_ne S dX6_wall_56 (tgt := 63) (by decide) (fun c56 => ?_) (fun c56 => ?_)
          · exact absurd c56 (by decide)
          · refine lv_iconst (v := nI 1) S.1 S.2.1 dX6_wall_59 (by decide) ?_
            refine lv_goto (tgt := 80) S.1 S.2.1 dX6_wall_60 (by decide) ?_
            refine kcV_i S (wc := [(m0, .inr (6, [.int th, .ref m1, .int (nI x), .int (bI sp), .int (nI n0), .ref m2, .ref m3, .ref m4, .ref m5, .ref m6, .int (nI ac), .int (nI re), .int sl, .int fa, .int db]))]) (wr := [(m1, .inl (cyZ, 64, .inl (aZ w)))]) (ws2 := [(m0, .inr (6, [.int (nI 1), .ref m1, .int (nI x), .int (bI sp), .int (nI n0), .ref m2, .ref m3, .ref m4, .ref m5, .ref m6, .int (nI ac), .int (nI re), .int sl, .int fa, .int db])), (m1, .inl (cyZ, 64, .inl (aZ w)))]) (As := [.int (nI 1)]) (rest := []) (c_X6_goesWell_k l D cyI cyJ cyZ H.size m0 m1 m2 m3 m4 m5 m6 th x sp n0 ac re sl fa db 1 (by first | assumption | omega) (by first | assumption | omega)) (cwV 1 S.2.2.2.2 gX6_wall_X6_goesWell rfl rfl rfl (by decide +kernel) ⟨Nat.le_of_ble_eq_true rfl, Nat.le_of_ble_eq_true rfl⟩) hK hP hD hS hA hG [0] [1] [1, 0] rfl rfl rfl rfl (by decide) rfl rfl (ci := 6) (q0 := 0) rfl rfl rfl hl.1 rfl (Nat.le_of_ble_eq_true rfl) dX6_wall_80 ⟨Nat.le_of_ble_eq_true rfl, Nat.le_of_ble_eq_true rfl⟩ (fun H locs hP hD hS => ?_)
            refine kb_if_ne S dX6_wall_83 (tgt := 88) (by decide) (fun c83 => ?_) (fun c83 => ?_)
            · exact absurd c83 (by decide)
            · refine lv_iconst (v := nI 0) S.1 S.2.1 dX6_wall_86 (by decide) ?_
              refine k_topi (y := bI false) (by rfl) ?_
              exact hret _ _ _ _ dX6_wall_87 hP hD hS
        · refine lv_iconst (v := nI 1) S.1 S.2.1 dX6_wall_46 (by decide) ?_
          refine lv_goto (tgt := 51) S.1 S.2.1 dX6_wall_47 (by decide) ?_
          refine lv_istore (lv' := [(6, .int (nI 1)), (5, .int (nI 0)), (4, .int (bI false)), (0, .ref m0), (1, .int v), (2, .int v2), (3, .int (bI is9))]) S.1 S.2.1 dX6_wall_51 hl (by decide) rfl (fun ls hl => ?_)
          refine lv_aload_n S.1 S.2.1 dX6_wall_53 rfl (lv_at hl 3 rfl) ?_
          refine lv_iload S.1 S.2.1 dX6_wall_54 (lv_at hl 2 rfl) ?_
          refine kb_if_ne S dX6_wall_56 (tgt := 63) (by decide) (fun c56 => ?_) (fun c56 => ?_)
          · exact absurd c56 (by decide)
          · refine lv_iconst (v := nI 1) S.1 S.2.1 dX6_wall_59 (by decide) ?_
            refine lv_goto (tgt := 80) S.1 S.2.1 dX6_wall_60 (by decide) ?_
            refine kcV_i S (wc := [(m0, .inr (6, [.int th, .ref m1, .int (nI x), .int (bI sp), .int (nI n0), .ref m2, .ref m3, .ref m4, .ref m5, .ref m6, .int (nI ac), .int (nI re), .int sl, .int fa, .int db]))]) (wr := [(m1, .inl (cyZ, 64, .inl (aZ w)))]) (ws2 := [(m0, .inr (6, [.int (nI 1), .ref m1, .int (nI x), .int (bI sp), .int (nI n0), .ref m2, .ref m3, .ref m4, .ref m5, .ref m6, .int (nI ac), .int (nI re), .int sl, .int fa, .int db])), (m1, .inl (cyZ, 64, .inl (aZ w)))]) (As := [.int (nI 1)]) (rest := []) (c_X6_goesWell_k l D cyI cyJ cyZ H.size m0 m1 m2 m3 m4 m5 m6 th x sp n0 ac re sl fa db 1 (by first | assumption | omega) (by first | assumption | omega)) (cwV 1 S.2.2.2.2 gX6_wall_X6_goesWell rfl rfl rfl (by decide +kernel) ⟨Nat.le_of_ble_eq_true rfl, Nat.le_of_ble_eq_true rfl⟩) hK hP hD hS hA hG [0] [1] [1, 0] rfl rfl rfl rfl (by decide) rfl rfl (ci := 6) (q0 := 0) rfl rfl rfl hl.1 rfl (Nat.le_of_ble_eq_true rfl) dX6_wall_80 ⟨Nat.le_of_ble_eq_true rfl, Nat.le_of_ble_eq_true rfl⟩ (fun H locs hP hD hS => ?_)
            refine kb_if_ne S dX6_wall_83 (tgt := 88) (by decide) (fun c83 => ?_) (fun c83 => ?_)
            · exact absurd c83 (by decide)
            · refine lv_iconst (v := nI 0) S.1 S.2.1 dX6_wall_86 (by decide) ?_
              refine k_topi (y := bI false) (by rfl) ?_
              exact hret _ _ _ _ dX6_wall_87 hP hD hS
  · exact absurd c9 (by decide)

set_option maxHeartbeats 4000000 in
set_option maxRecDepth 100000 in
theorem c_X6_wall_2s (l : Launch) (D : va_G) (cyI cyJ cyZ : ClassId) (sz : Nat) (m0 : Nat) (m1 : Nat) (m2 : Nat) (m3 : Nat) (m4 : Nat) (m5 : Nat) (m6 : Nat) (th : Int32) (x : Nat) (sp : Bool) (n0 : Nat) (ac : Nat) (re : Nat) (sl : Int32) (fa : Int32) (db : Int32) (w : Nat → Bool) (v : Nat) (v2 : Nat) (is9 : Bool) (hv : v < 8) (hv2 : v2 < 8) : Met l yX6_wall wsX6_wall ({ frames := 4, cells := 0, slots := 0, locals := 103 } : Room) (mPc D [(cyI, .int), (cyJ, .long), (cyZ, .boolean)] [(m0, .inr (6, [.int th, .ref m1, .int (nI x), .int (bI true), .int (nI n0), .ref m2, .ref m3, .ref m4, .ref m5, .ref m6, .int (nI ac), .int (nI re), .int sl, .int fa, .int db])), (m1, .inl (cyZ, 64, .inl (aZ w)))] sz [.ref m0, .int (nI v), .int (nI v2), .int (bI is9)]) (va_Qi (fun (r : Int32) (u : va_W) => r = bI false ∧ u = [(m0, .inr (6, [.int (nI 2), .ref m1, .int (nI x), .int (bI true), .int (nI n0), .ref m2, .ref m3, .ref m4, .ref m5, .ref m6, .int (nI ac), .int (nI re), .int sl, .int fa, .int db])), (m1, .inl (cyZ, 64, .inl (aZ w)))]) (mB D [(cyI, .int), (cyJ, .long), (cyZ, .boolean)] (va_A [(m0, .inr (6, [.int th, .ref m1, .int (nI x), .int (bI true), .int (nI n0), .ref m2, .ref m3, .ref m4, .ref m5, .ref m6, .int (nI ac), .int (nI re), .int sl, .int fa, .int db])), (m1, .inl (cyZ, 64, .inl (aZ w)))] sz)) (va_A [(m0, .inr (6, [.int th, .ref m1, .int (nI x), .int (bI true), .int (nI n0), .ref m2, .ref m3, .ref m4, .ref m5, .ref m6, .int (nI ac), .int (nI re), .int sl, .int fa, .int db])), (m1, .inl (cyZ, 64, .inl (aZ w)))] sz)) 0 0 (va_A [(m0, .inr (6, [.int th, .ref m1, .int (nI x), .int (bI true), .int (nI n0), .ref m2, .ref m3, .ref m4, .ref m5, .ref m6, .int (nI ac), .int (nI re), .int sl, .int fa, .int db])), (m1, .inl (cyZ, 64, .inl (aZ w)))] sz) := by
  refine st_z (own := RX6) (lv0 := [(0, .ref m0), (1, .int (nI v)), (2, .int (nI v2)), (3, .int (bI is9))]) (by decide) rfl rfl (Nat.le_of_ble_eq_true rfl) rfl ?_
  intro p e s m below meth c A Q S hin hA hK hP hD hG hS hret ls hl
  have hw_X6 : ∀ w ∈ u_ws RX6 TX6 15, w ∈ wsX6_wall := by decide +kernel
  have hf_49 := S.2.2.2.2 (.fieldLink RX6 49 "ParticlewayModel" "isSpread" "Z") (by decide +kernel)
  have hf_7 := S.2.2.2.2 (.fieldLink RX6 7 "ParticlewayModel" "isWall" "[Z") (by decide +kernel)
  have hcf := cntF_le w 64
  refine lv_iload_n S.1 S.2.1 dX6_wall_0 rfl (lv_at hl 1 rfl) ?_
  refine lv_iload_n S.1 S.2.1 dX6_wall_1 rfl (lv_at hl 2 rfl) ?_
  refine kcS_i S (wc := []) (wr := [(m0, .inr (6, [.int th, .ref m1, .int (nI x), .int (bI true), .int (nI n0), .ref m2, .ref m3, .ref m4, .ref m5, .ref m6, .int (nI ac), .int (nI re), .int sl, .int fa, .int db])), (m1, .inl (cyZ, 64, .inl (aZ w)))]) (ws2 := [(m0, .inr (6, [.int th, .ref m1, .int (nI x), .int (bI true), .int (nI n0), .ref m2, .ref m3, .ref m4, .ref m5, .ref m6, .int (nI ac), .int (nI re), .int sl, .int fa, .int db])), (m1, .inl (cyZ, 64, .inl (aZ w)))]) (As := [.int (nI v), .int (nI v2)]) (rest := []) (c_X6_isCell_n l D cyI cyJ cyZ s.heap.size v v2 (by first | assumption | omega) (by first | assumption | omega)) (va_cwS 2 S.2.2.2.2 gX6_wall_X6_isCell rfl rfl rfl (by decide +kernel) ⟨Nat.le_of_ble_eq_true rfl, Nat.le_of_ble_eq_true rfl⟩) hK hP hD hS hA hG [] [0, 1] [0, 1] rfl rfl rfl rfl (by decide) rfl rfl rfl hl.1 rfl (Nat.le_of_ble_eq_true rfl) dX6_wall_2 ⟨Nat.le_of_ble_eq_true rfl, Nat.le_of_ble_eq_true rfl⟩ (fun H locs hP hD hS => ?_)
  refine lv_istore (lv' := [(4, .int (bI true)), (0, .ref m0), (1, .int (nI v)), (2, .int (nI v2)), (3, .int (bI is9))]) S.1 S.2.1 dX6_wall_5 hl (by decide) rfl (fun ls hl => ?_)
  refine lv_iload S.1 S.2.1 dX6_wall_7 (lv_at hl 0 rfl) ?_
  refine kb_if_eq S dX6_wall_9 (tgt := 21) (by decide) (fun c9 => ?_) (fun c9 => ?_)
  · exact absurd c9 (by decide)
  · refine lv_bipush (v := nI 8) S.1 S.2.1 dX6_wall_12 (by decide) ?_
    refine lv_iload_n S.1 S.2.1 dX6_wall_14 rfl (lv_at hl 3 rfl) ?_
    refine kn_imul S dX6_wall_15 ?_
    refine lv_iload_n S.1 S.2.1 dX6_wall_16 rfl (lv_at hl 2 rfl) ?_
    refine kn_iadd S dX6_wall_17 ?_
    refine lv_goto (tgt := 22) S.1 S.2.1 dX6_wall_18 (by decide) ?_
    refine lv_istore (lv' := [(5, .int (nI ((8 * v2) + v))), (4, .int (bI true)), (0, .ref m0), (1, .int (nI v)), (2, .int (nI v2)), (3, .int (bI is9))]) S.1 S.2.1 dX6_wall_22 hl (by decide) rfl (fun ls hl => ?_)
    refine lv_iload_n S.1 S.2.1 dX6_wall_24 rfl (lv_at hl 5 rfl) ?_
    refine kb_if_eq S dX6_wall_25 (tgt := 50) (by decide) (fun c25 => ?_) (fun c25 => ?_)
    · refine lv_iconst (v := nI 0) S.1 S.2.1 dX6_wall_50 (by decide) ?_
      refine lv_istore (lv' := [(6, .int (nI 0)), (5, .int (nI ((8 * v2) + v))), (4, .int (bI true)), (0, .ref m0), (1, .int (nI v)), (2, .int (nI v2)), (3, .int (bI is9))]) S.1 S.2.1 dX6_wall_51 hl (by decide) rfl (fun ls hl => ?_)
      refine lv_aload_n S.1 S.2.1 dX6_wall_53 rfl (lv_at hl 3 rfl) ?_
      refine lv_iload S.1 S.2.1 dX6_wall_54 (lv_at hl 2 rfl) ?_
      refine kb_if_ne S dX6_wall_56 (tgt := 63) (by decide) (fun c56 => ?_) (fun c56 => ?_)
      · refine lv_aload_n S.1 S.2.1 dX6_wall_63 rfl (lv_at hl 3 rfl) ?_
        refine k_get S (C := RX6) (T := TX6) (N := 15) (ci := 6) hw_X6 hK hP 0 rfl rfl 3 (by decide) hf_49 rfl (v := .int (bI true)) rfl dX6_wall_64 ?_
        refine kb_if_ne S dX6_wall_67 (tgt := 75) (by decide) (fun c67 => ?_) (fun c67 => ?_)
        · refine lv_iconst (v := nI 2) S.1 S.2.1 dX6_wall_75 (by decide) ?_
          refine lv_goto (tgt := 80) S.1 S.2.1 dX6_wall_76 (by decide) ?_
          refine kcV_i S (wc := [(m0, .inr (6, [.int th, .ref m1, .int (nI x), .int (bI true), .int (nI n0), .ref m2, .ref m3, .ref m4, .ref m5, .ref m6, .int (nI ac), .int (nI re), .int sl, .int fa, .int db]))]) (wr := [(m1, .inl (cyZ, 64, .inl (aZ w)))]) (ws2 := [(m0, .inr (6, [.int (nI 2), .ref m1, .int (nI x), .int (bI true), .int (nI n0), .ref m2, .ref m3, .ref m4, .ref m5, .ref m6, .int (nI ac), .int (nI re), .int sl, .int fa, .int db])), (m1, .inl (cyZ, 64, .inl (aZ w)))]) (As := [.int (nI 2)]) (rest := []) (c_X6_goesWell_k l D cyI cyJ cyZ H.size m0 m1 m2 m3 m4 m5 m6 th x true n0 ac re sl fa db 2 (by first | assumption | omega) (by first | assumption | omega)) (cwV 1 S.2.2.2.2 gX6_wall_X6_goesWell rfl rfl rfl (by decide +kernel) ⟨Nat.le_of_ble_eq_true rfl, Nat.le_of_ble_eq_true rfl⟩) hK hP hD hS hA hG [0] [1] [1, 0] rfl rfl rfl rfl (by decide) rfl rfl (ci := 6) (q0 := 0) rfl rfl rfl hl.1 rfl (Nat.le_of_ble_eq_true rfl) dX6_wall_80 ⟨Nat.le_of_ble_eq_true rfl, Nat.le_of_ble_eq_true rfl⟩ (fun H locs hP hD hS => ?_)
          refine kb_if_ne S dX6_wall_83 (tgt := 88) (by decide) (fun c83 => ?_) (fun c83 => ?_)
          · exact absurd c83 (by decide)
          · refine lv_iconst (v := nI 0) S.1 S.2.1 dX6_wall_86 (by decide) ?_
            refine k_topi (y := bI false) (by rfl) ?_
            exact hret _ _ _ _ dX6_wall_87 hP hD hS
        · exact absurd c67 (by decide)
      · exact absurd c56 (by decide)
    · refine lv_aload_n S.1 S.2.1 dX6_wall_28 rfl (lv_at hl 2 rfl) ?_
      refine k_get S (C := RX6) (T := TX6) (N := 15) (ci := 6) hw_X6 hK hP 0 rfl rfl 1 (by decide) hf_7 rfl (v := .ref m1) rfl dX6_wall_29 ?_
      refine lv_iload S.1 S.2.1 dX6_wall_32 (lv_at hl 0 rfl) ?_
      refine kn_zald S hK hP 1 2 rfl rfl (by omega) (by decide) dX6_wall_34 ?_
      refine kb_if_ne S dX6_wall_35 (tgt := 50) (by decide) (fun c35 => ?_) (fun c35 => ?_)
      · refine lv_iconst (v := nI 0) S.1 S.2.1 dX6_wall_50 (by decide) ?_
        refine lv_istore (lv' := [(6, .int (nI 0)), (5, .int (nI ((8 * v2) + v))), (4, .int (bI true)), (0, .ref m0), (1, .int (nI v)), (2, .int (nI v2)), (3, .int (bI is9))]) S.1 S.2.1 dX6_wall_51 hl (by decide) rfl (fun ls hl => ?_)
        refine lv_aload_n S.1 S.2.1 dX6_wall_53 rfl (lv_at hl 3 rfl) ?_
        refine lv_iload S.1 S.2.1 dX6_wall_54 (lv_at hl 2 rfl) ?_
        refine kb_if_ne S dX6_wall_56 (tgt := 63) (by decide) (fun c56 => ?_) (fun c56 => ?_)
        · refine lv_aload_n S.1 S.2.1 dX6_wall_63 rfl (lv_at hl 3 rfl) ?_
          refine k_get S (C := RX6) (T := TX6) (N := 15) (ci := 6) hw_X6 hK hP 0 rfl rfl 3 (by decide) hf_49 rfl (v := .int (bI true)) rfl dX6_wall_64 ?_
          refine kb_if_ne S dX6_wall_67 (tgt := 75) (by decide) (fun c67 => ?_) (fun c67 => ?_)
          · refine lv_iconst (v := nI 2) S.1 S.2.1 dX6_wall_75 (by decide) ?_
            refine lv_goto (tgt := 80) S.1 S.2.1 dX6_wall_76 (by decide) ?_
            refine kcV_i S (wc := [(m0, .inr (6, [.int th, .ref m1, .int (nI x), .int (bI true), .int (nI n0), .ref m2, .ref m3, .ref m4, .ref m5, .ref m6, .int (nI ac), .int (nI re), .int sl, .int fa, .int db]))]) (wr := [(m1, .inl (cyZ, 64, .inl (aZ w)))]) (ws2 := [(m0, .inr (6, [.int (nI 2), .ref m1, .int (nI x), .int (bI true), .int (nI n0), .ref m2, .ref m3, .ref m4, .ref m5, .ref m6, .int (nI ac), .int (nI re), .int sl, .int fa, .int db])), (m1, .inl (cyZ, 64, .inl (aZ w)))]) (As := [.int (nI 2)]) (rest := []) (c_X6_goesWell_k l D cyI cyJ cyZ H.size m0 m1 m2 m3 m4 m5 m6 th x true n0 ac re sl fa db 2 (by first | assumption | omega) (by first | assumption | omega)) (cwV 1 S.2.2.2.2 gX6_wall_X6_goesWell rfl rfl rfl (by decide +kernel) ⟨Nat.le_of_ble_eq_true rfl, Nat.le_of_ble_eq_true rfl⟩) hK hP hD hS hA hG [0] [1] [1, 0] rfl rfl rfl rfl (by decide) rfl rfl (ci := 6) (q0 := 0) rfl rfl rfl hl.1 rfl (Nat.le_of_ble_eq_true rfl) dX6_wall_80 ⟨Nat.le_of_ble_eq_true rfl, Nat.le_of_ble_eq_true rfl⟩ (fun H locs hP hD hS => ?_)
            refine kb_if_ne S dX6_wall_83 (tgt := 88) (by decide) (fun c83 => ?_) (fun c83 => ?_)
            · exact absurd c83 (by decide)
            · refine lv_iconst (v := nI 0) S.1 S.2.1 dX6_wall_86 (by decide) ?_
              refine k_topi (y := bI false) (by rfl) ?_
              exact hret _ _ _ _ dX6_wall_87 hP hD hS
          · exact absurd c67 (by decide)
        · exact absurd c56 (by decide)
      · refine lv_aload_n S.1 S.2.1 dX6_wall_38 rfl (lv_at hl 2 rfl) ?_
        refine kcV_i S (wc := [(m0, .inr (6, [.int th, .ref m1, .int (nI x), .int (bI true), .int (nI n0), .ref m2, .ref m3, .ref m4, .ref m5, .ref m6, .int (nI ac), .int (nI re), .int sl, .int fa, .int db])), (m1, .inl (cyZ, 64, .inl (aZ w)))]) (wr := []) (ws2 := [(m0, .inr (6, [.int th, .ref m1, .int (nI x), .int (bI true), .int (nI n0), .ref m2, .ref m3, .ref m4, .ref m5, .ref m6, .int (nI ac), .int (nI re), .int sl, .int fa, .int db])), (m1, .inl (cyZ, 64, .inl (aZ w)))]) (As := []) (rest := []) (c_X6_free l D cyI cyJ cyZ H.size m0 m1 m2 m3 m4 m5 m6 th x true n0 ac re sl fa db w ) (cwV 0 S.2.2.2.2 gX6_wall_X6_free rfl rfl rfl (by decide +kernel) ⟨Nat.le_of_ble_eq_true rfl, Nat.le_of_ble_eq_true rfl⟩) hK hP hD hS hA hG [0, 1] [] [0, 1] rfl rfl rfl rfl (by decide) rfl rfl (ci := 6) (q0 := 0) rfl rfl rfl hl.1 rfl (Nat.le_of_ble_eq_true rfl) dX6_wall_39 ⟨Nat.le_of_ble_eq_true rfl, Nat.le_of_ble_eq_true rfl⟩ (fun H locs hP hD hS => ?_)
        refine lv_iconst (v := nI 1) S.1 S.2.1 dX6_wall_42 (by decide) ?_
        refine kn_icmp_ne S (by omega) (by omega) dX6_wall_43 (tgt := 50) (by decide) (fun c43 => ?_) (fun c43 => ?_)
        · refine lv_iconst (v := nI 0) S.1 S.2.1 dX6_wall_50 (by decide) ?_
          refine lv_istore (lv' := [(6, .int (nI 0)), (5, .int (nI ((8 * v2) + v))), (4, .int (bI true)), (0, .ref m0), (1, .int (nI v)), (2, .int (nI v2)), (3, .int (bI is9))]) S.1 S.2.1 dX6_wall_51 hl (by decide) rfl (fun ls hl => ?_)
          refine lv_aload_n S.1 S.2.1 dX6_wall_53 rfl (lv_at hl 3 rfl) ?_
          refine lv_iload S.1 S.2.1 dX6_wall_54 (lv_at hl 2 rfl) ?_
          refine kb_if_ne S dX6_wall_56 (tgt := 63) (by decide) (fun c56 => ?_) (fun c56 => ?_)
          · refine lv_aload_n S.1 S.2.1 dX6_wall_63 rfl (lv_at hl 3 rfl) ?_
            refine k_get S (C := RX6) (T := TX6) (N := 15) (ci := 6) hw_X6 hK hP 0 rfl rfl 3 (by decide) hf_49 rfl (v := .int (bI true)) rfl dX6_wall_64 ?_
            refine kb_if_ne S dX6_wall_67 (tgt := 75) (by decide) (fun c67 => ?_) (fun c67 => ?_)
            · refine lv_iconst (v := nI 2) S.1 S.2.1 dX6_wall_75 (by decide) ?_
              refine lv_goto (tgt := 80) S.1 S.2.1 dX6_wall_76 (by decide) ?_
              refine kcV_i S (wc := [(m0, .inr (6, [.int th, .ref m1, .int (nI x), .int (bI true), .int (nI n0), .ref m2, .ref m3, .ref m4, .ref m5, .ref m6, .int (nI ac), .int (nI re), .int sl, .int fa, .int db]))]) (wr := [(m1, .inl (cyZ, 64, .inl (aZ w)))]) (ws2 := [(m0, .inr (6, [.int (nI 2), .ref m1, .int (nI x), .int (bI true), .int (nI n0), .ref m2, .ref m3, .ref m4, .ref m5, .ref m6, .int (nI ac), .int (nI re), .int sl, .int fa, .int db])), (m1, .inl (cyZ, 64, .inl (aZ w)))]) (As := [.int (nI 2)]) (rest := []) (c_X6_goesWell_k l D cyI cyJ cyZ H.size m0 m1 m2 m3 m4 m5 m6 th x true n0 ac re sl fa db 2 (by first | assumption | omega) (by first | assumption | omega)) (cwV 1 S.2.2.2.2 gX6_wall_X6_goesWell rfl rfl rfl (by decide +kernel) ⟨Nat.le_of_ble_eq_true rfl, Nat.le_of_ble_eq_true rfl⟩) hK hP hD hS hA hG [0] [1] [1, 0] rfl rfl rfl rfl (by decide) rfl rfl (ci := 6) (q0 := 0) rfl rfl rfl hl.1 rfl (Nat.le_of_ble_eq_true rfl) dX6_wall_80 ⟨Nat.le_of_ble_eq_true rfl, Nat.le_of_ble_eq_true rfl⟩ (fun H locs hP hD hS => ?_)
              refine kb_if_ne S dX6_wall_83 (tgt := 88) (by decide) (fun c83 => ?_) (fun c83 => ?_)
              · exact absurd c83 (by decide)
              · refine lv_iconst (v := nI 0) S.1 S.2.1 dX6_wall_86 (by decide) ?_
                refine k_topi (y := bI false) (by rfl) ?_
                exact hret _ _ _ _ dX6_wall_87 hP hD hS
            · exact absurd c67 (by decide)
          · exact absurd c56 (by decide)
        · refine lv_iconst (v := nI 1) S.1 S.2.1 dX6_wall_46 (by decide) ?_
          refine lv_goto (tgt := 51) S.1 S.2.1 dX6_wall_47 (by decide) ?_
          refine lv_istore (lv' := [(6, .int (nI 1)), (5, .int (nI ((8 * v2) + v))), (4, .int (bI true)), (0, .ref m0), (1, .int (nI v)), (2, .int (nI v2)), (3, .int (bI is9))]) S.1 S.2.1 dX6_wall_51 hl (by decide) rfl (fun ls hl => ?_)
          refine lv_aload_n S.1 S.2.1 dX6_wall_53 rfl (lv_at hl 3 rfl) ?_
          refine lv_iload S.1 S.2.1 dX6_wall_54 (lv_at hl 2 rfl) ?_
          refine kb_if_ne S dX6_wall_56 (tgt := 63) (by decide) (fun c56 => ?_) (fun c56 => ?_)
          · refine lv_aload_n S.1 S.2.1 dX6_wall_63 rfl (lv_at hl 3 rfl) ?_
            refine k_get S (C := RX6) (T := TX6) (N := 15) (ci := 6) hw_X6 hK hP 0 rfl rfl 3 (by decide) hf_49 rfl (v := .int (bI true)) rfl dX6_wall_64 ?_
            refine kb_if_ne S dX6_wall_67 (tgt := 75) (by decide) (fun c67 => ?_) (fun c67 => ?_)
            · refine lv_iconst (v := nI 2) S.1 S.2.1 dX6_wall_75 (by decide) ?_
              refine lv_goto (tgt := 80) S.1 S.2.1 dX6_wall_76 (by decide) ?_
              refine kcV_i S (wc := [(m0, .inr (6, [.int th, .ref m1, .int (nI x), .int (bI true), .int (nI n0), .ref m2, .ref m3, .ref m4, .ref m5, .ref m6, .int (nI ac), .int (nI re), .int sl, .int fa, .int db]))]) (wr := [(m1, .inl (cyZ, 64, .inl (aZ w)))]) (ws2 := [(m0, .inr (6, [.int (nI 2), .ref m1, .int (nI x), .int (bI true), .int (nI n0), .ref m2, .ref m3, .ref m4, .ref m5, .ref m6, .int (nI ac), .int (nI re), .int sl, .int fa, .int db])), (m1, .inl (cyZ, 64, .inl (aZ w)))]) (As := [.int (nI 2)]) (rest := []) (c_X6_goesWell_k l D cyI cyJ cyZ H.size m0 m1 m2 m3 m4 m5 m6 th x true n0 ac re sl fa db 2 (by first | assumption | omega) (by first | assumption | omega)) (cwV 1 S.2.2.2.2 gX6_wall_X6_goesWell rfl rfl rfl (by decide +kernel) ⟨Nat.le_of_ble_eq_true rfl, Nat.le_of_ble_eq_true rfl⟩) hK hP hD hS hA hG [0] [1] [1, 0] rfl rfl rfl rfl (by decide) rfl rfl (ci := 6) (q0 := 0) rfl rfl rfl hl.1 rfl (Nat.le_of_ble_eq_true rfl) dX6_wall_80 ⟨Nat.le_of_ble_eq_true rfl, Nat.le_of_ble_eq_true rfl⟩ (fun H locs hP hD hS => ?_)
              refine kb_if_ne S dX6_wall_83 (tgt := 88) (by decide) (fun c83 => ?_) (fun c83 => ?_)
              · exact absurd c83 (by decide)
              · refine lv_iconst (v := nI 0) S.1 S.2.1 dX6_wall_86 (by decide) ?_
                refine k_topi (y := bI false) (by rfl) ?_
                exact hret _ _ _ _ dX6_wall_87 hP hD hS
            · exact absurd c67 (by decide)
          · exact absurd c56 (by decide)

set_option maxHeartbeats 4000000 in
set_option maxRecDepth 100000 in
theorem c_X6_wall_2l (l : Launch) (D : va_G) (cyI cyJ cyZ : ClassId) (sz : Nat) (m0 : Nat) (m1 : Nat) (m2 : Nat) (m3 : Nat) (m4 : Nat) (m5 : Nat) (m6 : Nat) (th : Int32) (x : Nat) (sp : Bool) (n0 : Nat) (ac : Nat) (re : Nat) (sl : Int32) (fa : Int32) (db : Int32) (w : Nat → Bool) (v : Nat) (v2 : Nat) (hv : v < 8) (hv2 : v2 < 8) (hw : w (8 * v2 + v) = false) (hcn : cntF w 64 = 1) : Met l yX6_wall wsX6_wall ({ frames := 4, cells := 0, slots := 0, locals := 103 } : Room) (mPc D [(cyI, .int), (cyJ, .long), (cyZ, .boolean)] [(m0, .inr (6, [.int th, .ref m1, .int (nI x), .int (bI false), .int (nI n0), .ref m2, .ref m3, .ref m4, .ref m5, .ref m6, .int (nI ac), .int (nI re), .int sl, .int fa, .int db])), (m1, .inl (cyZ, 64, .inl (aZ w)))] sz [.ref m0, .int (nI v), .int (nI v2), .int (bI true)]) (va_Qi (fun (r : Int32) (u : va_W) => r = bI false ∧ u = [(m0, .inr (6, [.int (nI 2), .ref m1, .int (nI x), .int (bI false), .int (nI n0), .ref m2, .ref m3, .ref m4, .ref m5, .ref m6, .int (nI ac), .int (nI re), .int sl, .int fa, .int db])), (m1, .inl (cyZ, 64, .inl (aZ w)))]) (mB D [(cyI, .int), (cyJ, .long), (cyZ, .boolean)] (va_A [(m0, .inr (6, [.int th, .ref m1, .int (nI x), .int (bI false), .int (nI n0), .ref m2, .ref m3, .ref m4, .ref m5, .ref m6, .int (nI ac), .int (nI re), .int sl, .int fa, .int db])), (m1, .inl (cyZ, 64, .inl (aZ w)))] sz)) (va_A [(m0, .inr (6, [.int th, .ref m1, .int (nI x), .int (bI false), .int (nI n0), .ref m2, .ref m3, .ref m4, .ref m5, .ref m6, .int (nI ac), .int (nI re), .int sl, .int fa, .int db])), (m1, .inl (cyZ, 64, .inl (aZ w)))] sz)) 0 0 (va_A [(m0, .inr (6, [.int th, .ref m1, .int (nI x), .int (bI false), .int (nI n0), .ref m2, .ref m3, .ref m4, .ref m5, .ref m6, .int (nI ac), .int (nI re), .int sl, .int fa, .int db])), (m1, .inl (cyZ, 64, .inl (aZ w)))] sz) := by
  refine st_z (own := RX6) (lv0 := [(0, .ref m0), (1, .int (nI v)), (2, .int (nI v2)), (3, .int (bI true))]) (by decide) rfl rfl (Nat.le_of_ble_eq_true rfl) rfl ?_
  intro p e s m below meth c A Q S hin hA hK hP hD hG hS hret ls hl
  have hw_X6 : ∀ w ∈ u_ws RX6 TX6 15, w ∈ wsX6_wall := by decide +kernel
  have hf_7 := S.2.2.2.2 (.fieldLink RX6 7 "ParticlewayModel" "isWall" "[Z") (by decide +kernel)
  have hf_49 := S.2.2.2.2 (.fieldLink RX6 49 "ParticlewayModel" "isSpread" "Z") (by decide +kernel)
  refine lv_iload_n S.1 S.2.1 dX6_wall_0 rfl (lv_at hl 1 rfl) ?_
  refine lv_iload_n S.1 S.2.1 dX6_wall_1 rfl (lv_at hl 2 rfl) ?_
  refine kcS_i S (wc := []) (wr := [(m0, .inr (6, [.int th, .ref m1, .int (nI x), .int (bI false), .int (nI n0), .ref m2, .ref m3, .ref m4, .ref m5, .ref m6, .int (nI ac), .int (nI re), .int sl, .int fa, .int db])), (m1, .inl (cyZ, 64, .inl (aZ w)))]) (ws2 := [(m0, .inr (6, [.int th, .ref m1, .int (nI x), .int (bI false), .int (nI n0), .ref m2, .ref m3, .ref m4, .ref m5, .ref m6, .int (nI ac), .int (nI re), .int sl, .int fa, .int db])), (m1, .inl (cyZ, 64, .inl (aZ w)))]) (As := [.int (nI v), .int (nI v2)]) (rest := []) (c_X6_isCell_n l D cyI cyJ cyZ s.heap.size v v2 (by first | assumption | omega) (by first | assumption | omega)) (va_cwS 2 S.2.2.2.2 gX6_wall_X6_isCell rfl rfl rfl (by decide +kernel) ⟨Nat.le_of_ble_eq_true rfl, Nat.le_of_ble_eq_true rfl⟩) hK hP hD hS hA hG [] [0, 1] [0, 1] rfl rfl rfl rfl (by decide) rfl rfl rfl hl.1 rfl (Nat.le_of_ble_eq_true rfl) dX6_wall_2 ⟨Nat.le_of_ble_eq_true rfl, Nat.le_of_ble_eq_true rfl⟩ (fun H locs hP hD hS => ?_)
  refine lv_istore (lv' := [(4, .int (bI true)), (0, .ref m0), (1, .int (nI v)), (2, .int (nI v2)), (3, .int (bI true))]) S.1 S.2.1 dX6_wall_5 hl (by decide) rfl (fun ls hl => ?_)
  refine lv_iload S.1 S.2.1 dX6_wall_7 (lv_at hl 0 rfl) ?_
  refine kb_if_eq S dX6_wall_9 (tgt := 21) (by decide) (fun c9 => ?_) (fun c9 => ?_)
  · exact absurd c9 (by decide)
  · refine lv_bipush (v := nI 8) S.1 S.2.1 dX6_wall_12 (by decide) ?_
    refine lv_iload_n S.1 S.2.1 dX6_wall_14 rfl (lv_at hl 3 rfl) ?_
    refine kn_imul S dX6_wall_15 ?_
    refine lv_iload_n S.1 S.2.1 dX6_wall_16 rfl (lv_at hl 2 rfl) ?_
    refine kn_iadd S dX6_wall_17 ?_
    refine lv_goto (tgt := 22) S.1 S.2.1 dX6_wall_18 (by decide) ?_
    refine lv_istore (lv' := [(5, .int (nI ((8 * v2) + v))), (4, .int (bI true)), (0, .ref m0), (1, .int (nI v)), (2, .int (nI v2)), (3, .int (bI true))]) S.1 S.2.1 dX6_wall_22 hl (by decide) rfl (fun ls hl => ?_)
    refine lv_iload_n S.1 S.2.1 dX6_wall_24 rfl (lv_at hl 5 rfl) ?_
    refine kb_if_eq S dX6_wall_25 (tgt := 50) (by decide) (fun c25 => ?_) (fun c25 => ?_)
    · exact absurd c25 (by decide)
    · refine lv_aload_n S.1 S.2.1 dX6_wall_28 rfl (lv_at hl 2 rfl) ?_
      refine k_get S (C := RX6) (T := TX6) (N := 15) (ci := 6) hw_X6 hK hP 0 rfl rfl 1 (by decide) hf_7 rfl (v := .ref m1) rfl dX6_wall_29 ?_
      refine lv_iload S.1 S.2.1 dX6_wall_32 (lv_at hl 0 rfl) ?_
      refine kn_zald S hK hP 1 2 rfl rfl (by omega) (by decide) dX6_wall_34 ?_
      refine kb_if_ne S dX6_wall_35 (tgt := 50) (by decide) (fun c35 => ?_) (fun c35 => ?_)
      · exact absurd (hw.symm.trans c35) (by decide)
      · refine lv_aload_n S.1 S.2.1 dX6_wall_38 rfl (lv_at hl 2 rfl) ?_
        refine kcV_i S (wc := [(m0, .inr (6, [.int th, .ref m1, .int (nI x), .int (bI false), .int (nI n0), .ref m2, .ref m3, .ref m4, .ref m5, .ref m6, .int (nI ac), .int (nI re), .int sl, .int fa, .int db])), (m1, .inl (cyZ, 64, .inl (aZ w)))]) (wr := []) (ws2 := [(m0, .inr (6, [.int th, .ref m1, .int (nI x), .int (bI false), .int (nI n0), .ref m2, .ref m3, .ref m4, .ref m5, .ref m6, .int (nI ac), .int (nI re), .int sl, .int fa, .int db])), (m1, .inl (cyZ, 64, .inl (aZ w)))]) (As := []) (rest := []) (c_X6_free l D cyI cyJ cyZ H.size m0 m1 m2 m3 m4 m5 m6 th x false n0 ac re sl fa db w ) (cwV 0 S.2.2.2.2 gX6_wall_X6_free rfl rfl rfl (by decide +kernel) ⟨Nat.le_of_ble_eq_true rfl, Nat.le_of_ble_eq_true rfl⟩) hK hP hD hS hA hG [0, 1] [] [0, 1] rfl rfl rfl rfl (by decide) rfl rfl (ci := 6) (q0 := 0) rfl rfl rfl hl.1 rfl (Nat.le_of_ble_eq_true rfl) dX6_wall_39 ⟨Nat.le_of_ble_eq_true rfl, Nat.le_of_ble_eq_true rfl⟩ (fun H locs hP hD hS => ?_)
        refine lv_iconst (v := nI 1) S.1 S.2.1 dX6_wall_42 (by decide) ?_
        refine kn_icmp_ne S (by omega) (by omega) dX6_wall_43 (tgt := 50) (by decide) (fun c43 => ?_) (fun c43 => ?_)
        · exact absurd hcn c43
        · refine lv_iconst (v := nI 1) S.1 S.2.1 dX6_wall_46 (by decide) ?_
          refine lv_goto (tgt := 51) S.1 S.2.1 dX6_wall_47 (by decide) ?_
          refine lv_istore (lv' := [(6, .int (nI 1)), (5, .int (nI ((8 * v2) + v))), (4, .int (bI true)), (0, .ref m0), (1, .int (nI v)), (2, .int (nI v2)), (3, .int (bI true))]) S.1 S.2.1 dX6_wall_51 hl (by decide) rfl (fun ls hl => ?_)
          refine lv_aload_n S.1 S.2.1 dX6_wall_53 rfl (lv_at hl 3 rfl) ?_
          refine lv_iload S.1 S.2.1 dX6_wall_54 (lv_at hl 2 rfl) ?_
          refine kb_if_ne S dX6_wall_56 (tgt := 63) (by decide) (fun c56 => ?_) (fun c56 => ?_)
          · refine lv_aload_n S.1 S.2.1 dX6_wall_63 rfl (lv_at hl 3 rfl) ?_
            refine k_get S (C := RX6) (T := TX6) (N := 15) (ci := 6) hw_X6 hK hP 0 rfl rfl 3 (by decide) hf_49 rfl (v := .int (bI false)) rfl dX6_wall_64 ?_
            refine kb_if_ne S dX6_wall_67 (tgt := 75) (by decide) (fun c67 => ?_) (fun c67 => ?_)
            · exact absurd c67 (by decide)
            · refine lv_iload S.1 S.2.1 dX6_wall_70 (lv_at hl 0 rfl) ?_
              refine kn_if_eq S (by omega) dX6_wall_72 (tgt := 79) (by decide) (fun c72 => ?_) (fun c72 => ?_)
              · exact absurd c72 (by omega)
              · refine lv_iconst (v := nI 2) S.1 S.2.1 dX6_wall_75 (by decide) ?_
                refine lv_goto (tgt := 80) S.1 S.2.1 dX6_wall_76 (by decide) ?_
                refine kcV_i S (wc := [(m0, .inr (6, [.int th, .ref m1, .int (nI x), .int (bI false), .int (nI n0), .ref m2, .ref m3, .ref m4, .ref m5, .ref m6, .int (nI ac), .int (nI re), .int sl, .int fa, .int db]))]) (wr := [(m1, .inl (cyZ, 64, .inl (aZ w)))]) (ws2 := [(m0, .inr (6, [.int (nI 2), .ref m1, .int (nI x), .int (bI false), .int (nI n0), .ref m2, .ref m3, .ref m4, .ref m5, .ref m6, .int (nI ac), .int (nI re), .int sl, .int fa, .int db])), (m1, .inl (cyZ, 64, .inl (aZ w)))]) (As := [.int (nI 2)]) (rest := []) (c_X6_goesWell_k l D cyI cyJ cyZ H.size m0 m1 m2 m3 m4 m5 m6 th x false n0 ac re sl fa db 2 (by first | assumption | omega) (by first | assumption | omega)) (cwV 1 S.2.2.2.2 gX6_wall_X6_goesWell rfl rfl rfl (by decide +kernel) ⟨Nat.le_of_ble_eq_true rfl, Nat.le_of_ble_eq_true rfl⟩) hK hP hD hS hA hG [0] [1] [1, 0] rfl rfl rfl rfl (by decide) rfl rfl (ci := 6) (q0 := 0) rfl rfl rfl hl.1 rfl (Nat.le_of_ble_eq_true rfl) dX6_wall_80 ⟨Nat.le_of_ble_eq_true rfl, Nat.le_of_ble_eq_true rfl⟩ (fun H locs hP hD hS => ?_)
                refine kb_if_ne S dX6_wall_83 (tgt := 88) (by decide) (fun c83 => ?_) (fun c83 => ?_)
                · exact absurd c83 (by decide)
                · refine lv_iconst (v := nI 0) S.1 S.2.1 dX6_wall_86 (by decide) ?_
                  refine k_topi (y := bI false) (by rfl) ?_
                  exact hret _ _ _ _ dX6_wall_87 hP hD hS
          · exact absurd c56 (by decide)

set_option maxHeartbeats 4000000 in
set_option maxRecDepth 100000 in
theorem c_X6_wall (l : Launch) (D : va_G) (cyI cyJ cyZ : ClassId) (sz : Nat) (m0 : Nat) (m1 : Nat) (m2 : Nat) (m3 : Nat) (m4 : Nat) (m5 : Nat) (m6 : Nat) (th : Int32) (x : Nat) (sp : Bool) (n0 : Nat) (ac : Nat) (re : Nat) (sl : Int32) (fa : Int32) (db : Int32) (w : Nat → Bool) (v : Nat) (v2 : Nat) (is9 : Bool) (hv : v < 8) (hv2 : v2 < 8) (hnl : ¬ (is9 = true ∧ w (8 * v2 + v) = false ∧ cntF w 64 = 1)) : Met l yX6_wall wsX6_wall ({ frames := 4, cells := 0, slots := 0, locals := 103 } : Room) (mPc D [(cyI, .int), (cyJ, .long), (cyZ, .boolean)] [(m0, .inr (6, [.int th, .ref m1, .int (nI x), .int (bI false), .int (nI n0), .ref m2, .ref m3, .ref m4, .ref m5, .ref m6, .int (nI ac), .int (nI re), .int sl, .int fa, .int db])), (m1, .inl (cyZ, 64, .inl (aZ w)))] sz [.ref m0, .int (nI v), .int (nI v2), .int (bI is9)]) (va_Qi (fun (r : Int32) (u : va_W) => r = bI (w (8 * v2 + v)) ∧ u = [(m0, .inr (6, [.int (nI 0), .ref m1, .int (nI x), .int (bI false), .int (nI n0), .ref m2, .ref m3, .ref m4, .ref m5, .ref m6, .int (nI ac), .int (nI re), .int sl, .int fa, .int db])), (m1, .inl (cyZ, 64, .inl (aZ (va_up w (8 * v2 + v) is9))))]) (mB D [(cyI, .int), (cyJ, .long), (cyZ, .boolean)] (va_A [(m0, .inr (6, [.int th, .ref m1, .int (nI x), .int (bI false), .int (nI n0), .ref m2, .ref m3, .ref m4, .ref m5, .ref m6, .int (nI ac), .int (nI re), .int sl, .int fa, .int db])), (m1, .inl (cyZ, 64, .inl (aZ w)))] sz)) (va_A [(m0, .inr (6, [.int th, .ref m1, .int (nI x), .int (bI false), .int (nI n0), .ref m2, .ref m3, .ref m4, .ref m5, .ref m6, .int (nI ac), .int (nI re), .int sl, .int fa, .int db])), (m1, .inl (cyZ, 64, .inl (aZ w)))] sz)) 0 0 (va_A [(m0, .inr (6, [.int th, .ref m1, .int (nI x), .int (bI false), .int (nI n0), .ref m2, .ref m3, .ref m4, .ref m5, .ref m6, .int (nI ac), .int (nI re), .int sl, .int fa, .int db])), (m1, .inl (cyZ, 64, .inl (aZ w)))] sz) := by
  refine st_z (own := RX6) (lv0 := [(0, .ref m0), (1, .int (nI v)), (2, .int (nI v2)), (3, .int (bI is9))]) (by decide) rfl rfl (Nat.le_of_ble_eq_true rfl) rfl ?_
  intro p e s m below meth c A Q S hin hA hK hP hD hG hS hret ls hl
  have hw_X6 : ∀ w ∈ u_ws RX6 TX6 15, w ∈ wsX6_wall := by decide +kernel
  have hf_49 := S.2.2.2.2 (.fieldLink RX6 49 "ParticlewayModel" "isSpread" "Z") (by decide +kernel)
  have hf_7 := S.2.2.2.2 (.fieldLink RX6 7 "ParticlewayModel" "isWall" "[Z") (by decide +kernel)
  have hcf := cntF_le w 64
  refine lv_iload_n S.1 S.2.1 dX6_wall_0 rfl (lv_at hl 1 rfl) ?_
  refine lv_iload_n S.1 S.2.1 dX6_wall_1 rfl (lv_at hl 2 rfl) ?_
  refine kcS_i S (wc := []) (wr := [(m0, .inr (6, [.int th, .ref m1, .int (nI x), .int (bI false), .int (nI n0), .ref m2, .ref m3, .ref m4, .ref m5, .ref m6, .int (nI ac), .int (nI re), .int sl, .int fa, .int db])), (m1, .inl (cyZ, 64, .inl (aZ w)))]) (ws2 := [(m0, .inr (6, [.int th, .ref m1, .int (nI x), .int (bI false), .int (nI n0), .ref m2, .ref m3, .ref m4, .ref m5, .ref m6, .int (nI ac), .int (nI re), .int sl, .int fa, .int db])), (m1, .inl (cyZ, 64, .inl (aZ w)))]) (As := [.int (nI v), .int (nI v2)]) (rest := []) (c_X6_isCell_n l D cyI cyJ cyZ s.heap.size v v2 (by first | assumption | omega) (by first | assumption | omega)) (va_cwS 2 S.2.2.2.2 gX6_wall_X6_isCell rfl rfl rfl (by decide +kernel) ⟨Nat.le_of_ble_eq_true rfl, Nat.le_of_ble_eq_true rfl⟩) hK hP hD hS hA hG [] [0, 1] [0, 1] rfl rfl rfl rfl (by decide) rfl rfl rfl hl.1 rfl (Nat.le_of_ble_eq_true rfl) dX6_wall_2 ⟨Nat.le_of_ble_eq_true rfl, Nat.le_of_ble_eq_true rfl⟩ (fun H locs hP hD hS => ?_)
  refine lv_istore (lv' := [(4, .int (bI true)), (0, .ref m0), (1, .int (nI v)), (2, .int (nI v2)), (3, .int (bI is9))]) S.1 S.2.1 dX6_wall_5 hl (by decide) rfl (fun ls hl => ?_)
  refine lv_iload S.1 S.2.1 dX6_wall_7 (lv_at hl 0 rfl) ?_
  refine kb_if_eq S dX6_wall_9 (tgt := 21) (by decide) (fun c9 => ?_) (fun c9 => ?_)
  · exact absurd c9 (by decide)
  · refine lv_bipush (v := nI 8) S.1 S.2.1 dX6_wall_12 (by decide) ?_
    refine lv_iload_n S.1 S.2.1 dX6_wall_14 rfl (lv_at hl 3 rfl) ?_
    refine kn_imul S dX6_wall_15 ?_
    refine lv_iload_n S.1 S.2.1 dX6_wall_16 rfl (lv_at hl 2 rfl) ?_
    refine kn_iadd S dX6_wall_17 ?_
    refine lv_goto (tgt := 22) S.1 S.2.1 dX6_wall_18 (by decide) ?_
    refine lv_istore (lv' := [(5, .int (nI ((8 * v2) + v))), (4, .int (bI true)), (0, .ref m0), (1, .int (nI v)), (2, .int (nI v2)), (3, .int (bI is9))]) S.1 S.2.1 dX6_wall_22 hl (by decide) rfl (fun ls hl => ?_)
    refine lv_iload_n S.1 S.2.1 dX6_wall_24 rfl (lv_at hl 5 rfl) ?_
    refine kb_if_eq S dX6_wall_25 (tgt := 50) (by decide) (fun c25 => ?_) (fun c25 => ?_)
    · refine lv_iconst (v := nI 0) S.1 S.2.1 dX6_wall_50 (by decide) ?_
      refine lv_istore (lv' := [(6, .int (nI 0)), (5, .int (nI ((8 * v2) + v))), (4, .int (bI true)), (0, .ref m0), (1, .int (nI v)), (2, .int (nI v2)), (3, .int (bI is9))]) S.1 S.2.1 dX6_wall_51 hl (by decide) rfl (fun ls hl => ?_)
      refine lv_aload_n S.1 S.2.1 dX6_wall_53 rfl (lv_at hl 3 rfl) ?_
      refine lv_iload S.1 S.2.1 dX6_wall_54 (lv_at hl 2 rfl) ?_
      refine kb_if_ne S dX6_wall_56 (tgt := 63) (by decide) (fun c56 => ?_) (fun c56 => ?_)
      · refine lv_aload_n S.1 S.2.1 dX6_wall_63 rfl (lv_at hl 3 rfl) ?_
        refine k_get S (C := RX6) (T := TX6) (N := 15) (ci := 6) hw_X6 hK hP 0 rfl rfl 3 (by decide) hf_49 rfl (v := .int (bI false)) rfl dX6_wall_64 ?_
        refine kb_if_ne S dX6_wall_67 (tgt := 75) (by decide) (fun c67 => ?_) (fun c67 => ?_)
        · exact absurd c67 (by decide)
        · refine lv_iload S.1 S.2.1 dX6_wall_70 (lv_at hl 0 rfl) ?_
          refine kn_if_eq S (by omega) dX6_wall_72 (tgt := 79) (by decide) (fun c72 => ?_) (fun c72 => ?_)
          · refine lv_iconst (v := nI 0) S.1 S.2.1 dX6_wall_79 (by decide) ?_
            refine kcV_i S (wc := [(m0, .inr (6, [.int th, .ref m1, .int (nI x), .int (bI false), .int (nI n0), .ref m2, .ref m3, .ref m4, .ref m5, .ref m6, .int (nI ac), .int (nI re), .int sl, .int fa, .int db]))]) (wr := [(m1, .inl (cyZ, 64, .inl (aZ w)))]) (ws2 := [(m0, .inr (6, [.int (nI 0), .ref m1, .int (nI x), .int (bI false), .int (nI n0), .ref m2, .ref m3, .ref m4, .ref m5, .ref m6, .int (nI ac), .int (nI re), .int sl, .int fa, .int db])), (m1, .inl (cyZ, 64, .inl (aZ w)))]) (As := [.int (nI 0)]) (rest := []) (c_X6_goesWell_0 l D cyI cyJ cyZ H.size m0 m1 m2 m3 m4 m5 m6 th x false n0 ac re sl fa db ) (cwV 1 S.2.2.2.2 gX6_wall_X6_goesWell rfl rfl rfl (by decide +kernel) ⟨Nat.le_of_ble_eq_true rfl, Nat.le_of_ble_eq_true rfl⟩) hK hP hD hS hA hG [0] [1] [1, 0] rfl rfl rfl rfl (by decide) rfl rfl (ci := 6) (q0 := 0) rfl rfl rfl hl.1 rfl (Nat.le_of_ble_eq_true rfl) dX6_wall_80 ⟨Nat.le_of_ble_eq_true rfl, Nat.le_of_ble_eq_true rfl⟩ (fun H locs hP hD hS => ?_)
            refine kb_if_ne S dX6_wall_83 (tgt := 88) (by decide) (fun c83 => ?_) (fun c83 => ?_)
            · refine lv_aload_n S.1 S.2.1 dX6_wall_88 rfl (lv_at hl 3 rfl) ?_
              refine k_get S (C := RX6) (T := TX6) (N := 15) (ci := 6) hw_X6 hK hP 0 rfl rfl 1 (by decide) hf_7 rfl (v := .ref m1) rfl dX6_wall_89 ?_
              refine lv_iload S.1 S.2.1 dX6_wall_92 (lv_at hl 1 rfl) ?_
              refine kn_zald S hK hP 1 2 rfl rfl (by omega) (by decide) dX6_wall_94 ?_
              refine lv_istore (lv' := [(7, .int (bI (w ((8 * v2) + v)))), (6, .int (nI 0)), (5, .int (nI ((8 * v2) + v))), (4, .int (bI true)), (0, .ref m0), (1, .int (nI v)), (2, .int (nI v2)), (3, .int (bI is9))]) S.1 S.2.1 dX6_wall_95 hl (by decide) rfl (fun ls hl => ?_)
              refine lv_aload_n S.1 S.2.1 dX6_wall_97 rfl (lv_at hl 4 rfl) ?_
              refine k_get S (C := RX6) (T := TX6) (N := 15) (ci := 6) hw_X6 hK hP 0 rfl rfl 1 (by decide) hf_7 rfl (v := .ref m1) rfl dX6_wall_98 ?_
              refine lv_iload S.1 S.2.1 dX6_wall_101 (lv_at hl 2 rfl) ?_
              refine lv_iload_n S.1 S.2.1 dX6_wall_103 rfl (lv_at hl 7 rfl) ?_
              refine kn_zast S hK hP hD hS (ws2 := [(m0, .inr (6, [.int (nI 0), .ref m1, .int (nI x), .int (bI false), .int (nI n0), .ref m2, .ref m3, .ref m4, .ref m5, .ref m6, .int (nI ac), .int (nI re), .int sl, .int fa, .int db])), (m1, .inl (cyZ, 64, .inl (aZ (va_up w ((8 * v2) + v) is9))))]) 1 2 rfl rfl (by omega) (by decide) dX6_wall_104 rfl (fun H locs hP hD hS => ?_)
              refine lv_iload S.1 S.2.1 dX6_wall_105 (lv_at hl 0 rfl) ?_
              refine k_topi (y := bI (w (8 * v2 + v))) (by rfl) ?_
              exact hret _ _ _ _ dX6_wall_107 hP hD hS
            · exact absurd c83 (by decide)
          · exact absurd c72 (by omega)
      · exact absurd c56 (by decide)
    · refine lv_aload_n S.1 S.2.1 dX6_wall_28 rfl (lv_at hl 2 rfl) ?_
      refine k_get S (C := RX6) (T := TX6) (N := 15) (ci := 6) hw_X6 hK hP 0 rfl rfl 1 (by decide) hf_7 rfl (v := .ref m1) rfl dX6_wall_29 ?_
      refine lv_iload S.1 S.2.1 dX6_wall_32 (lv_at hl 0 rfl) ?_
      refine kn_zald S hK hP 1 2 rfl rfl (by omega) (by decide) dX6_wall_34 ?_
      refine kb_if_ne S dX6_wall_35 (tgt := 50) (by decide) (fun c35 => ?_) (fun c35 => ?_)
      · refine lv_iconst (v := nI 0) S.1 S.2.1 dX6_wall_50 (by decide) ?_
        refine lv_istore (lv' := [(6, .int (nI 0)), (5, .int (nI ((8 * v2) + v))), (4, .int (bI true)), (0, .ref m0), (1, .int (nI v)), (2, .int (nI v2)), (3, .int (bI is9))]) S.1 S.2.1 dX6_wall_51 hl (by decide) rfl (fun ls hl => ?_)
        refine lv_aload_n S.1 S.2.1 dX6_wall_53 rfl (lv_at hl 3 rfl) ?_
        refine lv_iload S.1 S.2.1 dX6_wall_54 (lv_at hl 2 rfl) ?_
        refine kb_if_ne S dX6_wall_56 (tgt := 63) (by decide) (fun c56 => ?_) (fun c56 => ?_)
        · refine lv_aload_n S.1 S.2.1 dX6_wall_63 rfl (lv_at hl 3 rfl) ?_
          refine k_get S (C := RX6) (T := TX6) (N := 15) (ci := 6) hw_X6 hK hP 0 rfl rfl 3 (by decide) hf_49 rfl (v := .int (bI false)) rfl dX6_wall_64 ?_
          refine kb_if_ne S dX6_wall_67 (tgt := 75) (by decide) (fun c67 => ?_) (fun c67 => ?_)
          · exact absurd c67 (by decide)
          · refine lv_iload S.1 S.2.1 dX6_wall_70 (lv_at hl 0 rfl) ?_
            refine kn_if_eq S (by omega) dX6_wall_72 (tgt := 79) (by decide) (fun c72 => ?_) (fun c72 => ?_)
            · refine lv_iconst (v := nI 0) S.1 S.2.1 dX6_wall_79 (by decide) ?_
              refine kcV_i S (wc := [(m0, .inr (6, [.int th, .ref m1, .int (nI x), .int (bI false), .int (nI n0), .ref m2, .ref m3, .ref m4, .ref m5, .ref m6, .int (nI ac), .int (nI re), .int sl, .int fa, .int db]))]) (wr := [(m1, .inl (cyZ, 64, .inl (aZ w)))]) (ws2 := [(m0, .inr (6, [.int (nI 0), .ref m1, .int (nI x), .int (bI false), .int (nI n0), .ref m2, .ref m3, .ref m4, .ref m5, .ref m6, .int (nI ac), .int (nI re), .int sl, .int fa, .int db])), (m1, .inl (cyZ, 64, .inl (aZ w)))]) (As := [.int (nI 0)]) (rest := []) (c_X6_goesWell_0 l D cyI cyJ cyZ H.size m0 m1 m2 m3 m4 m5 m6 th x false n0 ac re sl fa db ) (cwV 1 S.2.2.2.2 gX6_wall_X6_goesWell rfl rfl rfl (by decide +kernel) ⟨Nat.le_of_ble_eq_true rfl, Nat.le_of_ble_eq_true rfl⟩) hK hP hD hS hA hG [0] [1] [1, 0] rfl rfl rfl rfl (by decide) rfl rfl (ci := 6) (q0 := 0) rfl rfl rfl hl.1 rfl (Nat.le_of_ble_eq_true rfl) dX6_wall_80 ⟨Nat.le_of_ble_eq_true rfl, Nat.le_of_ble_eq_true rfl⟩ (fun H locs hP hD hS => ?_)
              refine kb_if_ne S dX6_wall_83 (tgt := 88) (by decide) (fun c83 => ?_) (fun c83 => ?_)
              · refine lv_aload_n S.1 S.2.1 dX6_wall_88 rfl (lv_at hl 3 rfl) ?_
                refine k_get S (C := RX6) (T := TX6) (N := 15) (ci := 6) hw_X6 hK hP 0 rfl rfl 1 (by decide) hf_7 rfl (v := .ref m1) rfl dX6_wall_89 ?_
                refine lv_iload S.1 S.2.1 dX6_wall_92 (lv_at hl 1 rfl) ?_
                refine kn_zald S hK hP 1 2 rfl rfl (by omega) (by decide) dX6_wall_94 ?_
                refine lv_istore (lv' := [(7, .int (bI (w ((8 * v2) + v)))), (6, .int (nI 0)), (5, .int (nI ((8 * v2) + v))), (4, .int (bI true)), (0, .ref m0), (1, .int (nI v)), (2, .int (nI v2)), (3, .int (bI is9))]) S.1 S.2.1 dX6_wall_95 hl (by decide) rfl (fun ls hl => ?_)
                refine lv_aload_n S.1 S.2.1 dX6_wall_97 rfl (lv_at hl 4 rfl) ?_
                refine k_get S (C := RX6) (T := TX6) (N := 15) (ci := 6) hw_X6 hK hP 0 rfl rfl 1 (by decide) hf_7 rfl (v := .ref m1) rfl dX6_wall_98 ?_
                refine lv_iload S.1 S.2.1 dX6_wall_101 (lv_at hl 2 rfl) ?_
                refine lv_iload_n S.1 S.2.1 dX6_wall_103 rfl (lv_at hl 7 rfl) ?_
                refine kn_zast S hK hP hD hS (ws2 := [(m0, .inr (6, [.int (nI 0), .ref m1, .int (nI x), .int (bI false), .int (nI n0), .ref m2, .ref m3, .ref m4, .ref m5, .ref m6, .int (nI ac), .int (nI re), .int sl, .int fa, .int db])), (m1, .inl (cyZ, 64, .inl (aZ (va_up w ((8 * v2) + v) is9))))]) 1 2 rfl rfl (by omega) (by decide) dX6_wall_104 rfl (fun H locs hP hD hS => ?_)
                refine lv_iload S.1 S.2.1 dX6_wall_105 (lv_at hl 0 rfl) ?_
                refine k_topi (y := bI (w (8 * v2 + v))) (by rfl) ?_
                exact hret _ _ _ _ dX6_wall_107 hP hD hS
              · exact absurd c83 (by decide)
            · exact absurd c72 (by omega)
        · exact absurd c56 (by decide)
      · refine lv_aload_n S.1 S.2.1 dX6_wall_38 rfl (lv_at hl 2 rfl) ?_
        refine kcV_i S (wc := [(m0, .inr (6, [.int th, .ref m1, .int (nI x), .int (bI false), .int (nI n0), .ref m2, .ref m3, .ref m4, .ref m5, .ref m6, .int (nI ac), .int (nI re), .int sl, .int fa, .int db])), (m1, .inl (cyZ, 64, .inl (aZ w)))]) (wr := []) (ws2 := [(m0, .inr (6, [.int th, .ref m1, .int (nI x), .int (bI false), .int (nI n0), .ref m2, .ref m3, .ref m4, .ref m5, .ref m6, .int (nI ac), .int (nI re), .int sl, .int fa, .int db])), (m1, .inl (cyZ, 64, .inl (aZ w)))]) (As := []) (rest := []) (c_X6_free l D cyI cyJ cyZ H.size m0 m1 m2 m3 m4 m5 m6 th x false n0 ac re sl fa db w ) (cwV 0 S.2.2.2.2 gX6_wall_X6_free rfl rfl rfl (by decide +kernel) ⟨Nat.le_of_ble_eq_true rfl, Nat.le_of_ble_eq_true rfl⟩) hK hP hD hS hA hG [0, 1] [] [0, 1] rfl rfl rfl rfl (by decide) rfl rfl (ci := 6) (q0 := 0) rfl rfl rfl hl.1 rfl (Nat.le_of_ble_eq_true rfl) dX6_wall_39 ⟨Nat.le_of_ble_eq_true rfl, Nat.le_of_ble_eq_true rfl⟩ (fun H locs hP hD hS => ?_)
        refine lv_iconst (v := nI 1) S.1 S.2.1 dX6_wall_42 (by decide) ?_
        refine kn_icmp_ne S (by omega) (by omega) dX6_wall_43 (tgt := 50) (by decide) (fun c43 => ?_) (fun c43 => ?_)
        · refine lv_iconst (v := nI 0) S.1 S.2.1 dX6_wall_50 (by decide) ?_
          refine lv_istore (lv' := [(6, .int (nI 0)), (5, .int (nI ((8 * v2) + v))), (4, .int (bI true)), (0, .ref m0), (1, .int (nI v)), (2, .int (nI v2)), (3, .int (bI is9))]) S.1 S.2.1 dX6_wall_51 hl (by decide) rfl (fun ls hl => ?_)
          refine lv_aload_n S.1 S.2.1 dX6_wall_53 rfl (lv_at hl 3 rfl) ?_
          refine lv_iload S.1 S.2.1 dX6_wall_54 (lv_at hl 2 rfl) ?_
          refine kb_if_ne S dX6_wall_56 (tgt := 63) (by decide) (fun c56 => ?_) (fun c56 => ?_)
          · refine lv_aload_n S.1 S.2.1 dX6_wall_63 rfl (lv_at hl 3 rfl) ?_
            refine k_get S (C := RX6) (T := TX6) (N := 15) (ci := 6) hw_X6 hK hP 0 rfl rfl 3 (by decide) hf_49 rfl (v := .int (bI false)) rfl dX6_wall_64 ?_
            refine kb_if_ne S dX6_wall_67 (tgt := 75) (by decide) (fun c67 => ?_) (fun c67 => ?_)
            · exact absurd c67 (by decide)
            · refine lv_iload S.1 S.2.1 dX6_wall_70 (lv_at hl 0 rfl) ?_
              refine kn_if_eq S (by omega) dX6_wall_72 (tgt := 79) (by decide) (fun c72 => ?_) (fun c72 => ?_)
              · refine lv_iconst (v := nI 0) S.1 S.2.1 dX6_wall_79 (by decide) ?_
                refine kcV_i S (wc := [(m0, .inr (6, [.int th, .ref m1, .int (nI x), .int (bI false), .int (nI n0), .ref m2, .ref m3, .ref m4, .ref m5, .ref m6, .int (nI ac), .int (nI re), .int sl, .int fa, .int db]))]) (wr := [(m1, .inl (cyZ, 64, .inl (aZ w)))]) (ws2 := [(m0, .inr (6, [.int (nI 0), .ref m1, .int (nI x), .int (bI false), .int (nI n0), .ref m2, .ref m3, .ref m4, .ref m5, .ref m6, .int (nI ac), .int (nI re), .int sl, .int fa, .int db])), (m1, .inl (cyZ, 64, .inl (aZ w)))]) (As := [.int (nI 0)]) (rest := []) (c_X6_goesWell_0 l D cyI cyJ cyZ H.size m0 m1 m2 m3 m4 m5 m6 th x false n0 ac re sl fa db ) (cwV 1 S.2.2.2.2 gX6_wall_X6_goesWell rfl rfl rfl (by decide +kernel) ⟨Nat.le_of_ble_eq_true rfl, Nat.le_of_ble_eq_true rfl⟩) hK hP hD hS hA hG [0] [1] [1, 0] rfl rfl rfl rfl (by decide) rfl rfl (ci := 6) (q0 := 0) rfl rfl rfl hl.1 rfl (Nat.le_of_ble_eq_true rfl) dX6_wall_80 ⟨Nat.le_of_ble_eq_true rfl, Nat.le_of_ble_eq_true rfl⟩ (fun H locs hP hD hS => ?_)
                refine kb_if_ne S dX6_wall_83 (tgt := 88) (by decide) (fun c83 => ?_) (fun c83 => ?_)
                · refine lv_aload_n S.1 S.2.1 dX6_wall_88 rfl (lv_at hl 3 rfl) ?_
                  refine k_get S (C := RX6) (T := TX6) (N := 15) (ci := 6) hw_X6 hK hP 0 rfl rfl 1 (by decide) hf_7 rfl (v := .ref m1) rfl dX6_wall_89 ?_
                  refine lv_iload S.1 S.2.1 dX6_wall_92 (lv_at hl 1 rfl) ?_
                  refine kn_zald S hK hP 1 2 rfl rfl (by omega) (by decide) dX6_wall_94 ?_
                  refine lv_istore (lv' := [(7, .int (bI (w ((8 * v2) + v)))), (6, .int (nI 0)), (5, .int (nI ((8 * v2) + v))), (4, .int (bI true)), (0, .ref m0), (1, .int (nI v)), (2, .int (nI v2)), (3, .int (bI is9))]) S.1 S.2.1 dX6_wall_95 hl (by decide) rfl (fun ls hl => ?_)
                  refine lv_aload_n S.1 S.2.1 dX6_wall_97 rfl (lv_at hl 4 rfl) ?_
                  refine k_get S (C := RX6) (T := TX6) (N := 15) (ci := 6) hw_X6 hK hP 0 rfl rfl 1 (by decide) hf_7 rfl (v := .ref m1) rfl dX6_wall_98 ?_
                  refine lv_iload S.1 S.2.1 dX6_wall_101 (lv_at hl 2 rfl) ?_
                  refine lv_iload_n S.1 S.2.1 dX6_wall_103 rfl (lv_at hl 7 rfl) ?_
                  refine kn_zast S hK hP hD hS (ws2 := [(m0, .inr (6, [.int (nI 0), .ref m1, .int (nI x), .int (bI false), .int (nI n0), .ref m2, .ref m3, .ref m4, .ref m5, .ref m6, .int (nI ac), .int (nI re), .int sl, .int fa, .int db])), (m1, .inl (cyZ, 64, .inl (aZ (va_up w ((8 * v2) + v) is9))))]) 1 2 rfl rfl (by omega) (by decide) dX6_wall_104 rfl (fun H locs hP hD hS => ?_)
                  refine lv_iload S.1 S.2.1 dX6_wall_105 (lv_at hl 0 rfl) ?_
                  refine k_topi (y := bI (w (8 * v2 + v))) (by rfl) ?_
                  exact hret _ _ _ _ dX6_wall_107 hP hD hS
                · exact absurd c83 (by decide)
              · exact absurd c72 (by omega)
          · exact absurd c56 (by decide)
        · exact absurd ⟨c25, c35, c43⟩ hnl

set_option maxHeartbeats 4000000 in
set_option maxRecDepth 100000 in
theorem c_X6_draw_1 (l : Launch) (D : va_G) (cyI cyJ cyZ : ClassId) (sz : Nat) (m0 : Nat) (m1 : Nat) (m2 : Nat) (m3 : Nat) (m4 : Nat) (m5 : Nat) (m6 : Nat) (th : Int32) (x : Nat) (sp : Bool) (n0 : Nat) (ac : Nat) (re : Nat) (sl : Int32) (fa : Int32) (db : Int32) (v : Int32) (hv : inB v (nI 1) (nI 65536) = false) : Met l yX6_draw wsX6_draw ({ frames := 3, cells := 0, slots := 0, locals := 82 } : Room) (mPc D [(cyI, .int), (cyJ, .long), (cyZ, .boolean)] [(m0, .inr (6, [.int th, .ref m1, .int (nI x), .int (bI sp), .int (nI n0), .ref m2, .ref m3, .ref m4, .ref m5, .ref m6, .int (nI ac), .int (nI re), .int sl, .int fa, .int db]))] sz [.ref m0, .int v]) (va_Qi (fun (r : Int32) (u : va_W) => r = nI 0 ∧ u = [(m0, .inr (6, [.int (nI 1), .ref m1, .int (nI x), .int (bI sp), .int (nI n0), .ref m2, .ref m3, .ref m4, .ref m5, .ref m6, .int (nI ac), .int (nI re), .int sl, .int fa, .int db]))]) (mB D [(cyI, .int), (cyJ, .long), (cyZ, .boolean)] (va_A [(m0, .inr (6, [.int th, .ref m1, .int (nI x), .int (bI sp), .int (nI n0), .ref m2, .ref m3, .ref m4, .ref m5, .ref m6, .int (nI ac), .int (nI re), .int sl, .int fa, .int db]))] sz)) (va_A [(m0, .inr (6, [.int th, .ref m1, .int (nI x), .int (bI sp), .int (nI n0), .ref m2, .ref m3, .ref m4, .ref m5, .ref m6, .int (nI ac), .int (nI re), .int sl, .int fa, .int db]))] sz)) 0 0 (va_A [(m0, .inr (6, [.int th, .ref m1, .int (nI x), .int (bI sp), .int (nI n0), .ref m2, .ref m3, .ref m4, .ref m5, .ref m6, .int (nI ac), .int (nI re), .int sl, .int fa, .int db]))] sz) := by
  refine st_i (own := RX6) (lv0 := [(0, .ref m0), (1, .int v)]) (by decide) rfl rfl (Nat.le_of_ble_eq_true rfl) rfl ?_
  intro p e s m below meth c A Q S hin hA hK hP hD hG hS hret ls hl
  refine lv_aload_n S.1 S.2.1 dX6_draw_0 rfl (lv_at hl 0 rfl) ?_
  refine lv_iload_n S.1 S.2.1 dX6_draw_1 rfl (lv_at hl 1 rfl) ?_
  refine lv_iconst (v := nI 1) S.1 S.2.1 dX6_draw_2 (by decide) ?_
  refine lv_ldc (v := 65536) S.1 S.2.1 S.2.2.2.1 (S.2.2.2.2 (.constant RX6 57 65536) (by decide +kernel)) dX6_draw_3 ?_
  refine k_topi (y := nI 65536) (by decide) ?_
  refine kcS_i S (wc := []) (wr := [(m0, .inr (6, [.int th, .ref m1, .int (nI x), .int (bI sp), .int (nI n0), .ref m2, .ref m3, .ref m4, .ref m5, .ref m6, .int (nI ac), .int (nI re), .int sl, .int fa, .int db]))]) (ws2 := [(m0, .inr (6, [.int th, .ref m1, .int (nI x), .int (bI sp), .int (nI n0), .ref m2, .ref m3, .ref m4, .ref m5, .ref m6, .int (nI ac), .int (nI re), .int sl, .int fa, .int db]))]) (As := [.int v, .int (nI 1), .int (nI 65536)]) (rest := [.ref m0]) (c_X6_in l D cyI cyJ cyZ s.heap.size v (nI 1) (nI 65536) ) (va_cwS 3 S.2.2.2.2 gX6_draw_X6_in rfl rfl rfl (by decide +kernel) ⟨Nat.le_of_ble_eq_true rfl, Nat.le_of_ble_eq_true rfl⟩) hK hP hD hS hA hG [] [0] [0] rfl rfl rfl rfl (by decide) rfl rfl rfl hl.1 rfl (Nat.le_of_ble_eq_true rfl) dX6_draw_5 ⟨Nat.le_of_ble_eq_true rfl, Nat.le_of_ble_eq_true rfl⟩ (fun H locs hP hD hS => ?_)
  refine k_topi (y := bI false) (by rw [hv]) ?_
  refine kb_if_eq S dX6_draw_8 (tgt := 15) (by decide) (fun c8 => ?_) (fun c8 => ?_)
  · refine lv_iconst (v := nI 1) S.1 S.2.1 dX6_draw_15 (by decide) ?_
    refine kcV_i S (wc := [(m0, .inr (6, [.int th, .ref m1, .int (nI x), .int (bI sp), .int (nI n0), .ref m2, .ref m3, .ref m4, .ref m5, .ref m6, .int (nI ac), .int (nI re), .int sl, .int fa, .int db]))]) (wr := []) (ws2 := [(m0, .inr (6, [.int (nI 1), .ref m1, .int (nI x), .int (bI sp), .int (nI n0), .ref m2, .ref m3, .ref m4, .ref m5, .ref m6, .int (nI ac), .int (nI re), .int sl, .int fa, .int db]))]) (As := [.int (nI 1)]) (rest := []) (c_X6_goesWell_k l D cyI cyJ cyZ H.size m0 m1 m2 m3 m4 m5 m6 th x sp n0 ac re sl fa db 1 (by first | assumption | omega) (by first | assumption | omega)) (cwV 1 S.2.2.2.2 gX6_draw_X6_goesWell rfl rfl rfl (by decide +kernel) ⟨Nat.le_of_ble_eq_true rfl, Nat.le_of_ble_eq_true rfl⟩) hK hP hD hS hA hG [0] [] [0] rfl rfl rfl rfl (by decide) rfl rfl (ci := 6) (q0 := 0) rfl rfl rfl hl.1 rfl (Nat.le_of_ble_eq_true rfl) dX6_draw_16 ⟨Nat.le_of_ble_eq_true rfl, Nat.le_of_ble_eq_true rfl⟩ (fun H locs hP hD hS => ?_)
    refine kb_if_ne S dX6_draw_19 (tgt := 24) (by decide) (fun c19 => ?_) (fun c19 => ?_)
    · exact absurd c19 (by decide)
    · refine lv_iconst (v := nI 0) S.1 S.2.1 dX6_draw_22 (by decide) ?_
      exact hret _ _ _ _ dX6_draw_23 hP hD hS
  · exact absurd c8 (by decide)

set_option maxHeartbeats 4000000 in
set_option maxRecDepth 100000 in
theorem c_X6_draw (l : Launch) (D : va_G) (cyI cyJ cyZ : ClassId) (sz : Nat) (m0 : Nat) (m1 : Nat) (m2 : Nat) (m3 : Nat) (m4 : Nat) (m5 : Nat) (m6 : Nat) (th : Int32) (x : Nat) (sp : Bool) (n0 : Nat) (ac : Nat) (re : Nat) (sl : Int32) (fa : Int32) (db : Int32) (v : Nat) (hv : 1 ≤ v) (hv2 : v ≤ 65536) : Met l yX6_draw wsX6_draw ({ frames := 3, cells := 0, slots := 0, locals := 82 } : Room) (mPc D [(cyI, .int), (cyJ, .long), (cyZ, .boolean)] [(m0, .inr (6, [.int th, .ref m1, .int (nI x), .int (bI sp), .int (nI n0), .ref m2, .ref m3, .ref m4, .ref m5, .ref m6, .int (nI ac), .int (nI re), .int sl, .int fa, .int db]))] sz [.ref m0, .int (nI v)]) (va_Qi (fun (r : Int32) (u : va_W) => r = nI x ∧ u = [(m0, .inr (6, [.int (nI 0), .ref m1, .int (nI v), .int (bI sp), .int (nI n0), .ref m2, .ref m3, .ref m4, .ref m5, .ref m6, .int (nI ac), .int (nI re), .int sl, .int fa, .int db]))]) (mB D [(cyI, .int), (cyJ, .long), (cyZ, .boolean)] (va_A [(m0, .inr (6, [.int th, .ref m1, .int (nI x), .int (bI sp), .int (nI n0), .ref m2, .ref m3, .ref m4, .ref m5, .ref m6, .int (nI ac), .int (nI re), .int sl, .int fa, .int db]))] sz)) (va_A [(m0, .inr (6, [.int th, .ref m1, .int (nI x), .int (bI sp), .int (nI n0), .ref m2, .ref m3, .ref m4, .ref m5, .ref m6, .int (nI ac), .int (nI re), .int sl, .int fa, .int db]))] sz)) 0 0 (va_A [(m0, .inr (6, [.int th, .ref m1, .int (nI x), .int (bI sp), .int (nI n0), .ref m2, .ref m3, .ref m4, .ref m5, .ref m6, .int (nI ac), .int (nI re), .int sl, .int fa, .int db]))] sz) := by
  refine st_i (own := RX6) (lv0 := [(0, .ref m0), (1, .int (nI v))]) (by decide) rfl rfl (Nat.le_of_ble_eq_true rfl) rfl ?_
  intro p e s m below meth c A Q S hin hA hK hP hD hG hS hret ls hl
  have hw_X6 : ∀ w ∈ u_ws RX6 TX6 15, w ∈ wsX6_draw := by decide +kernel
  have hf_13 := S.2.2.2.2 (.fieldLink RX6 13 "ParticlewayModel" "chance" "I") (by decide +kernel)
  refine lv_aload_n S.1 S.2.1 dX6_draw_0 rfl (lv_at hl 0 rfl) ?_
  refine lv_iload_n S.1 S.2.1 dX6_draw_1 rfl (lv_at hl 1 rfl) ?_
  refine lv_iconst (v := nI 1) S.1 S.2.1 dX6_draw_2 (by decide) ?_
  refine lv_ldc (v := 65536) S.1 S.2.1 S.2.2.2.1 (S.2.2.2.2 (.constant RX6 57 65536) (by decide +kernel)) dX6_draw_3 ?_
  refine k_topi (y := nI 65536) (by decide) ?_
  refine kcS_i S (wc := []) (wr := [(m0, .inr (6, [.int th, .ref m1, .int (nI x), .int (bI sp), .int (nI n0), .ref m2, .ref m3, .ref m4, .ref m5, .ref m6, .int (nI ac), .int (nI re), .int sl, .int fa, .int db]))]) (ws2 := [(m0, .inr (6, [.int th, .ref m1, .int (nI x), .int (bI sp), .int (nI n0), .ref m2, .ref m3, .ref m4, .ref m5, .ref m6, .int (nI ac), .int (nI re), .int sl, .int fa, .int db]))]) (As := [.int (nI v), .int (nI 1), .int (nI 65536)]) (rest := [.ref m0]) (c_X6_in_n l D cyI cyJ cyZ s.heap.size v 1 65536 (by first | assumption | omega) (by first | assumption | omega) (by first | assumption | omega)) (va_cwS 3 S.2.2.2.2 gX6_draw_X6_in rfl rfl rfl (by decide +kernel) ⟨Nat.le_of_ble_eq_true rfl, Nat.le_of_ble_eq_true rfl⟩) hK hP hD hS hA hG [] [0] [0] rfl rfl rfl rfl (by decide) rfl rfl rfl hl.1 rfl (Nat.le_of_ble_eq_true rfl) dX6_draw_5 ⟨Nat.le_of_ble_eq_true rfl, Nat.le_of_ble_eq_true rfl⟩ (fun H locs hP hD hS => ?_)
  refine k_topi (y := bI true) (by rw [decide_eq_true (by omega)]) ?_
  refine kb_if_eq S dX6_draw_8 (tgt := 15) (by decide) (fun c8 => ?_) (fun c8 => ?_)
  · exact absurd c8 (by decide)
  · refine lv_iconst (v := nI 0) S.1 S.2.1 dX6_draw_11 (by decide) ?_
    refine lv_goto (tgt := 16) S.1 S.2.1 dX6_draw_12 (by decide) ?_
    refine kcV_i S (wc := [(m0, .inr (6, [.int th, .ref m1, .int (nI x), .int (bI sp), .int (nI n0), .ref m2, .ref m3, .ref m4, .ref m5, .ref m6, .int (nI ac), .int (nI re), .int sl, .int fa, .int db]))]) (wr := []) (ws2 := [(m0, .inr (6, [.int (nI 0), .ref m1, .int (nI x), .int (bI sp), .int (nI n0), .ref m2, .ref m3, .ref m4, .ref m5, .ref m6, .int (nI ac), .int (nI re), .int sl, .int fa, .int db]))]) (As := [.int (nI 0)]) (rest := []) (c_X6_goesWell_0 l D cyI cyJ cyZ H.size m0 m1 m2 m3 m4 m5 m6 th x sp n0 ac re sl fa db ) (cwV 1 S.2.2.2.2 gX6_draw_X6_goesWell rfl rfl rfl (by decide +kernel) ⟨Nat.le_of_ble_eq_true rfl, Nat.le_of_ble_eq_true rfl⟩) hK hP hD hS hA hG [0] [] [0] rfl rfl rfl rfl (by decide) rfl rfl (ci := 6) (q0 := 0) rfl rfl rfl hl.1 rfl (Nat.le_of_ble_eq_true rfl) dX6_draw_16 ⟨Nat.le_of_ble_eq_true rfl, Nat.le_of_ble_eq_true rfl⟩ (fun H locs hP hD hS => ?_)
    refine kb_if_ne S dX6_draw_19 (tgt := 24) (by decide) (fun c19 => ?_) (fun c19 => ?_)
    · refine lv_aload_n S.1 S.2.1 dX6_draw_24 rfl (lv_at hl 0 rfl) ?_
      refine k_get S (C := RX6) (T := TX6) (N := 15) (ci := 6) hw_X6 hK hP 0 rfl rfl 2 (by decide) hf_13 rfl (v := .int (nI x)) rfl dX6_draw_25 ?_
      refine lv_istore_n (lv' := [(2, .int (nI x)), (0, .ref m0), (1, .int (nI v))]) S.1 S.2.1 dX6_draw_28 rfl hl (by decide) rfl (fun ls hl => ?_)
      refine lv_aload_n S.1 S.2.1 dX6_draw_29 rfl (lv_at hl 1 rfl) ?_
      refine lv_iload_n S.1 S.2.1 dX6_draw_30 rfl (lv_at hl 2 rfl) ?_
      refine k_put S (C := RX6) (T := TX6) (N := 15) (ci := 6) (ws2 := [(m0, .inr (6, [.int (nI 0), .ref m1, .int (nI v), .int (bI sp), .int (nI n0), .ref m2, .ref m3, .ref m4, .ref m5, .ref m6, .int (nI ac), .int (nI re), .int sl, .int fa, .int db]))]) hw_X6 tyX6 tyX6_ok nmX6 hK hP hD hS 0 rfl rfl 2 (by decide) hf_13 rfl rfl rfl rfl (Nat.le_of_ble_eq_true rfl) dX6_draw_31 rfl (fun H locs hP hD hS => ?_)
      refine lv_iload_n S.1 S.2.1 dX6_draw_34 rfl (lv_at hl 0 rfl) ?_
      exact hret _ _ _ _ dX6_draw_35 hP hD hS
    · exact absurd c19 (by decide)

set_option maxHeartbeats 4000000 in
set_option maxRecDepth 100000 in
theorem c_X6_spread_1 (l : Launch) (D : va_G) (cyI cyJ cyZ : ClassId) (sz : Nat) (m0 : Nat) (m1 : Nat) (m2 : Nat) (m3 : Nat) (m4 : Nat) (m5 : Nat) (m6 : Nat) (th : Int32) (x : Nat) (sp : Bool) (n0 : Nat) (ac : Nat) (re : Nat) (sl : Int32) (fa : Int32) (db : Int32) (v : Int32) (hv : inB v (nI 8) (nI 64) = false) : Met l yX6_spread wsX6_spread ({ frames := 3, cells := 0, slots := 0, locals := 82 } : Room) (mPc D [(cyI, .int), (cyJ, .long), (cyZ, .boolean)] [(m0, .inr (6, [.int th, .ref m1, .int (nI x), .int (bI sp), .int (nI n0), .ref m2, .ref m3, .ref m4, .ref m5, .ref m6, .int (nI ac), .int (nI re), .int sl, .int fa, .int db]))] sz [.ref m0, .int v]) (va_Qv (fun (u : va_W) => u = [(m0, .inr (6, [.int (nI 1), .ref m1, .int (nI x), .int (bI sp), .int (nI n0), .ref m2, .ref m3, .ref m4, .ref m5, .ref m6, .int (nI ac), .int (nI re), .int sl, .int fa, .int db]))]) (mB D [(cyI, .int), (cyJ, .long), (cyZ, .boolean)] (va_A [(m0, .inr (6, [.int th, .ref m1, .int (nI x), .int (bI sp), .int (nI n0), .ref m2, .ref m3, .ref m4, .ref m5, .ref m6, .int (nI ac), .int (nI re), .int sl, .int fa, .int db]))] sz)) (va_A [(m0, .inr (6, [.int th, .ref m1, .int (nI x), .int (bI sp), .int (nI n0), .ref m2, .ref m3, .ref m4, .ref m5, .ref m6, .int (nI ac), .int (nI re), .int sl, .int fa, .int db]))] sz)) 0 0 (va_A [(m0, .inr (6, [.int th, .ref m1, .int (nI x), .int (bI sp), .int (nI n0), .ref m2, .ref m3, .ref m4, .ref m5, .ref m6, .int (nI ac), .int (nI re), .int sl, .int fa, .int db]))] sz) := by
  refine st_v (own := RX6) (lv0 := [(0, .ref m0), (1, .int v)]) (by decide) rfl rfl (Nat.le_of_ble_eq_true rfl) rfl ?_
  intro p e s m below meth c A Q S hin hA hK hP hD hG hS hret ls hl
  refine lv_aload_n S.1 S.2.1 dX6_spread_0 rfl (lv_at hl 0 rfl) ?_
  refine lv_iload_n S.1 S.2.1 dX6_spread_1 rfl (lv_at hl 1 rfl) ?_
  refine lv_bipush (v := nI 8) S.1 S.2.1 dX6_spread_2 (by decide) ?_
  refine lv_bipush (v := nI 64) S.1 S.2.1 dX6_spread_4 (by decide) ?_
  refine kcS_i S (wc := []) (wr := [(m0, .inr (6, [.int th, .ref m1, .int (nI x), .int (bI sp), .int (nI n0), .ref m2, .ref m3, .ref m4, .ref m5, .ref m6, .int (nI ac), .int (nI re), .int sl, .int fa, .int db]))]) (ws2 := [(m0, .inr (6, [.int th, .ref m1, .int (nI x), .int (bI sp), .int (nI n0), .ref m2, .ref m3, .ref m4, .ref m5, .ref m6, .int (nI ac), .int (nI re), .int sl, .int fa, .int db]))]) (As := [.int v, .int (nI 8), .int (nI 64)]) (rest := [.ref m0]) (c_X6_in l D cyI cyJ cyZ s.heap.size v (nI 8) (nI 64) ) (va_cwS 3 S.2.2.2.2 gX6_spread_X6_in rfl rfl rfl (by decide +kernel) ⟨Nat.le_of_ble_eq_true rfl, Nat.le_of_ble_eq_true rfl⟩) hK hP hD hS hA hG [] [0] [0] rfl rfl rfl rfl (by decide) rfl rfl rfl hl.1 rfl (Nat.le_of_ble_eq_true rfl) dX6_spread_6 ⟨Nat.le_of_ble_eq_true rfl, Nat.le_of_ble_eq_true rfl⟩ (fun H locs hP hD hS => ?_)
  refine k_topi (y := bI false) (by rw [hv]) ?_
  refine kb_if_eq S dX6_spread_9 (tgt := 16) (by decide) (fun c9 => ?_) (fun c9 => ?_)
  · refine lv_iconst (v := nI 1) S.1 S.2.1 dX6_spread_16 (by decide) ?_
    refine kcV_i S (wc := [(m0, .inr (6, [.int th, .ref m1, .int (nI x), .int (bI sp), .int (nI n0), .ref m2, .ref m3, .ref m4, .ref m5, .ref m6, .int (nI ac), .int (nI re), .int sl, .int fa, .int db]))]) (wr := []) (ws2 := [(m0, .inr (6, [.int (nI 1), .ref m1, .int (nI x), .int (bI sp), .int (nI n0), .ref m2, .ref m3, .ref m4, .ref m5, .ref m6, .int (nI ac), .int (nI re), .int sl, .int fa, .int db]))]) (As := [.int (nI 1)]) (rest := []) (c_X6_goesWell_k l D cyI cyJ cyZ H.size m0 m1 m2 m3 m4 m5 m6 th x sp n0 ac re sl fa db 1 (by first | assumption | omega) (by first | assumption | omega)) (cwV 1 S.2.2.2.2 gX6_spread_X6_goesWell rfl rfl rfl (by decide +kernel) ⟨Nat.le_of_ble_eq_true rfl, Nat.le_of_ble_eq_true rfl⟩) hK hP hD hS hA hG [0] [] [0] rfl rfl rfl rfl (by decide) rfl rfl (ci := 6) (q0 := 0) rfl rfl rfl hl.1 rfl (Nat.le_of_ble_eq_true rfl) dX6_spread_17 ⟨Nat.le_of_ble_eq_true rfl, Nat.le_of_ble_eq_true rfl⟩ (fun H locs hP hD hS => ?_)
    refine kb_if_ne S dX6_spread_20 (tgt := 24) (by decide) (fun c20 => ?_) (fun c20 => ?_)
    · exact absurd c20 (by decide)
    · exact hret _ _ _ _ dX6_spread_23 hP hD hS
  · exact absurd c9 (by decide)

set_option maxHeartbeats 4000000 in
set_option maxRecDepth 100000 in
theorem c_X6_spread (l : Launch) (D : va_G) (cyI cyJ cyZ : ClassId) (sz : Nat) (m0 : Nat) (m1 : Nat) (m2 : Nat) (m3 : Nat) (m4 : Nat) (m5 : Nat) (m6 : Nat) (th : Int32) (x : Nat) (sp : Bool) (n0 : Nat) (ac : Nat) (re : Nat) (sl : Int32) (fa : Int32) (db : Int32) (w : Nat → Bool) (cs : Nat → Nat) (b0 : Nat → Nat) (k : Nat) (hk8 : 8 ≤ k) (hk : k ≤ 64) (hx : x < 65537) (hf0 : 0 < cntF w 64) : Met l yX6_spread wsX6_spread ({ frames := 4, cells := 0, slots := 0, locals := 104 } : Room) (mPc D [(cyI, .int), (cyJ, .long), (cyZ, .boolean)] [(m0, .inr (6, [.int th, .ref m1, .int (nI x), .int (bI sp), .int (nI n0), .ref m2, .ref m3, .ref m4, .ref m5, .ref m6, .int (nI ac), .int (nI re), .int sl, .int fa, .int db])), (m1, .inl (cyZ, 64, .inl (aZ w))), (m2, .inl (cyI, 64, .inl (aI cs))), (m5, .inl (cyJ, 64, .inr (.inl (aL b0))))] sz [.ref m0, .int (nI k)]) (va_Qv (fun (u : va_W) => u = [(m0, .inr (6, [.int (nI 0), .ref m1, .int (nI (nxn x k)), .int (bI true), .int (nI k), .ref m2, .ref m3, .ref m4, .ref m5, .ref m6, .int (nI 0), .int (nI 0), .int sl, .int fa, .int (nI 0)])), (m1, .inl (cyZ, 64, .inl (aZ w))), (m2, .inl (cyI, 64, .inl (aI (spC w x cs k)))), (m5, .inl (cyJ, 64, .inr (.inl (aL (bal w)))))]) (mB D [(cyI, .int), (cyJ, .long), (cyZ, .boolean)] (va_A [(m0, .inr (6, [.int th, .ref m1, .int (nI x), .int (bI sp), .int (nI n0), .ref m2, .ref m3, .ref m4, .ref m5, .ref m6, .int (nI ac), .int (nI re), .int sl, .int fa, .int db])), (m1, .inl (cyZ, 64, .inl (aZ w))), (m2, .inl (cyI, 64, .inl (aI cs))), (m5, .inl (cyJ, 64, .inr (.inl (aL b0))))] sz)) (va_A [(m0, .inr (6, [.int th, .ref m1, .int (nI x), .int (bI sp), .int (nI n0), .ref m2, .ref m3, .ref m4, .ref m5, .ref m6, .int (nI ac), .int (nI re), .int sl, .int fa, .int db])), (m1, .inl (cyZ, 64, .inl (aZ w))), (m2, .inl (cyI, 64, .inl (aI cs))), (m5, .inl (cyJ, 64, .inr (.inl (aL b0))))] sz)) 0 0 (va_A [(m0, .inr (6, [.int th, .ref m1, .int (nI x), .int (bI sp), .int (nI n0), .ref m2, .ref m3, .ref m4, .ref m5, .ref m6, .int (nI ac), .int (nI re), .int sl, .int fa, .int db])), (m1, .inl (cyZ, 64, .inl (aZ w))), (m2, .inl (cyI, 64, .inl (aI cs))), (m5, .inl (cyJ, 64, .inr (.inl (aL b0))))] sz) := by
  refine st_v (own := RX6) (lv0 := [(0, .ref m0), (1, .int (nI k))]) (by decide) rfl rfl (Nat.le_of_ble_eq_true rfl) rfl ?_
  intro p e s m below meth c A Q S hin hA hK hP hD hG hS hret ls hl
  have hw_X6 : ∀ w ∈ u_ws RX6 TX6 15, w ∈ wsX6_spread := by decide +kernel
  have hf_49 := S.2.2.2.2 (.fieldLink RX6 49 "ParticlewayModel" "isSpread" "Z") (by decide +kernel)
  have hf_69 := S.2.2.2.2 (.fieldLink RX6 69 "ParticlewayModel" "samples" "I") (by decide +kernel)
  have hf_78 := S.2.2.2.2 (.fieldLink RX6 78 "ParticlewayModel" "acts" "I") (by decide +kernel)
  have hf_81 := S.2.2.2.2 (.fieldLink RX6 81 "ParticlewayModel" "readings" "I") (by decide +kernel)
  have hf_84 := S.2.2.2.2 (.fieldLink RX6 84 "ParticlewayModel" "doubt" "I") (by decide +kernel)
  have hf_17 := S.2.2.2.2 (.fieldLink RX6 17 "ParticlewayModel" "sample" "[I") (by decide +kernel)
  refine lv_aload_n S.1 S.2.1 dX6_spread_0 rfl (lv_at hl 0 rfl) ?_
  refine lv_iload_n S.1 S.2.1 dX6_spread_1 rfl (lv_at hl 1 rfl) ?_
  refine lv_bipush (v := nI 8) S.1 S.2.1 dX6_spread_2 (by decide) ?_
  refine lv_bipush (v := nI 64) S.1 S.2.1 dX6_spread_4 (by decide) ?_
  refine kcS_i S (wc := []) (wr := [(m0, .inr (6, [.int th, .ref m1, .int (nI x), .int (bI sp), .int (nI n0), .ref m2, .ref m3, .ref m4, .ref m5, .ref m6, .int (nI ac), .int (nI re), .int sl, .int fa, .int db])), (m1, .inl (cyZ, 64, .inl (aZ w))), (m2, .inl (cyI, 64, .inl (aI cs))), (m5, .inl (cyJ, 64, .inr (.inl (aL b0))))]) (ws2 := [(m0, .inr (6, [.int th, .ref m1, .int (nI x), .int (bI sp), .int (nI n0), .ref m2, .ref m3, .ref m4, .ref m5, .ref m6, .int (nI ac), .int (nI re), .int sl, .int fa, .int db])), (m1, .inl (cyZ, 64, .inl (aZ w))), (m2, .inl (cyI, 64, .inl (aI cs))), (m5, .inl (cyJ, 64, .inr (.inl (aL b0))))]) (As := [.int (nI k), .int (nI 8), .int (nI 64)]) (rest := [.ref m0]) (c_X6_in_n l D cyI cyJ cyZ s.heap.size k 8 64 (by first | assumption | omega) (by first | assumption | omega) (by first | assumption | omega)) (va_cwS 3 S.2.2.2.2 gX6_spread_X6_in rfl rfl rfl (by decide +kernel) ⟨Nat.le_of_ble_eq_true rfl, Nat.le_of_ble_eq_true rfl⟩) hK hP hD hS hA hG [] [0, 1, 2, 3] [0, 1, 2, 3] rfl rfl rfl rfl (by decide) rfl rfl rfl hl.1 rfl (Nat.le_of_ble_eq_true rfl) dX6_spread_6 ⟨Nat.le_of_ble_eq_true rfl, Nat.le_of_ble_eq_true rfl⟩ (fun H locs hP hD hS => ?_)
  refine k_topi (y := bI true) (by rw [decide_eq_true (by omega)]) ?_
  refine kb_if_eq S dX6_spread_9 (tgt := 16) (by decide) (fun c9 => ?_) (fun c9 => ?_)
  · exact absurd c9 (by decide)
  · refine lv_iconst (v := nI 0) S.1 S.2.1 dX6_spread_12 (by decide) ?_
    refine lv_goto (tgt := 17) S.1 S.2.1 dX6_spread_13 (by decide) ?_
    refine kcV_i S (wc := [(m0, .inr (6, [.int th, .ref m1, .int (nI x), .int (bI sp), .int (nI n0), .ref m2, .ref m3, .ref m4, .ref m5, .ref m6, .int (nI ac), .int (nI re), .int sl, .int fa, .int db]))]) (wr := [(m1, .inl (cyZ, 64, .inl (aZ w))), (m2, .inl (cyI, 64, .inl (aI cs))), (m5, .inl (cyJ, 64, .inr (.inl (aL b0))))]) (ws2 := [(m0, .inr (6, [.int (nI 0), .ref m1, .int (nI x), .int (bI sp), .int (nI n0), .ref m2, .ref m3, .ref m4, .ref m5, .ref m6, .int (nI ac), .int (nI re), .int sl, .int fa, .int db])), (m1, .inl (cyZ, 64, .inl (aZ w))), (m2, .inl (cyI, 64, .inl (aI cs))), (m5, .inl (cyJ, 64, .inr (.inl (aL b0))))]) (As := [.int (nI 0)]) (rest := []) (c_X6_goesWell_0 l D cyI cyJ cyZ H.size m0 m1 m2 m3 m4 m5 m6 th x sp n0 ac re sl fa db ) (cwV 1 S.2.2.2.2 gX6_spread_X6_goesWell rfl rfl rfl (by decide +kernel) ⟨Nat.le_of_ble_eq_true rfl, Nat.le_of_ble_eq_true rfl⟩) hK hP hD hS hA hG [0] [1, 2, 3] [3, 0, 1, 2] rfl rfl rfl rfl (by decide) rfl rfl (ci := 6) (q0 := 0) rfl rfl rfl hl.1 rfl (Nat.le_of_ble_eq_true rfl) dX6_spread_17 ⟨Nat.le_of_ble_eq_true rfl, Nat.le_of_ble_eq_true rfl⟩ (fun H locs hP hD hS => ?_)
    refine kb_if_ne S dX6_spread_20 (tgt := 24) (by decide) (fun c20 => ?_) (fun c20 => ?_)
    · refine lv_aload_n S.1 S.2.1 dX6_spread_24 rfl (lv_at hl 0 rfl) ?_
      refine lv_iconst (v := nI 1) S.1 S.2.1 dX6_spread_25 (by decide) ?_
      refine k_topi (y := bI true) (by decide) ?_
      refine k_put S (C := RX6) (T := TX6) (N := 15) (ci := 6) (ws2 := [(m0, .inr (6, [.int (nI 0), .ref m1, .int (nI x), .int (bI true), .int (nI n0), .ref m2, .ref m3, .ref m4, .ref m5, .ref m6, .int (nI ac), .int (nI re), .int sl, .int fa, .int db])), (m1, .inl (cyZ, 64, .inl (aZ w))), (m2, .inl (cyI, 64, .inl (aI cs))), (m5, .inl (cyJ, 64, .inr (.inl (aL b0))))]) hw_X6 tyX6 tyX6_ok nmX6 hK hP hD hS 0 rfl rfl 3 (by decide) hf_49 rfl rfl (nar_bI _) (fit_bI _) (Nat.le_of_ble_eq_true rfl) dX6_spread_26 rfl (fun H locs hP hD hS => ?_)
      refine lv_aload_n S.1 S.2.1 dX6_spread_29 rfl (lv_at hl 0 rfl) ?_
      refine lv_iload_n S.1 S.2.1 dX6_spread_30 rfl (lv_at hl 1 rfl) ?_
      refine k_put S (C := RX6) (T := TX6) (N := 15) (ci := 6) (ws2 := [(m0, .inr (6, [.int (nI 0), .ref m1, .int (nI x), .int (bI true), .int (nI k), .ref m2, .ref m3, .ref m4, .ref m5, .ref m6, .int (nI ac), .int (nI re), .int sl, .int fa, .int db])), (m1, .inl (cyZ, 64, .inl (aZ w))), (m2, .inl (cyI, 64, .inl (aI cs))), (m5, .inl (cyJ, 64, .inr (.inl (aL b0))))]) hw_X6 tyX6 tyX6_ok nmX6 hK hP hD hS 0 rfl rfl 4 (by decide) hf_69 rfl rfl rfl rfl (Nat.le_of_ble_eq_true rfl) dX6_spread_31 rfl (fun H locs hP hD hS => ?_)
      refine lv_iconst (v := nI 0) S.1 S.2.1 dX6_spread_34 (by decide) ?_
      refine lv_istore_n (lv' := [(2, .int (nI 0)), (0, .ref m0), (1, .int (nI k))]) S.1 S.2.1 dX6_spread_35 rfl hl (by decide) rfl (fun ls hl => ?_)
      refine wl (σ := Nat × Nat × (Nat → Nat)) (fun (i, y, us) => [(m0, .inr (6, [.int (nI 0), .ref m1, .int (nI y), .int (bI true), .int (nI k), .ref m2, .ref m3, .ref m4, .ref m5, .ref m6, .int (nI ac), .int (nI re), .int sl, .int fa, .int db])), (m1, .inl (cyZ, 64, .inl (aZ w))), (m2, .inl (cyI, 64, .inl (aI us))), (m5, .inl (cyJ, 64, .inr (.inl (aL b0))))]) (fun (i, y, us) => [(2, .int (nI i)), (0, .ref m0), (1, .int (nI k))]) (fun (i, y, us) => (i ≤ k) ∧ (y = nxn x i) ∧ (∀ j, us j = spC w x cs i j)) (fun (i, y, us) => k - i) ?_ (0, x, cs) ⟨by omega, rfl, fun j => by simp [spC]⟩ hP hD hS (lv_sub hl [0, 1, 2] rfl)
      rintro ⟨i, y, us⟩ ⟨hi, hy, hu⟩ ih36 H locs ls hP hD hS hl
      have hP : va_P D vwCl [(m0, .inr (6, [.int (nI 0), .ref m1, .int (nI y), .int (bI true), .int (nI k), .ref m2, .ref m3, .ref m4, .ref m5, .ref m6, .int (nI ac), .int (nI re), .int sl, .int fa, .int db])), (m1, .inl (cyZ, 64, .inl (aZ w))), (m2, .inl (cyI, 64, .inl (aI us))), (m5, .inl (cyJ, 64, .inr (.inl (aL b0))))] H := hP
      have hD : va_D A [(m0, .inr (6, [.int (nI 0), .ref m1, .int (nI y), .int (bI true), .int (nI k), .ref m2, .ref m3, .ref m4, .ref m5, .ref m6, .int (nI ac), .int (nI re), .int sl, .int fa, .int db])), (m1, .inl (cyZ, 64, .inl (aZ w))), (m2, .inl (cyI, 64, .inl (aI us))), (m5, .inl (cyJ, 64, .inr (.inl (aL b0))))] := hD
      have hl : lv_has ls 3 [(2, .int (nI i)), (0, .ref m0), (1, .int (nI k))] := hl
      refine lv_iload_n S.1 S.2.1 dX6_spread_36 rfl (lv_at hl 0 rfl) ?_
      refine lv_iload_n S.1 S.2.1 dX6_spread_37 rfl (lv_at hl 2 rfl) ?_
      refine kn_icmp_ge S (by omega) (by omega) dX6_spread_38 (tgt := 57) (by decide) (fun c38 => ?_) (fun c38 => ?_)
      · have hyk : y = nxn x k := (by rw [hy, show i = k by omega])
        subst hyk
        obtain ⟨hP, hD⟩ := P_re (ws2 := [(m0, .inr (6, [.int (nI 0), .ref m1, .int (nI (nxn x k)), .int (bI true), .int (nI k), .ref m2, .ref m3, .ref m4, .ref m5, .ref m6, .int (nI ac), .int (nI re), .int sl, .int fa, .int db])), (m1, .inl (cyZ, 64, .inl (aZ w))), (m2, .inl (cyI, 64, .inl (aI (spC w x cs k)))), (m5, .inl (cyJ, 64, .inr (.inl (aL b0))))]) hP hD 2 rfl (cell_aI (fun j hj => by rw [hu j, show i = k by omega])) rfl
        refine lv_aload_n S.1 S.2.1 dX6_spread_57 rfl (lv_at hl 1 rfl) ?_
        refine kcV_v S (wc := [(m0, .inr (6, [.int (nI 0), .ref m1, .int (nI (nxn x k)), .int (bI true), .int (nI k), .ref m2, .ref m3, .ref m4, .ref m5, .ref m6, .int (nI ac), .int (nI re), .int sl, .int fa, .int db])), (m1, .inl (cyZ, 64, .inl (aZ w))), (m5, .inl (cyJ, 64, .inr (.inl (aL b0))))]) (wr := [(m2, .inl (cyI, 64, .inl (aI (spC w x cs k))))]) (ws2 := [(m0, .inr (6, [.int (nI 0), .ref m1, .int (nI (nxn x k)), .int (bI true), .int (nI k), .ref m2, .ref m3, .ref m4, .ref m5, .ref m6, .int (nI ac), .int (nI re), .int sl, .int fa, .int db])), (m1, .inl (cyZ, 64, .inl (aZ w))), (m2, .inl (cyI, 64, .inl (aI (spC w x cs k)))), (m5, .inl (cyJ, 64, .inr (.inl (aL (bal w)))))]) (As := []) (rest := []) (c_X6_believeAll l D cyI cyJ cyZ H.size m0 m1 m2 m3 m4 m5 m6 (nI 0) (nxn x k) true k ac re sl fa db w b0 ) (cwV 0 S.2.2.2.2 gX6_spread_X6_believeAll rfl rfl rfl (by decide +kernel) ⟨Nat.le_of_ble_eq_true rfl, Nat.le_of_ble_eq_true rfl⟩) hK hP hD hS hA hG [0, 1, 3] [2] [1, 2, 0, 3] rfl rfl rfl rfl (by decide) rfl rfl (ci := 6) (q0 := 0) rfl rfl rfl hl.1 rfl (Nat.le_of_ble_eq_true rfl) dX6_spread_58 ⟨Nat.le_of_ble_eq_true rfl, Nat.le_of_ble_eq_true rfl⟩ (fun H locs hP hD hS => ?_)
        refine lv_aload_n S.1 S.2.1 dX6_spread_61 rfl (lv_at hl 1 rfl) ?_
        refine lv_iconst (v := nI 0) S.1 S.2.1 dX6_spread_62 (by decide) ?_
        refine k_put S (C := RX6) (T := TX6) (N := 15) (ci := 6) (ws2 := [(m0, .inr (6, [.int (nI 0), .ref m1, .int (nI (nxn x k)), .int (bI true), .int (nI k), .ref m2, .ref m3, .ref m4, .ref m5, .ref m6, .int (nI 0), .int (nI re), .int sl, .int fa, .int db])), (m1, .inl (cyZ, 64, .inl (aZ w))), (m2, .inl (cyI, 64, .inl (aI (spC w x cs k)))), (m5, .inl (cyJ, 64, .inr (.inl (aL (bal w)))))]) hw_X6 tyX6 tyX6_ok nmX6 hK hP hD hS 0 rfl rfl 10 (by decide) hf_78 rfl rfl rfl rfl (Nat.le_of_ble_eq_true rfl) dX6_spread_63 rfl (fun H locs hP hD hS => ?_)
        refine lv_aload_n S.1 S.2.1 dX6_spread_66 rfl (lv_at hl 1 rfl) ?_
        refine lv_iconst (v := nI 0) S.1 S.2.1 dX6_spread_67 (by decide) ?_
        refine k_put S (C := RX6) (T := TX6) (N := 15) (ci := 6) (ws2 := [(m0, .inr (6, [.int (nI 0), .ref m1, .int (nI (nxn x k)), .int (bI true), .int (nI k), .ref m2, .ref m3, .ref m4, .ref m5, .ref m6, .int (nI 0), .int (nI 0), .int sl, .int fa, .int db])), (m1, .inl (cyZ, 64, .inl (aZ w))), (m2, .inl (cyI, 64, .inl (aI (spC w x cs k)))), (m5, .inl (cyJ, 64, .inr (.inl (aL (bal w)))))]) hw_X6 tyX6 tyX6_ok nmX6 hK hP hD hS 0 rfl rfl 11 (by decide) hf_81 rfl rfl rfl rfl (Nat.le_of_ble_eq_true rfl) dX6_spread_68 rfl (fun H locs hP hD hS => ?_)
        refine lv_aload_n S.1 S.2.1 dX6_spread_71 rfl (lv_at hl 1 rfl) ?_
        refine lv_iconst (v := nI 0) S.1 S.2.1 dX6_spread_72 (by decide) ?_
        refine k_put S (C := RX6) (T := TX6) (N := 15) (ci := 6) (ws2 := [(m0, .inr (6, [.int (nI 0), .ref m1, .int (nI (nxn x k)), .int (bI true), .int (nI k), .ref m2, .ref m3, .ref m4, .ref m5, .ref m6, .int (nI 0), .int (nI 0), .int sl, .int fa, .int (nI 0)])), (m1, .inl (cyZ, 64, .inl (aZ w))), (m2, .inl (cyI, 64, .inl (aI (spC w x cs k)))), (m5, .inl (cyJ, 64, .inr (.inl (aL (bal w)))))]) hw_X6 tyX6 tyX6_ok nmX6 hK hP hD hS 0 rfl rfl 14 (by decide) hf_84 rfl rfl rfl rfl (Nat.le_of_ble_eq_true rfl) dX6_spread_73 rfl (fun H locs hP hD hS => ?_)
        exact hret _ _ _ _ dX6_spread_76 hP hD hS
      · have hyl : y < 65537 := (by rw [hy]; exact nxn_lt hx i)
        have hkf := (kth_free (Nat.mod_lt (nx y) hf0)).1
        refine lv_aload_n S.1 S.2.1 dX6_spread_41 rfl (lv_at hl 1 rfl) ?_
        refine k_get S (C := RX6) (T := TX6) (N := 15) (ci := 6) hw_X6 hK hP 0 rfl rfl 5 (by decide) hf_17 rfl (v := .ref m2) rfl dX6_spread_42 ?_
        refine lv_iload_n S.1 S.2.1 dX6_spread_45 rfl (lv_at hl 0 rfl) ?_
        refine lv_aload_n S.1 S.2.1 dX6_spread_46 rfl (lv_at hl 1 rfl) ?_
        refine kcV_i S (wc := [(m0, .inr (6, [.int (nI 0), .ref m1, .int (nI y), .int (bI true), .int (nI k), .ref m2, .ref m3, .ref m4, .ref m5, .ref m6, .int (nI ac), .int (nI re), .int sl, .int fa, .int db])), (m1, .inl (cyZ, 64, .inl (aZ w)))]) (wr := [(m2, .inl (cyI, 64, .inl (aI us))), (m5, .inl (cyJ, 64, .inr (.inl (aL b0))))]) (ws2 := [(m0, .inr (6, [.int (nI 0), .ref m1, .int (nI (nx y)), .int (bI true), .int (nI k), .ref m2, .ref m3, .ref m4, .ref m5, .ref m6, .int (nI ac), .int (nI re), .int sl, .int fa, .int db])), (m1, .inl (cyZ, 64, .inl (aZ w))), (m2, .inl (cyI, 64, .inl (aI us))), (m5, .inl (cyJ, 64, .inr (.inl (aL b0))))]) (As := []) (rest := [.int (nI i), .ref m2]) (c_X6_drawCell l D cyI cyJ cyZ H.size m0 m1 m2 m3 m4 m5 m6 (nI 0) y true k ac re sl fa db w (by first | assumption | omega) (by first | assumption | omega)) (cwV 0 S.2.2.2.2 gX6_spread_X6_drawCell rfl rfl rfl (by decide +kernel) ⟨Nat.le_of_ble_eq_true rfl, Nat.le_of_ble_eq_true rfl⟩) hK hP hD hS hA hG [0, 1] [2, 3] [2, 3, 0, 1] rfl rfl rfl rfl (by decide) rfl rfl (ci := 6) (q0 := 0) rfl rfl rfl hl.1 rfl (Nat.le_of_ble_eq_true rfl) dX6_spread_47 ⟨Nat.le_of_ble_eq_true rfl, Nat.le_of_ble_eq_true rfl⟩ (fun H locs hP hD hS => ?_)
        refine kn_iast S hK hP hD hS (ws2 := [(m0, .inr (6, [.int (nI 0), .ref m1, .int (nI (nx y)), .int (bI true), .int (nI k), .ref m2, .ref m3, .ref m4, .ref m5, .ref m6, .int (nI ac), .int (nI re), .int sl, .int fa, .int db])), (m1, .inl (cyZ, 64, .inl (aZ w))), (m2, .inl (cyI, 64, .inl (aI (va_up us i (kth w (nx y % (cntF w 64))))))), (m5, .inl (cyJ, 64, .inr (.inl (aL b0))))]) 2 0 rfl rfl (by omega) (by decide) dX6_spread_50 rfl (fun H locs hP hD hS => ?_)
        refine lv_iinc (v := nI (i + 1)) (lv' := [(2, .int (nI (i + 1))), (0, .ref m0), (1, .int (nI k))]) S.1 S.2.1 dX6_spread_51 hl (k := 0) rfl (iinc_1 _) (by decide) rfl (fun ls hl => ?_)
        refine lv_goto (tgt := 36) S.1 S.2.1 dX6_spread_54 (by decide) ?_
        exact ih36 (i + 1, nx y, va_up us i (kth w (nx y % (cntF w 64)))) ⟨by omega, by rw [nxn, hy], fun j => by by_cases h : j = i; (· subst h; rw [up_at, spC, if_pos (by omega), nxn, hy]); (· rw [up_ne _ _ h, hu j, spC, spC]; by_cases h2 : j < i; (· rw [if_pos h2, if_pos (by omega)]); (· rw [if_neg h2, if_neg (by omega)]))⟩ (by show k - (i + 1) < k - i; omega) _ _ _ hP hD hS (lv_sub hl [0, 1, 2] rfl)
    · exact absurd c20 (by decide)

set_option maxHeartbeats 4000000 in
set_option maxRecDepth 100000 in
theorem c_X6_drive_1 (l : Launch) (D : va_G) (cyI cyJ cyZ : ClassId) (sz : Nat) (m0 : Nat) (m1 : Nat) (m2 : Nat) (m3 : Nat) (m4 : Nat) (m5 : Nat) (m6 : Nat) (th : Int32) (x : Nat) (sp : Bool) (n0 : Nat) (ac : Nat) (re : Nat) (sl : Int32) (fa : Int32) (db : Int32) (v : Int32) (hv : dirP v = false) : Met l yX6_drive wsX6_drive ({ frames := 4, cells := 0, slots := 0, locals := 102 } : Room) (mPc D [(cyI, .int), (cyJ, .long), (cyZ, .boolean)] [(m0, .inr (6, [.int th, .ref m1, .int (nI x), .int (bI sp), .int (nI n0), .ref m2, .ref m3, .ref m4, .ref m5, .ref m6, .int (nI ac), .int (nI re), .int sl, .int fa, .int db]))] sz [.ref m0, .int v]) (va_Qv (fun (u : va_W) => u = [(m0, .inr (6, [.int (nI 1), .ref m1, .int (nI x), .int (bI sp), .int (nI n0), .ref m2, .ref m3, .ref m4, .ref m5, .ref m6, .int (nI ac), .int (nI re), .int sl, .int fa, .int db]))]) (mB D [(cyI, .int), (cyJ, .long), (cyZ, .boolean)] (va_A [(m0, .inr (6, [.int th, .ref m1, .int (nI x), .int (bI sp), .int (nI n0), .ref m2, .ref m3, .ref m4, .ref m5, .ref m6, .int (nI ac), .int (nI re), .int sl, .int fa, .int db]))] sz)) (va_A [(m0, .inr (6, [.int th, .ref m1, .int (nI x), .int (bI sp), .int (nI n0), .ref m2, .ref m3, .ref m4, .ref m5, .ref m6, .int (nI ac), .int (nI re), .int sl, .int fa, .int db]))] sz)) 0 0 (va_A [(m0, .inr (6, [.int th, .ref m1, .int (nI x), .int (bI sp), .int (nI n0), .ref m2, .ref m3, .ref m4, .ref m5, .ref m6, .int (nI ac), .int (nI re), .int sl, .int fa, .int db]))] sz) := by
  refine st_v (own := RX6) (lv0 := [(0, .ref m0), (1, .int v)]) (by decide) rfl rfl (Nat.le_of_ble_eq_true rfl) rfl ?_
  intro p e s m below meth c A Q S hin hA hK hP hD hG hS hret ls hl
  refine lv_iload_n S.1 S.2.1 dX6_drive_0 rfl (lv_at hl 1 rfl) ?_
  refine kcS_i S (wc := []) (wr := [(m0, .inr (6, [.int th, .ref m1, .int (nI x), .int (bI sp), .int (nI n0), .ref m2, .ref m3, .ref m4, .ref m5, .ref m6, .int (nI ac), .int (nI re), .int sl, .int fa, .int db]))]) (ws2 := [(m0, .inr (6, [.int th, .ref m1, .int (nI x), .int (bI sp), .int (nI n0), .ref m2, .ref m3, .ref m4, .ref m5, .ref m6, .int (nI ac), .int (nI re), .int sl, .int fa, .int db]))]) (As := [.int v]) (rest := []) (c_X6_isDirection l D cyI cyJ cyZ s.heap.size v ) (va_cwS 1 S.2.2.2.2 gX6_drive_X6_isDirection rfl rfl rfl (by decide +kernel) ⟨Nat.le_of_ble_eq_true rfl, Nat.le_of_ble_eq_true rfl⟩) hK hP hD hS hA hG [] [0] [0] rfl rfl rfl rfl (by decide) rfl rfl rfl hl.1 rfl (Nat.le_of_ble_eq_true rfl) dX6_drive_1 ⟨Nat.le_of_ble_eq_true rfl, Nat.le_of_ble_eq_true rfl⟩ (fun H locs hP hD hS => ?_)
  refine k_topi (y := bI false) (by rw [hv]) ?_
  refine lv_istore_n (lv' := [(2, .int (bI false)), (0, .ref m0), (1, .int v)]) S.1 S.2.1 dX6_drive_4 rfl hl (by decide) rfl (fun ls hl => ?_)
  refine lv_aload_n S.1 S.2.1 dX6_drive_5 rfl (lv_at hl 1 rfl) ?_
  refine lv_iload_n S.1 S.2.1 dX6_drive_6 rfl (lv_at hl 0 rfl) ?_
  refine kb_if_ne S dX6_drive_7 (tgt := 14) (by decide) (fun c7 => ?_) (fun c7 => ?_)
  · exact absurd c7 (by decide)
  · refine lv_iconst (v := nI 1) S.1 S.2.1 dX6_drive_10 (by decide) ?_
    refine lv_goto (tgt := 36) S.1 S.2.1 dX6_drive_11 (by decide) ?_
    refine kcV_i S (wc := [(m0, .inr (6, [.int th, .ref m1, .int (nI x), .int (bI sp), .int (nI n0), .ref m2, .ref m3, .ref m4, .ref m5, .ref m6, .int (nI ac), .int (nI re), .int sl, .int fa, .int db]))]) (wr := []) (ws2 := [(m0, .inr (6, [.int (nI 1), .ref m1, .int (nI x), .int (bI sp), .int (nI n0), .ref m2, .ref m3, .ref m4, .ref m5, .ref m6, .int (nI ac), .int (nI re), .int sl, .int fa, .int db]))]) (As := [.int (nI 1)]) (rest := []) (c_X6_goesWell_k l D cyI cyJ cyZ H.size m0 m1 m2 m3 m4 m5 m6 th x sp n0 ac re sl fa db 1 (by first | assumption | omega) (by first | assumption | omega)) (cwV 1 S.2.2.2.2 gX6_drive_X6_goesWell rfl rfl rfl (by decide +kernel) ⟨Nat.le_of_ble_eq_true rfl, Nat.le_of_ble_eq_true rfl⟩) hK hP hD hS hA hG [0] [] [0] rfl rfl rfl rfl (by decide) rfl rfl (ci := 6) (q0 := 0) rfl rfl rfl hl.1 rfl (Nat.le_of_ble_eq_true rfl) dX6_drive_36 ⟨Nat.le_of_ble_eq_true rfl, Nat.le_of_ble_eq_true rfl⟩ (fun H locs hP hD hS => ?_)
    refine kb_if_ne S dX6_drive_39 (tgt := 43) (by decide) (fun c39 => ?_) (fun c39 => ?_)
    · exact absurd c39 (by decide)
    · exact hret _ _ _ _ dX6_drive_42 hP hD hS

set_option maxHeartbeats 4000000 in
set_option maxRecDepth 100000 in
theorem c_X6_drive_2a (l : Launch) (D : va_G) (cyI cyJ cyZ : ClassId) (sz : Nat) (m0 : Nat) (m1 : Nat) (m2 : Nat) (m3 : Nat) (m4 : Nat) (m5 : Nat) (m6 : Nat) (th : Int32) (x : Nat) (sp : Bool) (n0 : Nat) (ac : Nat) (re : Nat) (sl : Int32) (fa : Int32) (db : Int32) (d0 : Nat) (hd : d0 < 4) : Met l yX6_drive wsX6_drive ({ frames := 4, cells := 0, slots := 0, locals := 102 } : Room) (mPc D [(cyI, .int), (cyJ, .long), (cyZ, .boolean)] [(m0, .inr (6, [.int th, .ref m1, .int (nI x), .int (bI false), .int (nI n0), .ref m2, .ref m3, .ref m4, .ref m5, .ref m6, .int (nI ac), .int (nI re), .int sl, .int fa, .int db]))] sz [.ref m0, .int (nI d0)]) (va_Qv (fun (u : va_W) => u = [(m0, .inr (6, [.int (nI 2), .ref m1, .int (nI x), .int (bI false), .int (nI n0), .ref m2, .ref m3, .ref m4, .ref m5, .ref m6, .int (nI ac), .int (nI re), .int sl, .int fa, .int db]))]) (mB D [(cyI, .int), (cyJ, .long), (cyZ, .boolean)] (va_A [(m0, .inr (6, [.int th, .ref m1, .int (nI x), .int (bI false), .int (nI n0), .ref m2, .ref m3, .ref m4, .ref m5, .ref m6, .int (nI ac), .int (nI re), .int sl, .int fa, .int db]))] sz)) (va_A [(m0, .inr (6, [.int th, .ref m1, .int (nI x), .int (bI false), .int (nI n0), .ref m2, .ref m3, .ref m4, .ref m5, .ref m6, .int (nI ac), .int (nI re), .int sl, .int fa, .int db]))] sz)) 0 0 (va_A [(m0, .inr (6, [.int th, .ref m1, .int (nI x), .int (bI false), .int (nI n0), .ref m2, .ref m3, .ref m4, .ref m5, .ref m6, .int (nI ac), .int (nI re), .int sl, .int fa, .int db]))] sz) := by
  refine st_v (own := RX6) (lv0 := [(0, .ref m0), (1, .int (nI d0))]) (by decide) rfl rfl (Nat.le_of_ble_eq_true rfl) rfl ?_
  intro p e s m below meth c A Q S hin hA hK hP hD hG hS hret ls hl
  have hw_X6 : ∀ w ∈ u_ws RX6 TX6 15, w ∈ wsX6_drive := by decide +kernel
  have hf_49 := S.2.2.2.2 (.fieldLink RX6 49 "ParticlewayModel" "isSpread" "Z") (by decide +kernel)
  refine lv_iload_n S.1 S.2.1 dX6_drive_0 rfl (lv_at hl 1 rfl) ?_
  refine kcS_i S (wc := []) (wr := [(m0, .inr (6, [.int th, .ref m1, .int (nI x), .int (bI false), .int (nI n0), .ref m2, .ref m3, .ref m4, .ref m5, .ref m6, .int (nI ac), .int (nI re), .int sl, .int fa, .int db]))]) (ws2 := [(m0, .inr (6, [.int th, .ref m1, .int (nI x), .int (bI false), .int (nI n0), .ref m2, .ref m3, .ref m4, .ref m5, .ref m6, .int (nI ac), .int (nI re), .int sl, .int fa, .int db]))]) (As := [.int (nI d0)]) (rest := []) (c_X6_isDirection_n l D cyI cyJ cyZ s.heap.size d0 (by first | assumption | omega)) (va_cwS 1 S.2.2.2.2 gX6_drive_X6_isDirection rfl rfl rfl (by decide +kernel) ⟨Nat.le_of_ble_eq_true rfl, Nat.le_of_ble_eq_true rfl⟩) hK hP hD hS hA hG [] [0] [0] rfl rfl rfl rfl (by decide) rfl rfl rfl hl.1 rfl (Nat.le_of_ble_eq_true rfl) dX6_drive_1 ⟨Nat.le_of_ble_eq_true rfl, Nat.le_of_ble_eq_true rfl⟩ (fun H locs hP hD hS => ?_)
  refine lv_istore_n (lv' := [(2, .int (bI true)), (0, .ref m0), (1, .int (nI d0))]) S.1 S.2.1 dX6_drive_4 rfl hl (by decide) rfl (fun ls hl => ?_)
  refine lv_aload_n S.1 S.2.1 dX6_drive_5 rfl (lv_at hl 1 rfl) ?_
  refine lv_iload_n S.1 S.2.1 dX6_drive_6 rfl (lv_at hl 0 rfl) ?_
  refine kb_if_ne S dX6_drive_7 (tgt := 14) (by decide) (fun c7 => ?_) (fun c7 => ?_)
  · refine lv_aload_n S.1 S.2.1 dX6_drive_14 rfl (lv_at hl 1 rfl) ?_
    refine k_get S (C := RX6) (T := TX6) (N := 15) (ci := 6) hw_X6 hK hP 0 rfl rfl 3 (by decide) hf_49 rfl (v := .int (bI false)) rfl dX6_drive_15 ?_
    refine kb_if_eq S dX6_drive_18 (tgt := 31) (by decide) (fun c18 => ?_) (fun c18 => ?_)
    · refine lv_iconst (v := nI 2) S.1 S.2.1 dX6_drive_31 (by decide) ?_
      refine lv_goto (tgt := 36) S.1 S.2.1 dX6_drive_32 (by decide) ?_
      refine kcV_i S (wc := [(m0, .inr (6, [.int th, .ref m1, .int (nI x), .int (bI false), .int (nI n0), .ref m2, .ref m3, .ref m4, .ref m5, .ref m6, .int (nI ac), .int (nI re), .int sl, .int fa, .int db]))]) (wr := []) (ws2 := [(m0, .inr (6, [.int (nI 2), .ref m1, .int (nI x), .int (bI false), .int (nI n0), .ref m2, .ref m3, .ref m4, .ref m5, .ref m6, .int (nI ac), .int (nI re), .int sl, .int fa, .int db]))]) (As := [.int (nI 2)]) (rest := []) (c_X6_goesWell_k l D cyI cyJ cyZ H.size m0 m1 m2 m3 m4 m5 m6 th x false n0 ac re sl fa db 2 (by first | assumption | omega) (by first | assumption | omega)) (cwV 1 S.2.2.2.2 gX6_drive_X6_goesWell rfl rfl rfl (by decide +kernel) ⟨Nat.le_of_ble_eq_true rfl, Nat.le_of_ble_eq_true rfl⟩) hK hP hD hS hA hG [0] [] [0] rfl rfl rfl rfl (by decide) rfl rfl (ci := 6) (q0 := 0) rfl rfl rfl hl.1 rfl (Nat.le_of_ble_eq_true rfl) dX6_drive_36 ⟨Nat.le_of_ble_eq_true rfl, Nat.le_of_ble_eq_true rfl⟩ (fun H locs hP hD hS => ?_)
      refine kb_if_ne S dX6_drive_39 (tgt := 43) (by decide) (fun c39 => ?_) (fun c39 => ?_)
      · exact absurd c39 (by decide)
      · exact hret _ _ _ _ dX6_drive_42 hP hD hS
    · exact absurd c18 (by decide)
  · exact absurd c7 (by decide)

set_option maxHeartbeats 4000000 in
set_option maxRecDepth 100000 in
theorem c_X6_drive_2b (l : Launch) (D : va_G) (cyI cyJ cyZ : ClassId) (sz : Nat) (m0 : Nat) (m1 : Nat) (m2 : Nat) (m3 : Nat) (m4 : Nat) (m5 : Nat) (m6 : Nat) (th : Int32) (x : Nat) (sp : Bool) (n0 : Nat) (ac : Nat) (re : Nat) (sl : Int32) (fa : Int32) (db : Int32) (d0 : Nat) (hd : d0 < 4) (hac : ac = 300) : Met l yX6_drive wsX6_drive ({ frames := 4, cells := 0, slots := 0, locals := 102 } : Room) (mPc D [(cyI, .int), (cyJ, .long), (cyZ, .boolean)] [(m0, .inr (6, [.int th, .ref m1, .int (nI x), .int (bI true), .int (nI n0), .ref m2, .ref m3, .ref m4, .ref m5, .ref m6, .int (nI ac), .int (nI re), .int sl, .int fa, .int db]))] sz [.ref m0, .int (nI d0)]) (va_Qv (fun (u : va_W) => u = [(m0, .inr (6, [.int (nI 2), .ref m1, .int (nI x), .int (bI true), .int (nI n0), .ref m2, .ref m3, .ref m4, .ref m5, .ref m6, .int (nI ac), .int (nI re), .int sl, .int fa, .int db]))]) (mB D [(cyI, .int), (cyJ, .long), (cyZ, .boolean)] (va_A [(m0, .inr (6, [.int th, .ref m1, .int (nI x), .int (bI true), .int (nI n0), .ref m2, .ref m3, .ref m4, .ref m5, .ref m6, .int (nI ac), .int (nI re), .int sl, .int fa, .int db]))] sz)) (va_A [(m0, .inr (6, [.int th, .ref m1, .int (nI x), .int (bI true), .int (nI n0), .ref m2, .ref m3, .ref m4, .ref m5, .ref m6, .int (nI ac), .int (nI re), .int sl, .int fa, .int db]))] sz)) 0 0 (va_A [(m0, .inr (6, [.int th, .ref m1, .int (nI x), .int (bI true), .int (nI n0), .ref m2, .ref m3, .ref m4, .ref m5, .ref m6, .int (nI ac), .int (nI re), .int sl, .int fa, .int db]))] sz) := by
  refine st_v (own := RX6) (lv0 := [(0, .ref m0), (1, .int (nI d0))]) (by decide) rfl rfl (Nat.le_of_ble_eq_true rfl) rfl ?_
  intro p e s m below meth c A Q S hin hA hK hP hD hG hS hret ls hl
  have hw_X6 : ∀ w ∈ u_ws RX6 TX6 15, w ∈ wsX6_drive := by decide +kernel
  have hf_49 := S.2.2.2.2 (.fieldLink RX6 49 "ParticlewayModel" "isSpread" "Z") (by decide +kernel)
  have hf_78 := S.2.2.2.2 (.fieldLink RX6 78 "ParticlewayModel" "acts" "I") (by decide +kernel)
  refine lv_iload_n S.1 S.2.1 dX6_drive_0 rfl (lv_at hl 1 rfl) ?_
  refine kcS_i S (wc := []) (wr := [(m0, .inr (6, [.int th, .ref m1, .int (nI x), .int (bI true), .int (nI n0), .ref m2, .ref m3, .ref m4, .ref m5, .ref m6, .int (nI ac), .int (nI re), .int sl, .int fa, .int db]))]) (ws2 := [(m0, .inr (6, [.int th, .ref m1, .int (nI x), .int (bI true), .int (nI n0), .ref m2, .ref m3, .ref m4, .ref m5, .ref m6, .int (nI ac), .int (nI re), .int sl, .int fa, .int db]))]) (As := [.int (nI d0)]) (rest := []) (c_X6_isDirection_n l D cyI cyJ cyZ s.heap.size d0 (by first | assumption | omega)) (va_cwS 1 S.2.2.2.2 gX6_drive_X6_isDirection rfl rfl rfl (by decide +kernel) ⟨Nat.le_of_ble_eq_true rfl, Nat.le_of_ble_eq_true rfl⟩) hK hP hD hS hA hG [] [0] [0] rfl rfl rfl rfl (by decide) rfl rfl rfl hl.1 rfl (Nat.le_of_ble_eq_true rfl) dX6_drive_1 ⟨Nat.le_of_ble_eq_true rfl, Nat.le_of_ble_eq_true rfl⟩ (fun H locs hP hD hS => ?_)
  refine lv_istore_n (lv' := [(2, .int (bI true)), (0, .ref m0), (1, .int (nI d0))]) S.1 S.2.1 dX6_drive_4 rfl hl (by decide) rfl (fun ls hl => ?_)
  refine lv_aload_n S.1 S.2.1 dX6_drive_5 rfl (lv_at hl 1 rfl) ?_
  refine lv_iload_n S.1 S.2.1 dX6_drive_6 rfl (lv_at hl 0 rfl) ?_
  refine kb_if_ne S dX6_drive_7 (tgt := 14) (by decide) (fun c7 => ?_) (fun c7 => ?_)
  · refine lv_aload_n S.1 S.2.1 dX6_drive_14 rfl (lv_at hl 1 rfl) ?_
    refine k_get S (C := RX6) (T := TX6) (N := 15) (ci := 6) hw_X6 hK hP 0 rfl rfl 3 (by decide) hf_49 rfl (v := .int (bI true)) rfl dX6_drive_15 ?_
    refine kb_if_eq S dX6_drive_18 (tgt := 31) (by decide) (fun c18 => ?_) (fun c18 => ?_)
    · exact absurd c18 (by decide)
    · refine lv_aload_n S.1 S.2.1 dX6_drive_21 rfl (lv_at hl 1 rfl) ?_
      refine k_get S (C := RX6) (T := TX6) (N := 15) (ci := 6) hw_X6 hK hP 0 rfl rfl 10 (by decide) hf_78 rfl (v := .int (nI ac)) rfl dX6_drive_22 ?_
      refine lv_sipush (v := nI 300) S.1 S.2.1 dX6_drive_25 (by decide) ?_
      refine kn_icmp_ne S (by omega) (by omega) dX6_drive_28 (tgt := 35) (by decide) (fun c28 => ?_) (fun c28 => ?_)
      · exact absurd hac c28
      · refine lv_iconst (v := nI 2) S.1 S.2.1 dX6_drive_31 (by decide) ?_
        refine lv_goto (tgt := 36) S.1 S.2.1 dX6_drive_32 (by decide) ?_
        refine kcV_i S (wc := [(m0, .inr (6, [.int th, .ref m1, .int (nI x), .int (bI true), .int (nI n0), .ref m2, .ref m3, .ref m4, .ref m5, .ref m6, .int (nI ac), .int (nI re), .int sl, .int fa, .int db]))]) (wr := []) (ws2 := [(m0, .inr (6, [.int (nI 2), .ref m1, .int (nI x), .int (bI true), .int (nI n0), .ref m2, .ref m3, .ref m4, .ref m5, .ref m6, .int (nI ac), .int (nI re), .int sl, .int fa, .int db]))]) (As := [.int (nI 2)]) (rest := []) (c_X6_goesWell_k l D cyI cyJ cyZ H.size m0 m1 m2 m3 m4 m5 m6 th x true n0 ac re sl fa db 2 (by first | assumption | omega) (by first | assumption | omega)) (cwV 1 S.2.2.2.2 gX6_drive_X6_goesWell rfl rfl rfl (by decide +kernel) ⟨Nat.le_of_ble_eq_true rfl, Nat.le_of_ble_eq_true rfl⟩) hK hP hD hS hA hG [0] [] [0] rfl rfl rfl rfl (by decide) rfl rfl (ci := 6) (q0 := 0) rfl rfl rfl hl.1 rfl (Nat.le_of_ble_eq_true rfl) dX6_drive_36 ⟨Nat.le_of_ble_eq_true rfl, Nat.le_of_ble_eq_true rfl⟩ (fun H locs hP hD hS => ?_)
        refine kb_if_ne S dX6_drive_39 (tgt := 43) (by decide) (fun c39 => ?_) (fun c39 => ?_)
        · exact absurd c39 (by decide)
        · exact hret _ _ _ _ dX6_drive_42 hP hD hS
  · exact absurd c7 (by decide)

set_option maxHeartbeats 4000000 in
set_option maxRecDepth 100000 in
theorem c_X6_drive (l : Launch) (D : va_G) (cyI cyJ cyZ : ClassId) (sz : Nat) (m0 : Nat) (m1 : Nat) (m2 : Nat) (m3 : Nat) (m4 : Nat) (m5 : Nat) (m6 : Nat) (th : Int32) (x : Nat) (sp : Bool) (n0 : Nat) (ac : Nat) (re : Nat) (sl : Int32) (fa : Int32) (db : Int32) (w : Nat → Bool) (cs : Nat → Nat) (b0 : Nat → Nat) (fs : Nat → Nat) (d0 : Nat) (hd : d0 < 4) (hac : ac < 300) (hn : n0 ≤ 64) (hx : x < 65537) (hca : ∀ j, j < 64 → cs j < 64) (hb : ∀ j, j < 64 → b0 j ≤ 1099511627776) : Met l yX6_drive wsX6_drive ({ frames := 5, cells := 0, slots := 0, locals := 127 } : Room) (mPc D [(cyI, .int), (cyJ, .long), (cyZ, .boolean)] [(m0, .inr (6, [.int th, .ref m1, .int (nI x), .int (bI true), .int (nI n0), .ref m2, .ref m3, .ref m4, .ref m5, .ref m6, .int (nI ac), .int (nI re), .int sl, .int fa, .int db])), (m1, .inl (cyZ, 64, .inl (aZ w))), (m2, .inl (cyI, 64, .inl (aI cs))), (m5, .inl (cyJ, 64, .inr (.inl (aL b0)))), (m6, .inl (cyJ, 64, .inr (.inl (aL fs))))] sz [.ref m0, .int (nI d0)]) (va_Qv (fun (u : va_W) => u = [(m0, .inr (6, [.int (nI 0), .ref m1, .int (nI (nxn x n0)), .int (bI true), .int (nI n0), .ref m2, .ref m3, .ref m4, .ref m5, .ref m6, .int (nI (ac + 1)), .int (nI re), .int sl, .int fa, .int db])), (m1, .inl (cyZ, 64, .inl (aZ w))), (m2, .inl (cyI, 64, .inl (aI (mvC w x cs d0 n0)))), (m5, .inl (cyJ, 64, .inr (.inl (aL (drv w b0 d0))))), (m6, .inl (cyJ, 64, .inr (.inl (aL (pshF w b0 d0 64)))))]) (mB D [(cyI, .int), (cyJ, .long), (cyZ, .boolean)] (va_A [(m0, .inr (6, [.int th, .ref m1, .int (nI x), .int (bI true), .int (nI n0), .ref m2, .ref m3, .ref m4, .ref m5, .ref m6, .int (nI ac), .int (nI re), .int sl, .int fa, .int db])), (m1, .inl (cyZ, 64, .inl (aZ w))), (m2, .inl (cyI, 64, .inl (aI cs))), (m5, .inl (cyJ, 64, .inr (.inl (aL b0)))), (m6, .inl (cyJ, 64, .inr (.inl (aL fs))))] sz)) (va_A [(m0, .inr (6, [.int th, .ref m1, .int (nI x), .int (bI true), .int (nI n0), .ref m2, .ref m3, .ref m4, .ref m5, .ref m6, .int (nI ac), .int (nI re), .int sl, .int fa, .int db])), (m1, .inl (cyZ, 64, .inl (aZ w))), (m2, .inl (cyI, 64, .inl (aI cs))), (m5, .inl (cyJ, 64, .inr (.inl (aL b0)))), (m6, .inl (cyJ, 64, .inr (.inl (aL fs))))] sz)) 0 0 (va_A [(m0, .inr (6, [.int th, .ref m1, .int (nI x), .int (bI true), .int (nI n0), .ref m2, .ref m3, .ref m4, .ref m5, .ref m6, .int (nI ac), .int (nI re), .int sl, .int fa, .int db])), (m1, .inl (cyZ, 64, .inl (aZ w))), (m2, .inl (cyI, 64, .inl (aI cs))), (m5, .inl (cyJ, 64, .inr (.inl (aL b0)))), (m6, .inl (cyJ, 64, .inr (.inl (aL fs))))] sz) := by
  refine st_v (own := RX6) (lv0 := [(0, .ref m0), (1, .int (nI d0))]) (by decide) rfl rfl (Nat.le_of_ble_eq_true rfl) rfl ?_
  intro p e s m below meth c A Q S hin hA hK hP hD hG hS hret ls hl
  have hw_X6 : ∀ w ∈ u_ws RX6 TX6 15, w ∈ wsX6_drive := by decide +kernel
  have hf_49 := S.2.2.2.2 (.fieldLink RX6 49 "ParticlewayModel" "isSpread" "Z") (by decide +kernel)
  have hf_78 := S.2.2.2.2 (.fieldLink RX6 78 "ParticlewayModel" "acts" "I") (by decide +kernel)
  have hf_69 := S.2.2.2.2 (.fieldLink RX6 69 "ParticlewayModel" "samples" "I") (by decide +kernel)
  have hf_27 := S.2.2.2.2 (.fieldLink RX6 27 "ParticlewayModel" "belief" "[J") (by decide +kernel)
  have hf_31 := S.2.2.2.2 (.fieldLink RX6 31 "ParticlewayModel" "fresh" "[J") (by decide +kernel)
  have hf_7 := S.2.2.2.2 (.fieldLink RX6 7 "ParticlewayModel" "isWall" "[Z") (by decide +kernel)
  have hf_17 := S.2.2.2.2 (.fieldLink RX6 17 "ParticlewayModel" "sample" "[I") (by decide +kernel)
  have hpb := pshF_le (w := w) (d := d0) (n := 64) hb
  refine lv_iload_n S.1 S.2.1 dX6_drive_0 rfl (lv_at hl 1 rfl) ?_
  refine kcS_i S (wc := []) (wr := [(m0, .inr (6, [.int th, .ref m1, .int (nI x), .int (bI true), .int (nI n0), .ref m2, .ref m3, .ref m4, .ref m5, .ref m6, .int (nI ac), .int (nI re), .int sl, .int fa, .int db])), (m1, .inl (cyZ, 64, .inl (aZ w))), (m2, .inl (cyI, 64, .inl (aI cs))), (m5, .inl (cyJ, 64, .inr (.inl (aL b0)))), (m6, .inl (cyJ, 64, .inr (.inl (aL fs))))]) (ws2 := [(m0, .inr (6, [.int th, .ref m1, .int (nI x), .int (bI true), .int (nI n0), .ref m2, .ref m3, .ref m4, .ref m5, .ref m6, .int (nI ac), .int (nI re), .int sl, .int fa, .int db])), (m1, .inl (cyZ, 64, .inl (aZ w))), (m2, .inl (cyI, 64, .inl (aI cs))), (m5, .inl (cyJ, 64, .inr (.inl (aL b0)))), (m6, .inl (cyJ, 64, .inr (.inl (aL fs))))]) (As := [.int (nI d0)]) (rest := []) (c_X6_isDirection_n l D cyI cyJ cyZ s.heap.size d0 (by first | assumption | omega)) (va_cwS 1 S.2.2.2.2 gX6_drive_X6_isDirection rfl rfl rfl (by decide +kernel) ⟨Nat.le_of_ble_eq_true rfl, Nat.le_of_ble_eq_true rfl⟩) hK hP hD hS hA hG [] [0, 1, 2, 3, 4] [0, 1, 2, 3, 4] rfl rfl rfl rfl (by decide) rfl rfl rfl hl.1 rfl (Nat.le_of_ble_eq_true rfl) dX6_drive_1 ⟨Nat.le_of_ble_eq_true rfl, Nat.le_of_ble_eq_true rfl⟩ (fun H locs hP hD hS => ?_)
  refine lv_istore_n (lv' := [(2, .int (bI true)), (0, .ref m0), (1, .int (nI d0))]) S.1 S.2.1 dX6_drive_4 rfl hl (by decide) rfl (fun ls hl => ?_)
  refine lv_aload_n S.1 S.2.1 dX6_drive_5 rfl (lv_at hl 1 rfl) ?_
  refine lv_iload_n S.1 S.2.1 dX6_drive_6 rfl (lv_at hl 0 rfl) ?_
  refine kb_if_ne S dX6_drive_7 (tgt := 14) (by decide) (fun c7 => ?_) (fun c7 => ?_)
  · refine lv_aload_n S.1 S.2.1 dX6_drive_14 rfl (lv_at hl 1 rfl) ?_
    refine k_get S (C := RX6) (T := TX6) (N := 15) (ci := 6) hw_X6 hK hP 0 rfl rfl 3 (by decide) hf_49 rfl (v := .int (bI true)) rfl dX6_drive_15 ?_
    refine kb_if_eq S dX6_drive_18 (tgt := 31) (by decide) (fun c18 => ?_) (fun c18 => ?_)
    · exact absurd c18 (by decide)
    · refine lv_aload_n S.1 S.2.1 dX6_drive_21 rfl (lv_at hl 1 rfl) ?_
      refine k_get S (C := RX6) (T := TX6) (N := 15) (ci := 6) hw_X6 hK hP 0 rfl rfl 10 (by decide) hf_78 rfl (v := .int (nI ac)) rfl dX6_drive_22 ?_
      refine lv_sipush (v := nI 300) S.1 S.2.1 dX6_drive_25 (by decide) ?_
      refine kn_icmp_ne S (by omega) (by omega) dX6_drive_28 (tgt := 35) (by decide) (fun c28 => ?_) (fun c28 => ?_)
      · refine lv_iconst (v := nI 0) S.1 S.2.1 dX6_drive_35 (by decide) ?_
        refine kcV_i S (wc := [(m0, .inr (6, [.int th, .ref m1, .int (nI x), .int (bI true), .int (nI n0), .ref m2, .ref m3, .ref m4, .ref m5, .ref m6, .int (nI ac), .int (nI re), .int sl, .int fa, .int db]))]) (wr := [(m1, .inl (cyZ, 64, .inl (aZ w))), (m2, .inl (cyI, 64, .inl (aI cs))), (m5, .inl (cyJ, 64, .inr (.inl (aL b0)))), (m6, .inl (cyJ, 64, .inr (.inl (aL fs))))]) (ws2 := [(m0, .inr (6, [.int (nI 0), .ref m1, .int (nI x), .int (bI true), .int (nI n0), .ref m2, .ref m3, .ref m4, .ref m5, .ref m6, .int (nI ac), .int (nI re), .int sl, .int fa, .int db])), (m1, .inl (cyZ, 64, .inl (aZ w))), (m2, .inl (cyI, 64, .inl (aI cs))), (m5, .inl (cyJ, 64, .inr (.inl (aL b0)))), (m6, .inl (cyJ, 64, .inr (.inl (aL fs))))]) (As := [.int (nI 0)]) (rest := []) (c_X6_goesWell_0 l D cyI cyJ cyZ H.size m0 m1 m2 m3 m4 m5 m6 th x true n0 ac re sl fa db ) (cwV 1 S.2.2.2.2 gX6_drive_X6_goesWell rfl rfl rfl (by decide +kernel) ⟨Nat.le_of_ble_eq_true rfl, Nat.le_of_ble_eq_true rfl⟩) hK hP hD hS hA hG [0] [1, 2, 3, 4] [4, 0, 1, 2, 3] rfl rfl rfl rfl (by decide) rfl rfl (ci := 6) (q0 := 0) rfl rfl rfl hl.1 rfl (Nat.le_of_ble_eq_true rfl) dX6_drive_36 ⟨Nat.le_of_ble_eq_true rfl, Nat.le_of_ble_eq_true rfl⟩ (fun H locs hP hD hS => ?_)
        refine kb_if_ne S dX6_drive_39 (tgt := 43) (by decide) (fun c39 => ?_) (fun c39 => ?_)
        · refine lv_iconst (v := nI 0) S.1 S.2.1 dX6_drive_43 (by decide) ?_
          refine lv_istore_n (lv' := [(3, .int (nI 0)), (2, .int (bI true)), (0, .ref m0), (1, .int (nI d0))]) S.1 S.2.1 dX6_drive_44 rfl hl (by decide) rfl (fun ls hl => ?_)
          refine wl (σ := Nat × Nat × (Nat → Nat)) (fun (i, y, us) => [(m0, .inr (6, [.int (nI 0), .ref m1, .int (nI y), .int (bI true), .int (nI n0), .ref m2, .ref m3, .ref m4, .ref m5, .ref m6, .int (nI ac), .int (nI re), .int sl, .int fa, .int db])), (m1, .inl (cyZ, 64, .inl (aZ w))), (m2, .inl (cyI, 64, .inl (aI us))), (m5, .inl (cyJ, 64, .inr (.inl (aL b0)))), (m6, .inl (cyJ, 64, .inr (.inl (aL fs))))]) (fun (i, y, us) => [(3, .int (nI i)), (2, .int (bI true)), (0, .ref m0), (1, .int (nI d0))]) (fun (i, y, us) => (i ≤ n0) ∧ (y = nxn x i) ∧ (∀ j, us j = mvC w x cs d0 i j)) (fun (i, y, us) => n0 - i) ?_ (0, x, cs) ⟨by omega, rfl, fun j => by simp [mvC]⟩ hP hD hS (lv_sub hl [0, 1, 2, 3] rfl)
          rintro ⟨i, y, us⟩ ⟨hi, hy, hu⟩ ih45 H locs ls hP hD hS hl
          have hP : va_P D vwCl [(m0, .inr (6, [.int (nI 0), .ref m1, .int (nI y), .int (bI true), .int (nI n0), .ref m2, .ref m3, .ref m4, .ref m5, .ref m6, .int (nI ac), .int (nI re), .int sl, .int fa, .int db])), (m1, .inl (cyZ, 64, .inl (aZ w))), (m2, .inl (cyI, 64, .inl (aI us))), (m5, .inl (cyJ, 64, .inr (.inl (aL b0)))), (m6, .inl (cyJ, 64, .inr (.inl (aL fs))))] H := hP
          have hD : va_D A [(m0, .inr (6, [.int (nI 0), .ref m1, .int (nI y), .int (bI true), .int (nI n0), .ref m2, .ref m3, .ref m4, .ref m5, .ref m6, .int (nI ac), .int (nI re), .int sl, .int fa, .int db])), (m1, .inl (cyZ, 64, .inl (aZ w))), (m2, .inl (cyI, 64, .inl (aI us))), (m5, .inl (cyJ, 64, .inr (.inl (aL b0)))), (m6, .inl (cyJ, 64, .inr (.inl (aL fs))))] := hD
          have hl : lv_has ls 6 [(3, .int (nI i)), (2, .int (bI true)), (0, .ref m0), (1, .int (nI d0))] := hl
          refine lv_iload_n S.1 S.2.1 dX6_drive_45 rfl (lv_at hl 0 rfl) ?_
          refine lv_aload_n S.1 S.2.1 dX6_drive_46 rfl (lv_at hl 2 rfl) ?_
          refine k_get S (C := RX6) (T := TX6) (N := 15) (ci := 6) hw_X6 hK hP 0 rfl rfl 4 (by decide) hf_69 rfl (v := .int (nI n0)) rfl dX6_drive_47 ?_
          refine kn_icmp_ge S (by omega) (by omega) dX6_drive_50 (tgt := 122) (by decide) (fun c50 => ?_) (fun c50 => ?_)
          · have hyk : y = nxn x n0 := (by rw [hy, show i = n0 by omega])
            subst hyk
            obtain ⟨hP, hD⟩ := P_re (ws2 := [(m0, .inr (6, [.int (nI 0), .ref m1, .int (nI (nxn x n0)), .int (bI true), .int (nI n0), .ref m2, .ref m3, .ref m4, .ref m5, .ref m6, .int (nI ac), .int (nI re), .int sl, .int fa, .int db])), (m1, .inl (cyZ, 64, .inl (aZ w))), (m2, .inl (cyI, 64, .inl (aI (mvC w x cs d0 n0)))), (m5, .inl (cyJ, 64, .inr (.inl (aL b0)))), (m6, .inl (cyJ, 64, .inr (.inl (aL fs))))]) hP hD 2 rfl (cell_aI (fun j hj => by rw [hu j, show i = n0 by omega])) rfl
            refine lv_iconst (v := nI 0) S.1 S.2.1 dX6_drive_122 (by decide) ?_
            refine lv_istore_n (lv' := [(3, .int (nI 0)), (2, .int (bI true)), (0, .ref m0), (1, .int (nI d0))]) S.1 S.2.1 dX6_drive_123 rfl hl (by decide) rfl (fun ls hl => ?_)
            refine wl (σ := Nat × (Nat → Nat)) (fun (i, g) => [(m0, .inr (6, [.int (nI 0), .ref m1, .int (nI (nxn x n0)), .int (bI true), .int (nI n0), .ref m2, .ref m3, .ref m4, .ref m5, .ref m6, .int (nI ac), .int (nI re), .int sl, .int fa, .int db])), (m1, .inl (cyZ, 64, .inl (aZ w))), (m2, .inl (cyI, 64, .inl (aI (mvC w x cs d0 n0)))), (m5, .inl (cyJ, 64, .inr (.inl (aL b0)))), (m6, .inl (cyJ, 64, .inr (.inl (aL g))))]) (fun (i, g) => [(3, .int (nI i)), (2, .int (bI true)), (0, .ref m0), (1, .int (nI d0))]) (fun (i, g) => (i ≤ 64) ∧ (∀ j, j < i → g j = 0)) (fun (i, g) => 64 - i) ?_ (0, fs) ⟨by omega, fun j hj => by omega⟩ hP hD hS (lv_sub hl [0, 1, 2, 3] rfl)
            rintro ⟨i, g⟩ ⟨hi, hg⟩ ih124 H locs ls hP hD hS hl
            have hP : va_P D vwCl [(m0, .inr (6, [.int (nI 0), .ref m1, .int (nI (nxn x n0)), .int (bI true), .int (nI n0), .ref m2, .ref m3, .ref m4, .ref m5, .ref m6, .int (nI ac), .int (nI re), .int sl, .int fa, .int db])), (m1, .inl (cyZ, 64, .inl (aZ w))), (m2, .inl (cyI, 64, .inl (aI (mvC w x cs d0 n0)))), (m5, .inl (cyJ, 64, .inr (.inl (aL b0)))), (m6, .inl (cyJ, 64, .inr (.inl (aL g))))] H := hP
            have hD : va_D A [(m0, .inr (6, [.int (nI 0), .ref m1, .int (nI (nxn x n0)), .int (bI true), .int (nI n0), .ref m2, .ref m3, .ref m4, .ref m5, .ref m6, .int (nI ac), .int (nI re), .int sl, .int fa, .int db])), (m1, .inl (cyZ, 64, .inl (aZ w))), (m2, .inl (cyI, 64, .inl (aI (mvC w x cs d0 n0)))), (m5, .inl (cyJ, 64, .inr (.inl (aL b0)))), (m6, .inl (cyJ, 64, .inr (.inl (aL g))))] := hD
            have hl : lv_has ls 6 [(3, .int (nI i)), (2, .int (bI true)), (0, .ref m0), (1, .int (nI d0))] := hl
            refine lv_iload_n S.1 S.2.1 dX6_drive_124 rfl (lv_at hl 0 rfl) ?_
            refine lv_bipush (v := nI 64) S.1 S.2.1 dX6_drive_125 (by decide) ?_
            refine kn_icmp_ge S (by omega) (by omega) dX6_drive_127 (tgt := 143) (by decide) (fun c127 => ?_) (fun c127 => ?_)
            · obtain ⟨hP, hD⟩ := P_re (ws2 := [(m0, .inr (6, [.int (nI 0), .ref m1, .int (nI (nxn x n0)), .int (bI true), .int (nI n0), .ref m2, .ref m3, .ref m4, .ref m5, .ref m6, .int (nI ac), .int (nI re), .int sl, .int fa, .int db])), (m1, .inl (cyZ, 64, .inl (aZ w))), (m2, .inl (cyI, 64, .inl (aI (mvC w x cs d0 n0)))), (m5, .inl (cyJ, 64, .inr (.inl (aL b0)))), (m6, .inl (cyJ, 64, .inr (.inl (aL (fun _ => 0)))))]) hP hD 4 rfl (cell_aL (fun j hj => hg j (by omega))) rfl
              refine lv_iconst (v := nI 0) S.1 S.2.1 dX6_drive_143 (by decide) ?_
              refine lv_istore_n (lv' := [(3, .int (nI 0)), (2, .int (bI true)), (0, .ref m0), (1, .int (nI d0))]) S.1 S.2.1 dX6_drive_144 rfl hl (by decide) rfl (fun ls hl => ?_)
              refine wl (σ := Nat × (Nat → Nat)) (fun (i, g) => [(m0, .inr (6, [.int (nI 0), .ref m1, .int (nI (nxn x n0)), .int (bI true), .int (nI n0), .ref m2, .ref m3, .ref m4, .ref m5, .ref m6, .int (nI ac), .int (nI re), .int sl, .int fa, .int db])), (m1, .inl (cyZ, 64, .inl (aZ w))), (m2, .inl (cyI, 64, .inl (aI (mvC w x cs d0 n0)))), (m5, .inl (cyJ, 64, .inr (.inl (aL b0)))), (m6, .inl (cyJ, 64, .inr (.inl (aL g))))]) (fun (i, g) => [(3, .int (nI i)), (2, .int (bI true)), (0, .ref m0), (1, .int (nI d0))]) (fun (i, g) => (i ≤ 64) ∧ (∀ j, g j = pshF w b0 d0 i j)) (fun (i, g) => 64 - i) ?_ (0, fun _ => 0) ⟨by omega, fun j => rfl⟩ hP hD hS (lv_sub hl [0, 1, 2, 3] rfl)
              rintro ⟨i, g⟩ ⟨hi, hg⟩ ih145 H locs ls hP hD hS hl
              have hP : va_P D vwCl [(m0, .inr (6, [.int (nI 0), .ref m1, .int (nI (nxn x n0)), .int (bI true), .int (nI n0), .ref m2, .ref m3, .ref m4, .ref m5, .ref m6, .int (nI ac), .int (nI re), .int sl, .int fa, .int db])), (m1, .inl (cyZ, 64, .inl (aZ w))), (m2, .inl (cyI, 64, .inl (aI (mvC w x cs d0 n0)))), (m5, .inl (cyJ, 64, .inr (.inl (aL b0)))), (m6, .inl (cyJ, 64, .inr (.inl (aL g))))] H := hP
              have hD : va_D A [(m0, .inr (6, [.int (nI 0), .ref m1, .int (nI (nxn x n0)), .int (bI true), .int (nI n0), .ref m2, .ref m3, .ref m4, .ref m5, .ref m6, .int (nI ac), .int (nI re), .int sl, .int fa, .int db])), (m1, .inl (cyZ, 64, .inl (aZ w))), (m2, .inl (cyI, 64, .inl (aI (mvC w x cs d0 n0)))), (m5, .inl (cyJ, 64, .inr (.inl (aL b0)))), (m6, .inl (cyJ, 64, .inr (.inl (aL g))))] := hD
              have hl : lv_has ls 6 [(3, .int (nI i)), (2, .int (bI true)), (0, .ref m0), (1, .int (nI d0))] := hl
              refine lv_iload_n S.1 S.2.1 dX6_drive_145 rfl (lv_at hl 0 rfl) ?_
              refine lv_bipush (v := nI 64) S.1 S.2.1 dX6_drive_146 (by decide) ?_
              refine kn_icmp_ge S (by omega) (by omega) dX6_drive_148 (tgt := 234) (by decide) (fun c148 => ?_) (fun c148 => ?_)
              · obtain ⟨hP, hD⟩ := P_re (ws2 := [(m0, .inr (6, [.int (nI 0), .ref m1, .int (nI (nxn x n0)), .int (bI true), .int (nI n0), .ref m2, .ref m3, .ref m4, .ref m5, .ref m6, .int (nI ac), .int (nI re), .int sl, .int fa, .int db])), (m1, .inl (cyZ, 64, .inl (aZ w))), (m2, .inl (cyI, 64, .inl (aI (mvC w x cs d0 n0)))), (m5, .inl (cyJ, 64, .inr (.inl (aL b0)))), (m6, .inl (cyJ, 64, .inr (.inl (aL (pshF w b0 d0 64)))))]) hP hD 4 rfl (cell_aL (fun j hj => by rw [hg j, show i = 64 by omega])) rfl
                refine lv_iconst (v := nI 0) S.1 S.2.1 dX6_drive_234 (by decide) ?_
                refine lv_istore_n (lv' := [(3, .int (nI 0)), (2, .int (bI true)), (0, .ref m0), (1, .int (nI d0))]) S.1 S.2.1 dX6_drive_235 rfl hl (by decide) rfl (fun ls hl => ?_)
                refine wl (σ := Nat × (Nat → Nat)) (fun (i, g) => [(m0, .inr (6, [.int (nI 0), .ref m1, .int (nI (nxn x n0)), .int (bI true), .int (nI n0), .ref m2, .ref m3, .ref m4, .ref m5, .ref m6, .int (nI ac), .int (nI re), .int sl, .int fa, .int db])), (m1, .inl (cyZ, 64, .inl (aZ w))), (m2, .inl (cyI, 64, .inl (aI (mvC w x cs d0 n0)))), (m5, .inl (cyJ, 64, .inr (.inl (aL g)))), (m6, .inl (cyJ, 64, .inr (.inl (aL (pshF w b0 d0 64)))))]) (fun (i, g) => [(3, .int (nI i)), (2, .int (bI true)), (0, .ref m0), (1, .int (nI d0))]) (fun (i, g) => (i ≤ 64) ∧ (∀ j, j < i → g j = pshF w b0 d0 64 j)) (fun (i, g) => 64 - i) ?_ (0, b0) ⟨by omega, fun j hj => by omega⟩ hP hD hS (lv_sub hl [0, 1, 2, 3] rfl)
                rintro ⟨i, g⟩ ⟨hi, hg⟩ ih236 H locs ls hP hD hS hl
                have hP : va_P D vwCl [(m0, .inr (6, [.int (nI 0), .ref m1, .int (nI (nxn x n0)), .int (bI true), .int (nI n0), .ref m2, .ref m3, .ref m4, .ref m5, .ref m6, .int (nI ac), .int (nI re), .int sl, .int fa, .int db])), (m1, .inl (cyZ, 64, .inl (aZ w))), (m2, .inl (cyI, 64, .inl (aI (mvC w x cs d0 n0)))), (m5, .inl (cyJ, 64, .inr (.inl (aL g)))), (m6, .inl (cyJ, 64, .inr (.inl (aL (pshF w b0 d0 64)))))] H := hP
                have hD : va_D A [(m0, .inr (6, [.int (nI 0), .ref m1, .int (nI (nxn x n0)), .int (bI true), .int (nI n0), .ref m2, .ref m3, .ref m4, .ref m5, .ref m6, .int (nI ac), .int (nI re), .int sl, .int fa, .int db])), (m1, .inl (cyZ, 64, .inl (aZ w))), (m2, .inl (cyI, 64, .inl (aI (mvC w x cs d0 n0)))), (m5, .inl (cyJ, 64, .inr (.inl (aL g)))), (m6, .inl (cyJ, 64, .inr (.inl (aL (pshF w b0 d0 64)))))] := hD
                have hl : lv_has ls 6 [(3, .int (nI i)), (2, .int (bI true)), (0, .ref m0), (1, .int (nI d0))] := hl
                refine lv_iload_n S.1 S.2.1 dX6_drive_236 rfl (lv_at hl 0 rfl) ?_
                refine lv_bipush (v := nI 64) S.1 S.2.1 dX6_drive_237 (by decide) ?_
                refine kn_icmp_ge S (by omega) (by omega) dX6_drive_239 (tgt := 260) (by decide) (fun c239 => ?_) (fun c239 => ?_)
                · obtain ⟨hP, hD⟩ := P_re (ws2 := [(m0, .inr (6, [.int (nI 0), .ref m1, .int (nI (nxn x n0)), .int (bI true), .int (nI n0), .ref m2, .ref m3, .ref m4, .ref m5, .ref m6, .int (nI ac), .int (nI re), .int sl, .int fa, .int db])), (m1, .inl (cyZ, 64, .inl (aZ w))), (m2, .inl (cyI, 64, .inl (aI (mvC w x cs d0 n0)))), (m5, .inl (cyJ, 64, .inr (.inl (aL (pshF w b0 d0 64))))), (m6, .inl (cyJ, 64, .inr (.inl (aL (pshF w b0 d0 64)))))]) hP hD 3 rfl (cell_aL (fun j hj => hg j (by omega))) rfl
                  refine lv_aload_n S.1 S.2.1 dX6_drive_260 rfl (lv_at hl 2 rfl) ?_
                  refine kcV_v S (wc := [(m0, .inr (6, [.int (nI 0), .ref m1, .int (nI (nxn x n0)), .int (bI true), .int (nI n0), .ref m2, .ref m3, .ref m4, .ref m5, .ref m6, .int (nI ac), .int (nI re), .int sl, .int fa, .int db])), (m5, .inl (cyJ, 64, .inr (.inl (aL (pshF w b0 d0 64)))))]) (wr := [(m1, .inl (cyZ, 64, .inl (aZ w))), (m2, .inl (cyI, 64, .inl (aI (mvC w x cs d0 n0)))), (m6, .inl (cyJ, 64, .inr (.inl (aL (pshF w b0 d0 64)))))]) (ws2 := [(m0, .inr (6, [.int (nI 0), .ref m1, .int (nI (nxn x n0)), .int (bI true), .int (nI n0), .ref m2, .ref m3, .ref m4, .ref m5, .ref m6, .int (nI ac), .int (nI re), .int sl, .int fa, .int db])), (m1, .inl (cyZ, 64, .inl (aZ w))), (m2, .inl (cyI, 64, .inl (aI (mvC w x cs d0 n0)))), (m5, .inl (cyJ, 64, .inr (.inl (aL (hvG (pshF w b0 d0 64)))))), (m6, .inl (cyJ, 64, .inr (.inl (aL (pshF w b0 d0 64)))))]) (As := []) (rest := []) (c_X6_halve l D cyI cyJ cyZ H.size m0 m1 m2 m3 m4 m5 m6 (nI 0) (nxn x n0) true n0 ac re sl fa db (pshF w b0 d0 64) (fun j hj => by have h9 := hpb j; omega)) (cwV 0 S.2.2.2.2 gX6_drive_X6_halve rfl rfl rfl (by decide +kernel) ⟨Nat.le_of_ble_eq_true rfl, Nat.le_of_ble_eq_true rfl⟩) hK hP hD hS hA hG [0, 3] [1, 2, 4] [3, 0, 1, 4, 2] rfl rfl rfl rfl (by decide) rfl rfl (ci := 6) (q0 := 0) rfl rfl rfl hl.1 rfl (Nat.le_of_ble_eq_true rfl) dX6_drive_261 ⟨Nat.le_of_ble_eq_true rfl, Nat.le_of_ble_eq_true rfl⟩ (fun H locs hP hD hS => ?_)
                  refine lv_aload_n S.1 S.2.1 dX6_drive_264 rfl (lv_at hl 2 rfl) ?_
                  refine lv_dup S.1 S.2.1 dX6_drive_265 rfl ?_
                  refine k_get S (C := RX6) (T := TX6) (N := 15) (ci := 6) hw_X6 hK hP 0 rfl rfl 10 (by decide) hf_78 rfl (v := .int (nI ac)) rfl dX6_drive_266 ?_
                  refine lv_iconst (v := nI 1) S.1 S.2.1 dX6_drive_269 (by decide) ?_
                  refine kn_iadd S dX6_drive_270 ?_
                  refine k_put S (C := RX6) (T := TX6) (N := 15) (ci := 6) (ws2 := [(m0, .inr (6, [.int (nI 0), .ref m1, .int (nI (nxn x n0)), .int (bI true), .int (nI n0), .ref m2, .ref m3, .ref m4, .ref m5, .ref m6, .int (nI (ac + 1)), .int (nI re), .int sl, .int fa, .int db])), (m1, .inl (cyZ, 64, .inl (aZ w))), (m2, .inl (cyI, 64, .inl (aI (mvC w x cs d0 n0)))), (m5, .inl (cyJ, 64, .inr (.inl (aL (hvG (pshF w b0 d0 64)))))), (m6, .inl (cyJ, 64, .inr (.inl (aL (pshF w b0 d0 64)))))]) hw_X6 tyX6 tyX6_ok nmX6 hK hP hD hS 0 rfl rfl 10 (by decide) hf_78 rfl rfl rfl rfl (Nat.le_of_ble_eq_true rfl) dX6_drive_271 rfl (fun H locs hP hD hS => ?_)
                  exact hret _ _ _ _ dX6_drive_274 hP hD hS
                · refine lv_aload_n S.1 S.2.1 dX6_drive_242 rfl (lv_at hl 2 rfl) ?_
                  refine k_get S (C := RX6) (T := TX6) (N := 15) (ci := 6) hw_X6 hK hP 0 rfl rfl 8 (by decide) hf_27 rfl (v := .ref m5) rfl dX6_drive_243 ?_
                  refine lv_iload_n S.1 S.2.1 dX6_drive_246 rfl (lv_at hl 0 rfl) ?_
                  refine lv_aload_n S.1 S.2.1 dX6_drive_247 rfl (lv_at hl 2 rfl) ?_
                  refine k_get S (C := RX6) (T := TX6) (N := 15) (ci := 6) hw_X6 hK hP 0 rfl rfl 9 (by decide) hf_31 rfl (v := .ref m6) rfl dX6_drive_248 ?_
                  refine lv_iload_n S.1 S.2.1 dX6_drive_251 rfl (lv_at hl 0 rfl) ?_
                  refine kn_lald S hK hP 4 1 rfl rfl (by omega) (by decide) dX6_drive_252 ?_
                  refine kn_last S hK hP hD hS (ws2 := [(m0, .inr (6, [.int (nI 0), .ref m1, .int (nI (nxn x n0)), .int (bI true), .int (nI n0), .ref m2, .ref m3, .ref m4, .ref m5, .ref m6, .int (nI ac), .int (nI re), .int sl, .int fa, .int db])), (m1, .inl (cyZ, 64, .inl (aZ w))), (m2, .inl (cyI, 64, .inl (aI (mvC w x cs d0 n0)))), (m5, .inl (cyJ, 64, .inr (.inl (aL (va_up g i (pshF w b0 d0 64 i)))))), (m6, .inl (cyJ, 64, .inr (.inl (aL (pshF w b0 d0 64)))))]) 3 1 rfl rfl (by omega) (by decide) dX6_drive_253 rfl (fun H locs hP hD hS => ?_)
                  refine lv_iinc (v := nI (i + 1)) (lv' := [(3, .int (nI (i + 1))), (2, .int (bI true)), (0, .ref m0), (1, .int (nI d0))]) S.1 S.2.1 dX6_drive_254 hl (k := 0) rfl (iinc_1 _) (by decide) rfl (fun ls hl => ?_)
                  refine lv_goto (tgt := 236) S.1 S.2.1 dX6_drive_257 (by decide) ?_
                  exact ih236 (i + 1, va_up g i (pshF w b0 d0 64 i)) ⟨by omega, fun j hj => by by_cases h : j = i; (· subst h; exact up_at _ _ _); (· rw [up_ne _ _ h]; exact hg j (by omega))⟩ (by show 64 - (i + 1) < 64 - i; omega) _ _ _ hP hD hS (lv_sub hl [0, 1, 2, 3] rfl)
              · refine lv_aload_n S.1 S.2.1 dX6_drive_151 rfl (lv_at hl 2 rfl) ?_
                refine k_get S (C := RX6) (T := TX6) (N := 15) (ci := 6) hw_X6 hK hP 0 rfl rfl 1 (by decide) hf_7 rfl (v := .ref m1) rfl dX6_drive_152 ?_
                refine lv_iload_n S.1 S.2.1 dX6_drive_155 rfl (lv_at hl 0 rfl) ?_
                refine kn_zald S hK hP 1 2 rfl rfl (by omega) (by decide) dX6_drive_156 ?_
                refine kb_if_ne S dX6_drive_157 (tgt := 228) (by decide) (fun c157 => ?_) (fun c157 => ?_)
                · refine lv_iinc (v := nI (i + 1)) (lv' := [(3, .int (nI (i + 1))), (2, .int (bI true)), (0, .ref m0), (1, .int (nI d0))]) S.1 S.2.1 dX6_drive_228 hl (k := 0) rfl (iinc_1 _) (by decide) rfl (fun ls hl => ?_)
                  refine lv_goto (tgt := 145) S.1 S.2.1 dX6_drive_231 (by decide) ?_
                  exact ih145 (i + 1, g) ⟨by omega, fun j => by first | (simp only [adF, pshF]; rw [hg j, c157, ld_1, ld_2]; simp only [Bool.false_eq_true, if_false]; omega) | (simp only [pshF]; rw [hg j, c157]; simp only [if_true]; omega)⟩ (by show 64 - (i + 1) < 64 - i; omega) _ _ _ hP hD hS (lv_sub hl [0, 1, 2, 3] rfl)
                · have hs1 : stp w i d0 < 64 := stp_lt (by omega)
                  have hs2 : stp w (stp w i d0) d0 < 64 := stp_lt hs1
                  refine lv_aload_n S.1 S.2.1 dX6_drive_160 rfl (lv_at hl 2 rfl) ?_
                  refine lv_iload_n S.1 S.2.1 dX6_drive_161 rfl (lv_at hl 0 rfl) ?_
                  refine lv_iload_n S.1 S.2.1 dX6_drive_162 rfl (lv_at hl 3 rfl) ?_
                  refine kcV_i S (wc := [(m0, .inr (6, [.int (nI 0), .ref m1, .int (nI (nxn x n0)), .int (bI true), .int (nI n0), .ref m2, .ref m3, .ref m4, .ref m5, .ref m6, .int (nI ac), .int (nI re), .int sl, .int fa, .int db])), (m1, .inl (cyZ, 64, .inl (aZ w)))]) (wr := [(m2, .inl (cyI, 64, .inl (aI (mvC w x cs d0 n0)))), (m5, .inl (cyJ, 64, .inr (.inl (aL b0)))), (m6, .inl (cyJ, 64, .inr (.inl (aL g))))]) (ws2 := [(m0, .inr (6, [.int (nI 0), .ref m1, .int (nI (nxn x n0)), .int (bI true), .int (nI n0), .ref m2, .ref m3, .ref m4, .ref m5, .ref m6, .int (nI ac), .int (nI re), .int sl, .int fa, .int db])), (m1, .inl (cyZ, 64, .inl (aZ w))), (m2, .inl (cyI, 64, .inl (aI (mvC w x cs d0 n0)))), (m5, .inl (cyJ, 64, .inr (.inl (aL b0)))), (m6, .inl (cyJ, 64, .inr (.inl (aL g))))]) (As := [.int (nI i), .int (nI d0)]) (rest := []) (c_X6_step l D cyI cyJ cyZ H.size m0 m1 m2 m3 m4 m5 m6 (nI 0) (nxn x n0) true n0 ac re sl fa db w i d0 (by first | assumption | omega) (by first | assumption | omega)) (cwV 2 S.2.2.2.2 gX6_drive_X6_step rfl rfl rfl (by decide +kernel) ⟨Nat.le_of_ble_eq_true rfl, Nat.le_of_ble_eq_true rfl⟩) hK hP hD hS hA hG [0, 1] [2, 3, 4] [3, 4, 0, 1, 2] rfl rfl rfl rfl (by decide) rfl rfl (ci := 6) (q0 := 0) rfl rfl rfl hl.1 rfl (Nat.le_of_ble_eq_true rfl) dX6_drive_163 ⟨Nat.le_of_ble_eq_true rfl, Nat.le_of_ble_eq_true rfl⟩ (fun H locs hP hD hS => ?_)
                  refine lv_istore (lv' := [(4, .int (nI (stp w i d0))), (3, .int (nI i)), (2, .int (bI true)), (0, .ref m0), (1, .int (nI d0))]) S.1 S.2.1 dX6_drive_166 hl (by decide) rfl (fun ls hl => ?_)
                  refine lv_aload_n S.1 S.2.1 dX6_drive_168 rfl (lv_at hl 3 rfl) ?_
                  refine k_get S (C := RX6) (T := TX6) (N := 15) (ci := 6) hw_X6 hK hP 0 rfl rfl 9 (by decide) hf_31 rfl (v := .ref m6) rfl dX6_drive_169 ?_
                  refine lv_iload S.1 S.2.1 dX6_drive_172 (lv_at hl 0 rfl) ?_
                  refine lv_dup2_11 S.1 S.2.1 dX6_drive_174 rfl rfl ?_
                  refine kn_lald S hK hP 4 1 rfl rfl (by omega) (by decide) dX6_drive_175 ?_
                  refine lv_ldc2 (v := 12) S.1 S.2.1 S.2.2.2.1 (S.2.2.2.2 (.constantLong RX6 98 12) (by decide +kernel)) dX6_drive_176 ?_
                  refine k_topl (y := lN 12) (by decide) ?_
                  refine lv_aload_n S.1 S.2.1 dX6_drive_179 rfl (lv_at hl 3 rfl) ?_
                  refine k_get S (C := RX6) (T := TX6) (N := 15) (ci := 6) hw_X6 hK hP 0 rfl rfl 8 (by decide) hf_27 rfl (v := .ref m5) rfl dX6_drive_180 ?_
                  refine lv_iload_n S.1 S.2.1 dX6_drive_183 rfl (lv_at hl 1 rfl) ?_
                  refine kn_lald S hK hP 3 1 rfl rfl (by omega) (by decide) dX6_drive_184 ?_
                  refine kn_lmul S dX6_drive_185 ?_
                  refine kn_ladd S dX6_drive_186 ?_
                  refine kn_last S hK hP hD hS (ws2 := [(m0, .inr (6, [.int (nI 0), .ref m1, .int (nI (nxn x n0)), .int (bI true), .int (nI n0), .ref m2, .ref m3, .ref m4, .ref m5, .ref m6, .int (nI ac), .int (nI re), .int sl, .int fa, .int db])), (m1, .inl (cyZ, 64, .inl (aZ w))), (m2, .inl (cyI, 64, .inl (aI (mvC w x cs d0 n0)))), (m5, .inl (cyJ, 64, .inr (.inl (aL b0)))), (m6, .inl (cyJ, 64, .inr (.inl (aL (va_up g (stp w i d0) ((g (stp w i d0)) + (12 * (b0 i))))))))]) 4 1 rfl rfl (by omega) (by decide) dX6_drive_187 rfl (fun H locs hP hD hS => ?_)
                  obtain ⟨hP, hD⟩ := P_re (ws2 := [(m0, .inr (6, [.int (nI 0), .ref m1, .int (nI (nxn x n0)), .int (bI true), .int (nI n0), .ref m2, .ref m3, .ref m4, .ref m5, .ref m6, .int (nI ac), .int (nI re), .int sl, .int fa, .int db])), (m1, .inl (cyZ, 64, .inl (aZ w))), (m2, .inl (cyI, 64, .inl (aI (mvC w x cs d0 n0)))), (m5, .inl (cyJ, 64, .inr (.inl (aL b0)))), (m6, .inl (cyJ, 64, .inr (.inl (aL (adF g (stp w i d0) (12 * (b0 i)))))))]) hP hD 4 rfl (by rw [va_adF]) rfl
                  refine lv_aload_n S.1 S.2.1 dX6_drive_188 rfl (lv_at hl 3 rfl) ?_
                  refine k_get S (C := RX6) (T := TX6) (N := 15) (ci := 6) hw_X6 hK hP 0 rfl rfl 9 (by decide) hf_31 rfl (v := .ref m6) rfl dX6_drive_189 ?_
                  refine lv_iload_n S.1 S.2.1 dX6_drive_192 rfl (lv_at hl 1 rfl) ?_
                  refine lv_dup2_11 S.1 S.2.1 dX6_drive_193 rfl rfl ?_
                  refine kn_lald S hK hP 4 1 rfl rfl (by omega) (by decide) dX6_drive_194 ?_
                  refine lv_ldc2 (v := 3) S.1 S.2.1 S.2.2.2.1 (S.2.2.2.2 (.constantLong RX6 100 3) (by decide +kernel)) dX6_drive_195 ?_
                  refine k_topl (y := lN 3) (by decide) ?_
                  refine lv_aload_n S.1 S.2.1 dX6_drive_198 rfl (lv_at hl 3 rfl) ?_
                  refine k_get S (C := RX6) (T := TX6) (N := 15) (ci := 6) hw_X6 hK hP 0 rfl rfl 8 (by decide) hf_27 rfl (v := .ref m5) rfl dX6_drive_199 ?_
                  refine lv_iload_n S.1 S.2.1 dX6_drive_202 rfl (lv_at hl 1 rfl) ?_
                  refine kn_lald S hK hP 3 1 rfl rfl (by omega) (by decide) dX6_drive_203 ?_
                  refine kn_lmul S dX6_drive_204 ?_
                  refine kn_ladd S dX6_drive_205 ?_
                  refine kn_last S hK hP hD hS (ws2 := [(m0, .inr (6, [.int (nI 0), .ref m1, .int (nI (nxn x n0)), .int (bI true), .int (nI n0), .ref m2, .ref m3, .ref m4, .ref m5, .ref m6, .int (nI ac), .int (nI re), .int sl, .int fa, .int db])), (m1, .inl (cyZ, 64, .inl (aZ w))), (m2, .inl (cyI, 64, .inl (aI (mvC w x cs d0 n0)))), (m5, .inl (cyJ, 64, .inr (.inl (aL b0)))), (m6, .inl (cyJ, 64, .inr (.inl (aL (va_up (adF g (stp w i d0) (12 * (b0 i))) i ((adF g (stp w i d0) (12 * (b0 i)) i) + (3 * (b0 i))))))))]) 4 1 rfl rfl (by omega) (by decide) dX6_drive_206 rfl (fun H locs hP hD hS => ?_)
                  obtain ⟨hP, hD⟩ := P_re (ws2 := [(m0, .inr (6, [.int (nI 0), .ref m1, .int (nI (nxn x n0)), .int (bI true), .int (nI n0), .ref m2, .ref m3, .ref m4, .ref m5, .ref m6, .int (nI ac), .int (nI re), .int sl, .int fa, .int db])), (m1, .inl (cyZ, 64, .inl (aZ w))), (m2, .inl (cyI, 64, .inl (aI (mvC w x cs d0 n0)))), (m5, .inl (cyJ, 64, .inr (.inl (aL b0)))), (m6, .inl (cyJ, 64, .inr (.inl (aL (adF (adF g (stp w i d0) (12 * (b0 i))) i (3 * (b0 i)))))))]) hP hD 4 rfl (by rw [va_adF]) rfl
                  refine lv_aload_n S.1 S.2.1 dX6_drive_207 rfl (lv_at hl 3 rfl) ?_
                  refine k_get S (C := RX6) (T := TX6) (N := 15) (ci := 6) hw_X6 hK hP 0 rfl rfl 9 (by decide) hf_31 rfl (v := .ref m6) rfl dX6_drive_208 ?_
                  refine lv_aload_n S.1 S.2.1 dX6_drive_211 rfl (lv_at hl 3 rfl) ?_
                  refine lv_iload S.1 S.2.1 dX6_drive_212 (lv_at hl 0 rfl) ?_
                  refine lv_iload_n S.1 S.2.1 dX6_drive_214 rfl (lv_at hl 4 rfl) ?_
                  refine kcV_i S (wc := [(m0, .inr (6, [.int (nI 0), .ref m1, .int (nI (nxn x n0)), .int (bI true), .int (nI n0), .ref m2, .ref m3, .ref m4, .ref m5, .ref m6, .int (nI ac), .int (nI re), .int sl, .int fa, .int db])), (m1, .inl (cyZ, 64, .inl (aZ w)))]) (wr := [(m2, .inl (cyI, 64, .inl (aI (mvC w x cs d0 n0)))), (m5, .inl (cyJ, 64, .inr (.inl (aL b0)))), (m6, .inl (cyJ, 64, .inr (.inl (aL (adF (adF g (stp w i d0) (12 * (b0 i))) i (3 * (b0 i)))))))]) (ws2 := [(m0, .inr (6, [.int (nI 0), .ref m1, .int (nI (nxn x n0)), .int (bI true), .int (nI n0), .ref m2, .ref m3, .ref m4, .ref m5, .ref m6, .int (nI ac), .int (nI re), .int sl, .int fa, .int db])), (m1, .inl (cyZ, 64, .inl (aZ w))), (m2, .inl (cyI, 64, .inl (aI (mvC w x cs d0 n0)))), (m5, .inl (cyJ, 64, .inr (.inl (aL b0)))), (m6, .inl (cyJ, 64, .inr (.inl (aL (adF (adF g (stp w i d0) (12 * (b0 i))) i (3 * (b0 i)))))))]) (As := [.int (nI (stp w i d0)), .int (nI d0)]) (rest := [.ref m6]) (c_X6_step l D cyI cyJ cyZ H.size m0 m1 m2 m3 m4 m5 m6 (nI 0) (nxn x n0) true n0 ac re sl fa db w (stp w i d0) d0 (hs1) (by first | assumption | omega)) (cwV 2 S.2.2.2.2 gX6_drive_X6_step rfl rfl rfl (by decide +kernel) ⟨Nat.le_of_ble_eq_true rfl, Nat.le_of_ble_eq_true rfl⟩) hK hP hD hS hA hG [0, 1] [2, 3, 4] [3, 4, 0, 1, 2] rfl rfl rfl rfl (by decide) rfl rfl (ci := 6) (q0 := 0) rfl rfl rfl hl.1 rfl (Nat.le_of_ble_eq_true rfl) dX6_drive_215 ⟨Nat.le_of_ble_eq_true rfl, Nat.le_of_ble_eq_true rfl⟩ (fun H locs hP hD hS => ?_)
                  refine lv_dup2_11 S.1 S.2.1 dX6_drive_218 rfl rfl ?_
                  refine kn_lald S hK hP 4 1 rfl rfl (by omega) (by decide) dX6_drive_219 ?_
                  refine lv_aload_n S.1 S.2.1 dX6_drive_220 rfl (lv_at hl 3 rfl) ?_
                  refine k_get S (C := RX6) (T := TX6) (N := 15) (ci := 6) hw_X6 hK hP 0 rfl rfl 8 (by decide) hf_27 rfl (v := .ref m5) rfl dX6_drive_221 ?_
                  refine lv_iload_n S.1 S.2.1 dX6_drive_224 rfl (lv_at hl 1 rfl) ?_
                  refine kn_lald S hK hP 3 1 rfl rfl (by omega) (by decide) dX6_drive_225 ?_
                  refine kn_ladd S dX6_drive_226 ?_
                  refine kn_last S hK hP hD hS (ws2 := [(m0, .inr (6, [.int (nI 0), .ref m1, .int (nI (nxn x n0)), .int (bI true), .int (nI n0), .ref m2, .ref m3, .ref m4, .ref m5, .ref m6, .int (nI ac), .int (nI re), .int sl, .int fa, .int db])), (m1, .inl (cyZ, 64, .inl (aZ w))), (m2, .inl (cyI, 64, .inl (aI (mvC w x cs d0 n0)))), (m5, .inl (cyJ, 64, .inr (.inl (aL b0)))), (m6, .inl (cyJ, 64, .inr (.inl (aL (va_up (adF (adF g (stp w i d0) (12 * (b0 i))) i (3 * (b0 i))) (stp w (stp w i d0) d0) ((adF (adF g (stp w i d0) (12 * (b0 i))) i (3 * (b0 i)) (stp w (stp w i d0) d0)) + (b0 i)))))))]) 4 1 rfl rfl (by omega) (by decide) dX6_drive_227 rfl (fun H locs hP hD hS => ?_)
                  obtain ⟨hP, hD⟩ := P_re (ws2 := [(m0, .inr (6, [.int (nI 0), .ref m1, .int (nI (nxn x n0)), .int (bI true), .int (nI n0), .ref m2, .ref m3, .ref m4, .ref m5, .ref m6, .int (nI ac), .int (nI re), .int sl, .int fa, .int db])), (m1, .inl (cyZ, 64, .inl (aZ w))), (m2, .inl (cyI, 64, .inl (aI (mvC w x cs d0 n0)))), (m5, .inl (cyJ, 64, .inr (.inl (aL b0)))), (m6, .inl (cyJ, 64, .inr (.inl (aL (adF (adF (adF g (stp w i d0) (12 * (b0 i))) i (3 * (b0 i))) (stp w (stp w i d0) d0) (b0 i))))))]) hP hD 4 rfl (by rw [va_adF]) rfl
                  refine lv_iinc (v := nI (i + 1)) (lv' := [(3, .int (nI (i + 1))), (4, .int (nI (stp w i d0))), (2, .int (bI true)), (0, .ref m0), (1, .int (nI d0))]) S.1 S.2.1 dX6_drive_228 hl (k := 1) rfl (iinc_1 _) (by decide) rfl (fun ls hl => ?_)
                  refine lv_goto (tgt := 145) S.1 S.2.1 dX6_drive_231 (by decide) ?_
                  exact ih145 (i + 1, adF (adF (adF g (stp w i d0) (12 * (b0 i))) i (3 * (b0 i))) (stp w (stp w i d0) d0) (b0 i)) ⟨by omega, fun j => by first | (simp only [adF, pshF]; rw [hg j, c157, ld_1, ld_2]; simp only [Bool.false_eq_true, if_false]; omega) | (simp only [pshF]; rw [hg j, c157]; simp only [if_true]; omega)⟩ (by show 64 - (i + 1) < 64 - i; omega) _ _ _ hP hD hS (lv_sub hl [0, 2, 3, 4] rfl)
            · refine lv_aload_n S.1 S.2.1 dX6_drive_130 rfl (lv_at hl 2 rfl) ?_
              refine k_get S (C := RX6) (T := TX6) (N := 15) (ci := 6) hw_X6 hK hP 0 rfl rfl 9 (by decide) hf_31 rfl (v := .ref m6) rfl dX6_drive_131 ?_
              refine lv_iload_n S.1 S.2.1 dX6_drive_134 rfl (lv_at hl 0 rfl) ?_
              refine lv_lconst (v := lN 0) S.1 S.2.1 dX6_drive_135 (by decide) ?_
              refine kn_last S hK hP hD hS (ws2 := [(m0, .inr (6, [.int (nI 0), .ref m1, .int (nI (nxn x n0)), .int (bI true), .int (nI n0), .ref m2, .ref m3, .ref m4, .ref m5, .ref m6, .int (nI ac), .int (nI re), .int sl, .int fa, .int db])), (m1, .inl (cyZ, 64, .inl (aZ w))), (m2, .inl (cyI, 64, .inl (aI (mvC w x cs d0 n0)))), (m5, .inl (cyJ, 64, .inr (.inl (aL b0)))), (m6, .inl (cyJ, 64, .inr (.inl (aL (va_up g i 0)))))]) 4 1 rfl rfl (by omega) (by decide) dX6_drive_136 rfl (fun H locs hP hD hS => ?_)
              refine lv_iinc (v := nI (i + 1)) (lv' := [(3, .int (nI (i + 1))), (2, .int (bI true)), (0, .ref m0), (1, .int (nI d0))]) S.1 S.2.1 dX6_drive_137 hl (k := 0) rfl (iinc_1 _) (by decide) rfl (fun ls hl => ?_)
              refine lv_goto (tgt := 124) S.1 S.2.1 dX6_drive_140 (by decide) ?_
              exact ih124 (i + 1, va_up g i 0) ⟨by omega, fun j hj => by by_cases h : j = i; (· subst h; exact up_at _ _ _); (· rw [up_ne _ _ h]; exact hg j (by omega))⟩ (by show 64 - (i + 1) < 64 - i; omega) _ _ _ hP hD hS (lv_sub hl [0, 1, 2, 3] rfl)
          · have hyl : y < 65537 := (by rw [hy]; exact nxn_lt hx i)
            have huc : us i = cs i := (by rw [hu i, mvC, if_neg (by omega)])
            have hci := hca i (by omega)
            have hsl : stp w (us i) d0 < 64 := stp_lt (by rw [huc]; exact hci)
            have hnl := nx_lt y
            refine lv_aload_n S.1 S.2.1 dX6_drive_53 rfl (lv_at hl 2 rfl) ?_
            refine kcV_i S (wc := [(m0, .inr (6, [.int (nI 0), .ref m1, .int (nI y), .int (bI true), .int (nI n0), .ref m2, .ref m3, .ref m4, .ref m5, .ref m6, .int (nI ac), .int (nI re), .int sl, .int fa, .int db]))]) (wr := [(m1, .inl (cyZ, 64, .inl (aZ w))), (m2, .inl (cyI, 64, .inl (aI us))), (m5, .inl (cyJ, 64, .inr (.inl (aL b0)))), (m6, .inl (cyJ, 64, .inr (.inl (aL fs))))]) (ws2 := [(m0, .inr (6, [.int (nI 0), .ref m1, .int (nI (nx y)), .int (bI true), .int (nI n0), .ref m2, .ref m3, .ref m4, .ref m5, .ref m6, .int (nI ac), .int (nI re), .int sl, .int fa, .int db])), (m1, .inl (cyZ, 64, .inl (aZ w))), (m2, .inl (cyI, 64, .inl (aI us))), (m5, .inl (cyJ, 64, .inr (.inl (aL b0)))), (m6, .inl (cyJ, 64, .inr (.inl (aL fs))))]) (As := []) (rest := []) (c_X6_next l D cyI cyJ cyZ H.size m0 m1 m2 m3 m4 m5 m6 (nI 0) y true n0 ac re sl fa db (by first | assumption | omega)) (cwV 0 S.2.2.2.2 gX6_drive_X6_next rfl rfl rfl (by decide +kernel) ⟨Nat.le_of_ble_eq_true rfl, Nat.le_of_ble_eq_true rfl⟩) hK hP hD hS hA hG [0] [1, 2, 3, 4] [4, 0, 1, 2, 3] rfl rfl rfl rfl (by decide) rfl rfl (ci := 6) (q0 := 0) rfl rfl rfl hl.1 rfl (Nat.le_of_ble_eq_true rfl) dX6_drive_54 ⟨Nat.le_of_ble_eq_true rfl, Nat.le_of_ble_eq_true rfl⟩ (fun H locs hP hD hS => ?_)
            refine lv_bipush (v := nI 16) S.1 S.2.1 dX6_drive_57 (by decide) ?_
            refine kn_irem S (by omega) (by omega) (by omega) dX6_drive_59 ?_
            have h16 := Nat.mod_lt (nx y) (show 0 < 16 by decide)
            refine lv_istore (lv' := [(4, .int (nI ((nx y) % 16))), (3, .int (nI i)), (2, .int (bI true)), (0, .ref m0), (1, .int (nI d0))]) S.1 S.2.1 dX6_drive_60 hl (by decide) rfl (fun ls hl => ?_)
            refine lv_aload_n S.1 S.2.1 dX6_drive_62 rfl (lv_at hl 3 rfl) ?_
            refine lv_aload_n S.1 S.2.1 dX6_drive_63 rfl (lv_at hl 3 rfl) ?_
            refine k_get S (C := RX6) (T := TX6) (N := 15) (ci := 6) hw_X6 hK hP 0 rfl rfl 5 (by decide) hf_17 rfl (v := .ref m2) rfl dX6_drive_64 ?_
            refine lv_iload_n S.1 S.2.1 dX6_drive_67 rfl (lv_at hl 1 rfl) ?_
            refine kn_iald S hK hP 2 0 rfl rfl (by omega) (by decide) dX6_drive_68 ?_
            refine lv_iload_n S.1 S.2.1 dX6_drive_69 rfl (lv_at hl 4 rfl) ?_
            refine kcV_i S (wc := [(m0, .inr (6, [.int (nI 0), .ref m1, .int (nI (nx y)), .int (bI true), .int (nI n0), .ref m2, .ref m3, .ref m4, .ref m5, .ref m6, .int (nI ac), .int (nI re), .int sl, .int fa, .int db])), (m1, .inl (cyZ, 64, .inl (aZ w)))]) (wr := [(m2, .inl (cyI, 64, .inl (aI us))), (m5, .inl (cyJ, 64, .inr (.inl (aL b0)))), (m6, .inl (cyJ, 64, .inr (.inl (aL fs))))]) (ws2 := [(m0, .inr (6, [.int (nI 0), .ref m1, .int (nI (nx y)), .int (bI true), .int (nI n0), .ref m2, .ref m3, .ref m4, .ref m5, .ref m6, .int (nI ac), .int (nI re), .int sl, .int fa, .int db])), (m1, .inl (cyZ, 64, .inl (aZ w))), (m2, .inl (cyI, 64, .inl (aI us))), (m5, .inl (cyJ, 64, .inr (.inl (aL b0)))), (m6, .inl (cyJ, 64, .inr (.inl (aL fs))))]) (As := [.int (nI (us i)), .int (nI d0)]) (rest := []) (c_X6_step l D cyI cyJ cyZ H.size m0 m1 m2 m3 m4 m5 m6 (nI 0) (nx y) true n0 ac re sl fa db w (us i) d0 (by rw [huc]; exact hci) (by first | assumption | omega)) (cwV 2 S.2.2.2.2 gX6_drive_X6_step rfl rfl rfl (by decide +kernel) ⟨Nat.le_of_ble_eq_true rfl, Nat.le_of_ble_eq_true rfl⟩) hK hP hD hS hA hG [0, 1] [2, 3, 4] [3, 4, 0, 1, 2] rfl rfl rfl rfl (by decide) rfl rfl (ci := 6) (q0 := 0) rfl rfl rfl hl.1 rfl (Nat.le_of_ble_eq_true rfl) dX6_drive_70 ⟨Nat.le_of_ble_eq_true rfl, Nat.le_of_ble_eq_true rfl⟩ (fun H locs hP hD hS => ?_)
            refine lv_istore (lv' := [(5, .int (nI (stp w (us i) d0))), (4, .int (nI ((nx y) % 16))), (3, .int (nI i)), (2, .int (bI true)), (0, .ref m0), (1, .int (nI d0))]) S.1 S.2.1 dX6_drive_73 hl (by decide) rfl (fun ls hl => ?_)
            refine lv_aload_n S.1 S.2.1 dX6_drive_75 rfl (lv_at hl 4 rfl) ?_
            refine k_get S (C := RX6) (T := TX6) (N := 15) (ci := 6) hw_X6 hK hP 0 rfl rfl 5 (by decide) hf_17 rfl (v := .ref m2) rfl dX6_drive_76 ?_
            refine lv_iload_n S.1 S.2.1 dX6_drive_79 rfl (lv_at hl 2 rfl) ?_
            refine lv_iload S.1 S.2.1 dX6_drive_80 (lv_at hl 1 rfl) ?_
            refine lv_bipush (v := nI 12) S.1 S.2.1 dX6_drive_82 (by decide) ?_
            refine kn_icmp_ge S (by omega) (by omega) dX6_drive_84 (tgt := 92) (by decide) (fun c84 => ?_) (fun c84 => ?_)
            · refine lv_iload S.1 S.2.1 dX6_drive_92 (lv_at hl 1 rfl) ?_
              refine lv_bipush (v := nI 15) S.1 S.2.1 dX6_drive_94 (by decide) ?_
              refine kn_icmp_ge S (by omega) (by omega) dX6_drive_96 (tgt := 108) (by decide) (fun c96 => ?_) (fun c96 => ?_)
              · refine lv_aload_n S.1 S.2.1 dX6_drive_108 rfl (lv_at hl 4 rfl) ?_
                refine lv_iload S.1 S.2.1 dX6_drive_109 (lv_at hl 0 rfl) ?_
                refine lv_iload_n S.1 S.2.1 dX6_drive_111 rfl (lv_at hl 5 rfl) ?_
                refine kcV_i S (wc := [(m0, .inr (6, [.int (nI 0), .ref m1, .int (nI (nx y)), .int (bI true), .int (nI n0), .ref m2, .ref m3, .ref m4, .ref m5, .ref m6, .int (nI ac), .int (nI re), .int sl, .int fa, .int db])), (m1, .inl (cyZ, 64, .inl (aZ w)))]) (wr := [(m2, .inl (cyI, 64, .inl (aI us))), (m5, .inl (cyJ, 64, .inr (.inl (aL b0)))), (m6, .inl (cyJ, 64, .inr (.inl (aL fs))))]) (ws2 := [(m0, .inr (6, [.int (nI 0), .ref m1, .int (nI (nx y)), .int (bI true), .int (nI n0), .ref m2, .ref m3, .ref m4, .ref m5, .ref m6, .int (nI ac), .int (nI re), .int sl, .int fa, .int db])), (m1, .inl (cyZ, 64, .inl (aZ w))), (m2, .inl (cyI, 64, .inl (aI us))), (m5, .inl (cyJ, 64, .inr (.inl (aL b0)))), (m6, .inl (cyJ, 64, .inr (.inl (aL fs))))]) (As := [.int (nI (stp w (us i) d0)), .int (nI d0)]) (rest := [.int (nI i), .ref m2]) (c_X6_step l D cyI cyJ cyZ H.size m0 m1 m2 m3 m4 m5 m6 (nI 0) (nx y) true n0 ac re sl fa db w (stp w (us i) d0) d0 (hsl) (by first | assumption | omega)) (cwV 2 S.2.2.2.2 gX6_drive_X6_step rfl rfl rfl (by decide +kernel) ⟨Nat.le_of_ble_eq_true rfl, Nat.le_of_ble_eq_true rfl⟩) hK hP hD hS hA hG [0, 1] [2, 3, 4] [3, 4, 0, 1, 2] rfl rfl rfl rfl (by decide) rfl rfl (ci := 6) (q0 := 0) rfl rfl rfl hl.1 rfl (Nat.le_of_ble_eq_true rfl) dX6_drive_112 ⟨Nat.le_of_ble_eq_true rfl, Nat.le_of_ble_eq_true rfl⟩ (fun H locs hP hD hS => ?_)
                refine k_topi (y := nI (ld w (cs i) d0 (sto (nx y % 16)))) (by first | (rw [sto, if_pos c84, ← huc]; rfl) | (rw [sto, if_neg (by omega), if_pos c96, ← huc]; rfl) | (rw [sto, if_neg (by omega), if_neg (by omega), ← huc]; rfl)) ?_
                refine kn_iast S hK hP hD hS (ws2 := [(m0, .inr (6, [.int (nI 0), .ref m1, .int (nI (nx y)), .int (bI true), .int (nI n0), .ref m2, .ref m3, .ref m4, .ref m5, .ref m6, .int (nI ac), .int (nI re), .int sl, .int fa, .int db])), (m1, .inl (cyZ, 64, .inl (aZ w))), (m2, .inl (cyI, 64, .inl (aI (va_up us i (ld w (cs i) d0 (sto (nx y % 16))))))), (m5, .inl (cyJ, 64, .inr (.inl (aL b0)))), (m6, .inl (cyJ, 64, .inr (.inl (aL fs))))]) 2 0 rfl rfl (by omega) (by decide) dX6_drive_115 rfl (fun H locs hP hD hS => ?_)
                refine lv_iinc (v := nI (i + 1)) (lv' := [(3, .int (nI (i + 1))), (5, .int (nI (stp w (us i) d0))), (4, .int (nI ((nx y) % 16))), (2, .int (bI true)), (0, .ref m0), (1, .int (nI d0))]) S.1 S.2.1 dX6_drive_116 hl (k := 2) rfl (iinc_1 _) (by decide) rfl (fun ls hl => ?_)
                refine lv_goto (tgt := 45) S.1 S.2.1 dX6_drive_119 (by decide) ?_
                exact ih45 (i + 1, (nx y), va_up us i (ld w (cs i) d0 (sto (nx y % 16)))) ⟨by omega, by rw [nxn, hy], fun j => by by_cases h : j = i; (· subst h; rw [up_at, mvC, if_pos (by omega), nxn, hy]); (· rw [up_ne _ _ h, hu j, mvC, mvC]; by_cases h2 : j < i; (· rw [if_pos h2, if_pos (by omega)]); (· rw [if_neg h2, if_neg (by omega)]))⟩ (by show n0 - (i + 1) < n0 - i; omega) _ _ _ hP hD hS (lv_sub hl [0, 3, 4, 5] rfl)
              · refine lv_aload_n S.1 S.2.1 dX6_drive_99 rfl (lv_at hl 4 rfl) ?_
                refine k_get S (C := RX6) (T := TX6) (N := 15) (ci := 6) hw_X6 hK hP 0 rfl rfl 5 (by decide) hf_17 rfl (v := .ref m2) rfl dX6_drive_100 ?_
                refine lv_iload_n S.1 S.2.1 dX6_drive_103 rfl (lv_at hl 2 rfl) ?_
                refine kn_iald S hK hP 2 0 rfl rfl (by omega) (by decide) dX6_drive_104 ?_
                refine lv_goto (tgt := 115) S.1 S.2.1 dX6_drive_105 (by decide) ?_
                refine k_topi (y := nI (ld w (cs i) d0 (sto (nx y % 16)))) (by first | (rw [sto, if_pos c84, ← huc]; rfl) | (rw [sto, if_neg (by omega), if_pos c96, ← huc]; rfl) | (rw [sto, if_neg (by omega), if_neg (by omega), ← huc]; rfl)) ?_
                refine kn_iast S hK hP hD hS (ws2 := [(m0, .inr (6, [.int (nI 0), .ref m1, .int (nI (nx y)), .int (bI true), .int (nI n0), .ref m2, .ref m3, .ref m4, .ref m5, .ref m6, .int (nI ac), .int (nI re), .int sl, .int fa, .int db])), (m1, .inl (cyZ, 64, .inl (aZ w))), (m2, .inl (cyI, 64, .inl (aI (va_up us i (ld w (cs i) d0 (sto (nx y % 16))))))), (m5, .inl (cyJ, 64, .inr (.inl (aL b0)))), (m6, .inl (cyJ, 64, .inr (.inl (aL fs))))]) 2 0 rfl rfl (by omega) (by decide) dX6_drive_115 rfl (fun H locs hP hD hS => ?_)
                refine lv_iinc (v := nI (i + 1)) (lv' := [(3, .int (nI (i + 1))), (5, .int (nI (stp w (us i) d0))), (4, .int (nI ((nx y) % 16))), (2, .int (bI true)), (0, .ref m0), (1, .int (nI d0))]) S.1 S.2.1 dX6_drive_116 hl (k := 2) rfl (iinc_1 _) (by decide) rfl (fun ls hl => ?_)
                refine lv_goto (tgt := 45) S.1 S.2.1 dX6_drive_119 (by decide) ?_
                exact ih45 (i + 1, (nx y), va_up us i (ld w (cs i) d0 (sto (nx y % 16)))) ⟨by omega, by rw [nxn, hy], fun j => by by_cases h : j = i; (· subst h; rw [up_at, mvC, if_pos (by omega), nxn, hy]); (· rw [up_ne _ _ h, hu j, mvC, mvC]; by_cases h2 : j < i; (· rw [if_pos h2, if_pos (by omega)]); (· rw [if_neg h2, if_neg (by omega)]))⟩ (by show n0 - (i + 1) < n0 - i; omega) _ _ _ hP hD hS (lv_sub hl [0, 3, 4, 5] rfl)
            · refine lv_iload S.1 S.2.1 dX6_drive_87 (lv_at hl 0 rfl) ?_
              refine lv_goto (tgt := 115) S.1 S.2.1 dX6_drive_89 (by decide) ?_
              refine k_topi (y := nI (ld w (cs i) d0 (sto (nx y % 16)))) (by first | (rw [sto, if_pos c84, ← huc]; rfl) | (rw [sto, if_neg (by omega), if_pos c96, ← huc]; rfl) | (rw [sto, if_neg (by omega), if_neg (by omega), ← huc]; rfl)) ?_
              refine kn_iast S hK hP hD hS (ws2 := [(m0, .inr (6, [.int (nI 0), .ref m1, .int (nI (nx y)), .int (bI true), .int (nI n0), .ref m2, .ref m3, .ref m4, .ref m5, .ref m6, .int (nI ac), .int (nI re), .int sl, .int fa, .int db])), (m1, .inl (cyZ, 64, .inl (aZ w))), (m2, .inl (cyI, 64, .inl (aI (va_up us i (ld w (cs i) d0 (sto (nx y % 16))))))), (m5, .inl (cyJ, 64, .inr (.inl (aL b0)))), (m6, .inl (cyJ, 64, .inr (.inl (aL fs))))]) 2 0 rfl rfl (by omega) (by decide) dX6_drive_115 rfl (fun H locs hP hD hS => ?_)
              refine lv_iinc (v := nI (i + 1)) (lv' := [(3, .int (nI (i + 1))), (5, .int (nI (stp w (us i) d0))), (4, .int (nI ((nx y) % 16))), (2, .int (bI true)), (0, .ref m0), (1, .int (nI d0))]) S.1 S.2.1 dX6_drive_116 hl (k := 2) rfl (iinc_1 _) (by decide) rfl (fun ls hl => ?_)
              refine lv_goto (tgt := 45) S.1 S.2.1 dX6_drive_119 (by decide) ?_
              exact ih45 (i + 1, (nx y), va_up us i (ld w (cs i) d0 (sto (nx y % 16)))) ⟨by omega, by rw [nxn, hy], fun j => by by_cases h : j = i; (· subst h; rw [up_at, mvC, if_pos (by omega), nxn, hy]); (· rw [up_ne _ _ h, hu j, mvC, mvC]; by_cases h2 : j < i; (· rw [if_pos h2, if_pos (by omega)]); (· rw [if_neg h2, if_neg (by omega)]))⟩ (by show n0 - (i + 1) < n0 - i; omega) _ _ _ hP hD hS (lv_sub hl [0, 3, 4, 5] rfl)
        · exact absurd c39 (by decide)
      · exfalso; omega
  · exact absurd c7 (by decide)

set_option maxHeartbeats 4000000 in
set_option maxRecDepth 100000 in
theorem c_X6_read_1 (l : Launch) (D : va_G) (cyI cyJ cyZ : ClassId) (sz : Nat) (m0 : Nat) (m1 : Nat) (m2 : Nat) (m3 : Nat) (m4 : Nat) (m5 : Nat) (m6 : Nat) (th : Int32) (x : Nat) (sp : Bool) (n0 : Nat) (ac : Nat) (re : Nat) (sl : Int32) (fa : Int32) (db : Int32) (v : Int32) (v2 : Int32) (hv : dirP v = false) : Met l yX6_read wsX6_read ({ frames := 4, cells := 0, slots := 0, locals := 102 } : Room) (mPc D [(cyI, .int), (cyJ, .long), (cyZ, .boolean)] [(m0, .inr (6, [.int th, .ref m1, .int (nI x), .int (bI sp), .int (nI n0), .ref m2, .ref m3, .ref m4, .ref m5, .ref m6, .int (nI ac), .int (nI re), .int sl, .int fa, .int db]))] sz [.ref m0, .int v, .int v2]) (va_Qi (fun (r : Int32) (u : va_W) => r = nI 0 ∧ u = [(m0, .inr (6, [.int (nI 1), .ref m1, .int (nI x), .int (bI sp), .int (nI n0), .ref m2, .ref m3, .ref m4, .ref m5, .ref m6, .int (nI ac), .int (nI re), .int sl, .int fa, .int db]))]) (mB D [(cyI, .int), (cyJ, .long), (cyZ, .boolean)] (va_A [(m0, .inr (6, [.int th, .ref m1, .int (nI x), .int (bI sp), .int (nI n0), .ref m2, .ref m3, .ref m4, .ref m5, .ref m6, .int (nI ac), .int (nI re), .int sl, .int fa, .int db]))] sz)) (va_A [(m0, .inr (6, [.int th, .ref m1, .int (nI x), .int (bI sp), .int (nI n0), .ref m2, .ref m3, .ref m4, .ref m5, .ref m6, .int (nI ac), .int (nI re), .int sl, .int fa, .int db]))] sz)) 0 0 (va_A [(m0, .inr (6, [.int th, .ref m1, .int (nI x), .int (bI sp), .int (nI n0), .ref m2, .ref m3, .ref m4, .ref m5, .ref m6, .int (nI ac), .int (nI re), .int sl, .int fa, .int db]))] sz) := by
  refine st_i (own := RX6) (lv0 := [(0, .ref m0), (1, .int v), (2, .int v2)]) (by decide) rfl rfl (Nat.le_of_ble_eq_true rfl) rfl ?_
  intro p e s m below meth c A Q S hin hA hK hP hD hG hS hret ls hl
  refine lv_iload_n S.1 S.2.1 dX6_read_0 rfl (lv_at hl 1 rfl) ?_
  refine kcS_i S (wc := []) (wr := [(m0, .inr (6, [.int th, .ref m1, .int (nI x), .int (bI sp), .int (nI n0), .ref m2, .ref m3, .ref m4, .ref m5, .ref m6, .int (nI ac), .int (nI re), .int sl, .int fa, .int db]))]) (ws2 := [(m0, .inr (6, [.int th, .ref m1, .int (nI x), .int (bI sp), .int (nI n0), .ref m2, .ref m3, .ref m4, .ref m5, .ref m6, .int (nI ac), .int (nI re), .int sl, .int fa, .int db]))]) (As := [.int v]) (rest := []) (c_X6_isDirection l D cyI cyJ cyZ s.heap.size v ) (va_cwS 1 S.2.2.2.2 gX6_read_X6_isDirection rfl rfl rfl (by decide +kernel) ⟨Nat.le_of_ble_eq_true rfl, Nat.le_of_ble_eq_true rfl⟩) hK hP hD hS hA hG [] [0] [0] rfl rfl rfl rfl (by decide) rfl rfl rfl hl.1 rfl (Nat.le_of_ble_eq_true rfl) dX6_read_1 ⟨Nat.le_of_ble_eq_true rfl, Nat.le_of_ble_eq_true rfl⟩ (fun H locs hP hD hS => ?_)
  refine k_topi (y := bI false) (by rw [hv]) ?_
  refine lv_istore_n (lv' := [(3, .int (bI false)), (0, .ref m0), (1, .int v), (2, .int v2)]) S.1 S.2.1 dX6_read_4 rfl hl (by decide) rfl (fun ls hl => ?_)
  refine lv_iload_n S.1 S.2.1 dX6_read_5 rfl (lv_at hl 3 rfl) ?_
  refine lv_iconst (v := nI 0) S.1 S.2.1 dX6_read_6 (by decide) ?_
  refine lv_bipush (v := nI 7) S.1 S.2.1 dX6_read_7 (by decide) ?_
  refine kcS_i S (wc := []) (wr := [(m0, .inr (6, [.int th, .ref m1, .int (nI x), .int (bI sp), .int (nI n0), .ref m2, .ref m3, .ref m4, .ref m5, .ref m6, .int (nI ac), .int (nI re), .int sl, .int fa, .int db]))]) (ws2 := [(m0, .inr (6, [.int th, .ref m1, .int (nI x), .int (bI sp), .int (nI n0), .ref m2, .ref m3, .ref m4, .ref m5, .ref m6, .int (nI ac), .int (nI re), .int sl, .int fa, .int db]))]) (As := [.int v2, .int (nI 0), .int (nI 7)]) (rest := []) (c_X6_in l D cyI cyJ cyZ H.size v2 (nI 0) (nI 7) ) (va_cwS 3 S.2.2.2.2 gX6_read_X6_in rfl rfl rfl (by decide +kernel) ⟨Nat.le_of_ble_eq_true rfl, Nat.le_of_ble_eq_true rfl⟩) hK hP hD hS hA hG [] [0] [0] rfl rfl rfl rfl (by decide) rfl rfl rfl hl.1 rfl (Nat.le_of_ble_eq_true rfl) dX6_read_9 ⟨Nat.le_of_ble_eq_true rfl, Nat.le_of_ble_eq_true rfl⟩ (fun H locs hP hD hS => ?_)
  refine lv_istore (lv' := [(4, .int (bI (inB v2 (nI 0) (nI 7)))), (3, .int (bI false)), (0, .ref m0), (1, .int v), (2, .int v2)]) S.1 S.2.1 dX6_read_12 hl (by decide) rfl (fun ls hl => ?_)
  refine lv_aload_n S.1 S.2.1 dX6_read_14 rfl (lv_at hl 2 rfl) ?_
  refine lv_iload_n S.1 S.2.1 dX6_read_15 rfl (lv_at hl 1 rfl) ?_
  refine kb_if_ne S dX6_read_16 (tgt := 23) (by decide) (fun c16 => ?_) (fun c16 => ?_)
  · exact absurd c16 (by decide)
  · refine lv_iconst (v := nI 1) S.1 S.2.1 dX6_read_19 (by decide) ?_
    refine lv_goto (tgt := 54) S.1 S.2.1 dX6_read_20 (by decide) ?_
    refine kcV_i S (wc := [(m0, .inr (6, [.int th, .ref m1, .int (nI x), .int (bI sp), .int (nI n0), .ref m2, .ref m3, .ref m4, .ref m5, .ref m6, .int (nI ac), .int (nI re), .int sl, .int fa, .int db]))]) (wr := []) (ws2 := [(m0, .inr (6, [.int (nI 1), .ref m1, .int (nI x), .int (bI sp), .int (nI n0), .ref m2, .ref m3, .ref m4, .ref m5, .ref m6, .int (nI ac), .int (nI re), .int sl, .int fa, .int db]))]) (As := [.int (nI 1)]) (rest := []) (c_X6_goesWell_k l D cyI cyJ cyZ H.size m0 m1 m2 m3 m4 m5 m6 th x sp n0 ac re sl fa db 1 (by first | assumption | omega) (by first | assumption | omega)) (cwV 1 S.2.2.2.2 gX6_read_X6_goesWell rfl rfl rfl (by decide +kernel) ⟨Nat.le_of_ble_eq_true rfl, Nat.le_of_ble_eq_true rfl⟩) hK hP hD hS hA hG [0] [] [0] rfl rfl rfl rfl (by decide) rfl rfl (ci := 6) (q0 := 0) rfl rfl rfl hl.1 rfl (Nat.le_of_ble_eq_true rfl) dX6_read_54 ⟨Nat.le_of_ble_eq_true rfl, Nat.le_of_ble_eq_true rfl⟩ (fun H locs hP hD hS => ?_)
    refine kb_if_ne S dX6_read_57 (tgt := 62) (by decide) (fun c57 => ?_) (fun c57 => ?_)
    · exact absurd c57 (by decide)
    · refine lv_iconst (v := nI 0) S.1 S.2.1 dX6_read_60 (by decide) ?_
      exact hret _ _ _ _ dX6_read_61 hP hD hS

set_option maxHeartbeats 4000000 in
set_option maxRecDepth 100000 in
theorem c_X6_read_2 (l : Launch) (D : va_G) (cyI cyJ cyZ : ClassId) (sz : Nat) (m0 : Nat) (m1 : Nat) (m2 : Nat) (m3 : Nat) (m4 : Nat) (m5 : Nat) (m6 : Nat) (th : Int32) (x : Nat) (sp : Bool) (n0 : Nat) (ac : Nat) (re : Nat) (sl : Int32) (fa : Int32) (db : Int32) (d0 : Nat) (v2 : Int32) (hd : d0 < 4) (hv : inB v2 (nI 0) (nI 7) = false) : Met l yX6_read wsX6_read ({ frames := 4, cells := 0, slots := 0, locals := 102 } : Room) (mPc D [(cyI, .int), (cyJ, .long), (cyZ, .boolean)] [(m0, .inr (6, [.int th, .ref m1, .int (nI x), .int (bI sp), .int (nI n0), .ref m2, .ref m3, .ref m4, .ref m5, .ref m6, .int (nI ac), .int (nI re), .int sl, .int fa, .int db]))] sz [.ref m0, .int (nI d0), .int v2]) (va_Qi (fun (r : Int32) (u : va_W) => r = nI 0 ∧ u = [(m0, .inr (6, [.int (nI 2), .ref m1, .int (nI x), .int (bI sp), .int (nI n0), .ref m2, .ref m3, .ref m4, .ref m5, .ref m6, .int (nI ac), .int (nI re), .int sl, .int fa, .int db]))]) (mB D [(cyI, .int), (cyJ, .long), (cyZ, .boolean)] (va_A [(m0, .inr (6, [.int th, .ref m1, .int (nI x), .int (bI sp), .int (nI n0), .ref m2, .ref m3, .ref m4, .ref m5, .ref m6, .int (nI ac), .int (nI re), .int sl, .int fa, .int db]))] sz)) (va_A [(m0, .inr (6, [.int th, .ref m1, .int (nI x), .int (bI sp), .int (nI n0), .ref m2, .ref m3, .ref m4, .ref m5, .ref m6, .int (nI ac), .int (nI re), .int sl, .int fa, .int db]))] sz)) 0 0 (va_A [(m0, .inr (6, [.int th, .ref m1, .int (nI x), .int (bI sp), .int (nI n0), .ref m2, .ref m3, .ref m4, .ref m5, .ref m6, .int (nI ac), .int (nI re), .int sl, .int fa, .int db]))] sz) := by
  refine st_i (own := RX6) (lv0 := [(0, .ref m0), (1, .int (nI d0)), (2, .int v2)]) (by decide) rfl rfl (Nat.le_of_ble_eq_true rfl) rfl ?_
  intro p e s m below meth c A Q S hin hA hK hP hD hG hS hret ls hl
  refine lv_iload_n S.1 S.2.1 dX6_read_0 rfl (lv_at hl 1 rfl) ?_
  refine kcS_i S (wc := []) (wr := [(m0, .inr (6, [.int th, .ref m1, .int (nI x), .int (bI sp), .int (nI n0), .ref m2, .ref m3, .ref m4, .ref m5, .ref m6, .int (nI ac), .int (nI re), .int sl, .int fa, .int db]))]) (ws2 := [(m0, .inr (6, [.int th, .ref m1, .int (nI x), .int (bI sp), .int (nI n0), .ref m2, .ref m3, .ref m4, .ref m5, .ref m6, .int (nI ac), .int (nI re), .int sl, .int fa, .int db]))]) (As := [.int (nI d0)]) (rest := []) (c_X6_isDirection_n l D cyI cyJ cyZ s.heap.size d0 (by first | assumption | omega)) (va_cwS 1 S.2.2.2.2 gX6_read_X6_isDirection rfl rfl rfl (by decide +kernel) ⟨Nat.le_of_ble_eq_true rfl, Nat.le_of_ble_eq_true rfl⟩) hK hP hD hS hA hG [] [0] [0] rfl rfl rfl rfl (by decide) rfl rfl rfl hl.1 rfl (Nat.le_of_ble_eq_true rfl) dX6_read_1 ⟨Nat.le_of_ble_eq_true rfl, Nat.le_of_ble_eq_true rfl⟩ (fun H locs hP hD hS => ?_)
  refine lv_istore_n (lv' := [(3, .int (bI true)), (0, .ref m0), (1, .int (nI d0)), (2, .int v2)]) S.1 S.2.1 dX6_read_4 rfl hl (by decide) rfl (fun ls hl => ?_)
  refine lv_iload_n S.1 S.2.1 dX6_read_5 rfl (lv_at hl 3 rfl) ?_
  refine lv_iconst (v := nI 0) S.1 S.2.1 dX6_read_6 (by decide) ?_
  refine lv_bipush (v := nI 7) S.1 S.2.1 dX6_read_7 (by decide) ?_
  refine kcS_i S (wc := []) (wr := [(m0, .inr (6, [.int th, .ref m1, .int (nI x), .int (bI sp), .int (nI n0), .ref m2, .ref m3, .ref m4, .ref m5, .ref m6, .int (nI ac), .int (nI re), .int sl, .int fa, .int db]))]) (ws2 := [(m0, .inr (6, [.int th, .ref m1, .int (nI x), .int (bI sp), .int (nI n0), .ref m2, .ref m3, .ref m4, .ref m5, .ref m6, .int (nI ac), .int (nI re), .int sl, .int fa, .int db]))]) (As := [.int v2, .int (nI 0), .int (nI 7)]) (rest := []) (c_X6_in l D cyI cyJ cyZ H.size v2 (nI 0) (nI 7) ) (va_cwS 3 S.2.2.2.2 gX6_read_X6_in rfl rfl rfl (by decide +kernel) ⟨Nat.le_of_ble_eq_true rfl, Nat.le_of_ble_eq_true rfl⟩) hK hP hD hS hA hG [] [0] [0] rfl rfl rfl rfl (by decide) rfl rfl rfl hl.1 rfl (Nat.le_of_ble_eq_true rfl) dX6_read_9 ⟨Nat.le_of_ble_eq_true rfl, Nat.le_of_ble_eq_true rfl⟩ (fun H locs hP hD hS => ?_)
  refine k_topi (y := bI false) (by rw [hv]) ?_
  refine lv_istore (lv' := [(4, .int (bI false)), (3, .int (bI true)), (0, .ref m0), (1, .int (nI d0)), (2, .int v2)]) S.1 S.2.1 dX6_read_12 hl (by decide) rfl (fun ls hl => ?_)
  refine lv_aload_n S.1 S.2.1 dX6_read_14 rfl (lv_at hl 2 rfl) ?_
  refine lv_iload_n S.1 S.2.1 dX6_read_15 rfl (lv_at hl 1 rfl) ?_
  refine kb_if_ne S dX6_read_16 (tgt := 23) (by decide) (fun c16 => ?_) (fun c16 => ?_)
  · refine lv_iload S.1 S.2.1 dX6_read_23 (lv_at hl 0 rfl) ?_
    refine kb_if_ne S dX6_read_25 (tgt := 32) (by decide) (fun c25 => ?_) (fun c25 => ?_)
    · exact absurd c25 (by decide)
    · refine lv_iconst (v := nI 2) S.1 S.2.1 dX6_read_28 (by decide) ?_
      refine lv_goto (tgt := 54) S.1 S.2.1 dX6_read_29 (by decide) ?_
      refine kcV_i S (wc := [(m0, .inr (6, [.int th, .ref m1, .int (nI x), .int (bI sp), .int (nI n0), .ref m2, .ref m3, .ref m4, .ref m5, .ref m6, .int (nI ac), .int (nI re), .int sl, .int fa, .int db]))]) (wr := []) (ws2 := [(m0, .inr (6, [.int (nI 2), .ref m1, .int (nI x), .int (bI sp), .int (nI n0), .ref m2, .ref m3, .ref m4, .ref m5, .ref m6, .int (nI ac), .int (nI re), .int sl, .int fa, .int db]))]) (As := [.int (nI 2)]) (rest := []) (c_X6_goesWell_k l D cyI cyJ cyZ H.size m0 m1 m2 m3 m4 m5 m6 th x sp n0 ac re sl fa db 2 (by first | assumption | omega) (by first | assumption | omega)) (cwV 1 S.2.2.2.2 gX6_read_X6_goesWell rfl rfl rfl (by decide +kernel) ⟨Nat.le_of_ble_eq_true rfl, Nat.le_of_ble_eq_true rfl⟩) hK hP hD hS hA hG [0] [] [0] rfl rfl rfl rfl (by decide) rfl rfl (ci := 6) (q0 := 0) rfl rfl rfl hl.1 rfl (Nat.le_of_ble_eq_true rfl) dX6_read_54 ⟨Nat.le_of_ble_eq_true rfl, Nat.le_of_ble_eq_true rfl⟩ (fun H locs hP hD hS => ?_)
      refine kb_if_ne S dX6_read_57 (tgt := 62) (by decide) (fun c57 => ?_) (fun c57 => ?_)
      · exact absurd c57 (by decide)
      · refine lv_iconst (v := nI 0) S.1 S.2.1 dX6_read_60 (by decide) ?_
        exact hret _ _ _ _ dX6_read_61 hP hD hS
  · exact absurd c16 (by decide)

set_option maxHeartbeats 4000000 in
set_option maxRecDepth 100000 in
theorem c_X6_read_3a (l : Launch) (D : va_G) (cyI cyJ cyZ : ClassId) (sz : Nat) (m0 : Nat) (m1 : Nat) (m2 : Nat) (m3 : Nat) (m4 : Nat) (m5 : Nat) (m6 : Nat) (th : Int32) (x : Nat) (sp : Bool) (n0 : Nat) (ac : Nat) (re : Nat) (sl : Int32) (fa : Int32) (db : Int32) (d0 : Nat) (r0 : Nat) (hd : d0 < 4) (hr : r0 < 8) : Met l yX6_read wsX6_read ({ frames := 4, cells := 0, slots := 0, locals := 102 } : Room) (mPc D [(cyI, .int), (cyJ, .long), (cyZ, .boolean)] [(m0, .inr (6, [.int th, .ref m1, .int (nI x), .int (bI false), .int (nI n0), .ref m2, .ref m3, .ref m4, .ref m5, .ref m6, .int (nI ac), .int (nI re), .int sl, .int fa, .int db]))] sz [.ref m0, .int (nI d0), .int (nI r0)]) (va_Qi (fun (r : Int32) (u : va_W) => r = nI 0 ∧ u = [(m0, .inr (6, [.int (nI 3), .ref m1, .int (nI x), .int (bI false), .int (nI n0), .ref m2, .ref m3, .ref m4, .ref m5, .ref m6, .int (nI ac), .int (nI re), .int sl, .int fa, .int db]))]) (mB D [(cyI, .int), (cyJ, .long), (cyZ, .boolean)] (va_A [(m0, .inr (6, [.int th, .ref m1, .int (nI x), .int (bI false), .int (nI n0), .ref m2, .ref m3, .ref m4, .ref m5, .ref m6, .int (nI ac), .int (nI re), .int sl, .int fa, .int db]))] sz)) (va_A [(m0, .inr (6, [.int th, .ref m1, .int (nI x), .int (bI false), .int (nI n0), .ref m2, .ref m3, .ref m4, .ref m5, .ref m6, .int (nI ac), .int (nI re), .int sl, .int fa, .int db]))] sz)) 0 0 (va_A [(m0, .inr (6, [.int th, .ref m1, .int (nI x), .int (bI false), .int (nI n0), .ref m2, .ref m3, .ref m4, .ref m5, .ref m6, .int (nI ac), .int (nI re), .int sl, .int fa, .int db]))] sz) := by
  refine st_i (own := RX6) (lv0 := [(0, .ref m0), (1, .int (nI d0)), (2, .int (nI r0))]) (by decide) rfl rfl (Nat.le_of_ble_eq_true rfl) rfl ?_
  intro p e s m below meth c A Q S hin hA hK hP hD hG hS hret ls hl
  have hw_X6 : ∀ w ∈ u_ws RX6 TX6 15, w ∈ wsX6_read := by decide +kernel
  have hf_49 := S.2.2.2.2 (.fieldLink RX6 49 "ParticlewayModel" "isSpread" "Z") (by decide +kernel)
  refine lv_iload_n S.1 S.2.1 dX6_read_0 rfl (lv_at hl 1 rfl) ?_
  refine kcS_i S (wc := []) (wr := [(m0, .inr (6, [.int th, .ref m1, .int (nI x), .int (bI false), .int (nI n0), .ref m2, .ref m3, .ref m4, .ref m5, .ref m6, .int (nI ac), .int (nI re), .int sl, .int fa, .int db]))]) (ws2 := [(m0, .inr (6, [.int th, .ref m1, .int (nI x), .int (bI false), .int (nI n0), .ref m2, .ref m3, .ref m4, .ref m5, .ref m6, .int (nI ac), .int (nI re), .int sl, .int fa, .int db]))]) (As := [.int (nI d0)]) (rest := []) (c_X6_isDirection_n l D cyI cyJ cyZ s.heap.size d0 (by first | assumption | omega)) (va_cwS 1 S.2.2.2.2 gX6_read_X6_isDirection rfl rfl rfl (by decide +kernel) ⟨Nat.le_of_ble_eq_true rfl, Nat.le_of_ble_eq_true rfl⟩) hK hP hD hS hA hG [] [0] [0] rfl rfl rfl rfl (by decide) rfl rfl rfl hl.1 rfl (Nat.le_of_ble_eq_true rfl) dX6_read_1 ⟨Nat.le_of_ble_eq_true rfl, Nat.le_of_ble_eq_true rfl⟩ (fun H locs hP hD hS => ?_)
  refine lv_istore_n (lv' := [(3, .int (bI true)), (0, .ref m0), (1, .int (nI d0)), (2, .int (nI r0))]) S.1 S.2.1 dX6_read_4 rfl hl (by decide) rfl (fun ls hl => ?_)
  refine lv_iload_n S.1 S.2.1 dX6_read_5 rfl (lv_at hl 3 rfl) ?_
  refine lv_iconst (v := nI 0) S.1 S.2.1 dX6_read_6 (by decide) ?_
  refine lv_bipush (v := nI 7) S.1 S.2.1 dX6_read_7 (by decide) ?_
  refine kcS_i S (wc := []) (wr := [(m0, .inr (6, [.int th, .ref m1, .int (nI x), .int (bI false), .int (nI n0), .ref m2, .ref m3, .ref m4, .ref m5, .ref m6, .int (nI ac), .int (nI re), .int sl, .int fa, .int db]))]) (ws2 := [(m0, .inr (6, [.int th, .ref m1, .int (nI x), .int (bI false), .int (nI n0), .ref m2, .ref m3, .ref m4, .ref m5, .ref m6, .int (nI ac), .int (nI re), .int sl, .int fa, .int db]))]) (As := [.int (nI r0), .int (nI 0), .int (nI 7)]) (rest := []) (c_X6_in_n l D cyI cyJ cyZ H.size r0 0 7 (by first | assumption | omega) (by first | assumption | omega) (by first | assumption | omega)) (va_cwS 3 S.2.2.2.2 gX6_read_X6_in rfl rfl rfl (by decide +kernel) ⟨Nat.le_of_ble_eq_true rfl, Nat.le_of_ble_eq_true rfl⟩) hK hP hD hS hA hG [] [0] [0] rfl rfl rfl rfl (by decide) rfl rfl rfl hl.1 rfl (Nat.le_of_ble_eq_true rfl) dX6_read_9 ⟨Nat.le_of_ble_eq_true rfl, Nat.le_of_ble_eq_true rfl⟩ (fun H locs hP hD hS => ?_)
  refine k_topi (y := bI true) (by rw [decide_eq_true (by omega)]) ?_
  refine lv_istore (lv' := [(4, .int (bI true)), (3, .int (bI true)), (0, .ref m0), (1, .int (nI d0)), (2, .int (nI r0))]) S.1 S.2.1 dX6_read_12 hl (by decide) rfl (fun ls hl => ?_)
  refine lv_aload_n S.1 S.2.1 dX6_read_14 rfl (lv_at hl 2 rfl) ?_
  refine lv_iload_n S.1 S.2.1 dX6_read_15 rfl (lv_at hl 1 rfl) ?_
  refine kb_if_ne S dX6_read_16 (tgt := 23) (by decide) (fun c16 => ?_) (fun c16 => ?_)
  · refine lv_iload S.1 S.2.1 dX6_read_23 (lv_at hl 0 rfl) ?_
    refine kb_if_ne S dX6_read_25 (tgt := 32) (by decide) (fun c25 => ?_) (fun c25 => ?_)
    · refine lv_aload_n S.1 S.2.1 dX6_read_32 rfl (lv_at hl 2 rfl) ?_
      refine k_get S (C := RX6) (T := TX6) (N := 15) (ci := 6) hw_X6 hK hP 0 rfl rfl 3 (by decide) hf_49 rfl (v := .int (bI false)) rfl dX6_read_33 ?_
      refine kb_if_eq S dX6_read_36 (tgt := 49) (by decide) (fun c36 => ?_) (fun c36 => ?_)
      · refine lv_iconst (v := nI 3) S.1 S.2.1 dX6_read_49 (by decide) ?_
        refine lv_goto (tgt := 54) S.1 S.2.1 dX6_read_50 (by decide) ?_
        refine kcV_i S (wc := [(m0, .inr (6, [.int th, .ref m1, .int (nI x), .int (bI false), .int (nI n0), .ref m2, .ref m3, .ref m4, .ref m5, .ref m6, .int (nI ac), .int (nI re), .int sl, .int fa, .int db]))]) (wr := []) (ws2 := [(m0, .inr (6, [.int (nI 3), .ref m1, .int (nI x), .int (bI false), .int (nI n0), .ref m2, .ref m3, .ref m4, .ref m5, .ref m6, .int (nI ac), .int (nI re), .int sl, .int fa, .int db]))]) (As := [.int (nI 3)]) (rest := []) (c_X6_goesWell_k l D cyI cyJ cyZ H.size m0 m1 m2 m3 m4 m5 m6 th x false n0 ac re sl fa db 3 (by first | assumption | omega) (by first | assumption | omega)) (cwV 1 S.2.2.2.2 gX6_read_X6_goesWell rfl rfl rfl (by decide +kernel) ⟨Nat.le_of_ble_eq_true rfl, Nat.le_of_ble_eq_true rfl⟩) hK hP hD hS hA hG [0] [] [0] rfl rfl rfl rfl (by decide) rfl rfl (ci := 6) (q0 := 0) rfl rfl rfl hl.1 rfl (Nat.le_of_ble_eq_true rfl) dX6_read_54 ⟨Nat.le_of_ble_eq_true rfl, Nat.le_of_ble_eq_true rfl⟩ (fun H locs hP hD hS => ?_)
        refine kb_if_ne S dX6_read_57 (tgt := 62) (by decide) (fun c57 => ?_) (fun c57 => ?_)
        · exact absurd c57 (by decide)
        · refine lv_iconst (v := nI 0) S.1 S.2.1 dX6_read_60 (by decide) ?_
          exact hret _ _ _ _ dX6_read_61 hP hD hS
      · exact absurd c36 (by decide)
    · exact absurd c25 (by decide)
  · exact absurd c16 (by decide)

set_option maxHeartbeats 4000000 in
set_option maxRecDepth 100000 in
theorem c_X6_read_3b (l : Launch) (D : va_G) (cyI cyJ cyZ : ClassId) (sz : Nat) (m0 : Nat) (m1 : Nat) (m2 : Nat) (m3 : Nat) (m4 : Nat) (m5 : Nat) (m6 : Nat) (th : Int32) (x : Nat) (sp : Bool) (n0 : Nat) (ac : Nat) (re : Nat) (sl : Int32) (fa : Int32) (db : Int32) (d0 : Nat) (r0 : Nat) (hd : d0 < 4) (hr : r0 < 8) (hac : ac = 300) : Met l yX6_read wsX6_read ({ frames := 4, cells := 0, slots := 0, locals := 102 } : Room) (mPc D [(cyI, .int), (cyJ, .long), (cyZ, .boolean)] [(m0, .inr (6, [.int th, .ref m1, .int (nI x), .int (bI true), .int (nI n0), .ref m2, .ref m3, .ref m4, .ref m5, .ref m6, .int (nI ac), .int (nI re), .int sl, .int fa, .int db]))] sz [.ref m0, .int (nI d0), .int (nI r0)]) (va_Qi (fun (r : Int32) (u : va_W) => r = nI 0 ∧ u = [(m0, .inr (6, [.int (nI 3), .ref m1, .int (nI x), .int (bI true), .int (nI n0), .ref m2, .ref m3, .ref m4, .ref m5, .ref m6, .int (nI ac), .int (nI re), .int sl, .int fa, .int db]))]) (mB D [(cyI, .int), (cyJ, .long), (cyZ, .boolean)] (va_A [(m0, .inr (6, [.int th, .ref m1, .int (nI x), .int (bI true), .int (nI n0), .ref m2, .ref m3, .ref m4, .ref m5, .ref m6, .int (nI ac), .int (nI re), .int sl, .int fa, .int db]))] sz)) (va_A [(m0, .inr (6, [.int th, .ref m1, .int (nI x), .int (bI true), .int (nI n0), .ref m2, .ref m3, .ref m4, .ref m5, .ref m6, .int (nI ac), .int (nI re), .int sl, .int fa, .int db]))] sz)) 0 0 (va_A [(m0, .inr (6, [.int th, .ref m1, .int (nI x), .int (bI true), .int (nI n0), .ref m2, .ref m3, .ref m4, .ref m5, .ref m6, .int (nI ac), .int (nI re), .int sl, .int fa, .int db]))] sz) := by
  refine st_i (own := RX6) (lv0 := [(0, .ref m0), (1, .int (nI d0)), (2, .int (nI r0))]) (by decide) rfl rfl (Nat.le_of_ble_eq_true rfl) rfl ?_
  intro p e s m below meth c A Q S hin hA hK hP hD hG hS hret ls hl
  have hw_X6 : ∀ w ∈ u_ws RX6 TX6 15, w ∈ wsX6_read := by decide +kernel
  have hf_49 := S.2.2.2.2 (.fieldLink RX6 49 "ParticlewayModel" "isSpread" "Z") (by decide +kernel)
  have hf_78 := S.2.2.2.2 (.fieldLink RX6 78 "ParticlewayModel" "acts" "I") (by decide +kernel)
  refine lv_iload_n S.1 S.2.1 dX6_read_0 rfl (lv_at hl 1 rfl) ?_
  refine kcS_i S (wc := []) (wr := [(m0, .inr (6, [.int th, .ref m1, .int (nI x), .int (bI true), .int (nI n0), .ref m2, .ref m3, .ref m4, .ref m5, .ref m6, .int (nI ac), .int (nI re), .int sl, .int fa, .int db]))]) (ws2 := [(m0, .inr (6, [.int th, .ref m1, .int (nI x), .int (bI true), .int (nI n0), .ref m2, .ref m3, .ref m4, .ref m5, .ref m6, .int (nI ac), .int (nI re), .int sl, .int fa, .int db]))]) (As := [.int (nI d0)]) (rest := []) (c_X6_isDirection_n l D cyI cyJ cyZ s.heap.size d0 (by first | assumption | omega)) (va_cwS 1 S.2.2.2.2 gX6_read_X6_isDirection rfl rfl rfl (by decide +kernel) ⟨Nat.le_of_ble_eq_true rfl, Nat.le_of_ble_eq_true rfl⟩) hK hP hD hS hA hG [] [0] [0] rfl rfl rfl rfl (by decide) rfl rfl rfl hl.1 rfl (Nat.le_of_ble_eq_true rfl) dX6_read_1 ⟨Nat.le_of_ble_eq_true rfl, Nat.le_of_ble_eq_true rfl⟩ (fun H locs hP hD hS => ?_)
  refine lv_istore_n (lv' := [(3, .int (bI true)), (0, .ref m0), (1, .int (nI d0)), (2, .int (nI r0))]) S.1 S.2.1 dX6_read_4 rfl hl (by decide) rfl (fun ls hl => ?_)
  refine lv_iload_n S.1 S.2.1 dX6_read_5 rfl (lv_at hl 3 rfl) ?_
  refine lv_iconst (v := nI 0) S.1 S.2.1 dX6_read_6 (by decide) ?_
  refine lv_bipush (v := nI 7) S.1 S.2.1 dX6_read_7 (by decide) ?_
  refine kcS_i S (wc := []) (wr := [(m0, .inr (6, [.int th, .ref m1, .int (nI x), .int (bI true), .int (nI n0), .ref m2, .ref m3, .ref m4, .ref m5, .ref m6, .int (nI ac), .int (nI re), .int sl, .int fa, .int db]))]) (ws2 := [(m0, .inr (6, [.int th, .ref m1, .int (nI x), .int (bI true), .int (nI n0), .ref m2, .ref m3, .ref m4, .ref m5, .ref m6, .int (nI ac), .int (nI re), .int sl, .int fa, .int db]))]) (As := [.int (nI r0), .int (nI 0), .int (nI 7)]) (rest := []) (c_X6_in_n l D cyI cyJ cyZ H.size r0 0 7 (by first | assumption | omega) (by first | assumption | omega) (by first | assumption | omega)) (va_cwS 3 S.2.2.2.2 gX6_read_X6_in rfl rfl rfl (by decide +kernel) ⟨Nat.le_of_ble_eq_true rfl, Nat.le_of_ble_eq_true rfl⟩) hK hP hD hS hA hG [] [0] [0] rfl rfl rfl rfl (by decide) rfl rfl rfl hl.1 rfl (Nat.le_of_ble_eq_true rfl) dX6_read_9 ⟨Nat.le_of_ble_eq_true rfl, Nat.le_of_ble_eq_true rfl⟩ (fun H locs hP hD hS => ?_)
  refine k_topi (y := bI true) (by rw [decide_eq_true (by omega)]) ?_
  refine lv_istore (lv' := [(4, .int (bI true)), (3, .int (bI true)), (0, .ref m0), (1, .int (nI d0)), (2, .int (nI r0))]) S.1 S.2.1 dX6_read_12 hl (by decide) rfl (fun ls hl => ?_)
  refine lv_aload_n S.1 S.2.1 dX6_read_14 rfl (lv_at hl 2 rfl) ?_
  refine lv_iload_n S.1 S.2.1 dX6_read_15 rfl (lv_at hl 1 rfl) ?_
  refine kb_if_ne S dX6_read_16 (tgt := 23) (by decide) (fun c16 => ?_) (fun c16 => ?_)
  · refine lv_iload S.1 S.2.1 dX6_read_23 (lv_at hl 0 rfl) ?_
    refine kb_if_ne S dX6_read_25 (tgt := 32) (by decide) (fun c25 => ?_) (fun c25 => ?_)
    · refine lv_aload_n S.1 S.2.1 dX6_read_32 rfl (lv_at hl 2 rfl) ?_
      refine k_get S (C := RX6) (T := TX6) (N := 15) (ci := 6) hw_X6 hK hP 0 rfl rfl 3 (by decide) hf_49 rfl (v := .int (bI true)) rfl dX6_read_33 ?_
      refine kb_if_eq S dX6_read_36 (tgt := 49) (by decide) (fun c36 => ?_) (fun c36 => ?_)
      · exact absurd c36 (by decide)
      · refine lv_aload_n S.1 S.2.1 dX6_read_39 rfl (lv_at hl 2 rfl) ?_
        refine k_get S (C := RX6) (T := TX6) (N := 15) (ci := 6) hw_X6 hK hP 0 rfl rfl 10 (by decide) hf_78 rfl (v := .int (nI ac)) rfl dX6_read_40 ?_
        refine lv_sipush (v := nI 300) S.1 S.2.1 dX6_read_43 (by decide) ?_
        refine kn_icmp_ne S (by omega) (by omega) dX6_read_46 (tgt := 53) (by decide) (fun c46 => ?_) (fun c46 => ?_)
        · exact absurd hac c46
        · refine lv_iconst (v := nI 3) S.1 S.2.1 dX6_read_49 (by decide) ?_
          refine lv_goto (tgt := 54) S.1 S.2.1 dX6_read_50 (by decide) ?_
          refine kcV_i S (wc := [(m0, .inr (6, [.int th, .ref m1, .int (nI x), .int (bI true), .int (nI n0), .ref m2, .ref m3, .ref m4, .ref m5, .ref m6, .int (nI ac), .int (nI re), .int sl, .int fa, .int db]))]) (wr := []) (ws2 := [(m0, .inr (6, [.int (nI 3), .ref m1, .int (nI x), .int (bI true), .int (nI n0), .ref m2, .ref m3, .ref m4, .ref m5, .ref m6, .int (nI ac), .int (nI re), .int sl, .int fa, .int db]))]) (As := [.int (nI 3)]) (rest := []) (c_X6_goesWell_k l D cyI cyJ cyZ H.size m0 m1 m2 m3 m4 m5 m6 th x true n0 ac re sl fa db 3 (by first | assumption | omega) (by first | assumption | omega)) (cwV 1 S.2.2.2.2 gX6_read_X6_goesWell rfl rfl rfl (by decide +kernel) ⟨Nat.le_of_ble_eq_true rfl, Nat.le_of_ble_eq_true rfl⟩) hK hP hD hS hA hG [0] [] [0] rfl rfl rfl rfl (by decide) rfl rfl (ci := 6) (q0 := 0) rfl rfl rfl hl.1 rfl (Nat.le_of_ble_eq_true rfl) dX6_read_54 ⟨Nat.le_of_ble_eq_true rfl, Nat.le_of_ble_eq_true rfl⟩ (fun H locs hP hD hS => ?_)
          refine kb_if_ne S dX6_read_57 (tgt := 62) (by decide) (fun c57 => ?_) (fun c57 => ?_)
          · exact absurd c57 (by decide)
          · refine lv_iconst (v := nI 0) S.1 S.2.1 dX6_read_60 (by decide) ?_
            exact hret _ _ _ _ dX6_read_61 hP hD hS
    · exact absurd c25 (by decide)
  · exact absurd c16 (by decide)
end MODELD
