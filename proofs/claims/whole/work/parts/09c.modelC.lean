section MODELC
set_option maxHeartbeats 4000000 in
set_option maxRecDepth 100000 in
theorem c_X6_drawAnew (l : Launch) (D : va_G) (cyI cyJ cyZ : ClassId) (sz : Nat) (m0 : Nat) (m1 : Nat) (m2 : Nat) (m3 : Nat) (m4 : Nat) (m5 : Nat) (m6 : Nat) (th : Int32) (x : Nat) (sp : Bool) (n0 : Nat) (ac : Nat) (re : Nat) (sl : Int32) (fa : Int32) (db : Int32) (w : Nat → Bool) (cs : Nat → Nat) (os : Nat → Nat) (us : Nat → Nat) (W0 : Nat) (hn : n0 ≤ 64) (hn0 : 0 < n0) (hca : ∀ j, j < 64 → cs j < 64) (hu : ∀ j, j < 64 → us j ≤ 8) (hx : x < 65537) (hf0 : 0 < cntF w 64) (hW : W0 = smF us n0) : Met l yX6_drawAnew wsX6_drawAnew ({ frames := 4, cells := 0, slots := 0, locals := 104 } : Room) (mPc D [(cyI, .int), (cyJ, .long), (cyZ, .boolean)] [(m0, .inr (6, [.int th, .ref m1, .int (nI x), .int (bI sp), .int (nI n0), .ref m2, .ref m3, .ref m4, .ref m5, .ref m6, .int (nI ac), .int (nI re), .int sl, .int fa, .int db])), (m1, .inl (cyZ, 64, .inl (aZ w))), (m2, .inl (cyI, 64, .inl (aI cs))), (m3, .inl (cyI, 64, .inl (aI os))), (m4, .inl (cyI, 64, .inl (aI us)))] sz [.ref m0, .int (nI W0)]) (va_Qv (fun (u : va_W) => u = [(m0, .inr (6, [.int th, .ref m1, .int (nI (daX W0 db (stX0 W0 x) (mnw cs us n0))), .int (bI sp), .int (nI (mnw cs us n0)), .ref m2, .ref m3, .ref m4, .ref m5, .ref m6, .int (nI ac), .int (nI re), .int sl, .int fa, .int db])), (m1, .inl (cyZ, 64, .inl (aZ w))), (m2, .inl (cyI, 64, .inl (aI (daK w cs us n0 W0 (mnw cs us n0) (stR W0 x) db (stX0 W0 x) (mnw cs us n0))))), (m3, .inl (cyI, 64, .inl (aI (cpN cs os n0)))), (m4, .inl (cyI, 64, .inl (aI us)))]) (mB D [(cyI, .int), (cyJ, .long), (cyZ, .boolean)] (va_A [(m0, .inr (6, [.int th, .ref m1, .int (nI x), .int (bI sp), .int (nI n0), .ref m2, .ref m3, .ref m4, .ref m5, .ref m6, .int (nI ac), .int (nI re), .int sl, .int fa, .int db])), (m1, .inl (cyZ, 64, .inl (aZ w))), (m2, .inl (cyI, 64, .inl (aI cs))), (m3, .inl (cyI, 64, .inl (aI os))), (m4, .inl (cyI, 64, .inl (aI us)))] sz)) (va_A [(m0, .inr (6, [.int th, .ref m1, .int (nI x), .int (bI sp), .int (nI n0), .ref m2, .ref m3, .ref m4, .ref m5, .ref m6, .int (nI ac), .int (nI re), .int sl, .int fa, .int db])), (m1, .inl (cyZ, 64, .inl (aZ w))), (m2, .inl (cyI, 64, .inl (aI cs))), (m3, .inl (cyI, 64, .inl (aI os))), (m4, .inl (cyI, 64, .inl (aI us)))] sz)) 0 0 (va_A [(m0, .inr (6, [.int th, .ref m1, .int (nI x), .int (bI sp), .int (nI n0), .ref m2, .ref m3, .ref m4, .ref m5, .ref m6, .int (nI ac), .int (nI re), .int sl, .int fa, .int db])), (m1, .inl (cyZ, 64, .inl (aZ w))), (m2, .inl (cyI, 64, .inl (aI cs))), (m3, .inl (cyI, 64, .inl (aI os))), (m4, .inl (cyI, 64, .inl (aI us)))] sz) := by
  refine st_v (own := RX6) (lv0 := [(0, .ref m0), (1, .int (nI W0))]) (by decide) rfl rfl (Nat.le_of_ble_eq_true rfl) rfl ?_
  intro p e s m below meth c A Q S hin hA hK hP hD hG hS hret ls hl
  have hw_X6 : ∀ w ∈ u_ws RX6 TX6 15, w ∈ wsX6_drawAnew := by decide +kernel
  have hf_69 := S.2.2.2.2 (.fieldLink RX6 69 "ParticlewayModel" "samples" "I") (by decide +kernel)
  have hf_84 := S.2.2.2.2 (.fieldLink RX6 84 "ParticlewayModel" "doubt" "I") (by decide +kernel)
  have hf_17 := S.2.2.2.2 (.fieldLink RX6 17 "ParticlewayModel" "sample" "[I") (by decide +kernel)
  have hf_21 := S.2.2.2.2 (.fieldLink RX6 21 "ParticlewayModel" "old" "[I") (by decide +kernel)
  have hmi := mnw_in cs us n0
  have hnxl := nx_lt x
  have hsl := smF_le (f := us) (B := 8) (n := n0) (fun j hj => hu j (by omega))
  have hcp0 : cpN cs os n0 0 = cs 0 := (by rw [cpN, if_pos hn0])
  refine lv_aload_n S.1 S.2.1 dX6_drawAnew_0 rfl (lv_at hl 0 rfl) ?_
  refine kcV_i S (wc := [(m0, .inr (6, [.int th, .ref m1, .int (nI x), .int (bI sp), .int (nI n0), .ref m2, .ref m3, .ref m4, .ref m5, .ref m6, .int (nI ac), .int (nI re), .int sl, .int fa, .int db])), (m2, .inl (cyI, 64, .inl (aI cs))), (m4, .inl (cyI, 64, .inl (aI us)))]) (wr := [(m1, .inl (cyZ, 64, .inl (aZ w))), (m3, .inl (cyI, 64, .inl (aI os)))]) (ws2 := [(m0, .inr (6, [.int th, .ref m1, .int (nI x), .int (bI sp), .int (nI n0), .ref m2, .ref m3, .ref m4, .ref m5, .ref m6, .int (nI ac), .int (nI re), .int sl, .int fa, .int db])), (m1, .inl (cyZ, 64, .inl (aZ w))), (m2, .inl (cyI, 64, .inl (aI cs))), (m3, .inl (cyI, 64, .inl (aI os))), (m4, .inl (cyI, 64, .inl (aI us)))]) (As := []) (rest := []) (c_X6_manyNew l D cyI cyJ cyZ s.heap.size m0 m1 m2 m3 m4 m5 m6 th x sp n0 ac re sl fa db cs us (by first | assumption | omega) (by first | assumption | omega) (by first | assumption | omega)) (cwV 0 S.2.2.2.2 gX6_drawAnew_X6_manyNew rfl rfl rfl (by decide +kernel) ⟨Nat.le_of_ble_eq_true rfl, Nat.le_of_ble_eq_true rfl⟩) hK hP hD hS hA hG [0, 2, 4] [1, 3] [2, 0, 3, 1, 4] rfl rfl rfl rfl (by decide) rfl rfl (ci := 6) (q0 := 0) rfl rfl rfl hl.1 rfl (Nat.le_of_ble_eq_true rfl) dX6_drawAnew_1 ⟨Nat.le_of_ble_eq_true rfl, Nat.le_of_ble_eq_true rfl⟩ (fun H locs hP hD hS => ?_)
  refine lv_istore_n (lv' := [(2, .int (nI (mnw cs us n0))), (0, .ref m0), (1, .int (nI W0))]) S.1 S.2.1 dX6_drawAnew_4 rfl hl (by decide) rfl (fun ls hl => ?_)
  refine lv_iconst (v := nI 0) S.1 S.2.1 dX6_drawAnew_5 (by decide) ?_
  refine lv_istore_n (lv' := [(3, .int (nI 0)), (2, .int (nI (mnw cs us n0))), (0, .ref m0), (1, .int (nI W0))]) S.1 S.2.1 dX6_drawAnew_6 rfl hl (by decide) rfl (fun ls hl => ?_)
  refine wl (σ := Nat × (Nat → Nat)) (fun (i, v) => [(m0, .inr (6, [.int th, .ref m1, .int (nI x), .int (bI sp), .int (nI n0), .ref m2, .ref m3, .ref m4, .ref m5, .ref m6, .int (nI ac), .int (nI re), .int sl, .int fa, .int db])), (m1, .inl (cyZ, 64, .inl (aZ w))), (m2, .inl (cyI, 64, .inl (aI cs))), (m3, .inl (cyI, 64, .inl (aI v))), (m4, .inl (cyI, 64, .inl (aI us)))]) (fun (i, v) => [(3, .int (nI i)), (2, .int (nI (mnw cs us n0))), (0, .ref m0), (1, .int (nI W0))]) (fun (i, v) => (i ≤ n0) ∧ (∀ j, v j = cpN cs os i j)) (fun (i, v) => n0 - i) ?_ (0, os) ⟨by omega, fun j => by simp [cpN]⟩ hP hD hS (lv_sub hl [0, 1, 2, 3] rfl)
  rintro ⟨i, v⟩ ⟨hi, hv⟩ ih7 H locs ls hP hD hS hl
  have hP : va_P D vwCl [(m0, .inr (6, [.int th, .ref m1, .int (nI x), .int (bI sp), .int (nI n0), .ref m2, .ref m3, .ref m4, .ref m5, .ref m6, .int (nI ac), .int (nI re), .int sl, .int fa, .int db])), (m1, .inl (cyZ, 64, .inl (aZ w))), (m2, .inl (cyI, 64, .inl (aI cs))), (m3, .inl (cyI, 64, .inl (aI v))), (m4, .inl (cyI, 64, .inl (aI us)))] H := hP
  have hD : va_D A [(m0, .inr (6, [.int th, .ref m1, .int (nI x), .int (bI sp), .int (nI n0), .ref m2, .ref m3, .ref m4, .ref m5, .ref m6, .int (nI ac), .int (nI re), .int sl, .int fa, .int db])), (m1, .inl (cyZ, 64, .inl (aZ w))), (m2, .inl (cyI, 64, .inl (aI cs))), (m3, .inl (cyI, 64, .inl (aI v))), (m4, .inl (cyI, 64, .inl (aI us)))] := hD
  have hl : lv_has ls 6 [(3, .int (nI i)), (2, .int (nI (mnw cs us n0))), (0, .ref m0), (1, .int (nI W0))] := hl
  refine lv_iload_n S.1 S.2.1 dX6_drawAnew_7 rfl (lv_at hl 0 rfl) ?_
  refine lv_aload_n S.1 S.2.1 dX6_drawAnew_8 rfl (lv_at hl 2 rfl) ?_
  refine k_get S (C := RX6) (T := TX6) (N := 15) (ci := 6) hw_X6 hK hP 0 rfl rfl 4 (by decide) hf_69 rfl (v := .int (nI n0)) rfl dX6_drawAnew_9 ?_
  refine kn_icmp_ge S (by omega) (by omega) dX6_drawAnew_12 (tgt := 33) (by decide) (fun c12 => ?_) (fun c12 => ?_)
  · obtain ⟨hP, hD⟩ := P_re (ws2 := [(m0, .inr (6, [.int th, .ref m1, .int (nI x), .int (bI sp), .int (nI n0), .ref m2, .ref m3, .ref m4, .ref m5, .ref m6, .int (nI ac), .int (nI re), .int sl, .int fa, .int db])), (m1, .inl (cyZ, 64, .inl (aZ w))), (m2, .inl (cyI, 64, .inl (aI cs))), (m3, .inl (cyI, 64, .inl (aI (cpN cs os n0)))), (m4, .inl (cyI, 64, .inl (aI us)))]) hP hD 3 rfl (cell_aI (fun j hj => by rw [hv j, show i = n0 by omega])) rfl
    refine wj (D := D) (cl := vwCl) (A := A) (H0 := s.heap) (nL := 6) (σ := Unit) (pc2 := 47) (fun _ => [(m0, .inr (6, [.int th, .ref m1, .int (nI (stX0 W0 x)), .int (bI sp), .int (nI n0), .ref m2, .ref m3, .ref m4, .ref m5, .ref m6, .int (nI ac), .int (nI re), .int sl, .int fa, .int db])), (m1, .inl (cyZ, 64, .inl (aZ w))), (m2, .inl (cyI, 64, .inl (aI cs))), (m3, .inl (cyI, 64, .inl (aI (cpN cs os n0)))), (m4, .inl (cyI, 64, .inl (aI us)))]) (fun _ => [(2, .int (nI (mnw cs us n0))), (0, .ref m0), (1, .int (nI W0))]) (fun _ => [.int (nI (stR W0 x))]) (fun _ => True) ?_ ?_
    · rintro _ _ H locs ls hP hD hS hl
      have hP : va_P D vwCl [(m0, .inr (6, [.int th, .ref m1, .int (nI (stX0 W0 x)), .int (bI sp), .int (nI n0), .ref m2, .ref m3, .ref m4, .ref m5, .ref m6, .int (nI ac), .int (nI re), .int sl, .int fa, .int db])), (m1, .inl (cyZ, 64, .inl (aZ w))), (m2, .inl (cyI, 64, .inl (aI cs))), (m3, .inl (cyI, 64, .inl (aI (cpN cs os n0)))), (m4, .inl (cyI, 64, .inl (aI us)))] H := hP
      have hD : va_D A [(m0, .inr (6, [.int th, .ref m1, .int (nI (stX0 W0 x)), .int (bI sp), .int (nI n0), .ref m2, .ref m3, .ref m4, .ref m5, .ref m6, .int (nI ac), .int (nI re), .int sl, .int fa, .int db])), (m1, .inl (cyZ, 64, .inl (aZ w))), (m2, .inl (cyI, 64, .inl (aI cs))), (m3, .inl (cyI, 64, .inl (aI (cpN cs os n0)))), (m4, .inl (cyI, 64, .inl (aI us)))] := hD
      have hl : lv_has ls 6 [(2, .int (nI (mnw cs us n0))), (0, .ref m0), (1, .int (nI W0))] := hl
      show W p l e _ s m _ below meth c H locs _ _ _ (F0 m 47 ls [.int (nI (stR W0 x))])
      refine lv_istore_n (lv' := [(3, .int (nI (stR W0 x))), (2, .int (nI (mnw cs us n0))), (0, .ref m0), (1, .int (nI W0))]) S.1 S.2.1 dX6_drawAnew_47 rfl hl (by decide) rfl (fun ls hl => ?_)
      refine lv_iconst (v := nI 0) S.1 S.2.1 dX6_drawAnew_48 (by decide) ?_
      refine lv_istore (lv' := [(4, .int (nI 0)), (3, .int (nI (stR W0 x))), (2, .int (nI (mnw cs us n0))), (0, .ref m0), (1, .int (nI W0))]) S.1 S.2.1 dX6_drawAnew_49 hl (by decide) rfl (fun ls hl => ?_)
      refine wl (σ := Nat × Nat × (Nat → Nat)) (fun (i, y, v) => [(m0, .inr (6, [.int th, .ref m1, .int (nI y), .int (bI sp), .int (nI n0), .ref m2, .ref m3, .ref m4, .ref m5, .ref m6, .int (nI ac), .int (nI re), .int sl, .int fa, .int db])), (m1, .inl (cyZ, 64, .inl (aZ w))), (m2, .inl (cyI, 64, .inl (aI v))), (m3, .inl (cyI, 64, .inl (aI (cpN cs os n0)))), (m4, .inl (cyI, 64, .inl (aI us)))]) (fun (i, y, v) => [(4, .int (nI i)), (3, .int (nI (stR W0 x))), (2, .int (nI (mnw cs us n0))), (0, .ref m0), (1, .int (nI W0))]) (fun (i, y, v) => (i ≤ mnw cs us n0) ∧ (y = daX W0 db (stX0 W0 x) i) ∧ (∀ j, v j = daK w cs us n0 W0 (mnw cs us n0) (stR W0 x) db (stX0 W0 x) i j)) (fun (i, y, v) => mnw cs us n0 - i) ?_ (0, stX0 W0 x, cs) ⟨by omega, rfl, fun j => by simp [daK]⟩ hP hD hS (lv_sub hl [0, 1, 2, 3, 4] rfl)
      rintro ⟨i, y, v⟩ ⟨hi, hy, hj⟩ ih51 H locs ls hP hD hS hl
      have hP : va_P D vwCl [(m0, .inr (6, [.int th, .ref m1, .int (nI y), .int (bI sp), .int (nI n0), .ref m2, .ref m3, .ref m4, .ref m5, .ref m6, .int (nI ac), .int (nI re), .int sl, .int fa, .int db])), (m1, .inl (cyZ, 64, .inl (aZ w))), (m2, .inl (cyI, 64, .inl (aI v))), (m3, .inl (cyI, 64, .inl (aI (cpN cs os n0)))), (m4, .inl (cyI, 64, .inl (aI us)))] H := hP
      have hD : va_D A [(m0, .inr (6, [.int th, .ref m1, .int (nI y), .int (bI sp), .int (nI n0), .ref m2, .ref m3, .ref m4, .ref m5, .ref m6, .int (nI ac), .int (nI re), .int sl, .int fa, .int db])), (m1, .inl (cyZ, 64, .inl (aZ w))), (m2, .inl (cyI, 64, .inl (aI v))), (m3, .inl (cyI, 64, .inl (aI (cpN cs os n0)))), (m4, .inl (cyI, 64, .inl (aI us)))] := hD
      have hl : lv_has ls 6 [(4, .int (nI i)), (3, .int (nI (stR W0 x))), (2, .int (nI (mnw cs us n0))), (0, .ref m0), (1, .int (nI W0))] := hl
      refine lv_iload S.1 S.2.1 dX6_drawAnew_51 (lv_at hl 0 rfl) ?_
      refine lv_iload_n S.1 S.2.1 dX6_drawAnew_53 rfl (lv_at hl 2 rfl) ?_
      refine kn_icmp_ge S (by omega) (by omega) dX6_drawAnew_54 (tgt := 120) (by decide) (fun c54 => ?_) (fun c54 => ?_)
      · have hyk : y = daX W0 db (stX0 W0 x) (mnw cs us n0) := (by rw [hy, show i = mnw cs us n0 by omega])
        subst hyk
        obtain ⟨hP, hD⟩ := P_re (ws2 := [(m0, .inr (6, [.int th, .ref m1, .int (nI (daX W0 db (stX0 W0 x) (mnw cs us n0))), .int (bI sp), .int (nI n0), .ref m2, .ref m3, .ref m4, .ref m5, .ref m6, .int (nI ac), .int (nI re), .int sl, .int fa, .int db])), (m1, .inl (cyZ, 64, .inl (aZ w))), (m2, .inl (cyI, 64, .inl (aI (daK w cs us n0 W0 (mnw cs us n0) (stR W0 x) db (stX0 W0 x) (mnw cs us n0))))), (m3, .inl (cyI, 64, .inl (aI (cpN cs os n0)))), (m4, .inl (cyI, 64, .inl (aI us)))]) hP hD 2 rfl (cell_aI (fun j hj2 => by rw [hj j, show i = mnw cs us n0 by omega])) rfl
        refine lv_aload_n S.1 S.2.1 dX6_drawAnew_120 rfl (lv_at hl 3 rfl) ?_
        refine lv_iload_n S.1 S.2.1 dX6_drawAnew_121 rfl (lv_at hl 2 rfl) ?_
        refine k_put S (C := RX6) (T := TX6) (N := 15) (ci := 6) (ws2 := [(m0, .inr (6, [.int th, .ref m1, .int (nI (daX W0 db (stX0 W0 x) (mnw cs us n0))), .int (bI sp), .int (nI (mnw cs us n0)), .ref m2, .ref m3, .ref m4, .ref m5, .ref m6, .int (nI ac), .int (nI re), .int sl, .int fa, .int db])), (m1, .inl (cyZ, 64, .inl (aZ w))), (m2, .inl (cyI, 64, .inl (aI (daK w cs us n0 W0 (mnw cs us n0) (stR W0 x) db (stX0 W0 x) (mnw cs us n0))))), (m3, .inl (cyI, 64, .inl (aI (cpN cs os n0)))), (m4, .inl (cyI, 64, .inl (aI us)))]) hw_X6 tyX6 tyX6_ok nmX6 hK hP hD hS 0 rfl rfl 4 (by decide) hf_69 rfl rfl rfl rfl (Nat.le_of_ble_eq_true rfl) dX6_drawAnew_122 rfl (fun H locs hP hD hS => ?_)
        exact hret _ _ _ _ dX6_drawAnew_125 hP hD hS
      · have hyl : y < 65537 := (by rw [hy]; exact daX_lt (stX0_lt hx) i)
        have hyl2 := nx_lt y
        have hkf := (kth_free (Nat.mod_lt (nx (nx y)) hf0)).1
        have hiW : i * W0 ≤ 64 * 512 := Nat.mul_le_mul (by omega) (by omega)
        have hsr := stR_le (W := W0) (x := x)
        refine lv_aload_n S.1 S.2.1 dX6_drawAnew_57 rfl (lv_at hl 3 rfl) ?_
        refine kcV_i S (wc := [(m0, .inr (6, [.int th, .ref m1, .int (nI y), .int (bI sp), .int (nI n0), .ref m2, .ref m3, .ref m4, .ref m5, .ref m6, .int (nI ac), .int (nI re), .int sl, .int fa, .int db]))]) (wr := [(m1, .inl (cyZ, 64, .inl (aZ w))), (m2, .inl (cyI, 64, .inl (aI v))), (m3, .inl (cyI, 64, .inl (aI (cpN cs os n0)))), (m4, .inl (cyI, 64, .inl (aI us)))]) (ws2 := [(m0, .inr (6, [.int th, .ref m1, .int (nI (nx y)), .int (bI sp), .int (nI n0), .ref m2, .ref m3, .ref m4, .ref m5, .ref m6, .int (nI ac), .int (nI re), .int sl, .int fa, .int db])), (m1, .inl (cyZ, 64, .inl (aZ w))), (m2, .inl (cyI, 64, .inl (aI v))), (m3, .inl (cyI, 64, .inl (aI (cpN cs os n0)))), (m4, .inl (cyI, 64, .inl (aI us)))]) (As := []) (rest := []) (c_X6_next l D cyI cyJ cyZ H.size m0 m1 m2 m3 m4 m5 m6 th y sp n0 ac re sl fa db (by first | assumption | omega)) (cwV 0 S.2.2.2.2 gX6_drawAnew_X6_next rfl rfl rfl (by decide +kernel) ⟨Nat.le_of_ble_eq_true rfl, Nat.le_of_ble_eq_true rfl⟩) hK hP hD hS hA hG [0] [1, 2, 3, 4] [4, 0, 1, 2, 3] rfl rfl rfl rfl (by decide) rfl rfl (ci := 6) (q0 := 0) rfl rfl rfl hl.1 rfl (Nat.le_of_ble_eq_true rfl) dX6_drawAnew_58 ⟨Nat.le_of_ble_eq_true rfl, Nat.le_of_ble_eq_true rfl⟩ (fun H locs hP hD hS => ?_)
        refine lv_sipush (v := nI 256) S.1 S.2.1 dX6_drawAnew_61 (by decide) ?_
        refine kn_irem S (by omega) (by omega) (by omega) dX6_drawAnew_64 ?_
        refine lv_aload_n S.1 S.2.1 dX6_drawAnew_65 rfl (lv_at hl 3 rfl) ?_
        refine k_get S (C := RX6) (T := TX6) (N := 15) (ci := 6) hw_X6 hK hP 0 rfl rfl 14 (by decide) hf_84 rfl (v := .int db) rfl dX6_drawAnew_66 ?_
        refine lv_icmp_lt S.1 S.2.1 dX6_drawAnew_69 (tgt := 76) (by decide) (fun c69 => ?_) (fun c69 => ?_)
        · refine lv_iconst (v := nI 1) S.1 S.2.1 dX6_drawAnew_76 (by decide) ?_
          refine lv_goto (tgt := 81) S.1 S.2.1 dX6_drawAnew_77 (by decide) ?_
          refine lv_istore (lv' := [(5, .int (nI 1)), (4, .int (nI i)), (3, .int (nI (stR W0 x))), (2, .int (nI (mnw cs us n0))), (0, .ref m0), (1, .int (nI W0))]) S.1 S.2.1 dX6_drawAnew_81 hl (by decide) rfl (fun ls hl => ?_)
          refine lv_aload_n S.1 S.2.1 dX6_drawAnew_83 rfl (lv_at hl 4 rfl) ?_
          refine k_get S (C := RX6) (T := TX6) (N := 15) (ci := 6) hw_X6 hK hP 0 rfl rfl 5 (by decide) hf_17 rfl (v := .ref m2) rfl dX6_drawAnew_84 ?_
          refine lv_iload S.1 S.2.1 dX6_drawAnew_87 (lv_at hl 1 rfl) ?_
          refine lv_iload S.1 S.2.1 dX6_drawAnew_89 (lv_at hl 0 rfl) ?_
          refine kn_if_eq S (by omega) dX6_drawAnew_91 (tgt := 101) (by decide) (fun c91 => ?_) (fun c91 => ?_)
          · exact absurd c91 (by omega)
          · have hgd : gdB W0 db (nx y) = true := (by first | (simp [gdB, show W0 = 0 by omega]; done) | (simp [gdB, i32_lle c69]; done))
            refine lv_aload_n S.1 S.2.1 dX6_drawAnew_94 rfl (lv_at hl 4 rfl) ?_
            refine kcV_i S (wc := [(m0, .inr (6, [.int th, .ref m1, .int (nI (nx y)), .int (bI sp), .int (nI n0), .ref m2, .ref m3, .ref m4, .ref m5, .ref m6, .int (nI ac), .int (nI re), .int sl, .int fa, .int db])), (m1, .inl (cyZ, 64, .inl (aZ w)))]) (wr := [(m2, .inl (cyI, 64, .inl (aI v))), (m3, .inl (cyI, 64, .inl (aI (cpN cs os n0)))), (m4, .inl (cyI, 64, .inl (aI us)))]) (ws2 := [(m0, .inr (6, [.int th, .ref m1, .int (nI (nx (nx y))), .int (bI sp), .int (nI n0), .ref m2, .ref m3, .ref m4, .ref m5, .ref m6, .int (nI ac), .int (nI re), .int sl, .int fa, .int db])), (m1, .inl (cyZ, 64, .inl (aZ w))), (m2, .inl (cyI, 64, .inl (aI v))), (m3, .inl (cyI, 64, .inl (aI (cpN cs os n0)))), (m4, .inl (cyI, 64, .inl (aI us)))]) (As := []) (rest := [.int (nI i), .ref m2]) (c_X6_drawCell l D cyI cyJ cyZ H.size m0 m1 m2 m3 m4 m5 m6 th (nx y) sp n0 ac re sl fa db w (nx_lt _) (by first | assumption | omega)) (cwV 0 S.2.2.2.2 gX6_drawAnew_X6_drawCell rfl rfl rfl (by decide +kernel) ⟨Nat.le_of_ble_eq_true rfl, Nat.le_of_ble_eq_true rfl⟩) hK hP hD hS hA hG [0, 1] [2, 3, 4] [3, 4, 0, 1, 2] rfl rfl rfl rfl (by decide) rfl rfl (ci := 6) (q0 := 0) rfl rfl rfl hl.1 rfl (Nat.le_of_ble_eq_true rfl) dX6_drawAnew_95 ⟨Nat.le_of_ble_eq_true rfl, Nat.le_of_ble_eq_true rfl⟩ (fun H locs hP hD hS => ?_)
            refine lv_goto (tgt := 113) S.1 S.2.1 dX6_drawAnew_98 (by decide) ?_
            refine kn_iast S hK hP hD hS (ws2 := [(m0, .inr (6, [.int th, .ref m1, .int (nI (nx (nx y))), .int (bI sp), .int (nI n0), .ref m2, .ref m3, .ref m4, .ref m5, .ref m6, .int (nI ac), .int (nI re), .int sl, .int fa, .int db])), (m1, .inl (cyZ, 64, .inl (aZ w))), (m2, .inl (cyI, 64, .inl (aI (va_up v i (kth w (nx (nx y) % (cntF w 64))))))), (m3, .inl (cyI, 64, .inl (aI (cpN cs os n0)))), (m4, .inl (cyI, 64, .inl (aI us)))]) 2 0 rfl rfl (by omega) (by decide) dX6_drawAnew_113 rfl (fun H locs hP hD hS => ?_)
            refine lv_iinc (v := nI (i + 1)) (lv' := [(4, .int (nI (i + 1))), (5, .int (nI 1)), (3, .int (nI (stR W0 x))), (2, .int (nI (mnw cs us n0))), (0, .ref m0), (1, .int (nI W0))]) S.1 S.2.1 dX6_drawAnew_114 hl (k := 1) rfl (iinc_1 _) (by decide) rfl (fun ls hl => ?_)
            refine lv_goto (tgt := 51) S.1 S.2.1 dX6_drawAnew_117 (by decide) ?_
            exact ih51 (i + 1, nx (nx y), va_up v i (kth w (nx (nx y) % (cntF w 64)))) ⟨by omega, by rw [daX, ← hy, hgd]; rfl, fun j => by by_cases h : j = i; (· subst h; rw [up_at, daK, if_pos (by omega), daC, ← hy, hgd]; first | rfl | exact hoc); (· rw [up_ne _ _ h, hj j, daK, daK]; by_cases h2 : j < i; (· rw [if_pos h2, if_pos (by omega)]); (· rw [if_neg h2, if_neg (by omega)]))⟩ (by show mnw cs us n0 - (i + 1) < mnw cs us n0 - i; omega) _ _ _ hP hD hS (lv_sub hl [0, 2, 3, 4, 5] rfl)
        · refine lv_iload_n S.1 S.2.1 dX6_drawAnew_72 rfl (lv_at hl 4 rfl) ?_
          refine kn_if_ne S (by omega) dX6_drawAnew_73 (tgt := 80) (by decide) (fun c73 => ?_) (fun c73 => ?_)
          · refine lv_iconst (v := nI 0) S.1 S.2.1 dX6_drawAnew_80 (by decide) ?_
            refine lv_istore (lv' := [(5, .int (nI 0)), (4, .int (nI i)), (3, .int (nI (stR W0 x))), (2, .int (nI (mnw cs us n0))), (0, .ref m0), (1, .int (nI W0))]) S.1 S.2.1 dX6_drawAnew_81 hl (by decide) rfl (fun ls hl => ?_)
            refine lv_aload_n S.1 S.2.1 dX6_drawAnew_83 rfl (lv_at hl 4 rfl) ?_
            refine k_get S (C := RX6) (T := TX6) (N := 15) (ci := 6) hw_X6 hK hP 0 rfl rfl 5 (by decide) hf_17 rfl (v := .ref m2) rfl dX6_drawAnew_84 ?_
            refine lv_iload S.1 S.2.1 dX6_drawAnew_87 (lv_at hl 1 rfl) ?_
            refine lv_iload S.1 S.2.1 dX6_drawAnew_89 (lv_at hl 0 rfl) ?_
            refine kn_if_eq S (by omega) dX6_drawAnew_91 (tgt := 101) (by decide) (fun c91 => ?_) (fun c91 => ?_)
            · have hgd : gdB W0 db (nx y) = false := (by have h9 : ¬ W0 = 0 := (by omega); simp [gdB, i32_nlt c69, h9])
              have hmk : ((stR W0 x) + (i * W0)) / (mnw cs us n0) < smF us n0 := (by rw [← hW]; exact mark_lt (by rw [stR, if_neg (by omega)]; exact Nat.mod_lt _ (by omega)) (by omega))
              have hoc : oaF (cpN cs os n0) us (((stR W0 x) + (i * W0)) / (mnw cs us n0)) n0 0 0 = oaF cs us (((stR W0 x) + (i * W0)) / (mnw cs us n0)) n0 0 0 := oaF_cong hcp0 (Nat.zero_add _) (fun j hj2 => by rw [cpN, if_pos hj2]) (fun _ _ => rfl)
              refine lv_aload_n S.1 S.2.1 dX6_drawAnew_101 rfl (lv_at hl 4 rfl) ?_
              refine lv_iload_n S.1 S.2.1 dX6_drawAnew_102 rfl (lv_at hl 2 rfl) ?_
              refine lv_iload S.1 S.2.1 dX6_drawAnew_103 (lv_at hl 1 rfl) ?_
              refine lv_iload_n S.1 S.2.1 dX6_drawAnew_105 rfl (lv_at hl 5 rfl) ?_
              refine kn_imul S dX6_drawAnew_106 ?_
              refine kn_iadd S dX6_drawAnew_107 ?_
              refine lv_iload_n S.1 S.2.1 dX6_drawAnew_108 rfl (lv_at hl 3 rfl) ?_
              refine kn_idiv S (by omega) (by omega) (by omega) dX6_drawAnew_109 ?_
              refine kcV_i S (wc := [(m0, .inr (6, [.int th, .ref m1, .int (nI (nx y)), .int (bI sp), .int (nI n0), .ref m2, .ref m3, .ref m4, .ref m5, .ref m6, .int (nI ac), .int (nI re), .int sl, .int fa, .int db])), (m3, .inl (cyI, 64, .inl (aI (cpN cs os n0)))), (m4, .inl (cyI, 64, .inl (aI us)))]) (wr := [(m1, .inl (cyZ, 64, .inl (aZ w))), (m2, .inl (cyI, 64, .inl (aI v)))]) (ws2 := [(m0, .inr (6, [.int th, .ref m1, .int (nI (nx y)), .int (bI sp), .int (nI n0), .ref m2, .ref m3, .ref m4, .ref m5, .ref m6, .int (nI ac), .int (nI re), .int sl, .int fa, .int db])), (m1, .inl (cyZ, 64, .inl (aZ w))), (m2, .inl (cyI, 64, .inl (aI v))), (m3, .inl (cyI, 64, .inl (aI (cpN cs os n0)))), (m4, .inl (cyI, 64, .inl (aI us)))]) (As := [.int (nI (((stR W0 x) + (i * W0)) / (mnw cs us n0)))]) (rest := [.int (nI i), .ref m2]) (c_X6_oldAbove l D cyI cyJ cyZ H.size m0 m1 m2 m3 m4 m5 m6 th (nx y) sp n0 ac re sl fa db (cpN cs os n0) us (((stR W0 x) + (i * W0)) / (mnw cs us n0)) (by first | assumption | omega) (by first | assumption | omega) (by first | assumption | omega) (hmk)) (cwV 1 S.2.2.2.2 gX6_drawAnew_X6_oldAbove rfl rfl rfl (by decide +kernel) ⟨Nat.le_of_ble_eq_true rfl, Nat.le_of_ble_eq_true rfl⟩) hK hP hD hS hA hG [0, 3, 4] [1, 2] [2, 0, 1, 3, 4] rfl rfl rfl rfl (by decide) rfl rfl (ci := 6) (q0 := 0) rfl rfl rfl hl.1 rfl (Nat.le_of_ble_eq_true rfl) dX6_drawAnew_110 ⟨Nat.le_of_ble_eq_true rfl, Nat.le_of_ble_eq_true rfl⟩ (fun H locs hP hD hS => ?_)
              refine kn_iast S hK hP hD hS (ws2 := [(m0, .inr (6, [.int th, .ref m1, .int (nI (nx y)), .int (bI sp), .int (nI n0), .ref m2, .ref m3, .ref m4, .ref m5, .ref m6, .int (nI ac), .int (nI re), .int sl, .int fa, .int db])), (m1, .inl (cyZ, 64, .inl (aZ w))), (m2, .inl (cyI, 64, .inl (aI (va_up v i (oaF (cpN cs os n0) us (((stR W0 x) + (i * W0)) / (mnw cs us n0)) n0 0 0))))), (m3, .inl (cyI, 64, .inl (aI (cpN cs os n0)))), (m4, .inl (cyI, 64, .inl (aI us)))]) 2 0 rfl rfl (by omega) (by decide) dX6_drawAnew_113 rfl (fun H locs hP hD hS => ?_)
              refine lv_iinc (v := nI (i + 1)) (lv' := [(4, .int (nI (i + 1))), (5, .int (nI 0)), (3, .int (nI (stR W0 x))), (2, .int (nI (mnw cs us n0))), (0, .ref m0), (1, .int (nI W0))]) S.1 S.2.1 dX6_drawAnew_114 hl (k := 1) rfl (iinc_1 _) (by decide) rfl (fun ls hl => ?_)
              refine lv_goto (tgt := 51) S.1 S.2.1 dX6_drawAnew_117 (by decide) ?_
              exact ih51 (i + 1, (nx y), va_up v i (oaF (cpN cs os n0) us (((stR W0 x) + (i * W0)) / (mnw cs us n0)) n0 0 0)) ⟨by omega, by rw [daX, ← hy, hgd]; rfl, fun j => by by_cases h : j = i; (· subst h; rw [up_at, daK, if_pos (by omega), daC, ← hy, hgd]; first | rfl | exact hoc); (· rw [up_ne _ _ h, hj j, daK, daK]; by_cases h2 : j < i; (· rw [if_pos h2, if_pos (by omega)]); (· rw [if_neg h2, if_neg (by omega)]))⟩ (by show mnw cs us n0 - (i + 1) < mnw cs us n0 - i; omega) _ _ _ hP hD hS (lv_sub hl [0, 2, 3, 4, 5] rfl)
            · exact absurd c91 (by omega)
          · refine lv_iconst (v := nI 1) S.1 S.2.1 dX6_drawAnew_76 (by decide) ?_
            refine lv_goto (tgt := 81) S.1 S.2.1 dX6_drawAnew_77 (by decide) ?_
            refine lv_istore (lv' := [(5, .int (nI 1)), (4, .int (nI i)), (3, .int (nI (stR W0 x))), (2, .int (nI (mnw cs us n0))), (0, .ref m0), (1, .int (nI W0))]) S.1 S.2.1 dX6_drawAnew_81 hl (by decide) rfl (fun ls hl => ?_)
            refine lv_aload_n S.1 S.2.1 dX6_drawAnew_83 rfl (lv_at hl 4 rfl) ?_
            refine k_get S (C := RX6) (T := TX6) (N := 15) (ci := 6) hw_X6 hK hP 0 rfl rfl 5 (by decide) hf_17 rfl (v := .ref m2) rfl dX6_drawAnew_84 ?_
            refine lv_iload S.1 S.2.1 dX6_drawAnew_87 (lv_at hl 1 rfl) ?_
            refine lv_iload S.1 S.2.1 dX6_drawAnew_89 (lv_at hl 0 rfl) ?_
            refine kn_if_eq S (by omega) dX6_drawAnew_91 (tgt := 101) (by decide) (fun c91 => ?_) (fun c91 => ?_)
            · exact absurd c91 (by omega)
            · have hgd : gdB W0 db (nx y) = true := (by first | (simp [gdB, show W0 = 0 by omega]; done) | (simp [gdB, i32_lle c69]; done))
              refine lv_aload_n S.1 S.2.1 dX6_drawAnew_94 rfl (lv_at hl 4 rfl) ?_
              refine kcV_i S (wc := [(m0, .inr (6, [.int th, .ref m1, .int (nI (nx y)), .int (bI sp), .int (nI n0), .ref m2, .ref m3, .ref m4, .ref m5, .ref m6, .int (nI ac), .int (nI re), .int sl, .int fa, .int db])), (m1, .inl (cyZ, 64, .inl (aZ w)))]) (wr := [(m2, .inl (cyI, 64, .inl (aI v))), (m3, .inl (cyI, 64, .inl (aI (cpN cs os n0)))), (m4, .inl (cyI, 64, .inl (aI us)))]) (ws2 := [(m0, .inr (6, [.int th, .ref m1, .int (nI (nx (nx y))), .int (bI sp), .int (nI n0), .ref m2, .ref m3, .ref m4, .ref m5, .ref m6, .int (nI ac), .int (nI re), .int sl, .int fa, .int db])), (m1, .inl (cyZ, 64, .inl (aZ w))), (m2, .inl (cyI, 64, .inl (aI v))), (m3, .inl (cyI, 64, .inl (aI (cpN cs os n0)))), (m4, .inl (cyI, 64, .inl (aI us)))]) (As := []) (rest := [.int (nI i), .ref m2]) (c_X6_drawCell l D cyI cyJ cyZ H.size m0 m1 m2 m3 m4 m5 m6 th (nx y) sp n0 ac re sl fa db w (nx_lt _) (by first | assumption | omega)) (cwV 0 S.2.2.2.2 gX6_drawAnew_X6_drawCell rfl rfl rfl (by decide +kernel) ⟨Nat.le_of_ble_eq_true rfl, Nat.le_of_ble_eq_true rfl⟩) hK hP hD hS hA hG [0, 1] [2, 3, 4] [3, 4, 0, 1, 2] rfl rfl rfl rfl (by decide) rfl rfl (ci := 6) (q0 := 0) rfl rfl rfl hl.1 rfl (Nat.le_of_ble_eq_true rfl) dX6_drawAnew_95 ⟨Nat.le_of_ble_eq_true rfl, Nat.le_of_ble_eq_true rfl⟩ (fun H locs hP hD hS => ?_)
              refine lv_goto (tgt := 113) S.1 S.2.1 dX6_drawAnew_98 (by decide) ?_
              refine kn_iast S hK hP hD hS (ws2 := [(m0, .inr (6, [.int th, .ref m1, .int (nI (nx (nx y))), .int (bI sp), .int (nI n0), .ref m2, .ref m3, .ref m4, .ref m5, .ref m6, .int (nI ac), .int (nI re), .int sl, .int fa, .int db])), (m1, .inl (cyZ, 64, .inl (aZ w))), (m2, .inl (cyI, 64, .inl (aI (va_up v i (kth w (nx (nx y) % (cntF w 64))))))), (m3, .inl (cyI, 64, .inl (aI (cpN cs os n0)))), (m4, .inl (cyI, 64, .inl (aI us)))]) 2 0 rfl rfl (by omega) (by decide) dX6_drawAnew_113 rfl (fun H locs hP hD hS => ?_)
              refine lv_iinc (v := nI (i + 1)) (lv' := [(4, .int (nI (i + 1))), (5, .int (nI 1)), (3, .int (nI (stR W0 x))), (2, .int (nI (mnw cs us n0))), (0, .ref m0), (1, .int (nI W0))]) S.1 S.2.1 dX6_drawAnew_114 hl (k := 1) rfl (iinc_1 _) (by decide) rfl (fun ls hl => ?_)
              refine lv_goto (tgt := 51) S.1 S.2.1 dX6_drawAnew_117 (by decide) ?_
              exact ih51 (i + 1, nx (nx y), va_up v i (kth w (nx (nx y) % (cntF w 64)))) ⟨by omega, by rw [daX, ← hy, hgd]; rfl, fun j => by by_cases h : j = i; (· subst h; rw [up_at, daK, if_pos (by omega), daC, ← hy, hgd]; first | rfl | exact hoc); (· rw [up_ne _ _ h, hj j, daK, daK]; by_cases h2 : j < i; (· rw [if_pos h2, if_pos (by omega)]); (· rw [if_neg h2, if_neg (by omega)]))⟩ (by show mnw cs us n0 - (i + 1) < mnw cs us n0 - i; omega) _ _ _ hP hD hS (lv_sub hl [0, 2, 3, 4, 5] rfl)
    · intro hj47
      refine lv_iload_n S.1 S.2.1 dX6_drawAnew_33 rfl (lv_at hl 3 rfl) ?_
      refine kn_if_ne S (by omega) dX6_drawAnew_34 (tgt := 41) (by decide) (fun c34 => ?_) (fun c34 => ?_)
      · refine lv_aload_n S.1 S.2.1 dX6_drawAnew_41 rfl (lv_at hl 2 rfl) ?_
        refine kcV_i S (wc := [(m0, .inr (6, [.int th, .ref m1, .int (nI x), .int (bI sp), .int (nI n0), .ref m2, .ref m3, .ref m4, .ref m5, .ref m6, .int (nI ac), .int (nI re), .int sl, .int fa, .int db]))]) (wr := [(m1, .inl (cyZ, 64, .inl (aZ w))), (m2, .inl (cyI, 64, .inl (aI cs))), (m3, .inl (cyI, 64, .inl (aI (cpN cs os n0)))), (m4, .inl (cyI, 64, .inl (aI us)))]) (ws2 := [(m0, .inr (6, [.int th, .ref m1, .int (nI (nx x)), .int (bI sp), .int (nI n0), .ref m2, .ref m3, .ref m4, .ref m5, .ref m6, .int (nI ac), .int (nI re), .int sl, .int fa, .int db])), (m1, .inl (cyZ, 64, .inl (aZ w))), (m2, .inl (cyI, 64, .inl (aI cs))), (m3, .inl (cyI, 64, .inl (aI (cpN cs os n0)))), (m4, .inl (cyI, 64, .inl (aI us)))]) (As := []) (rest := []) (c_X6_next l D cyI cyJ cyZ H.size m0 m1 m2 m3 m4 m5 m6 th x sp n0 ac re sl fa db (by first | assumption | omega)) (cwV 0 S.2.2.2.2 gX6_drawAnew_X6_next rfl rfl rfl (by decide +kernel) ⟨Nat.le_of_ble_eq_true rfl, Nat.le_of_ble_eq_true rfl⟩) hK hP hD hS hA hG [0] [1, 2, 3, 4] [4, 0, 1, 2, 3] rfl rfl rfl rfl (by decide) rfl rfl (ci := 6) (q0 := 0) rfl rfl rfl hl.1 rfl (Nat.le_of_ble_eq_true rfl) dX6_drawAnew_42 ⟨Nat.le_of_ble_eq_true rfl, Nat.le_of_ble_eq_true rfl⟩ (fun H locs hP hD hS => ?_)
        refine lv_iload_n S.1 S.2.1 dX6_drawAnew_45 rfl (lv_at hl 3 rfl) ?_
        refine kn_irem S (by omega) (by omega) (by omega) dX6_drawAnew_46 ?_
        have e1 : nI (nx x) = nI (stX0 W0 x) := (by first | rw [stX0, if_pos c34] | rw [stX0, if_neg (by omega)])
        rw [e1] at hP hD
        refine k_topi (y := nI (stR W0 x)) (by first | rw [stR, if_pos c34] | rw [stR, if_neg (by omega)]) ?_
        exact hj47 () trivial _ _ _ hP hD hS (lv_sub hl [1, 2, 3] rfl)
      · refine lv_iconst (v := nI 0) S.1 S.2.1 dX6_drawAnew_37 (by decide) ?_
        refine lv_goto (tgt := 47) S.1 S.2.1 dX6_drawAnew_38 (by decide) ?_
        have e1 : nI (x) = nI (stX0 W0 x) := (by first | rw [stX0, if_pos c34] | rw [stX0, if_neg (by omega)])
        rw [e1] at hP hD
        refine k_topi (y := nI (stR W0 x)) (by first | rw [stR, if_pos c34] | rw [stR, if_neg (by omega)]) ?_
        exact hj47 () trivial _ _ _ hP hD hS (lv_sub hl [1, 2, 3] rfl)
  · refine lv_aload_n S.1 S.2.1 dX6_drawAnew_15 rfl (lv_at hl 2 rfl) ?_
    refine k_get S (C := RX6) (T := TX6) (N := 15) (ci := 6) hw_X6 hK hP 0 rfl rfl 6 (by decide) hf_21 rfl (v := .ref m3) rfl dX6_drawAnew_16 ?_
    refine lv_iload_n S.1 S.2.1 dX6_drawAnew_19 rfl (lv_at hl 0 rfl) ?_
    refine lv_aload_n S.1 S.2.1 dX6_drawAnew_20 rfl (lv_at hl 2 rfl) ?_
    refine k_get S (C := RX6) (T := TX6) (N := 15) (ci := 6) hw_X6 hK hP 0 rfl rfl 5 (by decide) hf_17 rfl (v := .ref m2) rfl dX6_drawAnew_21 ?_
    refine lv_iload_n S.1 S.2.1 dX6_drawAnew_24 rfl (lv_at hl 0 rfl) ?_
    refine kn_iald S hK hP 2 0 rfl rfl (by omega) (by decide) dX6_drawAnew_25 ?_
    refine kn_iast S hK hP hD hS (ws2 := [(m0, .inr (6, [.int th, .ref m1, .int (nI x), .int (bI sp), .int (nI n0), .ref m2, .ref m3, .ref m4, .ref m5, .ref m6, .int (nI ac), .int (nI re), .int sl, .int fa, .int db])), (m1, .inl (cyZ, 64, .inl (aZ w))), (m2, .inl (cyI, 64, .inl (aI cs))), (m3, .inl (cyI, 64, .inl (aI (va_up v i (cs i))))), (m4, .inl (cyI, 64, .inl (aI us)))]) 3 0 rfl rfl (by omega) (by decide) dX6_drawAnew_26 rfl (fun H locs hP hD hS => ?_)
    refine lv_iinc (v := nI (i + 1)) (lv' := [(3, .int (nI (i + 1))), (2, .int (nI (mnw cs us n0))), (0, .ref m0), (1, .int (nI W0))]) S.1 S.2.1 dX6_drawAnew_27 hl (k := 0) rfl (iinc_1 _) (by decide) rfl (fun ls hl => ?_)
    refine lv_goto (tgt := 7) S.1 S.2.1 dX6_drawAnew_30 (by decide) ?_
    exact ih7 (i + 1, va_up v i (cs i)) ⟨by omega, fun j => by by_cases h : j = i; (· subst h; rw [up_at, cpN, if_pos (by omega)]); (· rw [up_ne _ _ h, hv j, cpN, cpN]; by_cases h2 : j < i; (· rw [if_pos h2, if_pos (by omega)]); (· rw [if_neg h2, if_neg (by omega)]))⟩ (by show n0 - (i + 1) < n0 - i; omega) _ _ _ hP hD hS (lv_sub hl [0, 1, 2, 3] rfl)

set_option maxHeartbeats 4000000 in
set_option maxRecDepth 100000 in
theorem c_X6_countOf (l : Launch) (D : va_G) (cyI cyJ cyZ : ClassId) (sz : Nat) (m0 : Nat) (m1 : Nat) (m2 : Nat) (m3 : Nat) (m4 : Nat) (m5 : Nat) (m6 : Nat) (th : Int32) (x : Nat) (sp : Bool) (n0 : Nat) (ac : Nat) (re : Nat) (sl : Int32) (fa : Int32) (db : Int32) (cs : Nat → Nat) (c0 : Nat) (hn : n0 ≤ 64) (hca : ∀ j, j < 64 → cs j < 64) (hc : c0 < 64) : Met l yX6_countOf wsX6_countOf ({ frames := 2, cells := 0, slots := 0, locals := 60 } : Room) (mPc D [(cyI, .int), (cyJ, .long), (cyZ, .boolean)] [(m0, .inr (6, [.int th, .ref m1, .int (nI x), .int (bI sp), .int (nI n0), .ref m2, .ref m3, .ref m4, .ref m5, .ref m6, .int (nI ac), .int (nI re), .int sl, .int fa, .int db])), (m2, .inl (cyI, 64, .inl (aI cs)))] sz [.ref m0, .int (nI c0)]) (va_Qi (fun (r : Int32) (u : va_W) => r = nI (ctF cs n0 c0) ∧ u = [(m0, .inr (6, [.int th, .ref m1, .int (nI x), .int (bI sp), .int (nI n0), .ref m2, .ref m3, .ref m4, .ref m5, .ref m6, .int (nI ac), .int (nI re), .int sl, .int fa, .int db])), (m2, .inl (cyI, 64, .inl (aI cs)))]) (mB D [(cyI, .int), (cyJ, .long), (cyZ, .boolean)] (va_A [(m0, .inr (6, [.int th, .ref m1, .int (nI x), .int (bI sp), .int (nI n0), .ref m2, .ref m3, .ref m4, .ref m5, .ref m6, .int (nI ac), .int (nI re), .int sl, .int fa, .int db])), (m2, .inl (cyI, 64, .inl (aI cs)))] sz)) (va_A [(m0, .inr (6, [.int th, .ref m1, .int (nI x), .int (bI sp), .int (nI n0), .ref m2, .ref m3, .ref m4, .ref m5, .ref m6, .int (nI ac), .int (nI re), .int sl, .int fa, .int db])), (m2, .inl (cyI, 64, .inl (aI cs)))] sz)) 0 0 (va_A [(m0, .inr (6, [.int th, .ref m1, .int (nI x), .int (bI sp), .int (nI n0), .ref m2, .ref m3, .ref m4, .ref m5, .ref m6, .int (nI ac), .int (nI re), .int sl, .int fa, .int db])), (m2, .inl (cyI, 64, .inl (aI cs)))] sz) := by
  refine st_i (own := RX6) (lv0 := [(0, .ref m0), (1, .int (nI c0))]) (by decide) rfl rfl (Nat.le_of_ble_eq_true rfl) rfl ?_
  intro p e s m below meth c A Q S hin hA hK hP hD hG hS hret ls hl
  have hw_X6 : ∀ w ∈ u_ws RX6 TX6 15, w ∈ wsX6_countOf := by decide +kernel
  have hf_69 := S.2.2.2.2 (.fieldLink RX6 69 "ParticlewayModel" "samples" "I") (by decide +kernel)
  have hf_17 := S.2.2.2.2 (.fieldLink RX6 17 "ParticlewayModel" "sample" "[I") (by decide +kernel)
  refine lv_iconst (v := nI 0) S.1 S.2.1 dX6_countOf_0 (by decide) ?_
  refine lv_istore_n (lv' := [(2, .int (nI 0)), (0, .ref m0), (1, .int (nI c0))]) S.1 S.2.1 dX6_countOf_1 rfl hl (by decide) rfl (fun ls hl => ?_)
  refine lv_iconst (v := nI 0) S.1 S.2.1 dX6_countOf_2 (by decide) ?_
  refine lv_istore_n (lv' := [(3, .int (nI 0)), (2, .int (nI 0)), (0, .ref m0), (1, .int (nI c0))]) S.1 S.2.1 dX6_countOf_3 rfl hl (by decide) rfl (fun ls hl => ?_)
  refine wl (σ := Nat × Nat) (fun (i, g) => [(m0, .inr (6, [.int th, .ref m1, .int (nI x), .int (bI sp), .int (nI n0), .ref m2, .ref m3, .ref m4, .ref m5, .ref m6, .int (nI ac), .int (nI re), .int sl, .int fa, .int db])), (m2, .inl (cyI, 64, .inl (aI cs)))]) (fun (i, g) => [(3, .int (nI i)), (2, .int (nI g)), (0, .ref m0), (1, .int (nI c0))]) (fun (i, g) => (i ≤ n0) ∧ (g = ctF cs i c0)) (fun (i, g) => n0 - i) ?_ (0, 0) ⟨by omega, rfl⟩ hP hD hS (lv_sub hl [0, 1, 2, 3] rfl)
  rintro ⟨i, g⟩ ⟨hi, hg⟩ ih4 H locs ls hP hD hS hl
  have hP : va_P D vwCl [(m0, .inr (6, [.int th, .ref m1, .int (nI x), .int (bI sp), .int (nI n0), .ref m2, .ref m3, .ref m4, .ref m5, .ref m6, .int (nI ac), .int (nI re), .int sl, .int fa, .int db])), (m2, .inl (cyI, 64, .inl (aI cs)))] H := hP
  have hD : va_D A [(m0, .inr (6, [.int th, .ref m1, .int (nI x), .int (bI sp), .int (nI n0), .ref m2, .ref m3, .ref m4, .ref m5, .ref m6, .int (nI ac), .int (nI re), .int sl, .int fa, .int db])), (m2, .inl (cyI, 64, .inl (aI cs)))] := hD
  have hl : lv_has ls 4 [(3, .int (nI i)), (2, .int (nI g)), (0, .ref m0), (1, .int (nI c0))] := hl
  refine lv_iload_n S.1 S.2.1 dX6_countOf_4 rfl (lv_at hl 0 rfl) ?_
  refine lv_aload_n S.1 S.2.1 dX6_countOf_5 rfl (lv_at hl 2 rfl) ?_
  refine k_get S (C := RX6) (T := TX6) (N := 15) (ci := 6) hw_X6 hK hP 0 rfl rfl 4 (by decide) hf_69 rfl (v := .int (nI n0)) rfl dX6_countOf_6 ?_
  refine kn_icmp_ge S (by omega) (by omega) dX6_countOf_9 (tgt := 36) (by decide) (fun c9 => ?_) (fun c9 => ?_)
  · refine lv_iload_n S.1 S.2.1 dX6_countOf_36 rfl (lv_at hl 1 rfl) ?_
    refine k_topi (y := nI (ctF cs n0 c0)) (by rw [hg, show i = n0 by omega]) ?_
    exact hret _ _ _ _ dX6_countOf_37 hP hD hS
  · have hci := hca i (by omega)
    refine lv_iload_n S.1 S.2.1 dX6_countOf_12 rfl (lv_at hl 1 rfl) ?_
    refine lv_aload_n S.1 S.2.1 dX6_countOf_13 rfl (lv_at hl 2 rfl) ?_
    refine k_get S (C := RX6) (T := TX6) (N := 15) (ci := 6) hw_X6 hK hP 0 rfl rfl 5 (by decide) hf_17 rfl (v := .ref m2) rfl dX6_countOf_14 ?_
    refine lv_iload_n S.1 S.2.1 dX6_countOf_17 rfl (lv_at hl 0 rfl) ?_
    refine kn_iald S hK hP 1 0 rfl rfl (by omega) (by decide) dX6_countOf_18 ?_
    refine lv_iload_n S.1 S.2.1 dX6_countOf_19 rfl (lv_at hl 3 rfl) ?_
    refine kn_icmp_ne S (by omega) (by omega) dX6_countOf_20 (tgt := 27) (by decide) (fun c20 => ?_) (fun c20 => ?_)
    · refine lv_iconst (v := nI 0) S.1 S.2.1 dX6_countOf_27 (by decide) ?_
      refine kn_iadd S dX6_countOf_28 ?_
      refine lv_istore_n (lv' := [(2, .int (nI (g + 0))), (3, .int (nI i)), (0, .ref m0), (1, .int (nI c0))]) S.1 S.2.1 dX6_countOf_29 rfl hl (by decide) rfl (fun ls hl => ?_)
      refine lv_iinc (v := nI (i + 1)) (lv' := [(3, .int (nI (i + 1))), (2, .int (nI (g + 0))), (0, .ref m0), (1, .int (nI c0))]) S.1 S.2.1 dX6_countOf_30 hl (k := 1) rfl (iinc_1 _) (by decide) rfl (fun ls hl => ?_)
      refine lv_goto (tgt := 4) S.1 S.2.1 dX6_countOf_33 (by decide) ?_
      exact ih4 (i + 1, g + 0) ⟨by omega, by first | (rw [ctF, hg, if_pos (by omega)]) | (rw [ctF, hg, if_neg (by omega)])⟩ (by show n0 - (i + 1) < n0 - i; omega) _ _ _ hP hD hS (lv_sub hl [0, 1, 2, 3] rfl)
    · refine lv_iconst (v := nI 1) S.1 S.2.1 dX6_countOf_23 (by decide) ?_
      refine lv_goto (tgt := 28) S.1 S.2.1 dX6_countOf_24 (by decide) ?_
      refine kn_iadd S dX6_countOf_28 ?_
      refine lv_istore_n (lv' := [(2, .int (nI (g + 1))), (3, .int (nI i)), (0, .ref m0), (1, .int (nI c0))]) S.1 S.2.1 dX6_countOf_29 rfl hl (by decide) rfl (fun ls hl => ?_)
      refine lv_iinc (v := nI (i + 1)) (lv' := [(3, .int (nI (i + 1))), (2, .int (nI (g + 1))), (0, .ref m0), (1, .int (nI c0))]) S.1 S.2.1 dX6_countOf_30 hl (k := 1) rfl (iinc_1 _) (by decide) rfl (fun ls hl => ?_)
      refine lv_goto (tgt := 4) S.1 S.2.1 dX6_countOf_33 (by decide) ?_
      exact ih4 (i + 1, g + 1) ⟨by omega, by first | (rw [ctF, hg, if_pos (by omega)]) | (rw [ctF, hg, if_neg (by omega)])⟩ (by show n0 - (i + 1) < n0 - i; omega) _ _ _ hP hD hS (lv_sub hl [0, 1, 2, 3] rfl)

set_option maxHeartbeats 4000000 in
set_option maxRecDepth 100000 in
theorem c_X6_partOf (l : Launch) (D : va_G) (cyI cyJ cyZ : ClassId) (sz : Nat) (m0 : Nat) (m1 : Nat) (m2 : Nat) (m3 : Nat) (m4 : Nat) (m5 : Nat) (m6 : Nat) (th : Int32) (x : Nat) (sp : Bool) (n0 : Nat) (ac : Nat) (re : Nat) (sl : Int32) (fa : Int32) (db : Int32) (cs : Nat → Nat) (b0 : Nat → Nat) (c0 : Nat) (bs : Bool) (hn : n0 ≤ 64) (hca : ∀ j, j < 64 → cs j < 64) (hc : c0 < 64) : Met l yX6_partOf wsX6_partOf ({ frames := 3, cells := 0, slots := 0, locals := 83 } : Room) (mPc D [(cyI, .int), (cyJ, .long), (cyZ, .boolean)] [(m0, .inr (6, [.int th, .ref m1, .int (nI x), .int (bI sp), .int (nI n0), .ref m2, .ref m3, .ref m4, .ref m5, .ref m6, .int (nI ac), .int (nI re), .int sl, .int fa, .int db])), (m2, .inl (cyI, 64, .inl (aI cs))), (m5, .inl (cyJ, 64, .inr (.inl (aL b0))))] sz [.ref m0, .int (nI c0), .int (bI bs)]) (va_Ql (fun (r : Int64) (u : va_W) => r = lN (ptF bs cs n0 b0 c0) ∧ u = [(m0, .inr (6, [.int th, .ref m1, .int (nI x), .int (bI sp), .int (nI n0), .ref m2, .ref m3, .ref m4, .ref m5, .ref m6, .int (nI ac), .int (nI re), .int sl, .int fa, .int db])), (m2, .inl (cyI, 64, .inl (aI cs))), (m5, .inl (cyJ, 64, .inr (.inl (aL b0))))]) (mB D [(cyI, .int), (cyJ, .long), (cyZ, .boolean)] (va_A [(m0, .inr (6, [.int th, .ref m1, .int (nI x), .int (bI sp), .int (nI n0), .ref m2, .ref m3, .ref m4, .ref m5, .ref m6, .int (nI ac), .int (nI re), .int sl, .int fa, .int db])), (m2, .inl (cyI, 64, .inl (aI cs))), (m5, .inl (cyJ, 64, .inr (.inl (aL b0))))] sz)) (va_A [(m0, .inr (6, [.int th, .ref m1, .int (nI x), .int (bI sp), .int (nI n0), .ref m2, .ref m3, .ref m4, .ref m5, .ref m6, .int (nI ac), .int (nI re), .int sl, .int fa, .int db])), (m2, .inl (cyI, 64, .inl (aI cs))), (m5, .inl (cyJ, 64, .inr (.inl (aL b0))))] sz)) 0 0 (va_A [(m0, .inr (6, [.int th, .ref m1, .int (nI x), .int (bI sp), .int (nI n0), .ref m2, .ref m3, .ref m4, .ref m5, .ref m6, .int (nI ac), .int (nI re), .int sl, .int fa, .int db])), (m2, .inl (cyI, 64, .inl (aI cs))), (m5, .inl (cyJ, 64, .inr (.inl (aL b0))))] sz) := by
  refine st_l (own := RX6) (lv0 := [(0, .ref m0), (1, .int (nI c0)), (2, .int (bI bs))]) (by decide) rfl rfl (Nat.le_of_ble_eq_true rfl) rfl ?_
  intro p e s m below meth c A Q S hin hA hK hP hD hG hS hret ls hl
  have hw_X6 : ∀ w ∈ u_ws RX6 TX6 15, w ∈ wsX6_partOf := by decide +kernel
  have hf_27 := S.2.2.2.2 (.fieldLink RX6 27 "ParticlewayModel" "belief" "[J") (by decide +kernel)
  refine lv_iload_n S.1 S.2.1 dX6_partOf_0 rfl (lv_at hl 2 rfl) ?_
  refine kb_if_eq S dX6_partOf_1 (tgt := 13) (by decide) (fun c1 => ?_) (fun c1 => ?_)
  · refine lv_aload_n S.1 S.2.1 dX6_partOf_13 rfl (lv_at hl 0 rfl) ?_
    refine k_get S (C := RX6) (T := TX6) (N := 15) (ci := 6) hw_X6 hK hP 0 rfl rfl 8 (by decide) hf_27 rfl (v := .ref m5) rfl dX6_partOf_14 ?_
    refine lv_iload_n S.1 S.2.1 dX6_partOf_17 rfl (lv_at hl 1 rfl) ?_
    refine kn_lald S hK hP 2 1 rfl rfl (by omega) (by decide) dX6_partOf_18 ?_
    refine k_topl (y := lN (ptF bs cs n0 b0 c0)) (by rw [c1]; rfl) ?_
    exact hret _ _ _ _ dX6_partOf_19 hP hD hS
  · refine lv_aload_n S.1 S.2.1 dX6_partOf_4 rfl (lv_at hl 0 rfl) ?_
    refine lv_iload_n S.1 S.2.1 dX6_partOf_5 rfl (lv_at hl 1 rfl) ?_
    refine kcV_i S (wc := [(m0, .inr (6, [.int th, .ref m1, .int (nI x), .int (bI sp), .int (nI n0), .ref m2, .ref m3, .ref m4, .ref m5, .ref m6, .int (nI ac), .int (nI re), .int sl, .int fa, .int db])), (m2, .inl (cyI, 64, .inl (aI cs)))]) (wr := [(m5, .inl (cyJ, 64, .inr (.inl (aL b0))))]) (ws2 := [(m0, .inr (6, [.int th, .ref m1, .int (nI x), .int (bI sp), .int (nI n0), .ref m2, .ref m3, .ref m4, .ref m5, .ref m6, .int (nI ac), .int (nI re), .int sl, .int fa, .int db])), (m2, .inl (cyI, 64, .inl (aI cs))), (m5, .inl (cyJ, 64, .inr (.inl (aL b0))))]) (As := [.int (nI c0)]) (rest := []) (c_X6_countOf l D cyI cyJ cyZ s.heap.size m0 m1 m2 m3 m4 m5 m6 th x sp n0 ac re sl fa db cs c0 (by first | assumption | omega) (by first | assumption | omega) (by first | assumption | omega)) (cwV 1 S.2.2.2.2 gX6_partOf_X6_countOf rfl rfl rfl (by decide +kernel) ⟨Nat.le_of_ble_eq_true rfl, Nat.le_of_ble_eq_true rfl⟩) hK hP hD hS hA hG [0, 1] [2] [1, 2, 0] rfl rfl rfl rfl (by decide) rfl rfl (ci := 6) (q0 := 0) rfl rfl rfl hl.1 rfl (Nat.le_of_ble_eq_true rfl) dX6_partOf_6 ⟨Nat.le_of_ble_eq_true rfl, Nat.le_of_ble_eq_true rfl⟩ (fun H locs hP hD hS => ?_)
    have hcl := ctF_le cs c0 n0
    refine kn_i2l S (by omega) dX6_partOf_9 ?_
    refine lv_goto (tgt := 19) S.1 S.2.1 dX6_partOf_10 (by decide) ?_
    refine k_topl (y := lN (ptF bs cs n0 b0 c0)) (by rw [c1]; rfl) ?_
    exact hret _ _ _ _ dX6_partOf_19 hP hD hS

set_option maxHeartbeats 4000000 in
set_option maxRecDepth 100000 in
theorem c_X6_ahead (l : Launch) (D : va_G) (cyI cyJ cyZ : ClassId) (sz : Nat) (m0 : Nat) (m1 : Nat) (m2 : Nat) (m3 : Nat) (m4 : Nat) (m5 : Nat) (m6 : Nat) (th : Int32) (x : Nat) (sp : Bool) (n0 : Nat) (ac : Nat) (re : Nat) (sl : Int32) (fa : Int32) (db : Int32) (b0 : Nat → Nat) (c0 : Nat) (hc : c0 < 64) (hb : ∀ j, j < 64 → b0 j < 9223372036854775808) : Met l yX6_ahead wsX6_ahead ({ frames := 2, cells := 0, slots := 0, locals := 60 } : Room) (mPc D [(cyI, .int), (cyJ, .long), (cyZ, .boolean)] [(m0, .inr (6, [.int th, .ref m1, .int (nI x), .int (bI sp), .int (nI n0), .ref m2, .ref m3, .ref m4, .ref m5, .ref m6, .int (nI ac), .int (nI re), .int sl, .int fa, .int db])), (m5, .inl (cyJ, 64, .inr (.inl (aL b0))))] sz [.ref m0, .int (nI c0)]) (va_Qi (fun (r : Int32) (u : va_W) => r = nI (plF b0 c0 64) ∧ u = [(m0, .inr (6, [.int th, .ref m1, .int (nI x), .int (bI sp), .int (nI n0), .ref m2, .ref m3, .ref m4, .ref m5, .ref m6, .int (nI ac), .int (nI re), .int sl, .int fa, .int db])), (m5, .inl (cyJ, 64, .inr (.inl (aL b0))))]) (mB D [(cyI, .int), (cyJ, .long), (cyZ, .boolean)] (va_A [(m0, .inr (6, [.int th, .ref m1, .int (nI x), .int (bI sp), .int (nI n0), .ref m2, .ref m3, .ref m4, .ref m5, .ref m6, .int (nI ac), .int (nI re), .int sl, .int fa, .int db])), (m5, .inl (cyJ, 64, .inr (.inl (aL b0))))] sz)) (va_A [(m0, .inr (6, [.int th, .ref m1, .int (nI x), .int (bI sp), .int (nI n0), .ref m2, .ref m3, .ref m4, .ref m5, .ref m6, .int (nI ac), .int (nI re), .int sl, .int fa, .int db])), (m5, .inl (cyJ, 64, .inr (.inl (aL b0))))] sz)) 0 0 (va_A [(m0, .inr (6, [.int th, .ref m1, .int (nI x), .int (bI sp), .int (nI n0), .ref m2, .ref m3, .ref m4, .ref m5, .ref m6, .int (nI ac), .int (nI re), .int sl, .int fa, .int db])), (m5, .inl (cyJ, 64, .inr (.inl (aL b0))))] sz) := by
  refine st_i (own := RX6) (lv0 := [(0, .ref m0), (1, .int (nI c0))]) (by decide) rfl rfl (Nat.le_of_ble_eq_true rfl) rfl ?_
  intro p e s m below meth c A Q S hin hA hK hP hD hG hS hret ls hl
  have hw_X6 : ∀ w ∈ u_ws RX6 TX6 15, w ∈ wsX6_ahead := by decide +kernel
  have hf_27 := S.2.2.2.2 (.fieldLink RX6 27 "ParticlewayModel" "belief" "[J") (by decide +kernel)
  have hbc := hb c0 hc
  refine lv_iconst (v := nI 0) S.1 S.2.1 dX6_ahead_0 (by decide) ?_
  refine lv_istore_n (lv' := [(2, .int (nI 0)), (0, .ref m0), (1, .int (nI c0))]) S.1 S.2.1 dX6_ahead_1 rfl hl (by decide) rfl (fun ls hl => ?_)
  refine lv_iconst (v := nI 0) S.1 S.2.1 dX6_ahead_2 (by decide) ?_
  refine lv_istore_n (lv' := [(3, .int (nI 0)), (2, .int (nI 0)), (0, .ref m0), (1, .int (nI c0))]) S.1 S.2.1 dX6_ahead_3 rfl hl (by decide) rfl (fun ls hl => ?_)
  refine wl (σ := Nat × Nat) (fun (i, g) => [(m0, .inr (6, [.int th, .ref m1, .int (nI x), .int (bI sp), .int (nI n0), .ref m2, .ref m3, .ref m4, .ref m5, .ref m6, .int (nI ac), .int (nI re), .int sl, .int fa, .int db])), (m5, .inl (cyJ, 64, .inr (.inl (aL b0))))]) (fun (i, g) => [(3, .int (nI i)), (2, .int (nI g)), (0, .ref m0), (1, .int (nI c0))]) (fun (i, g) => (i ≤ 64) ∧ (g = plF b0 c0 i)) (fun (i, g) => 64 - i) ?_ (0, 0) ⟨by omega, rfl⟩ hP hD hS (lv_sub hl [0, 1, 2, 3] rfl)
  rintro ⟨i, g⟩ ⟨hi, hg⟩ ih4 H locs ls hP hD hS hl
  have hP : va_P D vwCl [(m0, .inr (6, [.int th, .ref m1, .int (nI x), .int (bI sp), .int (nI n0), .ref m2, .ref m3, .ref m4, .ref m5, .ref m6, .int (nI ac), .int (nI re), .int sl, .int fa, .int db])), (m5, .inl (cyJ, 64, .inr (.inl (aL b0))))] H := hP
  have hD : va_D A [(m0, .inr (6, [.int th, .ref m1, .int (nI x), .int (bI sp), .int (nI n0), .ref m2, .ref m3, .ref m4, .ref m5, .ref m6, .int (nI ac), .int (nI re), .int sl, .int fa, .int db])), (m5, .inl (cyJ, 64, .inr (.inl (aL b0))))] := hD
  have hl : lv_has ls 4 [(3, .int (nI i)), (2, .int (nI g)), (0, .ref m0), (1, .int (nI c0))] := hl
  refine lv_iload_n S.1 S.2.1 dX6_ahead_4 rfl (lv_at hl 0 rfl) ?_
  refine lv_bipush (v := nI 64) S.1 S.2.1 dX6_ahead_5 (by decide) ?_
  refine kn_icmp_ge S (by omega) (by omega) dX6_ahead_7 (tgt := 61) (by decide) (fun c7 => ?_) (fun c7 => ?_)
  · refine lv_iload_n S.1 S.2.1 dX6_ahead_61 rfl (lv_at hl 1 rfl) ?_
    refine k_topi (y := nI (plF b0 c0 64)) (by rw [hg, show i = 64 by omega]) ?_
    exact hret _ _ _ _ dX6_ahead_62 hP hD hS
  · have hbi := hb i (by omega)
    refine lv_iload_n S.1 S.2.1 dX6_ahead_10 rfl (lv_at hl 1 rfl) ?_
    refine lv_aload_n S.1 S.2.1 dX6_ahead_11 rfl (lv_at hl 2 rfl) ?_
    refine k_get S (C := RX6) (T := TX6) (N := 15) (ci := 6) hw_X6 hK hP 0 rfl rfl 8 (by decide) hf_27 rfl (v := .ref m5) rfl dX6_ahead_12 ?_
    refine lv_iload_n S.1 S.2.1 dX6_ahead_15 rfl (lv_at hl 0 rfl) ?_
    refine kn_lald S hK hP 1 1 rfl rfl (by omega) (by decide) dX6_ahead_16 ?_
    refine lv_aload_n S.1 S.2.1 dX6_ahead_17 rfl (lv_at hl 2 rfl) ?_
    refine k_get S (C := RX6) (T := TX6) (N := 15) (ci := 6) hw_X6 hK hP 0 rfl rfl 8 (by decide) hf_27 rfl (v := .ref m5) rfl dX6_ahead_18 ?_
    refine lv_iload_n S.1 S.2.1 dX6_ahead_21 rfl (lv_at hl 3 rfl) ?_
    refine kn_lald S hK hP 1 1 rfl rfl (by omega) (by decide) dX6_ahead_22 ?_
    refine kn_lcmp_gt S (by omega) (by omega) dX6_ahead_23 rfl dX6_ahead_24 (tgt := 48) (by decide) (fun c24 => ?_) (fun c24 => ?_)
    · refine lv_iconst (v := nI 1) S.1 S.2.1 dX6_ahead_48 (by decide) ?_
      refine lv_goto (tgt := 53) S.1 S.2.1 dX6_ahead_49 (by decide) ?_
      refine kn_iadd S dX6_ahead_53 ?_
      refine lv_istore_n (lv' := [(2, .int (nI (g + 1))), (3, .int (nI i)), (0, .ref m0), (1, .int (nI c0))]) S.1 S.2.1 dX6_ahead_54 rfl hl (by decide) rfl (fun ls hl => ?_)
      refine lv_iinc (v := nI (i + 1)) (lv' := [(3, .int (nI (i + 1))), (2, .int (nI (g + 1))), (0, .ref m0), (1, .int (nI c0))]) S.1 S.2.1 dX6_ahead_55 hl (k := 1) rfl (iinc_1 _) (by decide) rfl (fun ls hl => ?_)
      refine lv_goto (tgt := 4) S.1 S.2.1 dX6_ahead_58 (by decide) ?_
      exact ih4 (i + 1, g + 1) ⟨by omega, by first | (rw [plF, hg, if_pos (by omega)]) | (rw [plF, hg, if_neg (by omega)])⟩ (by show 64 - (i + 1) < 64 - i; omega) _ _ _ hP hD hS (lv_sub hl [0, 1, 2, 3] rfl)
    · refine lv_aload_n S.1 S.2.1 dX6_ahead_27 rfl (lv_at hl 2 rfl) ?_
      refine k_get S (C := RX6) (T := TX6) (N := 15) (ci := 6) hw_X6 hK hP 0 rfl rfl 8 (by decide) hf_27 rfl (v := .ref m5) rfl dX6_ahead_28 ?_
      refine lv_iload_n S.1 S.2.1 dX6_ahead_31 rfl (lv_at hl 0 rfl) ?_
      refine kn_lald S hK hP 1 1 rfl rfl (by omega) (by decide) dX6_ahead_32 ?_
      refine lv_aload_n S.1 S.2.1 dX6_ahead_33 rfl (lv_at hl 2 rfl) ?_
      refine k_get S (C := RX6) (T := TX6) (N := 15) (ci := 6) hw_X6 hK hP 0 rfl rfl 8 (by decide) hf_27 rfl (v := .ref m5) rfl dX6_ahead_34 ?_
      refine lv_iload_n S.1 S.2.1 dX6_ahead_37 rfl (lv_at hl 3 rfl) ?_
      refine kn_lald S hK hP 1 1 rfl rfl (by omega) (by decide) dX6_ahead_38 ?_
      refine kn_lcmp_ne S (by omega) (by omega) dX6_ahead_39 rfl dX6_ahead_40 (tgt := 52) (by decide) (fun c40 => ?_) (fun c40 => ?_)
      · refine lv_iconst (v := nI 0) S.1 S.2.1 dX6_ahead_52 (by decide) ?_
        refine kn_iadd S dX6_ahead_53 ?_
        refine lv_istore_n (lv' := [(2, .int (nI (g + 0))), (3, .int (nI i)), (0, .ref m0), (1, .int (nI c0))]) S.1 S.2.1 dX6_ahead_54 rfl hl (by decide) rfl (fun ls hl => ?_)
        refine lv_iinc (v := nI (i + 1)) (lv' := [(3, .int (nI (i + 1))), (2, .int (nI (g + 0))), (0, .ref m0), (1, .int (nI c0))]) S.1 S.2.1 dX6_ahead_55 hl (k := 1) rfl (iinc_1 _) (by decide) rfl (fun ls hl => ?_)
        refine lv_goto (tgt := 4) S.1 S.2.1 dX6_ahead_58 (by decide) ?_
        exact ih4 (i + 1, g + 0) ⟨by omega, by first | (rw [plF, hg, if_pos (by omega)]) | (rw [plF, hg, if_neg (by omega)])⟩ (by show 64 - (i + 1) < 64 - i; omega) _ _ _ hP hD hS (lv_sub hl [0, 1, 2, 3] rfl)
      · refine lv_iload_n S.1 S.2.1 dX6_ahead_43 rfl (lv_at hl 0 rfl) ?_
        refine lv_iload_n S.1 S.2.1 dX6_ahead_44 rfl (lv_at hl 3 rfl) ?_
        refine kn_icmp_ge S (by omega) (by omega) dX6_ahead_45 (tgt := 52) (by decide) (fun c45 => ?_) (fun c45 => ?_)
        · refine lv_iconst (v := nI 0) S.1 S.2.1 dX6_ahead_52 (by decide) ?_
          refine kn_iadd S dX6_ahead_53 ?_
          refine lv_istore_n (lv' := [(2, .int (nI (g + 0))), (3, .int (nI i)), (0, .ref m0), (1, .int (nI c0))]) S.1 S.2.1 dX6_ahead_54 rfl hl (by decide) rfl (fun ls hl => ?_)
          refine lv_iinc (v := nI (i + 1)) (lv' := [(3, .int (nI (i + 1))), (2, .int (nI (g + 0))), (0, .ref m0), (1, .int (nI c0))]) S.1 S.2.1 dX6_ahead_55 hl (k := 1) rfl (iinc_1 _) (by decide) rfl (fun ls hl => ?_)
          refine lv_goto (tgt := 4) S.1 S.2.1 dX6_ahead_58 (by decide) ?_
          exact ih4 (i + 1, g + 0) ⟨by omega, by first | (rw [plF, hg, if_pos (by omega)]) | (rw [plF, hg, if_neg (by omega)])⟩ (by show 64 - (i + 1) < 64 - i; omega) _ _ _ hP hD hS (lv_sub hl [0, 1, 2, 3] rfl)
        · refine lv_iconst (v := nI 1) S.1 S.2.1 dX6_ahead_48 (by decide) ?_
          refine lv_goto (tgt := 53) S.1 S.2.1 dX6_ahead_49 (by decide) ?_
          refine kn_iadd S dX6_ahead_53 ?_
          refine lv_istore_n (lv' := [(2, .int (nI (g + 1))), (3, .int (nI i)), (0, .ref m0), (1, .int (nI c0))]) S.1 S.2.1 dX6_ahead_54 rfl hl (by decide) rfl (fun ls hl => ?_)
          refine lv_iinc (v := nI (i + 1)) (lv' := [(3, .int (nI (i + 1))), (2, .int (nI (g + 1))), (0, .ref m0), (1, .int (nI c0))]) S.1 S.2.1 dX6_ahead_55 hl (k := 1) rfl (iinc_1 _) (by decide) rfl (fun ls hl => ?_)
          refine lv_goto (tgt := 4) S.1 S.2.1 dX6_ahead_58 (by decide) ?_
          exact ih4 (i + 1, g + 1) ⟨by omega, by first | (rw [plF, hg, if_pos (by omega)]) | (rw [plF, hg, if_neg (by omega)])⟩ (by show 64 - (i + 1) < 64 - i; omega) _ _ _ hP hD hS (lv_sub hl [0, 1, 2, 3] rfl)
end MODELC
