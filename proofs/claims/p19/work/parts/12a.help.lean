section HELP19
theorem and31 : ∀ v, v < 64 → nI v &&& nI 2147483647 = nI v := by decide +kernel
set_option maxHeartbeats 4000000 in
set_option maxRecDepth 100000 in
theorem c_L_low (l : Launch) (D : va_G) (cyI cyJ cyZ : ClassId) (sz : Nat) (hlt : l.stackTraces = false) (v : Nat) (k : Nat) (r0 : Nat) (hv : v < 64) (hk0 : 0 < k) (hk : k < 64) (hr : v % k = r0) : Met l yL_low wsL_low ({ frames := 2, cells := 0, slots := 0, locals := 60 } : Room) (mPc D [(cyI, .int), (cyJ, .long), (cyZ, .boolean)] [] sz [.int (nI v), .int (nI k)]) (va_Qi (fun (r : Int32) (u : va_W) => r = nI r0 ∧ u = []) (mG D [(cyI, .int), (cyJ, .long), (cyZ, .boolean)] [] sz 0) (va_A [] sz)) 0 0 (va_A [] sz) := by
  refine st_pi (own := RL) (g := 0) (lv0 := [(0, .int (nI v)), (1, .int (nI k))]) (by decide) rfl rfl (Nat.le_of_ble_eq_true rfl) rfl ?_
  intro p e s m below meth c A Q S hA hK hP hD hG hS hret ls hl
  have hg : s.heap.size + 0 ≤ s.heap.size := Nat.le_refl _
  refine lv_iload_n S.1 S.2.1 dL_low_0 rfl (lv_at hl 0 rfl) ?_
  refine lv_ldc (v := 2147483647) S.1 S.2.1 S.2.2.2.1 (S.2.2.2.2 (.constant RL 7 2147483647) (by decide +kernel)) dL_low_1 ?_
  refine k_topi (y := nI 2147483647) (by decide) ?_
  refine lv_iand S.1 S.2.1 dL_low_3 ?_
  refine k_topi (y := nI v) (and31 v hv) ?_
  refine lv_iload_n S.1 S.2.1 dL_low_4 rfl (lv_at hl 1 rfl) ?_
  refine kn_irem S (by omega) (by omega) (by omega) dL_low_5 ?_
  refine k_topi (y := nI r0) (by rw [hr]) ?_
  exact hret _ _ _ _ dL_low_6 hP hD hS hg

set_option maxHeartbeats 4000000 in
set_option maxRecDepth 100000 in
theorem c_L_wall_1 (l : Launch) (D : va_G) (cyI cyJ cyZ : ClassId) (sz : Nat) (hlt : l.stackTraces = false) (a0 : Nat) (p1 : Nat) (q1 : Nat) (q0 : Nat) (k0 : Nat) (e0 : Nat) (y1 : Nat) (y2 : Nat) (tl : Nat) (sp : Bool) (v : Int32) (v2 : Int32) (is9 : Bool) (hxy : inF v v2 = false) : Met l yL_wall wsL_wall ({ frames := 8, cells := 1, slots := 6, locals := 147 } : Room) (mPc D [(cyI, .int), (cyJ, .long), (cyZ, .boolean)] [(a0, .inr (5, [.ref p1, .ref q1, .ref q0, .ref k0, .ref e0, .ref y1, .ref y2, .int (nI tl), .int (bI sp)]))] sz [.ref a0, .int v, .int v2, .int (bI is9)]) (va_Ql (fun (r : Int64) (u : va_W) => r = (-9000000000000000) ∧ u = [(a0, .inr (5, [.ref p1, .ref q1, .ref q0, .ref k0, .ref e0, .ref y1, .ref y2, .int (nI tl), .int (bI sp)]))]) (mG D [(cyI, .int), (cyJ, .long), (cyZ, .boolean)] [(a0, .inr (5, [.ref p1, .ref q1, .ref q0, .ref k0, .ref e0, .ref y1, .ref y2, .int (nI tl), .int (bI sp)]))] sz 1) (va_A [(a0, .inr (5, [.ref p1, .ref q1, .ref q0, .ref k0, .ref e0, .ref y1, .ref y2, .int (nI tl), .int (bI sp)]))] sz)) 1 6 (va_A [(a0, .inr (5, [.ref p1, .ref q1, .ref q0, .ref k0, .ref e0, .ref y1, .ref y2, .int (nI tl), .int (bI sp)]))] sz) := by
  refine st_hl (own := RL) (g := 1) (lv0 := [(0, .ref a0), (1, .int v), (2, .int v2), (3, .int (bI is9))]) (by decide) rfl rfl (Nat.le_of_ble_eq_true rfl) rfl ?_
  intro p e s m below meth c A Q S htab hA hK hP hD hG hS hret ls hl
  have hg : s.heap.size + 0 ≤ s.heap.size := Nat.le_refl _
  refine lv_aload_n S.1 S.2.1 dL_wall_0 rfl (lv_at hl 0 rfl) ?_
  refine lv_iload_n S.1 S.2.1 dL_wall_1 rfl (lv_at hl 1 rfl) ?_
  refine lv_iload_n S.1 S.2.1 dL_wall_2 rfl (lv_at hl 2 rfl) ?_
  refine lv_iload_n S.1 S.2.1 dL_wall_3 rfl (lv_at hl 3 rfl) ?_
  refine kxV_i S (wc := [(a0, .inr (5, [.ref p1, .ref q1, .ref q0, .ref k0, .ref e0, .ref y1, .ref y2, .int (nI tl), .int (bI sp)]))]) (wr := []) (ws2 := [(a0, .inr (5, [.ref p1, .ref q1, .ref q0, .ref k0, .ref e0, .ref y1, .ref y2, .int (nI tl), .int (bI sp)]))]) (As := [.int v, .int v2, .int (bI is9)]) (rest := []) (c_X5_wall_1 l D cyI cyJ cyZ s.heap.size hlt a0 p1 q1 q0 k0 e0 y1 y2 tl sp v v2 is9 (by first | assumption | omega)) (cwV 3 S.2.2.2.2 gL_wall_X5_wall rfl rfl rfl (by decide +kernel) ⟨Nat.le_of_ble_eq_true rfl, Nat.le_of_ble_eq_true rfl⟩) hK hP hD hS hA hG [0] [] [0] rfl rfl rfl rfl (by decide) rfl rfl (ci := 5) (q0 := 0) rfl rfl rfl hl.1 rfl (Nat.le_of_ble_eq_true rfl) dL_wall_4 ⟨Nat.le_of_ble_eq_true rfl, Nat.le_of_ble_eq_true rfl⟩ (fun H locs qx cex hP hD hS hqx hvx hcx hg9 => ?_)
  refine vx_catch (own := RL) (name := "java/lang/IndexOutOfBoundsException") (E := "java/lang/IndexOutOfBoundsException") S.2.2.2.1 [] ⟨0, 15, 16, 14⟩ [⟨0, 15, 22, 18⟩] (htab.trans rfl) (fun z9 hz9 => absurd hz9 List.not_mem_nil) (by decide) (by decide) (S.2.2.2.2 (.classLink RL 14 "java/lang/IndexOutOfBoundsException") (by decide +kernel)) (va_Nw.use rfl hG.2.2.2.2.2.2.2.1) hqx hvx hcx ?_
  show W p l e _ s m _ below meth c H locs _ _ _ (F0 m 16 ls [.ref qx])
  have hg := hg9
  refine lv_astore (lv' := [(4, .ref qx), (0, .ref a0), (1, .int v), (2, .int v2), (3, .int (bI is9))]) S.1 S.2.1 dL_wall_16 hl (by decide) rfl (fun ls hl => ?_)
  refine lv_ldc2 (v := (-9000000000000000)) S.1 S.2.1 S.2.2.2.1 (S.2.2.2.2 (.constantLong RL 16 (-9000000000000000)) (by decide +kernel)) dL_wall_18 ?_
  exact hret _ _ _ _ dL_wall_21 hP hD hS hg

set_option maxHeartbeats 4000000 in
set_option maxRecDepth 100000 in
theorem c_L_samples_1 (l : Launch) (D : va_G) (cyI cyJ cyZ : ClassId) (sz : Nat) (hlt : l.stackTraces = false) (a0 : Nat) (p1 : Nat) (q1 : Nat) (q0 : Nat) (k0 : Nat) (e0 : Nat) (y1 : Nat) (y2 : Nat) (tl : Nat) : Met l yL_samples wsL_samples ({ frames := 8, cells := 1, slots := 6, locals := 140 } : Room) (mPc D [(cyI, .int), (cyJ, .long), (cyZ, .boolean)] [(a0, .inr (5, [.ref p1, .ref q1, .ref q0, .ref k0, .ref e0, .ref y1, .ref y2, .int (nI tl), .int (bI false)]))] sz [.ref a0]) (va_Ql (fun (r : Int64) (u : va_W) => r = (-9000000000000000) ∧ u = [(a0, .inr (5, [.ref p1, .ref q1, .ref q0, .ref k0, .ref e0, .ref y1, .ref y2, .int (nI tl), .int (bI false)]))]) (mG D [(cyI, .int), (cyJ, .long), (cyZ, .boolean)] [(a0, .inr (5, [.ref p1, .ref q1, .ref q0, .ref k0, .ref e0, .ref y1, .ref y2, .int (nI tl), .int (bI false)]))] sz 1) (va_A [(a0, .inr (5, [.ref p1, .ref q1, .ref q0, .ref k0, .ref e0, .ref y1, .ref y2, .int (nI tl), .int (bI false)]))] sz)) 1 6 (va_A [(a0, .inr (5, [.ref p1, .ref q1, .ref q0, .ref k0, .ref e0, .ref y1, .ref y2, .int (nI tl), .int (bI false)]))] sz) := by
  refine st_hl (own := RL) (g := 1) (lv0 := [(0, .ref a0)]) (by decide) rfl rfl (Nat.le_of_ble_eq_true rfl) rfl ?_
  intro p e s m below meth c A Q S htab hA hK hP hD hG hS hret ls hl
  have hg : s.heap.size + 0 ≤ s.heap.size := Nat.le_refl _
  refine lv_aload_n S.1 S.2.1 dL_samples_0 rfl (lv_at hl 0 rfl) ?_
  refine kxV_i S (wc := [(a0, .inr (5, [.ref p1, .ref q1, .ref q0, .ref k0, .ref e0, .ref y1, .ref y2, .int (nI tl), .int (bI false)]))]) (wr := []) (ws2 := [(a0, .inr (5, [.ref p1, .ref q1, .ref q0, .ref k0, .ref e0, .ref y1, .ref y2, .int (nI tl), .int (bI false)]))]) (As := []) (rest := []) (c_X5_samples_1 l D cyI cyJ cyZ s.heap.size hlt a0 p1 q1 q0 k0 e0 y1 y2 tl ) (cwV 0 S.2.2.2.2 gL_samples_X5_samples rfl rfl rfl (by decide +kernel) ⟨Nat.le_of_ble_eq_true rfl, Nat.le_of_ble_eq_true rfl⟩) hK hP hD hS hA hG [0] [] [0] rfl rfl rfl rfl (by decide) rfl rfl (ci := 5) (q0 := 0) rfl rfl rfl hl.1 rfl (Nat.le_of_ble_eq_true rfl) dL_samples_1 ⟨Nat.le_of_ble_eq_true rfl, Nat.le_of_ble_eq_true rfl⟩ (fun H locs qx cex hP hD hS hqx hvx hcx hg9 => ?_)
  refine vx_catch (own := RL) (name := "java/lang/IllegalStateException") (E := "java/lang/IllegalStateException") S.2.2.2.1 [] ⟨0, 5, 6, 18⟩ [] (htab.trans rfl) (fun z9 hz9 => absurd hz9 List.not_mem_nil) (by decide) (by decide) (S.2.2.2.2 (.classLink RL 18 "java/lang/IllegalStateException") (by decide +kernel)) (va_Nw.use rfl hG.2.2.2.2.2.2.2.2.2.1) hqx hvx hcx ?_
  show W p l e _ s m _ below meth c H locs _ _ _ (F0 m 6 ls [.ref qx])
  have hg := hg9
  refine lv_astore_n (lv' := [(1, .ref qx), (0, .ref a0)]) S.1 S.2.1 dL_samples_6 rfl hl (by decide) rfl (fun ls hl => ?_)
  refine lv_ldc2 (v := (-9000000000000000)) S.1 S.2.1 S.2.2.2.1 (S.2.2.2.2 (.constantLong RL 16 (-9000000000000000)) (by decide +kernel)) dL_samples_7 ?_
  exact hret _ _ _ _ dL_samples_10 hP hD hS hg

set_option maxHeartbeats 4000000 in
set_option maxRecDepth 100000 in
theorem c_L_doubt_1 (l : Launch) (D : va_G) (cyI cyJ cyZ : ClassId) (sz : Nat) (hlt : l.stackTraces = false) (a0 : Nat) (p1 : Nat) (q1 : Nat) (q0 : Nat) (k0 : Nat) (e0 : Nat) (y1 : Nat) (y2 : Nat) (tl : Nat) : Met l yL_doubt wsL_doubt ({ frames := 8, cells := 1, slots := 6, locals := 140 } : Room) (mPc D [(cyI, .int), (cyJ, .long), (cyZ, .boolean)] [(a0, .inr (5, [.ref p1, .ref q1, .ref q0, .ref k0, .ref e0, .ref y1, .ref y2, .int (nI tl), .int (bI false)]))] sz [.ref a0]) (va_Ql (fun (r : Int64) (u : va_W) => r = (-9000000000000000) ∧ u = [(a0, .inr (5, [.ref p1, .ref q1, .ref q0, .ref k0, .ref e0, .ref y1, .ref y2, .int (nI tl), .int (bI false)]))]) (mG D [(cyI, .int), (cyJ, .long), (cyZ, .boolean)] [(a0, .inr (5, [.ref p1, .ref q1, .ref q0, .ref k0, .ref e0, .ref y1, .ref y2, .int (nI tl), .int (bI false)]))] sz 1) (va_A [(a0, .inr (5, [.ref p1, .ref q1, .ref q0, .ref k0, .ref e0, .ref y1, .ref y2, .int (nI tl), .int (bI false)]))] sz)) 1 6 (va_A [(a0, .inr (5, [.ref p1, .ref q1, .ref q0, .ref k0, .ref e0, .ref y1, .ref y2, .int (nI tl), .int (bI false)]))] sz) := by
  refine st_hl (own := RL) (g := 1) (lv0 := [(0, .ref a0)]) (by decide) rfl rfl (Nat.le_of_ble_eq_true rfl) rfl ?_
  intro p e s m below meth c A Q S htab hA hK hP hD hG hS hret ls hl
  have hg : s.heap.size + 0 ≤ s.heap.size := Nat.le_refl _
  refine lv_aload_n S.1 S.2.1 dL_doubt_0 rfl (lv_at hl 0 rfl) ?_
  refine kxV_i S (wc := [(a0, .inr (5, [.ref p1, .ref q1, .ref q0, .ref k0, .ref e0, .ref y1, .ref y2, .int (nI tl), .int (bI false)]))]) (wr := []) (ws2 := [(a0, .inr (5, [.ref p1, .ref q1, .ref q0, .ref k0, .ref e0, .ref y1, .ref y2, .int (nI tl), .int (bI false)]))]) (As := []) (rest := []) (c_X5_doubt_1 l D cyI cyJ cyZ s.heap.size hlt a0 p1 q1 q0 k0 e0 y1 y2 tl ) (cwV 0 S.2.2.2.2 gL_doubt_X5_doubt rfl rfl rfl (by decide +kernel) ⟨Nat.le_of_ble_eq_true rfl, Nat.le_of_ble_eq_true rfl⟩) hK hP hD hS hA hG [0] [] [0] rfl rfl rfl rfl (by decide) rfl rfl (ci := 5) (q0 := 0) rfl rfl rfl hl.1 rfl (Nat.le_of_ble_eq_true rfl) dL_doubt_1 ⟨Nat.le_of_ble_eq_true rfl, Nat.le_of_ble_eq_true rfl⟩ (fun H locs qx cex hP hD hS hqx hvx hcx hg9 => ?_)
  refine vx_catch (own := RL) (name := "java/lang/IllegalStateException") (E := "java/lang/IllegalStateException") S.2.2.2.1 [] ⟨0, 5, 6, 18⟩ [] (htab.trans rfl) (fun z9 hz9 => absurd hz9 List.not_mem_nil) (by decide) (by decide) (S.2.2.2.2 (.classLink RL 18 "java/lang/IllegalStateException") (by decide +kernel)) (va_Nw.use rfl hG.2.2.2.2.2.2.2.2.2.1) hqx hvx hcx ?_
  show W p l e _ s m _ below meth c H locs _ _ _ (F0 m 6 ls [.ref qx])
  have hg := hg9
  refine lv_astore_n (lv' := [(1, .ref qx), (0, .ref a0)]) S.1 S.2.1 dL_doubt_6 rfl hl (by decide) rfl (fun ls hl => ?_)
  refine lv_ldc2 (v := (-9000000000000000)) S.1 S.2.1 S.2.2.2.1 (S.2.2.2.2 (.constantLong RL 16 (-9000000000000000)) (by decide +kernel)) dL_doubt_7 ?_
  exact hret _ _ _ _ dL_doubt_10 hP hD hS hg

set_option maxHeartbeats 4000000 in
set_option maxRecDepth 100000 in
theorem c_L_mode_1 (l : Launch) (D : va_G) (cyI cyJ cyZ : ClassId) (sz : Nat) (hlt : l.stackTraces = false) (a0 : Nat) (p1 : Nat) (q1 : Nat) (q0 : Nat) (k0 : Nat) (e0 : Nat) (y1 : Nat) (y2 : Nat) (tl : Nat) (bs : Bool) : Met l yL_mode wsL_mode ({ frames := 8, cells := 1, slots := 6, locals := 141 } : Room) (mPc D [(cyI, .int), (cyJ, .long), (cyZ, .boolean)] [(a0, .inr (5, [.ref p1, .ref q1, .ref q0, .ref k0, .ref e0, .ref y1, .ref y2, .int (nI tl), .int (bI false)]))] sz [.ref a0, .int (bI bs)]) (va_Ql (fun (r : Int64) (u : va_W) => r = (-9000000000000000) ∧ u = [(a0, .inr (5, [.ref p1, .ref q1, .ref q0, .ref k0, .ref e0, .ref y1, .ref y2, .int (nI tl), .int (bI false)]))]) (mG D [(cyI, .int), (cyJ, .long), (cyZ, .boolean)] [(a0, .inr (5, [.ref p1, .ref q1, .ref q0, .ref k0, .ref e0, .ref y1, .ref y2, .int (nI tl), .int (bI false)]))] sz 1) (va_A [(a0, .inr (5, [.ref p1, .ref q1, .ref q0, .ref k0, .ref e0, .ref y1, .ref y2, .int (nI tl), .int (bI false)]))] sz)) 1 6 (va_A [(a0, .inr (5, [.ref p1, .ref q1, .ref q0, .ref k0, .ref e0, .ref y1, .ref y2, .int (nI tl), .int (bI false)]))] sz) := by
  refine st_hl (own := RL) (g := 1) (lv0 := [(0, .ref a0), (1, .int (bI bs))]) (by decide) rfl rfl (Nat.le_of_ble_eq_true rfl) rfl ?_
  intro p e s m below meth c A Q S htab hA hK hP hD hG hS hret ls hl
  have hg : s.heap.size + 0 ≤ s.heap.size := Nat.le_refl _
  refine lv_aload_n S.1 S.2.1 dL_mode_0 rfl (lv_at hl 0 rfl) ?_
  refine lv_iload_n S.1 S.2.1 dL_mode_1 rfl (lv_at hl 1 rfl) ?_
  refine kxV_i S (wc := [(a0, .inr (5, [.ref p1, .ref q1, .ref q0, .ref k0, .ref e0, .ref y1, .ref y2, .int (nI tl), .int (bI false)]))]) (wr := []) (ws2 := [(a0, .inr (5, [.ref p1, .ref q1, .ref q0, .ref k0, .ref e0, .ref y1, .ref y2, .int (nI tl), .int (bI false)]))]) (As := [.int (bI bs)]) (rest := []) (c_X5_mode_1 l D cyI cyJ cyZ s.heap.size hlt a0 p1 q1 q0 k0 e0 y1 y2 tl bs ) (cwV 1 S.2.2.2.2 gL_mode_X5_mode rfl rfl rfl (by decide +kernel) ⟨Nat.le_of_ble_eq_true rfl, Nat.le_of_ble_eq_true rfl⟩) hK hP hD hS hA hG [0] [] [0] rfl rfl rfl rfl (by decide) rfl rfl (ci := 5) (q0 := 0) rfl rfl rfl hl.1 rfl (Nat.le_of_ble_eq_true rfl) dL_mode_2 ⟨Nat.le_of_ble_eq_true rfl, Nat.le_of_ble_eq_true rfl⟩ (fun H locs qx cex hP hD hS hqx hvx hcx hg9 => ?_)
  refine vx_catch (own := RL) (name := "java/lang/IllegalStateException") (E := "java/lang/IllegalStateException") S.2.2.2.1 [] ⟨0, 6, 7, 18⟩ [] (htab.trans rfl) (fun z9 hz9 => absurd hz9 List.not_mem_nil) (by decide) (by decide) (S.2.2.2.2 (.classLink RL 18 "java/lang/IllegalStateException") (by decide +kernel)) (va_Nw.use rfl hG.2.2.2.2.2.2.2.2.2.1) hqx hvx hcx ?_
  show W p l e _ s m _ below meth c H locs _ _ _ (F0 m 7 ls [.ref qx])
  have hg := hg9
  refine lv_astore_n (lv' := [(2, .ref qx), (0, .ref a0), (1, .int (bI bs))]) S.1 S.2.1 dL_mode_7 rfl hl (by decide) rfl (fun ls hl => ?_)
  refine lv_ldc2 (v := (-9000000000000000)) S.1 S.2.1 S.2.2.2.1 (S.2.2.2.2 (.constantLong RL 16 (-9000000000000000)) (by decide +kernel)) dL_mode_8 ?_
  exact hret _ _ _ _ dL_mode_11 hP hD hS hg

set_option maxHeartbeats 4000000 in
set_option maxRecDepth 100000 in
theorem c_L_sample_1a (l : Launch) (D : va_G) (cyI cyJ cyZ : ClassId) (sz : Nat) (hlt : l.stackTraces = false) (a0 : Nat) (p1 : Nat) (q1 : Nat) (q0 : Nat) (k0 : Nat) (e0 : Nat) (y1 : Nat) (y2 : Nat) (tl : Nat) (q2 : Nat) (q3 : Nat) (q4 : Nat) (q5 : Nat) (n0 : Nat) (rd : Bool) (sl : Int32) (fa : Int32) (db : Int32) (v : Int32) (hn0 : n0 = 0) : Met l yL_sample wsL_sample ({ frames := 7, cells := 1, slots := 6, locals := 121 } : Room) (mPc D [(cyI, .int), (cyJ, .long), (cyZ, .boolean)] [(a0, .inr (5, [.ref p1, .ref q1, .ref q0, .ref k0, .ref e0, .ref y1, .ref y2, .int (nI tl), .int (bI false)])), (q0, .inr (4, [.ref p1, .ref q1, .ref q2, .ref q3, .ref q4, .ref q5, .int (nI n0), .int (bI rd), .int sl, .int fa, .int db]))] sz [.ref a0, .int v]) (va_Ql (fun (r : Int64) (u : va_W) => r = (-9000000000000000) ∧ u = [(a0, .inr (5, [.ref p1, .ref q1, .ref q0, .ref k0, .ref e0, .ref y1, .ref y2, .int (nI tl), .int (bI false)])), (q0, .inr (4, [.ref p1, .ref q1, .ref q2, .ref q3, .ref q4, .ref q5, .int (nI n0), .int (bI rd), .int sl, .int fa, .int db]))]) (mG D [(cyI, .int), (cyJ, .long), (cyZ, .boolean)] [(a0, .inr (5, [.ref p1, .ref q1, .ref q0, .ref k0, .ref e0, .ref y1, .ref y2, .int (nI tl), .int (bI false)])), (q0, .inr (4, [.ref p1, .ref q1, .ref q2, .ref q3, .ref q4, .ref q5, .int (nI n0), .int (bI rd), .int sl, .int fa, .int db]))] sz 1) (va_A [(a0, .inr (5, [.ref p1, .ref q1, .ref q0, .ref k0, .ref e0, .ref y1, .ref y2, .int (nI tl), .int (bI false)])), (q0, .inr (4, [.ref p1, .ref q1, .ref q2, .ref q3, .ref q4, .ref q5, .int (nI n0), .int (bI rd), .int sl, .int fa, .int db]))] sz)) 1 6 (va_A [(a0, .inr (5, [.ref p1, .ref q1, .ref q0, .ref k0, .ref e0, .ref y1, .ref y2, .int (nI tl), .int (bI false)])), (q0, .inr (4, [.ref p1, .ref q1, .ref q2, .ref q3, .ref q4, .ref q5, .int (nI n0), .int (bI rd), .int sl, .int fa, .int db]))] sz) := by
  refine st_hl (own := RL) (g := 1) (lv0 := [(0, .ref a0), (1, .int v)]) (by decide) rfl rfl (Nat.le_of_ble_eq_true rfl) rfl ?_
  intro p e s m below meth c A Q S htab hA hK hP hD hG hS hret ls hl
  have hg : s.heap.size + 0 ≤ s.heap.size := Nat.le_refl _
  refine lv_aload_n S.1 S.2.1 dL_sample_0 rfl (lv_at hl 0 rfl) ?_
  refine lv_iload_n S.1 S.2.1 dL_sample_1 rfl (lv_at hl 1 rfl) ?_
  refine kxV_i S (wc := [(a0, .inr (5, [.ref p1, .ref q1, .ref q0, .ref k0, .ref e0, .ref y1, .ref y2, .int (nI tl), .int (bI false)])), (q0, .inr (4, [.ref p1, .ref q1, .ref q2, .ref q3, .ref q4, .ref q5, .int (nI n0), .int (bI rd), .int sl, .int fa, .int db]))]) (wr := []) (ws2 := [(a0, .inr (5, [.ref p1, .ref q1, .ref q0, .ref k0, .ref e0, .ref y1, .ref y2, .int (nI tl), .int (bI false)])), (q0, .inr (4, [.ref p1, .ref q1, .ref q2, .ref q3, .ref q4, .ref q5, .int (nI n0), .int (bI rd), .int sl, .int fa, .int db]))]) (As := [.int v]) (rest := []) (c_X5_sample_1a l D cyI cyJ cyZ s.heap.size hlt a0 p1 q1 q0 k0 e0 y1 y2 tl q2 q3 q4 q5 n0 rd sl fa db v (by first | assumption | omega)) (cwV 1 S.2.2.2.2 gL_sample_X5_sample rfl rfl rfl (by decide +kernel) ⟨Nat.le_of_ble_eq_true rfl, Nat.le_of_ble_eq_true rfl⟩) hK hP hD hS hA hG [0, 1] [] [0, 1] rfl rfl rfl rfl (by decide) rfl rfl (ci := 5) (q0 := 0) rfl rfl rfl hl.1 rfl (Nat.le_of_ble_eq_true rfl) dL_sample_2 ⟨Nat.le_of_ble_eq_true rfl, Nat.le_of_ble_eq_true rfl⟩ (fun H locs qx cex hP hD hS hqx hvx hcx hg9 => ?_)
  refine vx_catch (own := RL) (name := "java/lang/IndexOutOfBoundsException") (E := "java/lang/IndexOutOfBoundsException") S.2.2.2.1 [] ⟨0, 6, 7, 14⟩ [] (htab.trans rfl) (fun z9 hz9 => absurd hz9 List.not_mem_nil) (by decide) (by decide) (S.2.2.2.2 (.classLink RL 14 "java/lang/IndexOutOfBoundsException") (by decide +kernel)) (va_Nw.use rfl hG.2.2.2.2.2.2.2.1) hqx hvx hcx ?_
  show W p l e _ s m _ below meth c H locs _ _ _ (F0 m 7 ls [.ref qx])
  have hg := hg9
  refine lv_astore_n (lv' := [(2, .ref qx), (0, .ref a0), (1, .int v)]) S.1 S.2.1 dL_sample_7 rfl hl (by decide) rfl (fun ls hl => ?_)
  refine lv_ldc2 (v := (-9000000000000000)) S.1 S.2.1 S.2.2.2.1 (S.2.2.2.2 (.constantLong RL 16 (-9000000000000000)) (by decide +kernel)) dL_sample_8 ?_
  exact hret _ _ _ _ dL_sample_11 hP hD hS hg

set_option maxHeartbeats 4000000 in
set_option maxRecDepth 100000 in
theorem c_L_belief_2 (l : Launch) (D : va_G) (cyI cyJ cyZ : ClassId) (sz : Nat) (hlt : l.stackTraces = false) (a0 : Nat) (p1 : Nat) (q1 : Nat) (q0 : Nat) (k0 : Nat) (e0 : Nat) (y1 : Nat) (y2 : Nat) (tl : Nat) (v : Nat) (v2 : Nat) (hv : v < 8) (hv2 : v2 < 8) : Met l yL_belief wsL_belief ({ frames := 8, cells := 1, slots := 6, locals := 142 } : Room) (mPc D [(cyI, .int), (cyJ, .long), (cyZ, .boolean)] [(a0, .inr (5, [.ref p1, .ref q1, .ref q0, .ref k0, .ref e0, .ref y1, .ref y2, .int (nI tl), .int (bI false)]))] sz [.ref a0, .int (nI v), .int (nI v2)]) (va_Ql (fun (r : Int64) (u : va_W) => r = (-9000000000000000) ∧ u = [(a0, .inr (5, [.ref p1, .ref q1, .ref q0, .ref k0, .ref e0, .ref y1, .ref y2, .int (nI tl), .int (bI false)]))]) (mG D [(cyI, .int), (cyJ, .long), (cyZ, .boolean)] [(a0, .inr (5, [.ref p1, .ref q1, .ref q0, .ref k0, .ref e0, .ref y1, .ref y2, .int (nI tl), .int (bI false)]))] sz 1) (va_A [(a0, .inr (5, [.ref p1, .ref q1, .ref q0, .ref k0, .ref e0, .ref y1, .ref y2, .int (nI tl), .int (bI false)]))] sz)) 1 6 (va_A [(a0, .inr (5, [.ref p1, .ref q1, .ref q0, .ref k0, .ref e0, .ref y1, .ref y2, .int (nI tl), .int (bI false)]))] sz) := by
  refine st_hl (own := RL) (g := 1) (lv0 := [(0, .ref a0), (1, .int (nI v)), (2, .int (nI v2))]) (by decide) rfl rfl (Nat.le_of_ble_eq_true rfl) rfl ?_
  intro p e s m below meth c A Q S htab hA hK hP hD hG hS hret ls hl
  have hg : s.heap.size + 0 ≤ s.heap.size := Nat.le_refl _
  refine lv_aload_n S.1 S.2.1 dL_belief_0 rfl (lv_at hl 0 rfl) ?_
  refine lv_iload_n S.1 S.2.1 dL_belief_1 rfl (lv_at hl 1 rfl) ?_
  refine lv_iload_n S.1 S.2.1 dL_belief_2 rfl (lv_at hl 2 rfl) ?_
  refine kxV_l S (wc := [(a0, .inr (5, [.ref p1, .ref q1, .ref q0, .ref k0, .ref e0, .ref y1, .ref y2, .int (nI tl), .int (bI false)]))]) (wr := []) (ws2 := [(a0, .inr (5, [.ref p1, .ref q1, .ref q0, .ref k0, .ref e0, .ref y1, .ref y2, .int (nI tl), .int (bI false)]))]) (As := [.int (nI v), .int (nI v2)]) (rest := []) (c_X5_belief_2 l D cyI cyJ cyZ s.heap.size hlt a0 p1 q1 q0 k0 e0 y1 y2 tl v v2 (by first | assumption | omega) (by first | assumption | omega)) (cwV 2 S.2.2.2.2 gL_belief_X5_belief rfl rfl rfl (by decide +kernel) ⟨Nat.le_of_ble_eq_true rfl, Nat.le_of_ble_eq_true rfl⟩) hK hP hD hS hA hG [0] [] [0] rfl rfl rfl rfl (by decide) rfl rfl (ci := 5) (q0 := 0) rfl rfl rfl hl.1 rfl (Nat.le_of_ble_eq_true rfl) dL_belief_3 ⟨Nat.le_of_ble_eq_true rfl, Nat.le_of_ble_eq_true rfl⟩ (fun H locs qx cex hP hD hS hqx hvx hcx hg9 => ?_)
  refine vx_catch (own := RL) (name := "java/lang/IllegalStateException") (E := "java/lang/IllegalStateException") S.2.2.2.1 [⟨0, 6, 7, 14⟩] ⟨0, 6, 12, 18⟩ [] (htab.trans rfl) (fun z9 hz9 => by rcases List.mem_singleton.mp hz9 with rfl; exact Or.inr ⟨by decide, "java/lang/IndexOutOfBoundsException", S.2.2.2.2 (.classLink RL 14 "java/lang/IndexOutOfBoundsException") (by decide +kernel), hG.2.2.2.2.2.2.2.2.2.2.2.1⟩) (by decide) (by decide) (S.2.2.2.2 (.classLink RL 18 "java/lang/IllegalStateException") (by decide +kernel)) (va_Nw.use rfl hG.2.2.2.2.2.2.2.2.2.1) hqx hvx hcx ?_
  show W p l e _ s m _ below meth c H locs _ _ _ (F0 m 12 ls [.ref qx])
  have hg := hg9
  refine lv_astore_n (lv' := [(3, .ref qx), (0, .ref a0), (1, .int (nI v)), (2, .int (nI v2))]) S.1 S.2.1 dL_belief_12 rfl hl (by decide) rfl (fun ls hl => ?_)
  refine lv_ldc2 (v := (-9000000000000000)) S.1 S.2.1 S.2.2.2.1 (S.2.2.2.2 (.constantLong RL 16 (-9000000000000000)) (by decide +kernel)) dL_belief_13 ?_
  exact hret _ _ _ _ dL_belief_16 hP hD hS hg

set_option maxHeartbeats 4000000 in
set_option maxRecDepth 100000 in
theorem c_L_best_2 (l : Launch) (D : va_G) (cyI cyJ cyZ : ClassId) (sz : Nat) (hlt : l.stackTraces = false) (a0 : Nat) (p1 : Nat) (q1 : Nat) (q0 : Nat) (k0 : Nat) (e0 : Nat) (y1 : Nat) (y2 : Nat) (tl : Nat) (v : Int32) (hv : ¬ v < 0) : Met l yL_best wsL_best ({ frames := 8, cells := 1, slots := 6, locals := 141 } : Room) (mPc D [(cyI, .int), (cyJ, .long), (cyZ, .boolean)] [(a0, .inr (5, [.ref p1, .ref q1, .ref q0, .ref k0, .ref e0, .ref y1, .ref y2, .int (nI tl), .int (bI false)]))] sz [.ref a0, .int v]) (va_Ql (fun (r : Int64) (u : va_W) => r = (-9000000000000000) ∧ u = [(a0, .inr (5, [.ref p1, .ref q1, .ref q0, .ref k0, .ref e0, .ref y1, .ref y2, .int (nI tl), .int (bI false)]))]) (mG D [(cyI, .int), (cyJ, .long), (cyZ, .boolean)] [(a0, .inr (5, [.ref p1, .ref q1, .ref q0, .ref k0, .ref e0, .ref y1, .ref y2, .int (nI tl), .int (bI false)]))] sz 1) (va_A [(a0, .inr (5, [.ref p1, .ref q1, .ref q0, .ref k0, .ref e0, .ref y1, .ref y2, .int (nI tl), .int (bI false)]))] sz)) 1 6 (va_A [(a0, .inr (5, [.ref p1, .ref q1, .ref q0, .ref k0, .ref e0, .ref y1, .ref y2, .int (nI tl), .int (bI false)]))] sz) := by
  refine st_hl (own := RL) (g := 1) (lv0 := [(0, .ref a0), (1, .int v)]) (by decide) rfl rfl (Nat.le_of_ble_eq_true rfl) rfl ?_
  intro p e s m below meth c A Q S htab hA hK hP hD hG hS hret ls hl
  have hg : s.heap.size + 0 ≤ s.heap.size := Nat.le_refl _
  refine lv_aload_n S.1 S.2.1 dL_best_0 rfl (lv_at hl 0 rfl) ?_
  refine lv_iload_n S.1 S.2.1 dL_best_1 rfl (lv_at hl 1 rfl) ?_
  refine kxV_i S (wc := [(a0, .inr (5, [.ref p1, .ref q1, .ref q0, .ref k0, .ref e0, .ref y1, .ref y2, .int (nI tl), .int (bI false)]))]) (wr := []) (ws2 := [(a0, .inr (5, [.ref p1, .ref q1, .ref q0, .ref k0, .ref e0, .ref y1, .ref y2, .int (nI tl), .int (bI false)]))]) (As := [.int v]) (rest := []) (c_X5_best_2 l D cyI cyJ cyZ s.heap.size hlt a0 p1 q1 q0 k0 e0 y1 y2 tl v (by first | assumption | omega)) (cwV 1 S.2.2.2.2 gL_best_X5_best rfl rfl rfl (by decide +kernel) ⟨Nat.le_of_ble_eq_true rfl, Nat.le_of_ble_eq_true rfl⟩) hK hP hD hS hA hG [0] [] [0] rfl rfl rfl rfl (by decide) rfl rfl (ci := 5) (q0 := 0) rfl rfl rfl hl.1 rfl (Nat.le_of_ble_eq_true rfl) dL_best_2 ⟨Nat.le_of_ble_eq_true rfl, Nat.le_of_ble_eq_true rfl⟩ (fun H locs qx cex hP hD hS hqx hvx hcx hg9 => ?_)
  refine vx_catch (own := RL) (name := "java/lang/IllegalStateException") (E := "java/lang/IllegalStateException") S.2.2.2.1 [⟨0, 6, 7, 14⟩] ⟨0, 6, 12, 18⟩ [] (htab.trans rfl) (fun z9 hz9 => by rcases List.mem_singleton.mp hz9 with rfl; exact Or.inr ⟨by decide, "java/lang/IndexOutOfBoundsException", S.2.2.2.2 (.classLink RL 14 "java/lang/IndexOutOfBoundsException") (by decide +kernel), hG.2.2.2.2.2.2.2.2.2.2.2.1⟩) (by decide) (by decide) (S.2.2.2.2 (.classLink RL 18 "java/lang/IllegalStateException") (by decide +kernel)) (va_Nw.use rfl hG.2.2.2.2.2.2.2.2.2.1) hqx hvx hcx ?_
  show W p l e _ s m _ below meth c H locs _ _ _ (F0 m 12 ls [.ref qx])
  have hg := hg9
  refine lv_astore_n (lv' := [(2, .ref qx), (0, .ref a0), (1, .int v)]) S.1 S.2.1 dL_best_12 rfl hl (by decide) rfl (fun ls hl => ?_)
  refine lv_ldc2 (v := (-9000000000000000)) S.1 S.2.1 S.2.2.2.1 (S.2.2.2.2 (.constantLong RL 16 (-9000000000000000)) (by decide +kernel)) dL_best_13 ?_
  exact hret _ _ _ _ dL_best_16 hP hD hS hg

set_option maxHeartbeats 4000000 in
set_option maxRecDepth 100000 in
theorem c_L_read_3a (l : Launch) (D : va_G) (cyI cyJ cyZ : ClassId) (sz : Nat) (hlt : l.stackTraces = false) (a0 : Nat) (p1 : Nat) (q1 : Nat) (q0 : Nat) (k0 : Nat) (e0 : Nat) (y1 : Nat) (y2 : Nat) (tl : Nat) (d0 : Nat) (r0 : Nat) (hd : d0 < 4) (hr : r0 < 8) : Met l yL_read wsL_read ({ frames := 8, cells := 1, slots := 6, locals := 143 } : Room) (mPc D [(cyI, .int), (cyJ, .long), (cyZ, .boolean)] [(a0, .inr (5, [.ref p1, .ref q1, .ref q0, .ref k0, .ref e0, .ref y1, .ref y2, .int (nI tl), .int (bI false)]))] sz [.ref a0, .int (nI d0), .int (nI r0)]) (va_Ql (fun (r : Int64) (u : va_W) => r = (-9000000000000000) ∧ u = [(a0, .inr (5, [.ref p1, .ref q1, .ref q0, .ref k0, .ref e0, .ref y1, .ref y2, .int (nI tl), .int (bI false)]))]) (mG D [(cyI, .int), (cyJ, .long), (cyZ, .boolean)] [(a0, .inr (5, [.ref p1, .ref q1, .ref q0, .ref k0, .ref e0, .ref y1, .ref y2, .int (nI tl), .int (bI false)]))] sz 1) (va_A [(a0, .inr (5, [.ref p1, .ref q1, .ref q0, .ref k0, .ref e0, .ref y1, .ref y2, .int (nI tl), .int (bI false)]))] sz)) 1 6 (va_A [(a0, .inr (5, [.ref p1, .ref q1, .ref q0, .ref k0, .ref e0, .ref y1, .ref y2, .int (nI tl), .int (bI false)]))] sz) := by
  refine st_hl (own := RL) (g := 1) (lv0 := [(0, .ref a0), (1, .int (nI d0)), (2, .int (nI r0))]) (by decide) rfl rfl (Nat.le_of_ble_eq_true rfl) rfl ?_
  intro p e s m below meth c A Q S htab hA hK hP hD hG hS hret ls hl
  have hg : s.heap.size + 0 ≤ s.heap.size := Nat.le_refl _
  refine lv_aload_n S.1 S.2.1 dL_read_0 rfl (lv_at hl 0 rfl) ?_
  refine lv_iload_n S.1 S.2.1 dL_read_1 rfl (lv_at hl 1 rfl) ?_
  refine lv_iload_n S.1 S.2.1 dL_read_2 rfl (lv_at hl 2 rfl) ?_
  refine kxV_i S (wc := [(a0, .inr (5, [.ref p1, .ref q1, .ref q0, .ref k0, .ref e0, .ref y1, .ref y2, .int (nI tl), .int (bI false)]))]) (wr := []) (ws2 := [(a0, .inr (5, [.ref p1, .ref q1, .ref q0, .ref k0, .ref e0, .ref y1, .ref y2, .int (nI tl), .int (bI false)]))]) (As := [.int (nI d0), .int (nI r0)]) (rest := []) (c_X5_read_3a l D cyI cyJ cyZ s.heap.size hlt a0 p1 q1 q0 k0 e0 y1 y2 tl d0 r0 (by first | assumption | omega) (by first | assumption | omega)) (cwV 2 S.2.2.2.2 gL_read_X5_read rfl rfl rfl (by decide +kernel) ⟨Nat.le_of_ble_eq_true rfl, Nat.le_of_ble_eq_true rfl⟩) hK hP hD hS hA hG [0] [] [0] rfl rfl rfl rfl (by decide) rfl rfl (ci := 5) (q0 := 0) rfl rfl rfl hl.1 rfl (Nat.le_of_ble_eq_true rfl) dL_read_3 ⟨Nat.le_of_ble_eq_true rfl, Nat.le_of_ble_eq_true rfl⟩ (fun H locs qx cex hP hD hS hqx hvx hcx hg9 => ?_)
  refine vx_catch (own := RL) (name := "java/lang/IllegalStateException") (E := "java/lang/IllegalStateException") S.2.2.2.1 [⟨0, 7, 8, 14⟩, ⟨0, 7, 13, 24⟩] ⟨0, 7, 18, 18⟩ [] (htab.trans rfl) (fun z9 hz9 => by rcases List.mem_cons.mp hz9 with rfl | hz9; (· exact Or.inr ⟨by decide, "java/lang/IndexOutOfBoundsException", S.2.2.2.2 (.classLink RL 14 "java/lang/IndexOutOfBoundsException") (by decide +kernel), hG.2.2.2.2.2.2.2.2.2.2.2.1⟩); (· rcases List.mem_singleton.mp hz9 with rfl; exact Or.inr ⟨by decide, "java/lang/IllegalArgumentException", S.2.2.2.2 (.classLink RL 24 "java/lang/IllegalArgumentException") (by decide +kernel), hG.2.2.2.2.2.2.2.2.2.2.2.2.1⟩)) (by decide) (by decide) (S.2.2.2.2 (.classLink RL 18 "java/lang/IllegalStateException") (by decide +kernel)) (va_Nw.use rfl hG.2.2.2.2.2.2.2.2.2.1) hqx hvx hcx ?_
  show W p l e _ s m _ below meth c H locs _ _ _ (F0 m 18 ls [.ref qx])
  have hg := hg9
  refine lv_astore_n (lv' := [(3, .ref qx), (0, .ref a0), (1, .int (nI d0)), (2, .int (nI r0))]) S.1 S.2.1 dL_read_18 rfl hl (by decide) rfl (fun ls hl => ?_)
  refine lv_ldc2 (v := (-9000000000000000)) S.1 S.2.1 S.2.2.2.1 (S.2.2.2.2 (.constantLong RL 16 (-9000000000000000)) (by decide +kernel)) dL_read_19 ?_
  exact hret _ _ _ _ dL_read_22 hP hD hS hg
end HELP19
