section SAMPLES
set_option maxHeartbeats 4000000 in
set_option maxRecDepth 100000 in
theorem c_X4_size (l : Launch) (D : va_G) (cyI cyJ cyZ : ClassId) (sz : Nat) (q0 : Nat) (p1 : Nat) (q1 : Nat) (q2 : Nat) (q3 : Nat) (q4 : Nat) (q5 : Nat) (n0 : Nat) (rd : Bool) (sl : Int32) (fa : Int32) (db : Int32) : Met l yX4_size wsX4_size ({ frames := 2, cells := 0, slots := 0, locals := 60 } : Room) (mPc D [(cyI, .int), (cyJ, .long), (cyZ, .boolean)] [(q0, .inr (4, [.ref p1, .ref q1, .ref q2, .ref q3, .ref q4, .ref q5, .int (nI n0), .int (bI rd), .int sl, .int fa, .int db]))] sz [.ref q0]) (va_Qi (fun (r : Int32) (u : va_W) => r = nI n0 ∧ u = [(q0, .inr (4, [.ref p1, .ref q1, .ref q2, .ref q3, .ref q4, .ref q5, .int (nI n0), .int (bI rd), .int sl, .int fa, .int db]))]) (mB D [(cyI, .int), (cyJ, .long), (cyZ, .boolean)] (va_A [(q0, .inr (4, [.ref p1, .ref q1, .ref q2, .ref q3, .ref q4, .ref q5, .int (nI n0), .int (bI rd), .int sl, .int fa, .int db]))] sz)) (va_A [(q0, .inr (4, [.ref p1, .ref q1, .ref q2, .ref q3, .ref q4, .ref q5, .int (nI n0), .int (bI rd), .int sl, .int fa, .int db]))] sz)) 0 0 (va_A [(q0, .inr (4, [.ref p1, .ref q1, .ref q2, .ref q3, .ref q4, .ref q5, .int (nI n0), .int (bI rd), .int sl, .int fa, .int db]))] sz) := by
  refine st_i (own := RX4) (lv0 := [(0, .ref q0)]) (by decide) rfl rfl (Nat.le_of_ble_eq_true rfl) rfl ?_
  intro p e s m below meth c A Q S hin hA hK hP hD hG hS hret ls hl
  have hw_X4 : ∀ w ∈ u_ws RX4 TX4 11, w ∈ wsX4_size := by decide +kernel
  have hf_36 := S.2.2.2.2 (.fieldLink RX4 36 "Particleway$Samples" "many" "I") (by decide +kernel)
  refine lv_aload_n S.1 S.2.1 dX4_size_0 rfl (lv_at hl 0 rfl) ?_
  refine k_get S (C := RX4) (T := TX4) (N := 11) (ci := 4) hw_X4 hK hP 0 rfl rfl 6 (by decide) hf_36 rfl (v := .int (nI n0)) rfl dX4_size_1 ?_
  exact hret _ _ _ _ dX4_size_4 hP hD hS
end SAMPLES
