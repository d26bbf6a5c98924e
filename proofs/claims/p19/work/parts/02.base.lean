section BASE
variable {p : Program} {l : Launch} {e : Env} {R : Room} {s : State} {m : MethodId} {args : Array Value} {below : List Frame} {meth : Method} {c : Code} {H : Heap} {locs : List Loc} {cells slots : Nat} {Q : State → Prop} {cc : ByteArray} {pc : Nat} {ls : Array Slot} {rest : List Value} {nL : Nat} {Ts : List Cond} {own : String} {D : va_G} {cl : List vw_C} {ws ws2 : va_W} {tys : List (ClassId × FieldType)} {A : Nat → Prop} {H0 : Heap} {a : Nat} {cA : ClassId} {n : Nat} {off : Int} {tgt : Nat}
/-- how numbers and truths lie in the cells -/
def bI (b : Bool) : Int32 := if b then 1 else 0
def aI (f : Nat → Nat) : Nat → Int32 := fun j => nI (f j)
def aL (f : Nat → Nat) : Nat → Int64 := fun j => lN (f j)
def aZ (f : Nat → Bool) : Nat → Int32 := fun j => bI (f j)
theorem aI_at (f : Nat → Nat) (i : Nat) : aI f i = nI (f i) := rfl
theorem aL_at (f : Nat → Nat) (i : Nat) : aL f i = lN (f i) := rfl
theorem aZ_at (f : Nat → Bool) (i : Nat) : aZ f i = bI (f i) := rfl
theorem upd_aI (f : Nat → Nat) (i x : Nat) : upd (aI f) i (nI x) = aI (va_up f i x) := by
  funext j
  by_cases h : j = i <;> simp [upd, aI, va_up, h]
theorem upd_aL (f : Nat → Nat) (i x : Nat) : vp_updL (aL f) i (lN x) = aL (va_up f i x) := by
  funext j
  by_cases h : j = i <;> simp [vp_updL, aL, va_up, h]
theorem nar_bI (b : Bool) : narrow .boolean (.int (bI b)) = .int (bI b) := by cases b <;> rfl
theorem vnar_bI (b : Bool) : vp_nar .boolean (bI b) = bI b := by cases b <;> rfl
theorem fit_bI (b : Bool) : fits .boolean (.int (bI b)) = true := by cases b <;> rfl
theorem upd_aZ (f : Nat → Bool) (i : Nat) (x : Bool) : upd (aZ f) i (vp_nar .boolean (bI x)) = aZ (va_up f i x) := by
  rw [vnar_bI]
  funext j
  by_cases h : j = i <;> simp [upd, aZ, va_up, h]
theorem nI_clp {i : Nat} (h : i < 2 ^ 31) : (nI i).toNatClampNeg = i := nI_clamp h
theorem bI_eq0 (b : Bool) : bI b = 0 ↔ b = false := by cases b <;> simp [bI]
theorem up_at {α : Type} (f : Nat → α) (i : Nat) (x : α) : va_up f i x i = x := by simp [va_up]
theorem up_ne {α : Type} (f : Nat → α) {i j : Nat} (x : α) (h : j ≠ i) : va_up f i x j = f j := by simp [va_up, h]
theorem iinc_1 (a : Nat) : nI a + Int32.ofInt 1 = nI (a + 1) := nI_1 a
theorem iinc_m1 {a : Nat} (h : 0 < a) : nI a + Int32.ofInt (-1) = nI (a - 1) := by
  obtain ⟨b, rfl⟩ : ∃ b, a = b + 1 := ⟨a - 1, by omega⟩
  exact pk_m1 b
theorem iinc_k (a k : Nat) : nI a + Int32.ofInt (k : Int) = nI (a + k) := nI_add a k
/-- a cell of an array says nothing of places behind its end -/
theorem arrV_cong {cI : ClassId} {N : Nat} {f g : Nat → Value} (h : ∀ j, j < N → f j = g j) : arrV cI N f = arrV cI N g := by
  have : (Array.ofFn (n := N) fun j => f j.val) = Array.ofFn (n := N) fun j => g j.val := by
    congr 1
    funext j
    exact h j.val j.isLt
  simp only [arrV, this]
theorem cell_aI {cI : ClassId} {N : Nat} {f g : Nat → Nat} (h : ∀ j, j < N → f j = g j) : vp_cell cI (N, .inl (aI f)) = vp_cell cI (N, .inl (aI g))   := by
  rw [vp_cell_i, vp_cell_i]
  exact arrV_cong (fun j hj => by show Value.int (nI (f j)) = .int (nI (g j)); rw [h j hj])
theorem cell_aL {cI : ClassId} {N : Nat} {f g : Nat → Nat} (h : ∀ j, j < N → f j = g j) : vp_cell cI (N, .inr (.inl (aL f))) = vp_cell cI (N, .inr (.inl (aL g)))   := by
  rw [vp_cell_l, vp_cell_l]
  exact arrV_cong (fun j hj => by show Value.long (lN (f j)) = .long (lN (g j)); rw [h j hj])
theorem cell_iI {cI : ClassId} {N : Nat} {f g : Nat → Int32} (h : ∀ j, j < N → f j = g j) : vp_cell cI (N, .inl f) = vp_cell cI (N, .inl g)   := by
  rw [vp_cell_i, vp_cell_i]
  exact arrV_cong (fun j hj => by show Value.int (f j) = .int (g j); rw [h j hj])
theorem cell_lL {cI : ClassId} {N : Nat} {f g : Nat → Int64} (h : ∀ j, j < N → f j = g j) : vp_cell cI (N, .inr (.inl f)) = vp_cell cI (N, .inr (.inl g))   := by
  rw [vp_cell_l, vp_cell_l]
  exact arrV_cong (fun j hj => by show Value.long (f j) = .long (g j); rw [h j hj])
/-- a cell of the world in another form -/
theorem P_re (hP : va_P D cl ws H) (hD : va_D A ws) (q0 : Nat) {cA cB : ClassId} {x y : vp_A} (hq : ws[q0]? = some (a, .inl (cA, x))) (hxy : vp_cell cA x = vp_cell cB y) (hw : ws.set q0 (a, .inl (cB, y)) = ws2) : va_P D cl ws2 H ∧ va_D A ws2 := by
  subst hw
  have hlt : q0 < ws.length := (List.getElem?_eq_some_iff.mp hq).1
  have key : ∀ (i : Nat) (pp : Nat × va_E), (ws.set q0 (a, .inl (cB, y)))[i]? = some pp → (i = q0 ∧ pp = (a, .inl (cB, y))) ∨ (i ≠ q0 ∧ ws[i]? = some pp) := by
    intro i pp h
    by_cases hi : i = q0
    · subst hi
      rw [List.getElem?_set_self hlt] at h
      exact Or.inl ⟨rfl, (Option.some.inj h).symm⟩
    · rw [List.getElem?_set_ne (fun g => hi g.symm)] at h
      exact Or.inr ⟨hi, h⟩
  have key2 : ∀ (i : Nat) (pp : Nat × va_E), (ws.set q0 (a, .inl (cB, y)))[i]? = some pp → ∃ pe, ws[i]? = some (pp.1, pe) := by
    intro i pp h
    rcases key i pp h with ⟨rfl, rfl⟩ | ⟨_, h2⟩
    · exact ⟨_, hq⟩
    · exact ⟨pp.2, h2⟩
  refine ⟨fun k q hk => ?_, ⟨fun i j pp qq h1 h2 h3 => ?_, fun k q hk => ?_⟩⟩
  · rcases key k q hk with ⟨_, rfl⟩ | ⟨_, h2⟩
    · have h3 := hP q0 _ hq
      show H[a]? = some (vp_cell cB y)
      rw [← hxy]
      exact h3
    · exact hP k q h2
  · obtain ⟨e1, g1⟩ := key2 i pp h1
    obtain ⟨e2, g2⟩ := key2 j qq h2
    exact hD.1 i j _ _ g1 g2 h3
  · obtain ⟨e1, g1⟩ := key2 k q hk
    exact hD.2 k (q.1, e1) g1

theorem kn_iadd (S : CallFix p m c cc nL s args Ts own) {x y : Nat} (d : decode cc pc = .ok (.iadd, 1)) (k : W p l e R s m args below meth c H locs cells slots Q (F0 m (pc + 1) ls (.int (nI (x + y)) :: rest))) : W p l e R s m args below meth c H locs cells slots Q (F0 m pc ls (.int (nI y) :: .int (nI x) :: rest)) := lv_iadd S.1 S.2.1 d (by rw [nI_add]; exact k)
theorem kn_isub (S : CallFix p m c cc nL s args Ts own) {x y : Nat} (h : y ≤ x) (d : decode cc pc = .ok (.isub, 1)) (k : W p l e R s m args below meth c H locs cells slots Q (F0 m (pc + 1) ls (.int (nI (x - y)) :: rest))) : W p l e R s m args below meth c H locs cells slots Q (F0 m pc ls (.int (nI y) :: .int (nI x) :: rest)) := lv_isub S.1 S.2.1 d (by rw [pk_sub h]; exact k)
theorem kn_imul (S : CallFix p m c cc nL s args Ts own) {x y : Nat} (d : decode cc pc = .ok (.imul, 1)) (k : W p l e R s m args below meth c H locs cells slots Q (F0 m (pc + 1) ls (.int (nI (x * y)) :: rest))) : W p l e R s m args below meth c H locs cells slots Q (F0 m pc ls (.int (nI y) :: .int (nI x) :: rest)) := lv_imul S.1 S.2.1 d (by rw [pk_mul]; exact k)
theorem kn_idiv (S : CallFix p m c cc nL s args Ts own) {x y : Nat} (hx : x < 2147483648) (h0 : 0 < y) (hy : y < 2147483648) (d : decode cc pc = .ok (.idiv, 1)) (k : W p l e R s m args below meth c H locs cells slots Q (F0 m (pc + 1) ls (.int (nI (x / y)) :: rest))) : W p l e R s m args below meth c H locs cells slots Q (F0 m pc ls (.int (nI y) :: .int (nI x) :: rest)) := lv_idiv S.1 S.2.1 d (nI_ne0 h0 hy) (by rw [pk_div hx h0 hy]; exact k)
theorem kn_irem (S : CallFix p m c cc nL s args Ts own) {x y : Nat} (hx : x < 2147483648) (h0 : 0 < y) (hy : y < 2147483648) (d : decode cc pc = .ok (.irem, 1)) (k : W p l e R s m args below meth c H locs cells slots Q (F0 m (pc + 1) ls (.int (nI (x % y)) :: rest))) : W p l e R s m args below meth c H locs cells slots Q (F0 m pc ls (.int (nI y) :: .int (nI x) :: rest)) := lv_irem S.1 S.2.1 d (nI_ne0 h0 hy) (by rw [pk_rem hx h0 hy]; exact k)
theorem kn_ladd (S : CallFix p m c cc nL s args Ts own) {x y : Nat} (d : decode cc pc = .ok (.ladd, 1)) (k : W p l e R s m args below meth c H locs cells slots Q (F0 m (pc + 1) ls (.long (lN (x + y)) :: rest))) : W p l e R s m args below meth c H locs cells slots Q (F0 m pc ls (.long (lN y) :: .long (lN x) :: rest)) := lv_ladd S.1 S.2.1 d (by rw [lN_add]; exact k)
theorem kn_lmul (S : CallFix p m c cc nL s args Ts own) {x y : Nat} (d : decode cc pc = .ok (.lmul, 1)) (k : W p l e R s m args below meth c H locs cells slots Q (F0 m (pc + 1) ls (.long (lN (x * y)) :: rest))) : W p l e R s m args below meth c H locs cells slots Q (F0 m pc ls (.long (lN y) :: .long (lN x) :: rest)) := lv_lmul S.1 S.2.1 d (by rw [lN_mul]; exact k)
theorem kn_ldiv (S : CallFix p m c cc nL s args Ts own) {x y : Nat} (hx : x < 9223372036854775808) (h0 : 0 < y) (hy : y < 9223372036854775808) (d : decode cc pc = .ok (.ldiv, 1)) (k : W p l e R s m args below meth c H locs cells slots Q (F0 m (pc + 1) ls (.long (lN (x / y)) :: rest))) : W p l e R s m args below meth c H locs cells slots Q (F0 m pc ls (.long (lN y) :: .long (lN x) :: rest)) := lv_ldiv S.1 S.2.1 d (fun h => by have h2 := (pk_lEQ hy (by decide : (0:Nat) < 2 ^ 63)).mp h; omega) (by rw [pk_lDiv hx h0 hy]; exact k)
theorem kn_i2l (S : CallFix p m c cc nL s args Ts own) {x : Nat} (hx : x < 2147483648) (d : decode cc pc = .ok (.i2l, 1)) (k : W p l e R s m args below meth c H locs cells slots Q (F0 m (pc + 1) ls (.long (lN x) :: rest))) : W p l e R s m args below meth c H locs cells slots Q (F0 m pc ls (.int (nI x) :: rest)) := lv_i2l S.1 S.2.1 d (nI_l hx) k
theorem kn_l2i (S : CallFix p m c cc nL s args Ts own) {x : Nat} (d : decode cc pc = .ok (.l2i, 1)) (k : W p l e R s m args below meth c H locs cells slots Q (F0 m (pc + 1) ls (.int (nI x) :: rest))) : W p l e R s m args below meth c H locs cells slots Q (F0 m pc ls (.long (lN x) :: rest)) := lv_l2i S.1 S.2.1 d (lN_i x) k
theorem kn_icmp_ge (S : CallFix p m c cc nL s args Ts own) {x y : Nat} (hx : x < 2147483648) (hy : y < 2147483648) (d : decode cc pc = .ok (.if_icmp .ge off, 3)) (ht : (pc : Int) + off = (tgt : Int)) (kt : y ≤ x → W p l e R s m args below meth c H locs cells slots Q (F0 m tgt ls rest)) (kf : x < y → W p l e R s m args below meth c H locs cells slots Q (F0 m (pc + 3) ls rest)) : W p l e R s m args below meth c H locs cells slots Q (F0 m pc ls (.int (nI y) :: .int (nI x) :: rest)) := lv_icmp_ge S.1 S.2.1 d ht (fun h => kt ((nI_leI hy hx).mp h)) (fun h => kf (Nat.lt_of_not_le (fun g => h ((nI_leI hy hx).mpr g))))
theorem kn_icmp_lt (S : CallFix p m c cc nL s args Ts own) {x y : Nat} (hx : x < 2147483648) (hy : y < 2147483648) (d : decode cc pc = .ok (.if_icmp .lt off, 3)) (ht : (pc : Int) + off = (tgt : Int)) (kt : x < y → W p l e R s m args below meth c H locs cells slots Q (F0 m tgt ls rest)) (kf : y ≤ x → W p l e R s m args below meth c H locs cells slots Q (F0 m (pc + 3) ls rest)) : W p l e R s m args below meth c H locs cells slots Q (F0 m pc ls (.int (nI y) :: .int (nI x) :: rest)) := lv_icmp_lt S.1 S.2.1 d ht (fun h => kt ((nI_ltI hx hy).mp h)) (fun h => kf (Nat.le_of_not_lt (fun g => h ((nI_ltI hx hy).mpr g))))
theorem kn_icmp_gt (S : CallFix p m c cc nL s args Ts own) {x y : Nat} (hx : x < 2147483648) (hy : y < 2147483648) (d : decode cc pc = .ok (.if_icmp .gt off, 3)) (ht : (pc : Int) + off = (tgt : Int)) (kt : y < x → W p l e R s m args below meth c H locs cells slots Q (F0 m tgt ls rest)) (kf : x ≤ y → W p l e R s m args below meth c H locs cells slots Q (F0 m (pc + 3) ls rest)) : W p l e R s m args below meth c H locs cells slots Q (F0 m pc ls (.int (nI y) :: .int (nI x) :: rest)) := lv_icmp_gt S.1 S.2.1 d ht (fun h => kt ((nI_ltI hy hx).mp h)) (fun h => kf (Nat.le_of_not_lt (fun g => h ((nI_ltI hy hx).mpr g))))
theorem kn_icmp_le (S : CallFix p m c cc nL s args Ts own) {x y : Nat} (hx : x < 2147483648) (hy : y < 2147483648) (d : decode cc pc = .ok (.if_icmp .le off, 3)) (ht : (pc : Int) + off = (tgt : Int)) (kt : x ≤ y → W p l e R s m args below meth c H locs cells slots Q (F0 m tgt ls rest)) (kf : y < x → W p l e R s m args below meth c H locs cells slots Q (F0 m (pc + 3) ls rest)) : W p l e R s m args below meth c H locs cells slots Q (F0 m pc ls (.int (nI y) :: .int (nI x) :: rest)) := lv_icmp_le S.1 S.2.1 d ht (fun h => kt ((nI_leI hx hy).mp h)) (fun h => kf (Nat.lt_of_not_le (fun g => h ((nI_leI hx hy).mpr g))))
theorem kn_icmp_eq (S : CallFix p m c cc nL s args Ts own) {x y : Nat} (hx : x < 2147483648) (hy : y < 2147483648) (d : decode cc pc = .ok (.if_icmp .eq off, 3)) (ht : (pc : Int) + off = (tgt : Int)) (kt : x = y → W p l e R s m args below meth c H locs cells slots Q (F0 m tgt ls rest)) (kf : ¬ x = y → W p l e R s m args below meth c H locs cells slots Q (F0 m (pc + 3) ls rest)) : W p l e R s m args below meth c H locs cells slots Q (F0 m pc ls (.int (nI y) :: .int (nI x) :: rest)) := lv_icmp_eq S.1 S.2.1 d ht (fun h => kt ((nI_eq hx hy).mp h)) (fun h => kf (fun g => h (by rw [g])))
theorem kn_icmp_ne (S : CallFix p m c cc nL s args Ts own) {x y : Nat} (hx : x < 2147483648) (hy : y < 2147483648) (d : decode cc pc = .ok (.if_icmp .ne off, 3)) (ht : (pc : Int) + off = (tgt : Int)) (kt : ¬ x = y → W p l e R s m args below meth c H locs cells slots Q (F0 m tgt ls rest)) (kf : x = y → W p l e R s m args below meth c H locs cells slots Q (F0 m (pc + 3) ls rest)) : W p l e R s m args below meth c H locs cells slots Q (F0 m pc ls (.int (nI y) :: .int (nI x) :: rest)) := lv_icmp_ne S.1 S.2.1 d ht (fun h => kt (fun g => h (by rw [g]))) (fun h => kf ((nI_eq hx hy).mp h))
theorem kn_if_eq (S : CallFix p m c cc nL s args Ts own) {x : Nat} (hx : x < 2147483648) (d : decode cc pc = .ok (.ifCond .eq off, 3)) (ht : (pc : Int) + off = (tgt : Int)) (kt : x = 0 → W p l e R s m args below meth c H locs cells slots Q (F0 m tgt ls rest)) (kf : 0 < x → W p l e R s m args below meth c H locs cells slots Q (F0 m (pc + 3) ls rest)) : W p l e R s m args below meth c H locs cells slots Q (F0 m pc ls (.int (nI x) :: rest)) := lv_if_eq S.1 S.2.1 d ht (fun h => kt ((nI_eq hx (by decide : (0:Nat) < 2 ^ 31)).mp h)) (fun h => kf (Nat.pos_of_ne_zero (fun g => h (by rw [g]; rfl))))
theorem kn_if_ne (S : CallFix p m c cc nL s args Ts own) {x : Nat} (hx : x < 2147483648) (d : decode cc pc = .ok (.ifCond .ne off, 3)) (ht : (pc : Int) + off = (tgt : Int)) (kt : 0 < x → W p l e R s m args below meth c H locs cells slots Q (F0 m tgt ls rest)) (kf : x = 0 → W p l e R s m args below meth c H locs cells slots Q (F0 m (pc + 3) ls rest)) : W p l e R s m args below meth c H locs cells slots Q (F0 m pc ls (.int (nI x) :: rest)) := lv_if_ne S.1 S.2.1 d ht (fun h => kt (Nat.pos_of_ne_zero (fun g => h (by rw [g]; rfl)))) (fun h => kf ((nI_eq hx (by decide : (0:Nat) < 2 ^ 31)).mp h))
theorem kn_if_le (S : CallFix p m c cc nL s args Ts own) {x : Nat} (hx : x < 2147483648) (d : decode cc pc = .ok (.ifCond .le off, 3)) (ht : (pc : Int) + off = (tgt : Int)) (kt : x = 0 → W p l e R s m args below meth c H locs cells slots Q (F0 m tgt ls rest)) (kf : 0 < x → W p l e R s m args below meth c H locs cells slots Q (F0 m (pc + 3) ls rest)) : W p l e R s m args below meth c H locs cells slots Q (F0 m pc ls (.int (nI x) :: rest)) := lv_if_le S.1 S.2.1 d ht (fun h => kt (Nat.eq_zero_of_not_pos (fun g => nI_nle g hx h))) (fun h => kf (Nat.pos_of_ne_zero (fun g => h (by rw [g]; decide))))
theorem kn_if_gt (S : CallFix p m c cc nL s args Ts own) {x : Nat} (hx : x < 2147483648) (d : decode cc pc = .ok (.ifCond .gt off, 3)) (ht : (pc : Int) + off = (tgt : Int)) (kt : 0 < x → W p l e R s m args below meth c H locs cells slots Q (F0 m tgt ls rest)) (kf : x = 0 → W p l e R s m args below meth c H locs cells slots Q (F0 m (pc + 3) ls rest)) : W p l e R s m args below meth c H locs cells slots Q (F0 m pc ls (.int (nI x) :: rest)) := lv_if_gt S.1 S.2.1 d ht (fun h => kt (Nat.pos_of_ne_zero (fun g => by rw [g] at h; exact absurd h (by decide)))) (fun h => kf (Nat.eq_zero_of_not_pos (fun g => h ((nI_ltI (by decide : (0:Nat) < 2 ^ 31) hx).mpr g))))
theorem kn_if_lt (S : CallFix p m c cc nL s args Ts own) {x : Nat} (hx : x < 2147483648) (d : decode cc pc = .ok (.ifCond .lt off, 3)) (ht : (pc : Int) + off = (tgt : Int)) (kf : W p l e R s m args below meth c H locs cells slots Q (F0 m (pc + 3) ls rest)) : W p l e R s m args below meth c H locs cells slots Q (F0 m pc ls (.int (nI x) :: rest)) := lv_if_lt S.1 S.2.1 d ht (fun h => absurd h (nI_pos hx)) (fun _ => kf)
theorem kn_if_ge (S : CallFix p m c cc nL s args Ts own) {x : Nat} (hx : x < 2147483648) (d : decode cc pc = .ok (.ifCond .ge off, 3)) (ht : (pc : Int) + off = (tgt : Int)) (kt : W p l e R s m args below meth c H locs cells slots Q (F0 m tgt ls rest)) : W p l e R s m args below meth c H locs cells slots Q (F0 m pc ls (.int (nI x) :: rest)) := lv_if_ge S.1 S.2.1 d ht (fun _ => kt) (fun h => absurd (nI_pos' hx) h)
theorem kb_if_eq (S : CallFix p m c cc nL s args Ts own) {x : Bool} (d : decode cc pc = .ok (.ifCond .eq off, 3)) (ht : (pc : Int) + off = (tgt : Int)) (kt : x = false → W p l e R s m args below meth c H locs cells slots Q (F0 m tgt ls rest)) (kf : x = true → W p l e R s m args below meth c H locs cells slots Q (F0 m (pc + 3) ls rest)) : W p l e R s m args below meth c H locs cells slots Q (F0 m pc ls (.int (bI x) :: rest)) := lv_if_eq S.1 S.2.1 d ht (fun h => kt ((bI_eq0 x).mp h)) (fun h => kf (by cases x with | true => rfl | false => exact absurd rfl h))
theorem kb_if_ne (S : CallFix p m c cc nL s args Ts own) {x : Bool} (d : decode cc pc = .ok (.ifCond .ne off, 3)) (ht : (pc : Int) + off = (tgt : Int)) (kt : x = true → W p l e R s m args below meth c H locs cells slots Q (F0 m tgt ls rest)) (kf : x = false → W p l e R s m args below meth c H locs cells slots Q (F0 m (pc + 3) ls rest)) : W p l e R s m args below meth c H locs cells slots Q (F0 m pc ls (.int (bI x) :: rest)) := lv_if_ne S.1 S.2.1 d ht (fun h => kt (by cases x with | true => rfl | false => exact absurd rfl h)) (fun h => kf ((bI_eq0 x).mp h))
theorem kn_lcmp_le (S : CallFix p m c cc nL s args Ts own) {x y : Nat} (hx : x < 9223372036854775808) (hy : y < 9223372036854775808) {pc2 : Nat} (d : decode cc pc = .ok (.lcmp, 1)) (hp2 : pc + 1 = pc2) (d2 : decode cc pc2 = .ok (.ifCond .le off, 3)) (ht : (pc2 : Int) + off = (tgt : Int)) (kt : x ≤ y → W p l e R s m args below meth c H locs cells slots Q (F0 m tgt ls rest)) (kf : y < x → W p l e R s m args below meth c H locs cells slots Q (F0 m (pc2 + 3) ls rest)) : W p l e R s m args below meth c H locs cells slots Q (F0 m pc ls (.long (lN y) :: .long (lN x) :: rest)) := by
  subst hp2
  exact W.lcmp S.1 S.2.1 d (lv_if_le S.1 S.2.1 d2 ht (fun h => kt ((pk_lLE hx hy).mp ((lg_cmp_le _ _).mp h))) (fun h => kf (Nat.lt_of_not_le (fun g => h ((lg_cmp_le _ _).mpr ((pk_lLE hx hy).mpr g))))))
theorem kn_lcmp_lt (S : CallFix p m c cc nL s args Ts own) {x y : Nat} (hx : x < 9223372036854775808) (hy : y < 9223372036854775808) {pc2 : Nat} (d : decode cc pc = .ok (.lcmp, 1)) (hp2 : pc + 1 = pc2) (d2 : decode cc pc2 = .ok (.ifCond .lt off, 3)) (ht : (pc2 : Int) + off = (tgt : Int)) (kt : x < y → W p l e R s m args below meth c H locs cells slots Q (F0 m tgt ls rest)) (kf : y ≤ x → W p l e R s m args below meth c H locs cells slots Q (F0 m (pc2 + 3) ls rest)) : W p l e R s m args below meth c H locs cells slots Q (F0 m pc ls (.long (lN y) :: .long (lN x) :: rest)) := by
  subst hp2
  exact W.lcmp S.1 S.2.1 d (lv_if_lt S.1 S.2.1 d2 ht (fun h => kt ((pk_lLT hx hy).mp ((lg_cmp_lt _ _).mp h))) (fun h => kf (Nat.le_of_not_lt (fun g => h ((lg_cmp_lt _ _).mpr ((pk_lLT hx hy).mpr g))))))
theorem kn_lcmp_gt (S : CallFix p m c cc nL s args Ts own) {x y : Nat} (hx : x < 9223372036854775808) (hy : y < 9223372036854775808) {pc2 : Nat} (d : decode cc pc = .ok (.lcmp, 1)) (hp2 : pc + 1 = pc2) (d2 : decode cc pc2 = .ok (.ifCond .gt off, 3)) (ht : (pc2 : Int) + off = (tgt : Int)) (kt : y < x → W p l e R s m args below meth c H locs cells slots Q (F0 m tgt ls rest)) (kf : x ≤ y → W p l e R s m args below meth c H locs cells slots Q (F0 m (pc2 + 3) ls rest)) : W p l e R s m args below meth c H locs cells slots Q (F0 m pc ls (.long (lN y) :: .long (lN x) :: rest)) := by
  subst hp2
  exact W.lcmp S.1 S.2.1 d (lv_if_gt S.1 S.2.1 d2 ht (fun h => kt ((pk_lLT hy hx).mp ((lg_cmp_gt _ _).mp h))) (fun h => kf (Nat.le_of_not_lt (fun g => h ((lg_cmp_gt _ _).mpr ((pk_lLT hy hx).mpr g))))))
theorem kn_lcmp_ge (S : CallFix p m c cc nL s args Ts own) {x y : Nat} (hx : x < 9223372036854775808) (hy : y < 9223372036854775808) {pc2 : Nat} (d : decode cc pc = .ok (.lcmp, 1)) (hp2 : pc + 1 = pc2) (d2 : decode cc pc2 = .ok (.ifCond .ge off, 3)) (ht : (pc2 : Int) + off = (tgt : Int)) (kt : y ≤ x → W p l e R s m args below meth c H locs cells slots Q (F0 m tgt ls rest)) (kf : x < y → W p l e R s m args below meth c H locs cells slots Q (F0 m (pc2 + 3) ls rest)) : W p l e R s m args below meth c H locs cells slots Q (F0 m pc ls (.long (lN y) :: .long (lN x) :: rest)) := by
  subst hp2
  exact W.lcmp S.1 S.2.1 d (lv_if_ge S.1 S.2.1 d2 ht (fun h => kt ((pk_lLE hy hx).mp ((lg_cmp_ge _ _).mp h))) (fun h => kf (Nat.lt_of_not_le (fun g => h ((lg_cmp_ge _ _).mpr ((pk_lLE hy hx).mpr g))))))
theorem kn_lcmp_eq (S : CallFix p m c cc nL s args Ts own) {x y : Nat} (hx : x < 9223372036854775808) (hy : y < 9223372036854775808) {pc2 : Nat} (d : decode cc pc = .ok (.lcmp, 1)) (hp2 : pc + 1 = pc2) (d2 : decode cc pc2 = .ok (.ifCond .eq off, 3)) (ht : (pc2 : Int) + off = (tgt : Int)) (kt : x = y → W p l e R s m args below meth c H locs cells slots Q (F0 m tgt ls rest)) (kf : ¬ x = y → W p l e R s m args below meth c H locs cells slots Q (F0 m (pc2 + 3) ls rest)) : W p l e R s m args below meth c H locs cells slots Q (F0 m pc ls (.long (lN y) :: .long (lN x) :: rest)) := by
  subst hp2
  exact W.lcmp S.1 S.2.1 d (lv_if_eq S.1 S.2.1 d2 ht (fun h => kt ((pk_lEQ hx hy).mp ((lg_cmp_eq _ _).mp h))) (fun h => kf (fun g => h ((lg_cmp_eq _ _).mpr (by rw [g])))))
theorem kn_lcmp_ne (S : CallFix p m c cc nL s args Ts own) {x y : Nat} (hx : x < 9223372036854775808) (hy : y < 9223372036854775808) {pc2 : Nat} (d : decode cc pc = .ok (.lcmp, 1)) (hp2 : pc + 1 = pc2) (d2 : decode cc pc2 = .ok (.ifCond .ne off, 3)) (ht : (pc2 : Int) + off = (tgt : Int)) (kt : ¬ x = y → W p l e R s m args below meth c H locs cells slots Q (F0 m tgt ls rest)) (kf : x = y → W p l e R s m args below meth c H locs cells slots Q (F0 m (pc2 + 3) ls rest)) : W p l e R s m args below meth c H locs cells slots Q (F0 m pc ls (.long (lN y) :: .long (lN x) :: rest)) := by
  subst hp2
  exact W.lcmp S.1 S.2.1 d (lv_if_ne S.1 S.2.1 d2 ht (fun h => kt (fun g => h ((lg_cmp_eq _ _).mpr (by rw [g])))) (fun h => kf ((pk_lEQ hx hy).mp ((lg_cmp_eq _ _).mp h))))
theorem kn_tab (S : CallFix p m c cc nL s args Ts own) {dflt hi : Int} {offs : Array Int} {len x i : Nat} (d : decode cc pc = .ok (.tableswitch dflt 0 hi offs, len)) (he : x = i) (hi31 : i < 2147483648) (hh : ¬ hi < (i : Int)) (ho : offs[i]? = some off) (ht : (pc : Int) + off = (tgt : Int)) (k : W p l e R s m args below meth c H locs cells slots Q (F0 m tgt ls rest)) : W p l e R s m args below meth c H locs cells slots Q (F0 m pc ls (.int (nI x) :: rest)) := by
  subst he
  refine lv_tableIn S.1 S.2.1 d (by rw [nI_toInt hi31]; omega) (by rw [nI_toInt hi31]; exact hh) (off := off) ?_ ht k
  rw [nI_toInt hi31]
  simpa using ho
theorem kn_tabOut (S : CallFix p m c cc nL s args Ts own) {dflt hi : Int} {offs : Array Int} {len x : Nat} (d : decode cc pc = .ok (.tableswitch dflt 0 hi offs, len)) (hx : x < 2147483648) (hh : hi < (x : Int)) (ht : (pc : Int) + dflt = (tgt : Int)) (k : W p l e R s m args below meth c H locs cells slots Q (F0 m tgt ls rest)) : W p l e R s m args below meth c H locs cells slots Q (F0 m pc ls (.int (nI x) :: rest)) := lv_tableOut S.1 S.2.1 d (Or.inr (by rw [nI_toInt hx]; exact hh)) ht k
theorem k_topi {x y : Int32} (h : x = y) (k : W p l e R s m args below meth c H locs cells slots Q (F0 m pc ls (.int y :: rest))) : W p l e R s m args below meth c H locs cells slots Q (F0 m pc ls (.int x :: rest)) := h ▸ k
theorem k_topl {x y : Int64} (h : x = y) (k : W p l e R s m args below meth c H locs cells slots Q (F0 m pc ls (.long y :: rest))) : W p l e R s m args below meth c H locs cells slots Q (F0 m pc ls (.long x :: rest)) := h ▸ k
theorem kn_iald (S : CallFix p m c cc nL s args Ts own) (hK : va_K D cl tys s) (hP : va_P D cl ws H) (q0 t0 : Nat) {f : Nat → Nat} (ha : ws[q0]? = some (a, .inl (cA, n, .inl (aI f)))) (ht : tys[t0]? = some (cA, .int)) {i : Nat} (hi : i < n) (hn : n < 2147483648) (d : decode cc pc = .ok (.iaload, 1)) (k : W p l e R s m args below meth c H locs cells slots Q (F0 m (pc + 1) ls (.int (nI (f i)) :: rest))) : W p l e R s m args below meth c H locs cells slots Q (F0 m pc ls (.int (nI i) :: .ref a :: rest)) := va_iald S.1 S.2.1 hK hP q0 t0 ha ht (vp_in_nI hi hn) d (by rw [nI_clamp (Nat.lt_trans hi hn)]; exact k)
theorem kr_iald (S : CallFix p m c cc nL s args Ts own) (hK : va_K D cl tys s) (hP : va_P D cl ws H) (q0 t0 : Nat) {f : Nat → Int32} (ha : ws[q0]? = some (a, .inl (cA, n, .inl f))) (ht : tys[t0]? = some (cA, .int)) {i : Nat} (hi : i < n) (hn : n < 2147483648) (d : decode cc pc = .ok (.iaload, 1)) (k : W p l e R s m args below meth c H locs cells slots Q (F0 m (pc + 1) ls (.int (f i) :: rest))) : W p l e R s m args below meth c H locs cells slots Q (F0 m pc ls (.int (nI i) :: .ref a :: rest)) := va_iald S.1 S.2.1 hK hP q0 t0 ha ht (vp_in_nI hi hn) d (by rw [nI_clamp (Nat.lt_trans hi hn)]; exact k)
theorem kn_lald (S : CallFix p m c cc nL s args Ts own) (hK : va_K D cl tys s) (hP : va_P D cl ws H) (q0 t0 : Nat) {f : Nat → Nat} (ha : ws[q0]? = some (a, .inl (cA, n, .inr (.inl (aL f))))) (ht : tys[t0]? = some (cA, .long)) {i : Nat} (hi : i < n) (hn : n < 2147483648) (d : decode cc pc = .ok (.laload, 1)) (k : W p l e R s m args below meth c H locs cells slots Q (F0 m (pc + 1) ls (.long (lN (f i)) :: rest))) : W p l e R s m args below meth c H locs cells slots Q (F0 m pc ls (.int (nI i) :: .ref a :: rest)) := va_lald S.1 S.2.1 hK hP q0 t0 ha ht (vp_in_nI hi hn) d (by rw [nI_clamp (Nat.lt_trans hi hn)]; exact k)
theorem kr_lald (S : CallFix p m c cc nL s args Ts own) (hK : va_K D cl tys s) (hP : va_P D cl ws H) (q0 t0 : Nat) {f : Nat → Int64} (ha : ws[q0]? = some (a, .inl (cA, n, .inr (.inl f)))) (ht : tys[t0]? = some (cA, .long)) {i : Nat} (hi : i < n) (hn : n < 2147483648) (d : decode cc pc = .ok (.laload, 1)) (k : W p l e R s m args below meth c H locs cells slots Q (F0 m (pc + 1) ls (.long (f i) :: rest))) : W p l e R s m args below meth c H locs cells slots Q (F0 m pc ls (.int (nI i) :: .ref a :: rest)) := va_lald S.1 S.2.1 hK hP q0 t0 ha ht (vp_in_nI hi hn) d (by rw [nI_clamp (Nat.lt_trans hi hn)]; exact k)
theorem kn_zald (S : CallFix p m c cc nL s args Ts own) (hK : va_K D cl tys s) (hP : va_P D cl ws H) (q0 t0 : Nat) {f : Nat → Bool} (ha : ws[q0]? = some (a, .inl (cA, n, .inl (aZ f)))) (ht : tys[t0]? = some (cA, .boolean)) {i : Nat} (hi : i < n) (hn : n < 2147483648) (d : decode cc pc = .ok (.baload, 1)) (k : W p l e R s m args below meth c H locs cells slots Q (F0 m (pc + 1) ls (.int (bI (f i)) :: rest))) : W p l e R s m args below meth c H locs cells slots Q (F0 m pc ls (.int (nI i) :: .ref a :: rest)) := va_zald S.1 S.2.1 hK hP q0 t0 ha ht (vp_in_nI hi hn) d (by rw [nI_clamp (Nat.lt_trans hi hn)]; exact k)
theorem kn_iast (S : CallFix p m c cc nL s args Ts own) (hK : va_K D cl tys s) (hP : va_P D cl ws H) (hD : va_D A ws) (hS : va_S A H0 H locs) (q0 t0 : Nat) {f : Nat → Nat} (ha : ws[q0]? = some (a, .inl (cA, n, .inl (aI f)))) (ht : tys[t0]? = some (cA, .int)) {i : Nat} {x : Nat} (hi : i < n) (hn : n < 2147483648) (d : decode cc pc = .ok (.iastore, 1)) (hw : ws.set q0 (a, .inl (cA, n, .inl (aI (va_up f i x)))) = ws2) (k : ∀ (H1 : Heap) (locs1 : List Loc), va_P D cl ws2 H1 → va_D A ws2 → va_S A H0 H1 locs1 → W p l e R s m args below meth c H1 locs1 cells slots Q (F0 m (pc + 1) ls rest)) : W p l e R s m args below meth c H locs cells slots Q (F0 m pc ls (.int (nI x) :: .int (nI i) :: .ref a :: rest)) := by
  subst hw
  refine va_iast S.1 S.2.1 hK hP hD hS q0 t0 ha ht (vp_in_nI hi hn) d (fun H1 locs1 h1 h2 h3 => ?_)
  rw [nI_clamp (Nat.lt_trans hi hn), upd_aI] at h1 h2
  exact k H1 locs1 h1 h2 h3
theorem kr_iast (S : CallFix p m c cc nL s args Ts own) (hK : va_K D cl tys s) (hP : va_P D cl ws H) (hD : va_D A ws) (hS : va_S A H0 H locs) (q0 t0 : Nat) {f : Nat → Int32} (ha : ws[q0]? = some (a, .inl (cA, n, .inl f))) (ht : tys[t0]? = some (cA, .int)) {i : Nat} {x : Int32} (hi : i < n) (hn : n < 2147483648) (d : decode cc pc = .ok (.iastore, 1)) (hw : ws.set q0 (a, .inl (cA, n, .inl (upd f i x))) = ws2) (k : ∀ (H1 : Heap) (locs1 : List Loc), va_P D cl ws2 H1 → va_D A ws2 → va_S A H0 H1 locs1 → W p l e R s m args below meth c H1 locs1 cells slots Q (F0 m (pc + 1) ls rest)) : W p l e R s m args below meth c H locs cells slots Q (F0 m pc ls (.int x :: .int (nI i) :: .ref a :: rest)) := by
  subst hw
  refine va_iast S.1 S.2.1 hK hP hD hS q0 t0 ha ht (vp_in_nI hi hn) d (fun H1 locs1 h1 h2 h3 => ?_)
  rw [nI_clamp (Nat.lt_trans hi hn)] at h1 h2
  exact k H1 locs1 h1 h2 h3
theorem kn_last (S : CallFix p m c cc nL s args Ts own) (hK : va_K D cl tys s) (hP : va_P D cl ws H) (hD : va_D A ws) (hS : va_S A H0 H locs) (q0 t0 : Nat) {f : Nat → Nat} (ha : ws[q0]? = some (a, .inl (cA, n, .inr (.inl (aL f))))) (ht : tys[t0]? = some (cA, .long)) {i : Nat} {x : Nat} (hi : i < n) (hn : n < 2147483648) (d : decode cc pc = .ok (.lastore, 1)) (hw : ws.set q0 (a, .inl (cA, n, .inr (.inl (aL (va_up f i x))))) = ws2) (k : ∀ (H1 : Heap) (locs1 : List Loc), va_P D cl ws2 H1 → va_D A ws2 → va_S A H0 H1 locs1 → W p l e R s m args below meth c H1 locs1 cells slots Q (F0 m (pc + 1) ls rest)) : W p l e R s m args below meth c H locs cells slots Q (F0 m pc ls (.long (lN x) :: .int (nI i) :: .ref a :: rest)) := by
  subst hw
  refine va_last S.1 S.2.1 hK hP hD hS q0 t0 ha ht (vp_in_nI hi hn) d (fun H1 locs1 h1 h2 h3 => ?_)
  rw [nI_clamp (Nat.lt_trans hi hn), upd_aL] at h1 h2
  exact k H1 locs1 h1 h2 h3
theorem kr_last (S : CallFix p m c cc nL s args Ts own) (hK : va_K D cl tys s) (hP : va_P D cl ws H) (hD : va_D A ws) (hS : va_S A H0 H locs) (q0 t0 : Nat) {f : Nat → Int64} (ha : ws[q0]? = some (a, .inl (cA, n, .inr (.inl f)))) (ht : tys[t0]? = some (cA, .long)) {i : Nat} {x : Int64} (hi : i < n) (hn : n < 2147483648) (d : decode cc pc = .ok (.lastore, 1)) (hw : ws.set q0 (a, .inl (cA, n, .inr (.inl (vp_updL f i x)))) = ws2) (k : ∀ (H1 : Heap) (locs1 : List Loc), va_P D cl ws2 H1 → va_D A ws2 → va_S A H0 H1 locs1 → W p l e R s m args below meth c H1 locs1 cells slots Q (F0 m (pc + 1) ls rest)) : W p l e R s m args below meth c H locs cells slots Q (F0 m pc ls (.long x :: .int (nI i) :: .ref a :: rest)) := by
  subst hw
  refine va_last S.1 S.2.1 hK hP hD hS q0 t0 ha ht (vp_in_nI hi hn) d (fun H1 locs1 h1 h2 h3 => ?_)
  rw [nI_clamp (Nat.lt_trans hi hn)] at h1 h2
  exact k H1 locs1 h1 h2 h3
theorem kn_zast (S : CallFix p m c cc nL s args Ts own) (hK : va_K D cl tys s) (hP : va_P D cl ws H) (hD : va_D A ws) (hS : va_S A H0 H locs) (q0 t0 : Nat) {f : Nat → Bool} (ha : ws[q0]? = some (a, .inl (cA, n, .inl (aZ f)))) (ht : tys[t0]? = some (cA, .boolean)) {i : Nat} {x : Bool} (hi : i < n) (hn : n < 2147483648) (d : decode cc pc = .ok (.bastore, 1)) (hw : ws.set q0 (a, .inl (cA, n, .inl (aZ (va_up f i x)))) = ws2) (k : ∀ (H1 : Heap) (locs1 : List Loc), va_P D cl ws2 H1 → va_D A ws2 → va_S A H0 H1 locs1 → W p l e R s m args below meth c H1 locs1 cells slots Q (F0 m (pc + 1) ls rest)) : W p l e R s m args below meth c H locs cells slots Q (F0 m pc ls (.int (bI x) :: .int (nI i) :: .ref a :: rest)) := by
  subst hw
  refine va_zast S.1 S.2.1 hK hP hD hS q0 t0 ha ht (vp_in_nI hi hn) d (fun H1 locs1 h1 h2 h3 => ?_)
  rw [nI_clamp (Nat.lt_trans hi hn), upd_aZ] at h1 h2
  exact k H1 locs1 h1 h2 h3
theorem k_get (S : CallFix p m c cc nL s args Ts own) {ref C : String} {T : u_T} {N ci index : Nat} (hin : ∀ w ∈ u_ws C T N, w ∈ Ts) (hK : va_K D cl tys s) (hP : va_P D cl ws H) (q0 : Nat) {fs : List Value} (he : ws[q0]? = some (a, .inr (ci, fs))) (hc : cl[ci]? = some (C, T, N)) (k : Nat) (hk : k < N) (hlink : (Cond.fieldLink own index ref (T k).2.1 (T k).2.2.1).before args s = true) (hr : (T k).1 = ref) {v : Value} (hv : fs[k]? = some v) (d : decode cc pc = .ok (.getfield index, 3)) (kk : W p l e R s m args below meth c H locs cells slots Q (F0 m (pc + 3) ls (v :: rest))) : W p l e R s m args below meth c H locs cells slots Q (F0 m pc ls (.ref a :: rest)) := va_get S.1 S.2.1 S.2.2.2.2 hin S.2.2.2.1 hK hP q0 he hc k hk hlink (fun x h => by rw [← hr]; exact h) hv d kk
theorem k_put (S : CallFix p m c cc nL s args Ts own) {ref C : String} {T : u_T} {N ci index : Nat} (hin : ∀ w ∈ u_ws C T N, w ∈ Ts) (ty0 : Nat → FieldType) (hty : ∀ k, k < N → parseFieldDescriptor (T k).2.2.1 = some (ty0 k)) (hnm : ∀ a, a < N → ∀ b, b < N → a ≠ b → (T a).2.1 ≠ (T b).2.1) (hK : va_K D cl tys s) (hP : va_P D cl ws H) (hD : va_D A ws) (hS0 : va_S A H0 H locs) (q0 : Nat) {fs : List Value} (he : ws[q0]? = some (a, .inr (ci, fs))) (hc : cl[ci]? = some (C, T, N)) (k : Nat) (hk : k < N) (hlink : (Cond.fieldLink own index ref (T k).2.1 (T k).2.2.1).before args s = true) (hr : (T k).1 = ref) (hfin : (T k).2.2.2 = false) {v : Value} (hn : narrow (ty0 k) v = v) (hfit : fits (ty0 k) v = true) (hl : k < fs.length) (d : decode cc pc = .ok (.putfield index, 3)) (hw : ws.set q0 (a, .inr (ci, fs.set k v)) = ws2) (kk : ∀ (H1 : Heap) (locs1 : List Loc), va_P D cl ws2 H1 → va_D A ws2 → va_S A H0 H1 locs1 → W p l e R s m args below meth c H1 locs1 cells slots Q (F0 m (pc + 3) ls rest)) : W p l e R s m args below meth c H locs cells slots Q (F0 m pc ls (v :: .ref a :: rest)) := by
  subst hw
  exact va_put S.1 S.2.1 S.2.2.2.2 hin ty0 hty hnm S.2.2.2.1 hK hP hD hS0 q0 he hc k hk hlink (fun x h => by rw [← hr]; exact h) hfin (hty k hk) hn hfit hl d kk
theorem k_putF (S : CallFix p m c cc nL s args Ts own) {ref C : String} {T : u_T} {N ci index : Nat} (hin : ∀ w ∈ u_ws C T N, w ∈ Ts) (ty0 : Nat → FieldType) (hty : ∀ k, k < N → parseFieldDescriptor (T k).2.2.1 = some (ty0 k)) (hnm : ∀ a, a < N → ∀ b, b < N → a ≠ b → (T a).2.1 ≠ (T b).2.1) (hK : va_K D cl tys s) (hP : va_P D cl ws H) (hD : va_D A ws) (hS0 : va_S A H0 H locs) (q0 : Nat) {fs : List Value} (he : ws[q0]? = some (a, .inr (ci, fs))) (hc : cl[ci]? = some (C, T, N)) (k : Nat) (hk : k < N) (hlink : (Cond.fieldLink own index ref (T k).2.1 (T k).2.2.1).before args s = true) (hr : (T k).1 = ref) (hfin : (T k).2.2.2 = true) (hin2 : meth.name = "<init>") (hdecl : (T k).1 = own) {v : Value} (hn : narrow (ty0 k) v = v) (hfit : fits (ty0 k) v = true) (hl : k < fs.length) (d : decode cc pc = .ok (.putfield index, 3)) (hw : ws.set q0 (a, .inr (ci, fs.set k v)) = ws2) (kk : ∀ (H1 : Heap) (locs1 : List Loc), va_P D cl ws2 H1 → va_D A ws2 → va_S A H0 H1 locs1 → W p l e R s m args below meth c H1 locs1 cells slots Q (F0 m (pc + 3) ls rest)) : W p l e R s m args below meth c H locs cells slots Q (F0 m pc ls (v :: .ref a :: rest)) := by
  subst hw
  exact va_putF S.1 S.2.1 S.2.2.2.2 hin ty0 hty hnm S.2.2.2.1 hK hP hD hS0 q0 he hc k hk hlink (fun x h => by rw [← hr]; exact h) hfin hin2 hdecl (hty k hk) hn hfit hl d kk
/-- a loop: from any state of the head that holds the invariant the walk comes to its end, if it does so from each that comes back with a smaller measure -/
theorem wl {σ : Type} (world : σ → va_W) (lv : σ → List (Nat × Value)) (I : σ → Prop) (μ : σ → Nat) {st : List Value}
    (body : ∀ x, I x → (∀ x', I x' → μ x' < μ x → ∀ (H : Heap) (locs : List Loc) (ls : Array Slot), va_P D cl (world x') H → va_D A (world x') → va_S A H0 H locs → lv_has ls nL (lv x') → W p l e R s m args below meth c H locs cells slots Q (F0 m pc ls st)) →
      ∀ (H : Heap) (locs : List Loc) (ls : Array Slot), va_P D cl (world x) H → va_D A (world x) → va_S A H0 H locs → lv_has ls nL (lv x) → W p l e R s m args below meth c H locs cells slots Q (F0 m pc ls st))
    (x : σ) (h0 : I x) (hP : va_P D cl (world x) H) (hD : va_D A (world x)) (hS : va_S A H0 H locs) (hl : lv_has ls nL (lv x)) : W p l e R s m args below meth c H locs cells slots Q (F0 m pc ls st) := by
  have key : ∀ (k : Nat) (x : σ), μ x < k → I x → ∀ (H : Heap) (locs : List Loc) (ls : Array Slot), va_P D cl (world x) H → va_D A (world x) → va_S A H0 H locs → lv_has ls nL (lv x) → W p l e R s m args below meth c H locs cells slots Q (F0 m pc ls st) := by
    intro k
    induction k with
    | zero => intro x h; exact absurd h (Nat.not_lt_zero _)
    | succ k ih =>
      intro x hk hI
      exact body x hI (fun x' hI' hm => ih x' (by omega) hI')
  exact key (μ x + 1) x (Nat.lt_succ_self _) h0 H locs ls hP hD hS hl
/-- a join: what holds from a place on for every state of a kind, used once for each road that comes there -/
theorem wj {σ : Type} (world : σ → va_W) (lv : σ → List (Nat × Value)) (st : σ → List Value) (I : σ → Prop) {pc2 : Nat} {pc1 : Nat} {st1 : List Value}
    (body : ∀ x, I x → ∀ (H : Heap) (locs : List Loc) (ls : Array Slot), va_P D cl (world x) H → va_D A (world x) → va_S A H0 H locs → lv_has ls nL (lv x) → W p l e R s m args below meth c H locs cells slots Q (F0 m pc2 ls (st x)))
    (k : (∀ x, I x → ∀ (H : Heap) (locs : List Loc) (ls : Array Slot), va_P D cl (world x) H → va_D A (world x) → va_S A H0 H locs → lv_has ls nL (lv x) → W p l e R s m args below meth c H locs cells slots Q (F0 m pc2 ls (st x))) → W p l e R s m args below meth c H locs cells slots Q (F0 m pc1 ls st1)) : W p l e R s m args below meth c H locs cells slots Q (F0 m pc1 ls st1) := k body

/-- what the statics hold, outside of what may be written: the two rows of steps, and what a new Throwable reads -/
def stX (j : Nat) : Int32 := if j = 0 then 1 else if j = 2 then -1 else 0
def stY (j : Nat) : Int32 := if j = 1 then 1 else if j = 3 then -1 else 0
/-- which exception is which: a class is itself, and not the other two -/
def gC (U : State) : Prop := va_Nw (.castable "java/lang/IndexOutOfBoundsException" "java/lang/IndexOutOfBoundsException") U ∧ va_Nw (.castable "java/lang/IllegalArgumentException" "java/lang/IllegalArgumentException") U ∧ va_Nw (.castable "java/lang/IllegalStateException" "java/lang/IllegalStateException") U ∧ va_Nc "java/lang/IllegalArgumentException" "java/lang/IndexOutOfBoundsException" U ∧ va_Nc "java/lang/IllegalStateException" "java/lang/IndexOutOfBoundsException" U ∧ va_Nc "java/lang/IllegalStateException" "java/lang/IllegalArgumentException" U ∧ va_Nw (.declares (Bundle.init0 "java/lang/RuntimeException")) U ∧ va_Nw (.declares (Bundle.init0 "java/lang/Exception")) U ∧ va_Nw (.declares (Bundle.init0 Bundle.tN)) U
theorem gC.warm {s U : State} (hW : s.WarmedH U.vm) (h : gC s) : gC U := by
  obtain ⟨h1, h2, h3, h4, h5, h6, h7, h8, h9⟩ := h
  exact ⟨h1.warmC hW, h2.warmC hW, h3.warmC hW, h4.moved hW.alike, h5.moved hW.alike, h6.moved hW.alike, h7.warmD hW, h8.warmD hW, h9.warmD hW⟩
theorem gC.same {s U : State} (hW : s.vm = U.vm) (h : gC s) : gC U := by
  obtain ⟨h1, h2, h3, h4, h5, h6, h7, h8, h9⟩ := h
  have ha : s.vm.Alike U.vm := hW ▸ Vm.Alike.refl s.vm
  exact ⟨h1.same rfl hW, h2.same rfl hW, h3.same rfl hW, h4.moved ha, h5.moved ha, h6.moved ha, h7.same rfl hW, h8.same rfl hW, h9.same rfl hW⟩
/-- the links to private members of a nest mate -/
def gN (U : State) : Prop := va_Nw (.methodLinkNest RX2 15 yX5_isCell RX5) U ∧ va_Nw (.methodLinkNest RX3 22 yX5_isCell RX5) U ∧ va_Nw (.methodLinkNest RX3 36 yX5_isDirection RX5) U ∧ va_Nw (.methodLinkNest RX3 61 yX5_isInField RX5) U ∧ va_Nw (.methodLinkNest RX3 65 yX5_numberOf RX5) U ∧ va_Nw (.methodLinkNest RX4 83 yX5_quotient RX5) U ∧ gC U
theorem gN.warm {s U : State} (hW : s.WarmedH U.vm) (h : gN s) : gN U := by
  obtain ⟨h1, h2, h3, h4, h5, h6, h7⟩ := h
  exact ⟨h1.warmM hW, h2.warmM hW, h3.warmM hW, h4.warmM hW, h5.warmM hW, h6.warmM hW, h7.warm hW⟩
theorem gN.same {s U : State} (hW : s.vm = U.vm) (h : gN s) : gN U := by
  obtain ⟨h1, h2, h3, h4, h5, h6, h7⟩ := h
  exact ⟨h1.same rfl hW, h2.same rfl hW, h3.same rfl hW, h4.same rfl hW, h5.same rfl hW, h6.same rfl hW, h7.same hW⟩
def gS0 (A : Nat → Prop) (U : State) (H : Heap) : Prop :=
  (∃ sx : Nat, va_Z "Particleway$Field" "STEP_X" "[I" (.ref sx) A U H ∧ va_T .int sx 4 (fun j => .int (stX j)) A U H) ∧
  (∃ sy : Nat, va_Z "Particleway$Field" "STEP_Y" "[I" (.ref sy) A U H ∧ va_T .int sy 4 (fun j => .int (stY j)) A U H) ∧
  vx_Zq Bundle.tN "UNASSIGNED_STACK" Bundle.steD A U H ∧ vx_Zq Bundle.tN "SUPPRESSED_SENTINEL" Bundle.listD A U H
theorem gS0.moved {A : Nat → Prop} {u U : State} {H : Heap} (hvm : u.vm.Alike U.vm) (h : gS0 A u H) : gS0 A U H := by
  obtain ⟨⟨sx, h1, h2⟩, ⟨sy, h3, h4⟩, h5, h6⟩ := h
  exact ⟨⟨sx, va_Z.moved hvm h1, va_T.moved hvm h2⟩, ⟨sy, va_Z.moved hvm h3, va_T.moved hvm h4⟩, vx_Zq.moved hvm h5, vx_Zq.moved hvm h6⟩
theorem gS0.kept {A : Nat → Prop} {U : State} {H H1 : Heap} (h : gS0 A U H) (hq : ∀ a : Nat, a < H.size → ¬ A a → H1[a]? = H[a]?) : gS0 A U H1 := by
  obtain ⟨⟨sx, h1, h2⟩, ⟨sy, h3, h4⟩, h5, h6⟩ := h
  exact ⟨⟨sx, h1.kept hq, h2.kept hq⟩, ⟨sy, h3.kept hq, h4.kept hq⟩, h5.kept hq, h6.kept hq⟩
theorem gS0.narrow {A B : Nat → Prop} {U : State} {H : Heap} (h : gS0 A U H) (hAB : ∀ q, B q → A q) : gS0 B U H := by
  obtain ⟨⟨sx, h1, h2⟩, ⟨sy, h3, h4⟩, h5, h6⟩ := h
  exact ⟨⟨sx, h1.narrow hAB, h2.narrow hAB⟩, ⟨sy, h3.narrow hAB, h4.narrow hAB⟩, h5.narrow hAB, h6.narrow hAB⟩
def gS (A : Nat → Prop) (U : State) (H : Heap) : Prop := gS0 A U H ∧ gN U
/-- a contract's start: the arguments, the world, its size, the tables, the statics -/
def mPc (D : va_G) (tys : List (ClassId × FieldType)) (ws : va_W) (sz : Nat) (av : List Value) : Array Value → State → Prop :=
  va_Pc av (fun U => U.heap.size = sz ∧ va_P D vwCl ws U.heap ∧ va_K D vwCl tys U ∧ va_D (fun _ => True) ws ∧ gS (va_A ws sz) U U.heap)
def mB (D : va_G) (tys : List (ClassId × FieldType)) (A : Nat → Prop) : va_W → State → Prop := fun w t => va_P D vwCl w t.heap ∧ va_K D vwCl tys t ∧ va_D A w
theorem mPc_blind {D : va_G} {tys : List (ClassId × FieldType)} {ws : va_W} {sz : Nat} {av : List Value} : FrameBlind (mPc D tys ws sz av) := by
  intro a U g mk q
  obtain ⟨h1, h2, h3, h4, h5, h6⟩ := q
  exact ⟨h1, h2, h3, va_K.moved (u := U) (U := U.calling g mk a) (Vm.Alike.refl U.vm) h4, h5, gS0.moved (u := U) (U := U.calling g mk a) (Vm.Alike.refl U.vm) h6.1, gN.same (s := U) (U := U.calling g mk a) rfl h6.2⟩
theorem mPc_of {wc : va_W} {av : List Value} (hK : va_K D vwCl tys s) (hP : va_P D vwCl ws H) (hD : va_D A ws) (hS : va_S A s.heap H locs) (hA : ∀ q, s.heap.size ≤ q → A q) (hG : gS A s s.heap) (isC : List Nat) (hC : isC.map (fun i => ws[i]?) = wc.map some) (hnC : va_nd isC = true) (U : State) (hU : U.heap = H) (hW : s.WarmedH U.vm) : mPc D tys wc H.size av av.toArray U := by
  have hF := va_free (wc := wc) hD hS hA isC hC
  refine ⟨rfl, by rw [hU], ?_, va_K.moved hW.alike hK, (hD.sub isC hnC hC).weaken (fun _ _ _ _ => trivial), ?_⟩
  · rw [hU]
    refine hP.sub isC ?_
    have h2 := congrArg (fun x : List (Option (Nat × va_E)) => x.filterMap id) hC
    simpa [List.filterMap_map, Function.comp_def] using h2
  · rw [hU]
    exact ⟨gS0.moved hW.alike (gS0.narrow (hG.1.kept hS.2.1) hF), hG.2.warm hW⟩

theorem st_i {y : MethodName} {wsy ws' : List Cond} {rm : Room} {WS W1 : va_W} {sz : Nat} {av : List Value} {lv0 : List (Nat × Value)} {mc ms maxL : Nat} {RV : Int32}
    {own : String} (hy : plainName y.cls = true) (hcl : y.cls = own) (hw : wsy = .code y cc maxL (some .int) :: ws') (hlen : (lg_sl av).length ≤ maxL) (hlv : lv_args 0 av = lv0)
    (body : ∀ (p : Program) (e : Env) (s : State) (m : MethodId) (below : List Frame) (meth : Method) (c : Code) (A : Nat → Prop) (Q : State → Prop), CallFix p m c cc maxL s av.toArray wsy own → meth.name = y.name → (∀ q, s.heap.size ≤ q → A q) → va_K D vwCl tys s → va_P D vwCl WS s.heap → va_D A WS → gS A s s.heap → va_S A s.heap s.heap [] →
      (∀ (H : Heap) (locs : List Loc) (ls : Array Slot) (pc : Nat), decode cc pc = .ok (.ireturn, 1) → va_P D vwCl W1 H → va_D A W1 → va_S A s.heap H locs → W p l e rm s m av.toArray below meth c H locs mc ms Q (F0 m pc ls [.int RV])) →
      ∀ ls : Array Slot, lv_has ls maxL lv0 → W p l e rm s m av.toArray below meth c s.heap [] 0 0 Q (F0 m 0 ls [])) :
    Met l y wsy rm (mPc D tys WS sz av) (va_Qi (fun (r : Int32) (u : va_W) => r = RV ∧ u = W1) (mB D tys (va_A WS sz)) (va_A WS sz)) mc ms (va_A WS sz) := by
  refine Met.ofW (cc := cc) (maxL := maxL) (ret := (some .int)) hy hw ?_
  intro p e s m args below meth c s₁ B hml hv
  obtain ⟨rfl, rfl, hP, hK, hD0, hG⟩ := hv
  have hts := atoms_spec (ws := wsy) B.pre
  have hown := findClass_of_methodNamed B.named
  rw [hcl] at hown
  have hl := lv_entry av (n := maxL) hlen
  rw [lg_entry_eq]
  rw [hlv] at hl
  refine body p e s m below meth c (va_A WS s.heap.size) _ ⟨B.exec, B.bytes, hml, hown, hts⟩ (name_of_methodNamed B.named B.method).1 (fun q h => Or.inr h) hK hP hD0.self hG va_S.rf ?_ _ hl
  intro H locs ls pc hd hP1 hD1 hS1
  exact W.iret B.exec B.bytes B.returns (fun t ht hW => ⟨⟨RV, W1, rfl, ⟨rfl, rfl⟩, by rw [ht]; exact hP1, va_K.moved hW.alike hK, hD1⟩, hS1.F ht⟩) hS1.2.2 hd B.notSynchronized
theorem st_z {y : MethodName} {wsy ws' : List Cond} {rm : Room} {WS W1 : va_W} {sz : Nat} {av : List Value} {lv0 : List (Nat × Value)} {mc ms maxL : Nat} {bv : Bool}
    {own : String} (hy : plainName y.cls = true) (hcl : y.cls = own) (hw : wsy = .code y cc maxL (some .boolean) :: ws') (hlen : (lg_sl av).length ≤ maxL) (hlv : lv_args 0 av = lv0)
    (body : ∀ (p : Program) (e : Env) (s : State) (m : MethodId) (below : List Frame) (meth : Method) (c : Code) (A : Nat → Prop) (Q : State → Prop), CallFix p m c cc maxL s av.toArray wsy own → meth.name = y.name → (∀ q, s.heap.size ≤ q → A q) → va_K D vwCl tys s → va_P D vwCl WS s.heap → va_D A WS → gS A s s.heap → va_S A s.heap s.heap [] →
      (∀ (H : Heap) (locs : List Loc) (ls : Array Slot) (pc : Nat), decode cc pc = .ok (.ireturn, 1) → va_P D vwCl W1 H → va_D A W1 → va_S A s.heap H locs → W p l e rm s m av.toArray below meth c H locs mc ms Q (F0 m pc ls [.int (bI bv)])) →
      ∀ ls : Array Slot, lv_has ls maxL lv0 → W p l e rm s m av.toArray below meth c s.heap [] 0 0 Q (F0 m 0 ls [])) :
    Met l y wsy rm (mPc D tys WS sz av) (va_Qi (fun (r : Int32) (u : va_W) => r = bI bv ∧ u = W1) (mB D tys (va_A WS sz)) (va_A WS sz)) mc ms (va_A WS sz) := by
  refine Met.ofW (cc := cc) (maxL := maxL) (ret := (some .boolean)) hy hw ?_
  intro p e s m args below meth c s₁ B hml hv
  obtain ⟨rfl, rfl, hP, hK, hD0, hG⟩ := hv
  have hts := atoms_spec (ws := wsy) B.pre
  have hown := findClass_of_methodNamed B.named
  rw [hcl] at hown
  have hl := lv_entry av (n := maxL) hlen
  rw [lg_entry_eq]
  rw [hlv] at hl
  refine body p e s m below meth c (va_A WS s.heap.size) _ ⟨B.exec, B.bytes, hml, hown, hts⟩ (name_of_methodNamed B.named B.method).1 (fun q h => Or.inr h) hK hP hD0.self hG va_S.rf ?_ _ hl
  intro H locs ls pc hd hP1 hD1 hS1
  exact W.zret B.exec B.bytes B.returns (nar_bI bv) (fun t ht hW => ⟨⟨bI bv, W1, rfl, ⟨rfl, rfl⟩, by rw [ht]; exact hP1, va_K.moved hW.alike hK, hD1⟩, hS1.F ht⟩) hS1.2.2 hd B.notSynchronized
theorem st_l {y : MethodName} {wsy ws' : List Cond} {rm : Room} {WS W1 : va_W} {sz : Nat} {av : List Value} {lv0 : List (Nat × Value)} {mc ms maxL : Nat} {RV : Int64}
    {own : String} (hy : plainName y.cls = true) (hcl : y.cls = own) (hw : wsy = .code y cc maxL (some .long) :: ws') (hlen : (lg_sl av).length ≤ maxL) (hlv : lv_args 0 av = lv0)
    (body : ∀ (p : Program) (e : Env) (s : State) (m : MethodId) (below : List Frame) (meth : Method) (c : Code) (A : Nat → Prop) (Q : State → Prop), CallFix p m c cc maxL s av.toArray wsy own → meth.name = y.name → (∀ q, s.heap.size ≤ q → A q) → va_K D vwCl tys s → va_P D vwCl WS s.heap → va_D A WS → gS A s s.heap → va_S A s.heap s.heap [] →
      (∀ (H : Heap) (locs : List Loc) (ls : Array Slot) (pc : Nat), decode cc pc = .ok (.lreturn, 1) → va_P D vwCl W1 H → va_D A W1 → va_S A s.heap H locs → W p l e rm s m av.toArray below meth c H locs mc ms Q (F0 m pc ls [.long RV])) →
      ∀ ls : Array Slot, lv_has ls maxL lv0 → W p l e rm s m av.toArray below meth c s.heap [] 0 0 Q (F0 m 0 ls [])) :
    Met l y wsy rm (mPc D tys WS sz av) (va_Ql (fun (r : Int64) (u : va_W) => r = RV ∧ u = W1) (mB D tys (va_A WS sz)) (va_A WS sz)) mc ms (va_A WS sz) := by
  refine Met.ofW (cc := cc) (maxL := maxL) (ret := (some .long)) hy hw ?_
  intro p e s m args below meth c s₁ B hml hv
  obtain ⟨rfl, rfl, hP, hK, hD0, hG⟩ := hv
  have hts := atoms_spec (ws := wsy) B.pre
  have hown := findClass_of_methodNamed B.named
  rw [hcl] at hown
  have hl := lv_entry av (n := maxL) hlen
  rw [lg_entry_eq]
  rw [hlv] at hl
  refine body p e s m below meth c (va_A WS s.heap.size) _ ⟨B.exec, B.bytes, hml, hown, hts⟩ (name_of_methodNamed B.named B.method).1 (fun q h => Or.inr h) hK hP hD0.self hG va_S.rf ?_ _ hl
  intro H locs ls pc hd hP1 hD1 hS1
  exact W.lret B.exec B.bytes B.returns (fun t ht hW => ⟨⟨RV, W1, rfl, ⟨rfl, rfl⟩, by rw [ht]; exact hP1, va_K.moved hW.alike hK, hD1⟩, hS1.F ht⟩) hS1.2.2 hd B.notSynchronized
theorem st_v {y : MethodName} {wsy ws' : List Cond} {rm : Room} {WS W1 : va_W} {sz : Nat} {av : List Value} {lv0 : List (Nat × Value)} {mc ms maxL : Nat} 
    {own : String} (hy : plainName y.cls = true) (hcl : y.cls = own) (hw : wsy = .code y cc maxL none :: ws') (hlen : (lg_sl av).length ≤ maxL) (hlv : lv_args 0 av = lv0)
    (body : ∀ (p : Program) (e : Env) (s : State) (m : MethodId) (below : List Frame) (meth : Method) (c : Code) (A : Nat → Prop) (Q : State → Prop), CallFix p m c cc maxL s av.toArray wsy own → meth.name = y.name → (∀ q, s.heap.size ≤ q → A q) → va_K D vwCl tys s → va_P D vwCl WS s.heap → va_D A WS → gS A s s.heap → va_S A s.heap s.heap [] →
      (∀ (H : Heap) (locs : List Loc) (ls : Array Slot) (pc : Nat), decode cc pc = .ok (.return_, 1) → va_P D vwCl W1 H → va_D A W1 → va_S A s.heap H locs → W p l e rm s m av.toArray below meth c H locs mc ms Q (F0 m pc ls [])) →
      ∀ ls : Array Slot, lv_has ls maxL lv0 → W p l e rm s m av.toArray below meth c s.heap [] 0 0 Q (F0 m 0 ls [])) :
    Met l y wsy rm (mPc D tys WS sz av) (va_Qv (fun (u : va_W) => u = W1) (mB D tys (va_A WS sz)) (va_A WS sz)) mc ms (va_A WS sz) := by
  refine Met.ofW (cc := cc) (maxL := maxL) (ret := none) hy hw ?_
  intro p e s m args below meth c s₁ B hml hv
  obtain ⟨rfl, rfl, hP, hK, hD0, hG⟩ := hv
  have hts := atoms_spec (ws := wsy) B.pre
  have hown := findClass_of_methodNamed B.named
  rw [hcl] at hown
  have hl := lv_entry av (n := maxL) hlen
  rw [lg_entry_eq]
  rw [hlv] at hl
  refine body p e s m below meth c (va_A WS s.heap.size) _ ⟨B.exec, B.bytes, hml, hown, hts⟩ (name_of_methodNamed B.named B.method).1 (fun q h => Or.inr h) hK hP hD0.self hG va_S.rf ?_ _ hl
  intro H locs ls pc hd hP1 hD1 hS1
  exact W.vret B.exec B.bytes B.returns (fun t ht hW => ⟨⟨W1, rfl, rfl, by rw [ht]; exact hP1, va_K.moved hW.alike hK, hD1⟩, hS1.F ht⟩) hS1.2.2 hd B.notSynchronized
theorem st_r {y : MethodName} {wsy ws' : List Cond} {rm : Room} {WS W1 : va_W} {sz : Nat} {av : List Value} {lv0 : List (Nat × Value)} {mc ms maxL : Nat} {RV : Nat} {cn : String}
    {own : String} (hy : plainName y.cls = true) (hcl : y.cls = own) (hw : wsy = .code y cc maxL (some (.object cn)) :: ws') (hlen : (lg_sl av).length ≤ maxL) (hlv : lv_args 0 av = lv0)
    (body : ∀ (p : Program) (e : Env) (s : State) (m : MethodId) (below : List Frame) (meth : Method) (c : Code) (A : Nat → Prop) (Q : State → Prop), CallFix p m c cc maxL s av.toArray wsy own → meth.name = y.name → (∀ q, s.heap.size ≤ q → A q) → va_K D vwCl tys s → va_P D vwCl WS s.heap → va_D A WS → gS A s s.heap → va_S A s.heap s.heap [] →
      (∀ (H : Heap) (locs : List Loc) (ls : Array Slot) (pc : Nat), decode cc pc = .ok (.areturn, 1) → va_P D vwCl W1 H → va_D A W1 → va_S A s.heap H locs → W p l e rm s m av.toArray below meth c H locs mc ms Q (F0 m pc ls [.ref RV])) →
      ∀ ls : Array Slot, lv_has ls maxL lv0 → W p l e rm s m av.toArray below meth c s.heap [] 0 0 Q (F0 m 0 ls [])) :
    Met l y wsy rm (mPc D tys WS sz av) (va_Qr (fun (u : va_W) => u = W1) (fun u a t => a = RV ∧ mB D tys (va_A WS sz) u t) (va_A WS sz)) mc ms (va_A WS sz) := by
  refine Met.ofW (cc := cc) (maxL := maxL) (ret := (some (.object cn))) hy hw ?_
  intro p e s m args below meth c s₁ B hml hv
  obtain ⟨rfl, rfl, hP, hK, hD0, hG⟩ := hv
  have hts := atoms_spec (ws := wsy) B.pre
  have hown := findClass_of_methodNamed B.named
  rw [hcl] at hown
  have hl := lv_entry av (n := maxL) hlen
  rw [lg_entry_eq]
  rw [hlv] at hl
  refine body p e s m below meth c (va_A WS s.heap.size) _ ⟨B.exec, B.bytes, hml, hown, hts⟩ (name_of_methodNamed B.named B.method).1 (fun q h => Or.inr h) hK hP hD0.self hG va_S.rf ?_ _ hl
  intro H locs ls pc hd hP1 hD1 hS1
  exact W.aret B.exec B.bytes B.returns (Or.inl ⟨cn, rfl⟩) (Or.inr ⟨RV, rfl⟩) (fun t ht hW => ⟨⟨W1, RV, rfl, rfl, rfl, by rw [ht]; exact hP1, va_K.moved hW.alike hK, hD1⟩, hS1.F ht⟩) hS1.2.2 hd B.notSynchronized
theorem kcV_i (S : CallFix p m c cc nL s args Ts own) {y : MethodName} {wsy : List Cond} {rm : Room} {index maxL mc ms : Nat} {ret : Option FieldType} {bytes : ByteArray} {wc wr W1 : va_W} {As st0 : List Value} {RV : Int32} {b ci q0 : Nat} {C : String} {T : u_T} {N : Nat} {fs : List Value} 
    (hM : Met l y wsy rm (mPc D tys wc H.size (.ref b :: As)) (va_Qi (fun (r : Int32) (u : va_W) => r = RV ∧ u = W1) (mB D tys (va_A wc H.size)) (va_A wc H.size)) mc ms (va_A wc H.size)) (cw : CallW R s args own C index y bytes maxL ret wsy rm mc ms n)
    (hK : va_K D vwCl tys s) (hP : va_P D vwCl ws H) (hD : va_D A ws) (hS : va_S A s.heap H locs) (hA : ∀ q, s.heap.size ≤ q → A q) (hG : gS A s s.heap)
    (isC isR pm : List Nat) (hC : isC.map (fun i => ws[i]?) = wc.map some) (hR : isR.map (fun i => ws[i]?) = wr.map some) (hnC : va_nd isC = true) (hnR : va_nd isR = true) (hdis : ∀ i ∈ isR, i ∉ isC) (hnp : va_nd pm = true) (hpm : pm.map (fun i => (wr ++ W1)[i]?) = ws2.map some)
    (hc : vwCl[ci]? = some (C, T, N)) (he : ws[q0]? = some (b, .inr (ci, fs))) (hn : As.length = n) (hsize : ls.size = nL) (hst : st0 = As.reverse ++ .ref b :: rest) (hW : (rest.map fun v => v.category).sum ≤ 8) (d : decode cc pc = .ok (.invokevirtual index, 3)) (hf : cells + mc ≤ R.cells ∧ slots + ms ≤ R.slots)
    (kk : ∀ (H1 : Heap) (locs1 : List Loc), va_P D vwCl ws2 H1 → va_D A ws2 → va_S A s.heap H1 locs1 → W p l e R s m args below meth c H1 locs1 (cells + mc) (slots + ms) Q (F0 m (pc + 3) ls (.int RV :: rest))) :
    W p l e R s m args below meth c H locs cells slots Q (F0 m pc ls st0) := by
  have hFc := va_free (wc := wc) hD hS hA isC hC
  refine va_calli (va_runV S hM cw ⟨mPc_blind, va_recv hK hP hc he, mPc_of hK hP hD hS hA hG isC hC hnC⟩ rfl hn hsize hst (lv_room hW) d hf) hS (fun q _ h => hFc q h) hFc (fun r u t H1 locs1 ht hvm hw hB hz1 hk1 hS1 => ?_)
  obtain ⟨rfl, rfl⟩ := hw
  obtain ⟨hP1, hK1, hD1⟩ := hB
  rw [ht] at hP1
  obtain ⟨hP2, hD2⟩ := va_join hP hD isC isR hC hR hnR hdis hk1 hFc hP1 hD1
  refine kk H1 locs1 (hP2.sub pm ?_) (hD2.sub pm hnp hpm) hS1
  have h2 := congrArg (fun x : List (Option (Nat × va_E)) => x.filterMap id) hpm
  simpa [List.filterMap_map, Function.comp_def] using h2
theorem kcV_l (S : CallFix p m c cc nL s args Ts own) {y : MethodName} {wsy : List Cond} {rm : Room} {index maxL mc ms : Nat} {ret : Option FieldType} {bytes : ByteArray} {wc wr W1 : va_W} {As st0 : List Value} {RV : Int64} {b ci q0 : Nat} {C : String} {T : u_T} {N : Nat} {fs : List Value} 
    (hM : Met l y wsy rm (mPc D tys wc H.size (.ref b :: As)) (va_Ql (fun (r : Int64) (u : va_W) => r = RV ∧ u = W1) (mB D tys (va_A wc H.size)) (va_A wc H.size)) mc ms (va_A wc H.size)) (cw : CallW R s args own C index y bytes maxL ret wsy rm mc ms n)
    (hK : va_K D vwCl tys s) (hP : va_P D vwCl ws H) (hD : va_D A ws) (hS : va_S A s.heap H locs) (hA : ∀ q, s.heap.size ≤ q → A q) (hG : gS A s s.heap)
    (isC isR pm : List Nat) (hC : isC.map (fun i => ws[i]?) = wc.map some) (hR : isR.map (fun i => ws[i]?) = wr.map some) (hnC : va_nd isC = true) (hnR : va_nd isR = true) (hdis : ∀ i ∈ isR, i ∉ isC) (hnp : va_nd pm = true) (hpm : pm.map (fun i => (wr ++ W1)[i]?) = ws2.map some)
    (hc : vwCl[ci]? = some (C, T, N)) (he : ws[q0]? = some (b, .inr (ci, fs))) (hn : As.length = n) (hsize : ls.size = nL) (hst : st0 = As.reverse ++ .ref b :: rest) (hW : (rest.map fun v => v.category).sum ≤ 8) (d : decode cc pc = .ok (.invokevirtual index, 3)) (hf : cells + mc ≤ R.cells ∧ slots + ms ≤ R.slots)
    (kk : ∀ (H1 : Heap) (locs1 : List Loc), va_P D vwCl ws2 H1 → va_D A ws2 → va_S A s.heap H1 locs1 → W p l e R s m args below meth c H1 locs1 (cells + mc) (slots + ms) Q (F0 m (pc + 3) ls (.long RV :: rest))) :
    W p l e R s m args below meth c H locs cells slots Q (F0 m pc ls st0) := by
  have hFc := va_free (wc := wc) hD hS hA isC hC
  refine va_calll (va_runV S hM cw ⟨mPc_blind, va_recv hK hP hc he, mPc_of hK hP hD hS hA hG isC hC hnC⟩ rfl hn hsize hst (lv_room hW) d hf) hS (fun q _ h => hFc q h) hFc (fun r u t H1 locs1 ht hvm hw hB hz1 hk1 hS1 => ?_)
  obtain ⟨rfl, rfl⟩ := hw
  obtain ⟨hP1, hK1, hD1⟩ := hB
  rw [ht] at hP1
  obtain ⟨hP2, hD2⟩ := va_join hP hD isC isR hC hR hnR hdis hk1 hFc hP1 hD1
  refine kk H1 locs1 (hP2.sub pm ?_) (hD2.sub pm hnp hpm) hS1
  have h2 := congrArg (fun x : List (Option (Nat × va_E)) => x.filterMap id) hpm
  simpa [List.filterMap_map, Function.comp_def] using h2
theorem kcV_v (S : CallFix p m c cc nL s args Ts own) {y : MethodName} {wsy : List Cond} {rm : Room} {index maxL mc ms : Nat} {ret : Option FieldType} {bytes : ByteArray} {wc wr W1 : va_W} {As st0 : List Value}  {b ci q0 : Nat} {C : String} {T : u_T} {N : Nat} {fs : List Value} 
    (hM : Met l y wsy rm (mPc D tys wc H.size (.ref b :: As)) (va_Qv (fun (u : va_W) => u = W1) (mB D tys (va_A wc H.size)) (va_A wc H.size)) mc ms (va_A wc H.size)) (cw : CallW R s args own C index y bytes maxL ret wsy rm mc ms n)
    (hK : va_K D vwCl tys s) (hP : va_P D vwCl ws H) (hD : va_D A ws) (hS : va_S A s.heap H locs) (hA : ∀ q, s.heap.size ≤ q → A q) (hG : gS A s s.heap)
    (isC isR pm : List Nat) (hC : isC.map (fun i => ws[i]?) = wc.map some) (hR : isR.map (fun i => ws[i]?) = wr.map some) (hnC : va_nd isC = true) (hnR : va_nd isR = true) (hdis : ∀ i ∈ isR, i ∉ isC) (hnp : va_nd pm = true) (hpm : pm.map (fun i => (wr ++ W1)[i]?) = ws2.map some)
    (hc : vwCl[ci]? = some (C, T, N)) (he : ws[q0]? = some (b, .inr (ci, fs))) (hn : As.length = n) (hsize : ls.size = nL) (hst : st0 = As.reverse ++ .ref b :: rest) (hW : (rest.map fun v => v.category).sum ≤ 8) (d : decode cc pc = .ok (.invokevirtual index, 3)) (hf : cells + mc ≤ R.cells ∧ slots + ms ≤ R.slots)
    (kk : ∀ (H1 : Heap) (locs1 : List Loc), va_P D vwCl ws2 H1 → va_D A ws2 → va_S A s.heap H1 locs1 → W p l e R s m args below meth c H1 locs1 (cells + mc) (slots + ms) Q (F0 m (pc + 3) ls rest)) :
    W p l e R s m args below meth c H locs cells slots Q (F0 m pc ls st0) := by
  have hFc := va_free (wc := wc) hD hS hA isC hC
  refine va_callv (va_runV S hM cw ⟨mPc_blind, va_recv hK hP hc he, mPc_of hK hP hD hS hA hG isC hC hnC⟩ rfl hn hsize hst (lv_room hW) d hf) hS (fun q _ h => hFc q h) hFc (fun u t H1 locs1 ht hvm hw hB hz1 hk1 hS1 => ?_)
  subst hw
  obtain ⟨hP1, hK1, hD1⟩ := hB
  rw [ht] at hP1
  obtain ⟨hP2, hD2⟩ := va_join hP hD isC isR hC hR hnR hdis hk1 hFc hP1 hD1
  refine kk H1 locs1 (hP2.sub pm ?_) (hD2.sub pm hnp hpm) hS1
  have h2 := congrArg (fun x : List (Option (Nat × va_E)) => x.filterMap id) hpm
  simpa [List.filterMap_map, Function.comp_def] using h2
theorem kcV_r (S : CallFix p m c cc nL s args Ts own) {y : MethodName} {wsy : List Cond} {rm : Room} {index maxL mc ms : Nat} {ret : Option FieldType} {bytes : ByteArray} {wc wr W1 : va_W} {As st0 : List Value} {RV : Nat} {b ci q0 : Nat} {C : String} {T : u_T} {N : Nat} {fs : List Value} 
    (hM : Met l y wsy rm (mPc D tys wc H.size (.ref b :: As)) (va_Qr (fun (u : va_W) => u = W1) (fun u a t => a = RV ∧ mB D tys (va_A wc H.size) u t) (va_A wc H.size)) mc ms (va_A wc H.size)) (cw : CallW R s args own C index y bytes maxL ret wsy rm mc ms n)
    (hK : va_K D vwCl tys s) (hP : va_P D vwCl ws H) (hD : va_D A ws) (hS : va_S A s.heap H locs) (hA : ∀ q, s.heap.size ≤ q → A q) (hG : gS A s s.heap)
    (isC isR pm : List Nat) (hC : isC.map (fun i => ws[i]?) = wc.map some) (hR : isR.map (fun i => ws[i]?) = wr.map some) (hnC : va_nd isC = true) (hnR : va_nd isR = true) (hdis : ∀ i ∈ isR, i ∉ isC) (hnp : va_nd pm = true) (hpm : pm.map (fun i => (wr ++ W1)[i]?) = ws2.map some)
    (hc : vwCl[ci]? = some (C, T, N)) (he : ws[q0]? = some (b, .inr (ci, fs))) (hn : As.length = n) (hsize : ls.size = nL) (hst : st0 = As.reverse ++ .ref b :: rest) (hW : (rest.map fun v => v.category).sum ≤ 8) (d : decode cc pc = .ok (.invokevirtual index, 3)) (hf : cells + mc ≤ R.cells ∧ slots + ms ≤ R.slots)
    (kk : ∀ (H1 : Heap) (locs1 : List Loc), va_P D vwCl ws2 H1 → va_D A ws2 → va_S A s.heap H1 locs1 → W p l e R s m args below meth c H1 locs1 (cells + mc) (slots + ms) Q (F0 m (pc + 3) ls (.ref RV :: rest))) :
    W p l e R s m args below meth c H locs cells slots Q (F0 m pc ls st0) := by
  have hFc := va_free (wc := wc) hD hS hA isC hC
  refine va_callr (va_runV S hM cw ⟨mPc_blind, va_recv hK hP hc he, mPc_of hK hP hD hS hA hG isC hC hnC⟩ rfl hn hsize hst (lv_room hW) d hf) hS (fun q _ h => hFc q h) hFc (fun u ra t H1 locs1 ht hvm hw hB hz1 hk1 hS1 => ?_)
  subst hw
  obtain ⟨rfl, hP1, hK1, hD1⟩ := hB
  rw [ht] at hP1
  obtain ⟨hP2, hD2⟩ := va_join hP hD isC isR hC hR hnR hdis hk1 hFc hP1 hD1
  refine kk H1 locs1 (hP2.sub pm ?_) (hD2.sub pm hnp hpm) hS1
  have h2 := congrArg (fun x : List (Option (Nat × va_E)) => x.filterMap id) hpm
  simpa [List.filterMap_map, Function.comp_def] using h2
theorem kcS_i (S : CallFix p m c cc nL s args Ts own) {y : MethodName} {wsy : List Cond} {rm : Room} {index maxL mc ms : Nat} {ret : Option FieldType} {bytes : ByteArray} {wc wr W1 : va_W} {As st0 : List Value} {RV : Int32} 
    (hM : Met l y wsy rm (mPc D tys wc H.size As) (va_Qi (fun (r : Int32) (u : va_W) => r = RV ∧ u = W1) (mB D tys (va_A wc H.size)) (va_A wc H.size)) mc ms (va_A wc H.size)) (cw : CallB R s args own index y bytes maxL ret wsy rm mc ms n ∧ (Cond.static y).before args s = true)
    (hK : va_K D vwCl tys s) (hP : va_P D vwCl ws H) (hD : va_D A ws) (hS : va_S A s.heap H locs) (hA : ∀ q, s.heap.size ≤ q → A q) (hG : gS A s s.heap)
    (isC isR pm : List Nat) (hC : isC.map (fun i => ws[i]?) = wc.map some) (hR : isR.map (fun i => ws[i]?) = wr.map some) (hnC : va_nd isC = true) (hnR : va_nd isR = true) (hdis : ∀ i ∈ isR, i ∉ isC) (hnp : va_nd pm = true) (hpm : pm.map (fun i => (wr ++ W1)[i]?) = ws2.map some)
    (hn : As.length = n) (hsize : ls.size = nL) (hst : st0 = As.reverse ++ rest) (hW : (rest.map fun v => v.category).sum ≤ 8) (d : decode cc pc = .ok (.invokestatic index, 3)) (hf : cells + mc ≤ R.cells ∧ slots + ms ≤ R.slots)
    (kk : ∀ (H1 : Heap) (locs1 : List Loc), va_P D vwCl ws2 H1 → va_D A ws2 → va_S A s.heap H1 locs1 → W p l e R s m args below meth c H1 locs1 (cells + mc) (slots + ms) Q (F0 m (pc + 3) ls (.int RV :: rest))) :
    W p l e R s m args below meth c H locs cells slots Q (F0 m pc ls st0) := by
  have hFc := va_free (wc := wc) hD hS hA isC hC
  refine va_calli (va_runS S hM cw ⟨mPc_blind, mPc_of hK hP hD hS hA hG isC hC hnC⟩ rfl hn hsize hst (lv_room hW) d hf) hS (fun q _ h => hFc q h) hFc (fun r u t H1 locs1 ht hvm hw hB hz1 hk1 hS1 => ?_)
  obtain ⟨rfl, rfl⟩ := hw
  obtain ⟨hP1, hK1, hD1⟩ := hB
  rw [ht] at hP1
  obtain ⟨hP2, hD2⟩ := va_join hP hD isC isR hC hR hnR hdis hk1 hFc hP1 hD1
  refine kk H1 locs1 (hP2.sub pm ?_) (hD2.sub pm hnp hpm) hS1
  have h2 := congrArg (fun x : List (Option (Nat × va_E)) => x.filterMap id) hpm
  simpa [List.filterMap_map, Function.comp_def] using h2
theorem kcS_l (S : CallFix p m c cc nL s args Ts own) {y : MethodName} {wsy : List Cond} {rm : Room} {index maxL mc ms : Nat} {ret : Option FieldType} {bytes : ByteArray} {wc wr W1 : va_W} {As st0 : List Value} {RV : Int64} 
    (hM : Met l y wsy rm (mPc D tys wc H.size As) (va_Ql (fun (r : Int64) (u : va_W) => r = RV ∧ u = W1) (mB D tys (va_A wc H.size)) (va_A wc H.size)) mc ms (va_A wc H.size)) (cw : CallB R s args own index y bytes maxL ret wsy rm mc ms n ∧ (Cond.static y).before args s = true)
    (hK : va_K D vwCl tys s) (hP : va_P D vwCl ws H) (hD : va_D A ws) (hS : va_S A s.heap H locs) (hA : ∀ q, s.heap.size ≤ q → A q) (hG : gS A s s.heap)
    (isC isR pm : List Nat) (hC : isC.map (fun i => ws[i]?) = wc.map some) (hR : isR.map (fun i => ws[i]?) = wr.map some) (hnC : va_nd isC = true) (hnR : va_nd isR = true) (hdis : ∀ i ∈ isR, i ∉ isC) (hnp : va_nd pm = true) (hpm : pm.map (fun i => (wr ++ W1)[i]?) = ws2.map some)
    (hn : As.length = n) (hsize : ls.size = nL) (hst : st0 = As.reverse ++ rest) (hW : (rest.map fun v => v.category).sum ≤ 8) (d : decode cc pc = .ok (.invokestatic index, 3)) (hf : cells + mc ≤ R.cells ∧ slots + ms ≤ R.slots)
    (kk : ∀ (H1 : Heap) (locs1 : List Loc), va_P D vwCl ws2 H1 → va_D A ws2 → va_S A s.heap H1 locs1 → W p l e R s m args below meth c H1 locs1 (cells + mc) (slots + ms) Q (F0 m (pc + 3) ls (.long RV :: rest))) :
    W p l e R s m args below meth c H locs cells slots Q (F0 m pc ls st0) := by
  have hFc := va_free (wc := wc) hD hS hA isC hC
  refine va_calll (va_runS S hM cw ⟨mPc_blind, mPc_of hK hP hD hS hA hG isC hC hnC⟩ rfl hn hsize hst (lv_room hW) d hf) hS (fun q _ h => hFc q h) hFc (fun r u t H1 locs1 ht hvm hw hB hz1 hk1 hS1 => ?_)
  obtain ⟨rfl, rfl⟩ := hw
  obtain ⟨hP1, hK1, hD1⟩ := hB
  rw [ht] at hP1
  obtain ⟨hP2, hD2⟩ := va_join hP hD isC isR hC hR hnR hdis hk1 hFc hP1 hD1
  refine kk H1 locs1 (hP2.sub pm ?_) (hD2.sub pm hnp hpm) hS1
  have h2 := congrArg (fun x : List (Option (Nat × va_E)) => x.filterMap id) hpm
  simpa [List.filterMap_map, Function.comp_def] using h2
theorem kcS_v (S : CallFix p m c cc nL s args Ts own) {y : MethodName} {wsy : List Cond} {rm : Room} {index maxL mc ms : Nat} {ret : Option FieldType} {bytes : ByteArray} {wc wr W1 : va_W} {As st0 : List Value}  
    (hM : Met l y wsy rm (mPc D tys wc H.size As) (va_Qv (fun (u : va_W) => u = W1) (mB D tys (va_A wc H.size)) (va_A wc H.size)) mc ms (va_A wc H.size)) (cw : CallB R s args own index y bytes maxL ret wsy rm mc ms n ∧ (Cond.static y).before args s = true)
    (hK : va_K D vwCl tys s) (hP : va_P D vwCl ws H) (hD : va_D A ws) (hS : va_S A s.heap H locs) (hA : ∀ q, s.heap.size ≤ q → A q) (hG : gS A s s.heap)
    (isC isR pm : List Nat) (hC : isC.map (fun i => ws[i]?) = wc.map some) (hR : isR.map (fun i => ws[i]?) = wr.map some) (hnC : va_nd isC = true) (hnR : va_nd isR = true) (hdis : ∀ i ∈ isR, i ∉ isC) (hnp : va_nd pm = true) (hpm : pm.map (fun i => (wr ++ W1)[i]?) = ws2.map some)
    (hn : As.length = n) (hsize : ls.size = nL) (hst : st0 = As.reverse ++ rest) (hW : (rest.map fun v => v.category).sum ≤ 8) (d : decode cc pc = .ok (.invokestatic index, 3)) (hf : cells + mc ≤ R.cells ∧ slots + ms ≤ R.slots)
    (kk : ∀ (H1 : Heap) (locs1 : List Loc), va_P D vwCl ws2 H1 → va_D A ws2 → va_S A s.heap H1 locs1 → W p l e R s m args below meth c H1 locs1 (cells + mc) (slots + ms) Q (F0 m (pc + 3) ls rest)) :
    W p l e R s m args below meth c H locs cells slots Q (F0 m pc ls st0) := by
  have hFc := va_free (wc := wc) hD hS hA isC hC
  refine va_callv (va_runS S hM cw ⟨mPc_blind, mPc_of hK hP hD hS hA hG isC hC hnC⟩ rfl hn hsize hst (lv_room hW) d hf) hS (fun q _ h => hFc q h) hFc (fun u t H1 locs1 ht hvm hw hB hz1 hk1 hS1 => ?_)
  subst hw
  obtain ⟨hP1, hK1, hD1⟩ := hB
  rw [ht] at hP1
  obtain ⟨hP2, hD2⟩ := va_join hP hD isC isR hC hR hnR hdis hk1 hFc hP1 hD1
  refine kk H1 locs1 (hP2.sub pm ?_) (hD2.sub pm hnp hpm) hS1
  have h2 := congrArg (fun x : List (Option (Nat × va_E)) => x.filterMap id) hpm
  simpa [List.filterMap_map, Function.comp_def] using h2
theorem kcSN_i (S : CallFix p m c cc nL s args Ts own) {y : MethodName} {wsy : List Cond} {rm : Room} {index maxL mc ms : Nat} {ret : Option FieldType} {bytes : ByteArray} {wc wr W1 : va_W} {As st0 : List Value} {RV : Int32} {host : String} 
    (hM : Met l y wsy rm (mPc D tys wc H.size As) (va_Qi (fun (r : Int32) (u : va_W) => r = RV ∧ u = W1) (mB D tys (va_A wc H.size)) (va_A wc H.size)) mc ms (va_A wc H.size)) (cw : va_CN R s args own index y host bytes maxL ret wsy rm mc ms n ∧ (Cond.static y).before args s = true ∧ True)
    (hK : va_K D vwCl tys s) (hP : va_P D vwCl ws H) (hD : va_D A ws) (hS : va_S A s.heap H locs) (hA : ∀ q, s.heap.size ≤ q → A q) (hG : gS A s s.heap)
    (isC isR pm : List Nat) (hC : isC.map (fun i => ws[i]?) = wc.map some) (hR : isR.map (fun i => ws[i]?) = wr.map some) (hnC : va_nd isC = true) (hnR : va_nd isR = true) (hdis : ∀ i ∈ isR, i ∉ isC) (hnp : va_nd pm = true) (hpm : pm.map (fun i => (wr ++ W1)[i]?) = ws2.map some)
    (hn : As.length = n) (hsize : ls.size = nL) (hst : st0 = As.reverse ++ rest) (hW : (rest.map fun v => v.category).sum ≤ 8) (d : decode cc pc = .ok (.invokestatic index, 3)) (hf : cells + mc ≤ R.cells ∧ slots + ms ≤ R.slots)
    (kk : ∀ (H1 : Heap) (locs1 : List Loc), va_P D vwCl ws2 H1 → va_D A ws2 → va_S A s.heap H1 locs1 → W p l e R s m args below meth c H1 locs1 (cells + mc) (slots + ms) Q (F0 m (pc + 3) ls (.int RV :: rest))) :
    W p l e R s m args below meth c H locs cells slots Q (F0 m pc ls st0) := by
  have hFc := va_free (wc := wc) hD hS hA isC hC
  refine va_calli (va_runSN S hM cw ⟨mPc_blind, mPc_of hK hP hD hS hA hG isC hC hnC⟩ rfl hn hsize hst (lv_room hW) d hf) hS (fun q _ h => hFc q h) hFc (fun r u t H1 locs1 ht hvm hw hB hz1 hk1 hS1 => ?_)
  obtain ⟨rfl, rfl⟩ := hw
  obtain ⟨hP1, hK1, hD1⟩ := hB
  rw [ht] at hP1
  obtain ⟨hP2, hD2⟩ := va_join hP hD isC isR hC hR hnR hdis hk1 hFc hP1 hD1
  refine kk H1 locs1 (hP2.sub pm ?_) (hD2.sub pm hnp hpm) hS1
  have h2 := congrArg (fun x : List (Option (Nat × va_E)) => x.filterMap id) hpm
  simpa [List.filterMap_map, Function.comp_def] using h2
theorem kcSN_l (S : CallFix p m c cc nL s args Ts own) {y : MethodName} {wsy : List Cond} {rm : Room} {index maxL mc ms : Nat} {ret : Option FieldType} {bytes : ByteArray} {wc wr W1 : va_W} {As st0 : List Value} {RV : Int64} {host : String} 
    (hM : Met l y wsy rm (mPc D tys wc H.size As) (va_Ql (fun (r : Int64) (u : va_W) => r = RV ∧ u = W1) (mB D tys (va_A wc H.size)) (va_A wc H.size)) mc ms (va_A wc H.size)) (cw : va_CN R s args own index y host bytes maxL ret wsy rm mc ms n ∧ (Cond.static y).before args s = true ∧ True)
    (hK : va_K D vwCl tys s) (hP : va_P D vwCl ws H) (hD : va_D A ws) (hS : va_S A s.heap H locs) (hA : ∀ q, s.heap.size ≤ q → A q) (hG : gS A s s.heap)
    (isC isR pm : List Nat) (hC : isC.map (fun i => ws[i]?) = wc.map some) (hR : isR.map (fun i => ws[i]?) = wr.map some) (hnC : va_nd isC = true) (hnR : va_nd isR = true) (hdis : ∀ i ∈ isR, i ∉ isC) (hnp : va_nd pm = true) (hpm : pm.map (fun i => (wr ++ W1)[i]?) = ws2.map some)
    (hn : As.length = n) (hsize : ls.size = nL) (hst : st0 = As.reverse ++ rest) (hW : (rest.map fun v => v.category).sum ≤ 8) (d : decode cc pc = .ok (.invokestatic index, 3)) (hf : cells + mc ≤ R.cells ∧ slots + ms ≤ R.slots)
    (kk : ∀ (H1 : Heap) (locs1 : List Loc), va_P D vwCl ws2 H1 → va_D A ws2 → va_S A s.heap H1 locs1 → W p l e R s m args below meth c H1 locs1 (cells + mc) (slots + ms) Q (F0 m (pc + 3) ls (.long RV :: rest))) :
    W p l e R s m args below meth c H locs cells slots Q (F0 m pc ls st0) := by
  have hFc := va_free (wc := wc) hD hS hA isC hC
  refine va_calll (va_runSN S hM cw ⟨mPc_blind, mPc_of hK hP hD hS hA hG isC hC hnC⟩ rfl hn hsize hst (lv_room hW) d hf) hS (fun q _ h => hFc q h) hFc (fun r u t H1 locs1 ht hvm hw hB hz1 hk1 hS1 => ?_)
  obtain ⟨rfl, rfl⟩ := hw
  obtain ⟨hP1, hK1, hD1⟩ := hB
  rw [ht] at hP1
  obtain ⟨hP2, hD2⟩ := va_join hP hD isC isR hC hR hnR hdis hk1 hFc hP1 hD1
  refine kk H1 locs1 (hP2.sub pm ?_) (hD2.sub pm hnp hpm) hS1
  have h2 := congrArg (fun x : List (Option (Nat × va_E)) => x.filterMap id) hpm
  simpa [List.filterMap_map, Function.comp_def] using h2
theorem kcSN_v (S : CallFix p m c cc nL s args Ts own) {y : MethodName} {wsy : List Cond} {rm : Room} {index maxL mc ms : Nat} {ret : Option FieldType} {bytes : ByteArray} {wc wr W1 : va_W} {As st0 : List Value}  {host : String} 
    (hM : Met l y wsy rm (mPc D tys wc H.size As) (va_Qv (fun (u : va_W) => u = W1) (mB D tys (va_A wc H.size)) (va_A wc H.size)) mc ms (va_A wc H.size)) (cw : va_CN R s args own index y host bytes maxL ret wsy rm mc ms n ∧ (Cond.static y).before args s = true ∧ True)
    (hK : va_K D vwCl tys s) (hP : va_P D vwCl ws H) (hD : va_D A ws) (hS : va_S A s.heap H locs) (hA : ∀ q, s.heap.size ≤ q → A q) (hG : gS A s s.heap)
    (isC isR pm : List Nat) (hC : isC.map (fun i => ws[i]?) = wc.map some) (hR : isR.map (fun i => ws[i]?) = wr.map some) (hnC : va_nd isC = true) (hnR : va_nd isR = true) (hdis : ∀ i ∈ isR, i ∉ isC) (hnp : va_nd pm = true) (hpm : pm.map (fun i => (wr ++ W1)[i]?) = ws2.map some)
    (hn : As.length = n) (hsize : ls.size = nL) (hst : st0 = As.reverse ++ rest) (hW : (rest.map fun v => v.category).sum ≤ 8) (d : decode cc pc = .ok (.invokestatic index, 3)) (hf : cells + mc ≤ R.cells ∧ slots + ms ≤ R.slots)
    (kk : ∀ (H1 : Heap) (locs1 : List Loc), va_P D vwCl ws2 H1 → va_D A ws2 → va_S A s.heap H1 locs1 → W p l e R s m args below meth c H1 locs1 (cells + mc) (slots + ms) Q (F0 m (pc + 3) ls rest)) :
    W p l e R s m args below meth c H locs cells slots Q (F0 m pc ls st0) := by
  have hFc := va_free (wc := wc) hD hS hA isC hC
  refine va_callv (va_runSN S hM cw ⟨mPc_blind, mPc_of hK hP hD hS hA hG isC hC hnC⟩ rfl hn hsize hst (lv_room hW) d hf) hS (fun q _ h => hFc q h) hFc (fun u t H1 locs1 ht hvm hw hB hz1 hk1 hS1 => ?_)
  subst hw
  obtain ⟨hP1, hK1, hD1⟩ := hB
  rw [ht] at hP1
  obtain ⟨hP2, hD2⟩ := va_join hP hD isC isR hC hR hnR hdis hk1 hFc hP1 hD1
  refine kk H1 locs1 (hP2.sub pm ?_) (hD2.sub pm hnp hpm) hS1
  have h2 := congrArg (fun x : List (Option (Nat × va_E)) => x.filterMap id) hpm
  simpa [List.filterMap_map, Function.comp_def] using h2
end BASE
