section THROWS
variable {p : Program} {l : Launch} {e : Env} {R : Room} {s : State} {m : MethodId} {args : Array Value} {below : List Frame} {meth : Method} {c : Code} {H : Heap} {locs : List Loc} {cells slots : Nat} {Q : State → Prop} {cc : ByteArray} {pc : Nat} {ls : Array Slot} {rest : List Value} {nL : Nat} {Ts : List Cond} {own : String} {D : va_G} {ws ws2 : va_W} {tys : List (ClassId × FieldType)} {A : Nat → Prop} {n : Nat}
def exN : List String := ["java/lang/RuntimeException", "java/lang/Exception"]
/-- what holds where a method has thrown: the world as it was -/
def mX (D : va_G) (tys : List (ClassId × FieldType)) (EX : String) (ws : va_W) (A : Nat → Prop) : String → State → State → Prop := vx_X (fun u : va_W => u = ws) (fun E u t => E = EX ∧ mB D tys A u t) A
theorem exN_fit : ∀ n ∈ exN, Bundle.fit n = true := by decide +kernel
theorem st_t {y : MethodName} {wsy ws' : List Cond} {rm : Room} {WS : va_W} {sz : Nat} {av : List Value} {lv0 : List (Nat × Value)} {maxL : Nat} {ret : Option FieldType} {EX : String} {Qc : Array Value → State → Outcome → State → Prop} (hlt : l.stackTraces = false)
    (hy : plainName y.cls = true) (hcl : y.cls = own) (hw : wsy = .code y cc maxL ret :: ws') (hlen : (lg_sl av).length ≤ maxL) (hlv : lv_args 0 av = lv0) (hfit : Bundle.fit EX = true) (hrf : 5 < rm.frames) (hrl : 100 ≤ rm.locals) (hrc : rm.cells = 1) (hrs : rm.slots = 6)
    (body : ∀ (p : Program) (e : Env) (s : State) (m : MethodId) (below : List Frame) (meth : Method) (c : Code) (A : Nat → Prop) (Q : State → Prop), CallFix p m c cc maxL s av.toArray wsy own → (∀ q, s.heap.size ≤ q → A q) → va_K D vwCl tys s → va_P D vwCl WS s.heap → va_D A WS → gS A s s.heap → va_S A s.heap s.heap [] →
      (∀ (H : Heap) (locs : List Loc) (ls : Array Slot) (pc : Nat) (rest : List Value) (ik ic : Nat), decode cc pc = .ok (.new ik, 3) → decode cc (pc + 3) = .ok (.dup, 1) → decode cc (pc + 4) = .ok (.invokespecial ic, 3) → decode cc (pc + 7) = .ok (.athrow, 1) → (Cond.classLink own ik EX).before av.toArray s = true → (Cond.initialized EX).before av.toArray s = true → (∀ w ∈ (vx_at0 own ic EX exN).filter goodWord, w.before av.toArray s = true) → (∀ w ∈ (vx_at0 own ic EX exN).filter (fun w => !goodWord w), w ∈ [Cond.castable EX EX, .declares (Bundle.init0 "java/lang/RuntimeException"), .declares (Bundle.init0 "java/lang/Exception"), .declares (Bundle.init0 Bundle.tN)]) → va_Nw (.castable EX EX) s → (vx_at0 own ic EX exN).all vx_ot = true → vx_ot (Cond.classLink own ik EX) = true → vx_ot (Cond.initialized EX) = true → va_P D vwCl WS H → va_D A WS → va_S A s.heap H locs → ls.size = maxL → (rest.map fun v => v.category).sum ≤ 8 → W p l e rm s m av.toArray below meth c H locs 0 0 Q (F0 m pc ls rest)) →
      (∀ (H : Heap) (locs : List Loc) (ls : Array Slot) (pc : Nat) (rest : List Value) (q : Addr) (ce : Cell) (cells slots : Nat), va_P D vwCl WS H → va_D A WS → va_S A s.heap H locs → H[q]? = some ce → ce.vm = .none → s.vm.findClass EX = some ce.cls → cells ≤ 1 → slots ≤ 6 → vx_W p l e rm s m av.toArray below meth c H locs cells slots Q (F0 m pc ls rest) q) →
      ∀ ls : Array Slot, lv_has ls maxL lv0 → W p l e rm s m av.toArray below meth c s.heap [] 0 0 Q (F0 m 0 ls [])) :
    vx_Met l y wsy rm (mPc D tys WS sz av) Qc (mX D tys EX WS (va_A WS sz)) 1 6 (va_A WS sz) := by
  refine vx_ofW (cc := cc) (maxL := maxL) (ret := ret) hy hw ?_
  intro p e s m args below meth c s₁ B hml hno hv
  obtain ⟨rfl, rfl, hP, hK, hD0, hG⟩ := hv
  have hts := atoms_spec (ws := wsy) B.pre
  have hown := findClass_of_methodNamed B.named
  rw [hcl] at hown
  have hl := lv_entry av (n := maxL) hlen
  rw [lg_entry_eq]
  rw [hlv] at hl
  refine body p e s m below meth c (va_A WS s.heap.size) _ ⟨B.exec, B.bytes, hml, hown, hts⟩ (fun q h => Or.inr h) hK hP hD0.self hG va_S.rf ?_ ?_ _ hl
  · intro H locs ls pc rest ik ic d0 d3 d4 d7 hk hini hat hat2 hcas hall ho1 ho2 hP1 hD1 hS1 hsz hrest
    have hgoodall := List.all_eq_true.mp hall
    refine vx_throw0 (names := exN) (ik := ik) (ic := ic) (A := va_A WS s.heap.size) (cls := EX) B.exec B.bytes hlt hown hfit exN_fit hk hini (vx_hat hat hat2 (vx_c (va_Nw.use rfl hcas) (vx_c (va_Nw.use rfl hG.2.2.2.2.2.2.2.2.2.2.2.2.2.1) (vx_c (va_Nw.use rfl hG.2.2.2.2.2.2.2.2.2.2.2.2.2.2.1) (vx_c (va_Nw.use rfl hG.2.2.2.2.2.2.2.2.2.2.2.2.2.2.2) vx_n))))) (fun w hw => ?_) hG.1.2.2.1 hG.1.2.2.2 hS1 (hsz.trans hml.symm) d0 d3 d4 d7 (fun x hx => absurd hx (hno x)) (by show 2 + 3 < rm.frames; omega) (by show _ + (13 * (2 + 1) + 42) ≤ rm.locals; omega) (by show 0 + 1 ≤ rm.cells; omega) (by show 0 + 6 ≤ rm.slots; omega) B.notSynchronized (fun t hvm hz hq => ?_) hS1.2.2 (Nat.le_refl 1) (Nat.le_refl 6)
    · rcases List.mem_cons.mp hw with rfl | hw
      · exact ho1
      · rcases List.mem_cons.mp hw with rfl | hw
        · exact ho2
        · exact hgoodall w hw
    · refine ⟨WS, rfl, ⟨rfl, fun k q hk => (hP1 k q hk).kept (hq q.1 (vx_lt hP1 hk)), va_K.moved hvm hK, hD1⟩, Nat.le_trans hS1.1 hz, fun q h1 h2 => ?_⟩
      rw [hq q (Nat.lt_of_lt_of_le h1 hS1.1)]
      exact hS1.2.1 q h1 h2
  · intro H locs ls pc rest q ce cells slots hP1 hD1 hS1 hq hvn hcl2 hc9 hs9
    refine vx_out (E := EX) (fun x hx => absurd hx (hno x)) B.notSynchronized hq hvn hcl2 (fun t ht hvm => ?_) hS1.2.2 hc9 hs9
    exact ⟨WS, rfl, ⟨rfl, by rw [ht]; exact hP1, va_K.moved hvm hK, hD1⟩, hS1.F ht⟩

theorem kxV_i (S : CallFix p m c cc nL s args Ts own) {y : MethodName} {wsy : List Cond} {rm : Room} {index maxL : Nat} {ret : Option FieldType} {bytes : ByteArray} {wc wr : va_W} {As st0 : List Value} {EX : String} {b ci q0 : Nat} {C : String} {T : u_T} {N : Nat} {fs : List Value} 
    (hM : vx_Met l y wsy rm (mPc D tys wc H.size (.ref b :: As)) (va_Qi (fun (r : Int32) (u : va_W) => False) (mB D tys (va_A wc H.size)) (va_A wc H.size)) (mX D tys EX wc (va_A wc H.size)) 1 6 (va_A wc H.size)) (cw : CallW R s args own C index y bytes maxL ret wsy rm 1 6 n)
    (hK : va_K D vwCl tys s) (hP : va_P D vwCl ws H) (hD : va_D A ws) (hS : va_S A s.heap H locs) (hA : ∀ q, s.heap.size ≤ q → A q) (hG : gS A s s.heap)
    (isC isR pm : List Nat) (hC : isC.map (fun i => ws[i]?) = wc.map some) (hR : isR.map (fun i => ws[i]?) = wr.map some) (hnC : va_nd isC = true) (hnR : va_nd isR = true) (hdis : ∀ i ∈ isR, i ∉ isC) (hnp : va_nd pm = true) (hpm : pm.map (fun i => (wr ++ wc)[i]?) = ws2.map some)
    (hc : vwCl[ci]? = some (C, T, N)) (he : ws[q0]? = some (b, .inr (ci, fs))) (hn : As.length = n) (hsize : ls.size = nL) (hst : st0 = As.reverse ++ .ref b :: rest) (hW : (rest.map fun v => v.category).sum ≤ 8) (d : decode cc pc = .ok (.invokevirtual index, 3)) (hf : cells + 1 ≤ R.cells ∧ slots + 6 ≤ R.slots)
    (kx : ∀ (H1 : Heap) (locs1 : List Loc) (q : Addr) (ce : Cell), va_P D vwCl ws2 H1 → va_D A ws2 → va_S A s.heap H1 locs1 → H1[q]? = some ce → ce.vm = .none → s.vm.findClass EX = some ce.cls → vx_W p l e R s m args below meth c H1 locs1 (cells + 1) (slots + 6) Q (F0 m pc ls rest) q) :
    W p l e R s m args below meth c H locs cells slots Q (F0 m pc ls st0) := by
  have hFc := va_free (wc := wc) hD hS hA isC hC
  refine vx_calli (AX := va_A wc H.size) (vx_runV S hM cw ⟨mPc_blind, va_recv hK hP hc he, mPc_of hK hP hD hS hA hG isC hC hnC⟩ rfl hn hsize hst (lv_room hW) d hf) hS (fun q _ h => hFc q h) hFc (fun q _ h => hFc q h) (fun E ce q9 u t H1 locs1 ht hvm hpx hBX hz hk hS1 hq hvn hcl => ?_) (fun r u t H1 locs1 ht hvm hw hB hz hk hS1 => absurd hw id)
  subst hpx
  obtain ⟨rfl, hP1, hK1, hD1⟩ := hBX
  rw [ht] at hP1
  obtain ⟨hP2, hD2⟩ := va_join hP hD isC isR hC hR hnR hdis hk hFc hP1 hD1
  refine kx H1 locs1 q9 ce (hP2.sub pm ?_) (hD2.sub pm hnp hpm) hS1 hq hvn hcl
  have h2 := congrArg (fun x : List (Option (Nat × va_E)) => x.filterMap id) hpm
  simpa [List.filterMap_map, Function.comp_def] using h2
theorem kxV_l (S : CallFix p m c cc nL s args Ts own) {y : MethodName} {wsy : List Cond} {rm : Room} {index maxL : Nat} {ret : Option FieldType} {bytes : ByteArray} {wc wr : va_W} {As st0 : List Value} {EX : String} {b ci q0 : Nat} {C : String} {T : u_T} {N : Nat} {fs : List Value} 
    (hM : vx_Met l y wsy rm (mPc D tys wc H.size (.ref b :: As)) (va_Ql (fun (r : Int64) (u : va_W) => False) (mB D tys (va_A wc H.size)) (va_A wc H.size)) (mX D tys EX wc (va_A wc H.size)) 1 6 (va_A wc H.size)) (cw : CallW R s args own C index y bytes maxL ret wsy rm 1 6 n)
    (hK : va_K D vwCl tys s) (hP : va_P D vwCl ws H) (hD : va_D A ws) (hS : va_S A s.heap H locs) (hA : ∀ q, s.heap.size ≤ q → A q) (hG : gS A s s.heap)
    (isC isR pm : List Nat) (hC : isC.map (fun i => ws[i]?) = wc.map some) (hR : isR.map (fun i => ws[i]?) = wr.map some) (hnC : va_nd isC = true) (hnR : va_nd isR = true) (hdis : ∀ i ∈ isR, i ∉ isC) (hnp : va_nd pm = true) (hpm : pm.map (fun i => (wr ++ wc)[i]?) = ws2.map some)
    (hc : vwCl[ci]? = some (C, T, N)) (he : ws[q0]? = some (b, .inr (ci, fs))) (hn : As.length = n) (hsize : ls.size = nL) (hst : st0 = As.reverse ++ .ref b :: rest) (hW : (rest.map fun v => v.category).sum ≤ 8) (d : decode cc pc = .ok (.invokevirtual index, 3)) (hf : cells + 1 ≤ R.cells ∧ slots + 6 ≤ R.slots)
    (kx : ∀ (H1 : Heap) (locs1 : List Loc) (q : Addr) (ce : Cell), va_P D vwCl ws2 H1 → va_D A ws2 → va_S A s.heap H1 locs1 → H1[q]? = some ce → ce.vm = .none → s.vm.findClass EX = some ce.cls → vx_W p l e R s m args below meth c H1 locs1 (cells + 1) (slots + 6) Q (F0 m pc ls rest) q) :
    W p l e R s m args below meth c H locs cells slots Q (F0 m pc ls st0) := by
  have hFc := va_free (wc := wc) hD hS hA isC hC
  refine vx_calll (AX := va_A wc H.size) (vx_runV S hM cw ⟨mPc_blind, va_recv hK hP hc he, mPc_of hK hP hD hS hA hG isC hC hnC⟩ rfl hn hsize hst (lv_room hW) d hf) hS (fun q _ h => hFc q h) hFc (fun q _ h => hFc q h) (fun E ce q9 u t H1 locs1 ht hvm hpx hBX hz hk hS1 hq hvn hcl => ?_) (fun r u t H1 locs1 ht hvm hw hB hz hk hS1 => absurd hw id)
  subst hpx
  obtain ⟨rfl, hP1, hK1, hD1⟩ := hBX
  rw [ht] at hP1
  obtain ⟨hP2, hD2⟩ := va_join hP hD isC isR hC hR hnR hdis hk hFc hP1 hD1
  refine kx H1 locs1 q9 ce (hP2.sub pm ?_) (hD2.sub pm hnp hpm) hS1 hq hvn hcl
  have h2 := congrArg (fun x : List (Option (Nat × va_E)) => x.filterMap id) hpm
  simpa [List.filterMap_map, Function.comp_def] using h2
theorem kxV_v (S : CallFix p m c cc nL s args Ts own) {y : MethodName} {wsy : List Cond} {rm : Room} {index maxL : Nat} {ret : Option FieldType} {bytes : ByteArray} {wc wr : va_W} {As st0 : List Value} {EX : String} {b ci q0 : Nat} {C : String} {T : u_T} {N : Nat} {fs : List Value} 
    (hM : vx_Met l y wsy rm (mPc D tys wc H.size (.ref b :: As)) (va_Qv (fun (u : va_W) => False) (mB D tys (va_A wc H.size)) (va_A wc H.size)) (mX D tys EX wc (va_A wc H.size)) 1 6 (va_A wc H.size)) (cw : CallW R s args own C index y bytes maxL ret wsy rm 1 6 n)
    (hK : va_K D vwCl tys s) (hP : va_P D vwCl ws H) (hD : va_D A ws) (hS : va_S A s.heap H locs) (hA : ∀ q, s.heap.size ≤ q → A q) (hG : gS A s s.heap)
    (isC isR pm : List Nat) (hC : isC.map (fun i => ws[i]?) = wc.map some) (hR : isR.map (fun i => ws[i]?) = wr.map some) (hnC : va_nd isC = true) (hnR : va_nd isR = true) (hdis : ∀ i ∈ isR, i ∉ isC) (hnp : va_nd pm = true) (hpm : pm.map (fun i => (wr ++ wc)[i]?) = ws2.map some)
    (hc : vwCl[ci]? = some (C, T, N)) (he : ws[q0]? = some (b, .inr (ci, fs))) (hn : As.length = n) (hsize : ls.size = nL) (hst : st0 = As.reverse ++ .ref b :: rest) (hW : (rest.map fun v => v.category).sum ≤ 8) (d : decode cc pc = .ok (.invokevirtual index, 3)) (hf : cells + 1 ≤ R.cells ∧ slots + 6 ≤ R.slots)
    (kx : ∀ (H1 : Heap) (locs1 : List Loc) (q : Addr) (ce : Cell), va_P D vwCl ws2 H1 → va_D A ws2 → va_S A s.heap H1 locs1 → H1[q]? = some ce → ce.vm = .none → s.vm.findClass EX = some ce.cls → vx_W p l e R s m args below meth c H1 locs1 (cells + 1) (slots + 6) Q (F0 m pc ls rest) q) :
    W p l e R s m args below meth c H locs cells slots Q (F0 m pc ls st0) := by
  have hFc := va_free (wc := wc) hD hS hA isC hC
  refine vx_callv (AX := va_A wc H.size) (vx_runV S hM cw ⟨mPc_blind, va_recv hK hP hc he, mPc_of hK hP hD hS hA hG isC hC hnC⟩ rfl hn hsize hst (lv_room hW) d hf) hS (fun q _ h => hFc q h) hFc (fun q _ h => hFc q h) (fun E ce q9 u t H1 locs1 ht hvm hpx hBX hz hk hS1 hq hvn hcl => ?_) (fun u t H1 locs1 ht hvm hw hB hz hk hS1 => absurd hw id)
  subst hpx
  obtain ⟨rfl, hP1, hK1, hD1⟩ := hBX
  rw [ht] at hP1
  obtain ⟨hP2, hD2⟩ := va_join hP hD isC isR hC hR hnR hdis hk hFc hP1 hD1
  refine kx H1 locs1 q9 ce (hP2.sub pm ?_) (hD2.sub pm hnp hpm) hS1 hq hvn hcl
  have h2 := congrArg (fun x : List (Option (Nat × va_E)) => x.filterMap id) hpm
  simpa [List.filterMap_map, Function.comp_def] using h2
theorem kxS_i (S : CallFix p m c cc nL s args Ts own) {y : MethodName} {wsy : List Cond} {rm : Room} {index maxL : Nat} {ret : Option FieldType} {bytes : ByteArray} {wc wr : va_W} {As st0 : List Value} {EX : String} 
    (hM : vx_Met l y wsy rm (mPc D tys wc H.size As) (va_Qi (fun (r : Int32) (u : va_W) => False) (mB D tys (va_A wc H.size)) (va_A wc H.size)) (mX D tys EX wc (va_A wc H.size)) 1 6 (va_A wc H.size)) (cw : CallB R s args own index y bytes maxL ret wsy rm 1 6 n ∧ (Cond.static y).before args s = true)
    (hK : va_K D vwCl tys s) (hP : va_P D vwCl ws H) (hD : va_D A ws) (hS : va_S A s.heap H locs) (hA : ∀ q, s.heap.size ≤ q → A q) (hG : gS A s s.heap)
    (isC isR pm : List Nat) (hC : isC.map (fun i => ws[i]?) = wc.map some) (hR : isR.map (fun i => ws[i]?) = wr.map some) (hnC : va_nd isC = true) (hnR : va_nd isR = true) (hdis : ∀ i ∈ isR, i ∉ isC) (hnp : va_nd pm = true) (hpm : pm.map (fun i => (wr ++ wc)[i]?) = ws2.map some)
    (hn : As.length = n) (hsize : ls.size = nL) (hst : st0 = As.reverse ++ rest) (hW : (rest.map fun v => v.category).sum ≤ 8) (d : decode cc pc = .ok (.invokestatic index, 3)) (hf : cells + 1 ≤ R.cells ∧ slots + 6 ≤ R.slots)
    (kx : ∀ (H1 : Heap) (locs1 : List Loc) (q : Addr) (ce : Cell), va_P D vwCl ws2 H1 → va_D A ws2 → va_S A s.heap H1 locs1 → H1[q]? = some ce → ce.vm = .none → s.vm.findClass EX = some ce.cls → vx_W p l e R s m args below meth c H1 locs1 (cells + 1) (slots + 6) Q (F0 m pc ls rest) q) :
    W p l e R s m args below meth c H locs cells slots Q (F0 m pc ls st0) := by
  have hFc := va_free (wc := wc) hD hS hA isC hC
  refine vx_calli (AX := va_A wc H.size) (vx_runS S hM cw ⟨mPc_blind, mPc_of hK hP hD hS hA hG isC hC hnC⟩ rfl hn hsize hst (lv_room hW) d hf) hS (fun q _ h => hFc q h) hFc (fun q _ h => hFc q h) (fun E ce q9 u t H1 locs1 ht hvm hpx hBX hz hk hS1 hq hvn hcl => ?_) (fun r u t H1 locs1 ht hvm hw hB hz hk hS1 => absurd hw id)
  subst hpx
  obtain ⟨rfl, hP1, hK1, hD1⟩ := hBX
  rw [ht] at hP1
  obtain ⟨hP2, hD2⟩ := va_join hP hD isC isR hC hR hnR hdis hk hFc hP1 hD1
  refine kx H1 locs1 q9 ce (hP2.sub pm ?_) (hD2.sub pm hnp hpm) hS1 hq hvn hcl
  have h2 := congrArg (fun x : List (Option (Nat × va_E)) => x.filterMap id) hpm
  simpa [List.filterMap_map, Function.comp_def] using h2
theorem kxS_l (S : CallFix p m c cc nL s args Ts own) {y : MethodName} {wsy : List Cond} {rm : Room} {index maxL : Nat} {ret : Option FieldType} {bytes : ByteArray} {wc wr : va_W} {As st0 : List Value} {EX : String} 
    (hM : vx_Met l y wsy rm (mPc D tys wc H.size As) (va_Ql (fun (r : Int64) (u : va_W) => False) (mB D tys (va_A wc H.size)) (va_A wc H.size)) (mX D tys EX wc (va_A wc H.size)) 1 6 (va_A wc H.size)) (cw : CallB R s args own index y bytes maxL ret wsy rm 1 6 n ∧ (Cond.static y).before args s = true)
    (hK : va_K D vwCl tys s) (hP : va_P D vwCl ws H) (hD : va_D A ws) (hS : va_S A s.heap H locs) (hA : ∀ q, s.heap.size ≤ q → A q) (hG : gS A s s.heap)
    (isC isR pm : List Nat) (hC : isC.map (fun i => ws[i]?) = wc.map some) (hR : isR.map (fun i => ws[i]?) = wr.map some) (hnC : va_nd isC = true) (hnR : va_nd isR = true) (hdis : ∀ i ∈ isR, i ∉ isC) (hnp : va_nd pm = true) (hpm : pm.map (fun i => (wr ++ wc)[i]?) = ws2.map some)
    (hn : As.length = n) (hsize : ls.size = nL) (hst : st0 = As.reverse ++ rest) (hW : (rest.map fun v => v.category).sum ≤ 8) (d : decode cc pc = .ok (.invokestatic index, 3)) (hf : cells + 1 ≤ R.cells ∧ slots + 6 ≤ R.slots)
    (kx : ∀ (H1 : Heap) (locs1 : List Loc) (q : Addr) (ce : Cell), va_P D vwCl ws2 H1 → va_D A ws2 → va_S A s.heap H1 locs1 → H1[q]? = some ce → ce.vm = .none → s.vm.findClass EX = some ce.cls → vx_W p l e R s m args below meth c H1 locs1 (cells + 1) (slots + 6) Q (F0 m pc ls rest) q) :
    W p l e R s m args below meth c H locs cells slots Q (F0 m pc ls st0) := by
  have hFc := va_free (wc := wc) hD hS hA isC hC
  refine vx_calll (AX := va_A wc H.size) (vx_runS S hM cw ⟨mPc_blind, mPc_of hK hP hD hS hA hG isC hC hnC⟩ rfl hn hsize hst (lv_room hW) d hf) hS (fun q _ h => hFc q h) hFc (fun q _ h => hFc q h) (fun E ce q9 u t H1 locs1 ht hvm hpx hBX hz hk hS1 hq hvn hcl => ?_) (fun r u t H1 locs1 ht hvm hw hB hz hk hS1 => absurd hw id)
  subst hpx
  obtain ⟨rfl, hP1, hK1, hD1⟩ := hBX
  rw [ht] at hP1
  obtain ⟨hP2, hD2⟩ := va_join hP hD isC isR hC hR hnR hdis hk hFc hP1 hD1
  refine kx H1 locs1 q9 ce (hP2.sub pm ?_) (hD2.sub pm hnp hpm) hS1 hq hvn hcl
  have h2 := congrArg (fun x : List (Option (Nat × va_E)) => x.filterMap id) hpm
  simpa [List.filterMap_map, Function.comp_def] using h2
theorem kxS_v (S : CallFix p m c cc nL s args Ts own) {y : MethodName} {wsy : List Cond} {rm : Room} {index maxL : Nat} {ret : Option FieldType} {bytes : ByteArray} {wc wr : va_W} {As st0 : List Value} {EX : String} 
    (hM : vx_Met l y wsy rm (mPc D tys wc H.size As) (va_Qv (fun (u : va_W) => False) (mB D tys (va_A wc H.size)) (va_A wc H.size)) (mX D tys EX wc (va_A wc H.size)) 1 6 (va_A wc H.size)) (cw : CallB R s args own index y bytes maxL ret wsy rm 1 6 n ∧ (Cond.static y).before args s = true)
    (hK : va_K D vwCl tys s) (hP : va_P D vwCl ws H) (hD : va_D A ws) (hS : va_S A s.heap H locs) (hA : ∀ q, s.heap.size ≤ q → A q) (hG : gS A s s.heap)
    (isC isR pm : List Nat) (hC : isC.map (fun i => ws[i]?) = wc.map some) (hR : isR.map (fun i => ws[i]?) = wr.map some) (hnC : va_nd isC = true) (hnR : va_nd isR = true) (hdis : ∀ i ∈ isR, i ∉ isC) (hnp : va_nd pm = true) (hpm : pm.map (fun i => (wr ++ wc)[i]?) = ws2.map some)
    (hn : As.length = n) (hsize : ls.size = nL) (hst : st0 = As.reverse ++ rest) (hW : (rest.map fun v => v.category).sum ≤ 8) (d : decode cc pc = .ok (.invokestatic index, 3)) (hf : cells + 1 ≤ R.cells ∧ slots + 6 ≤ R.slots)
    (kx : ∀ (H1 : Heap) (locs1 : List Loc) (q : Addr) (ce : Cell), va_P D vwCl ws2 H1 → va_D A ws2 → va_S A s.heap H1 locs1 → H1[q]? = some ce → ce.vm = .none → s.vm.findClass EX = some ce.cls → vx_W p l e R s m args below meth c H1 locs1 (cells + 1) (slots + 6) Q (F0 m pc ls rest) q) :
    W p l e R s m args below meth c H locs cells slots Q (F0 m pc ls st0) := by
  have hFc := va_free (wc := wc) hD hS hA isC hC
  refine vx_callv (AX := va_A wc H.size) (vx_runS S hM cw ⟨mPc_blind, mPc_of hK hP hD hS hA hG isC hC hnC⟩ rfl hn hsize hst (lv_room hW) d hf) hS (fun q _ h => hFc q h) hFc (fun q _ h => hFc q h) (fun E ce q9 u t H1 locs1 ht hvm hpx hBX hz hk hS1 hq hvn hcl => ?_) (fun u t H1 locs1 ht hvm hw hB hz hk hS1 => absurd hw id)
  subst hpx
  obtain ⟨rfl, hP1, hK1, hD1⟩ := hBX
  rw [ht] at hP1
  obtain ⟨hP2, hD2⟩ := va_join hP hD isC isR hC hR hnR hdis hk hFc hP1 hD1
  refine kx H1 locs1 q9 ce (hP2.sub pm ?_) (hD2.sub pm hnp hpm) hS1 hq hvn hcl
  have h2 := congrArg (fun x : List (Option (Nat × va_E)) => x.filterMap id) hpm
  simpa [List.filterMap_map, Function.comp_def] using h2
/-- a helper of the law, with a table of its own: it returns an int -/
theorem st_h {y : MethodName} {wsy ws' : List Cond} {rm : Room} {WS W1 : va_W} {sz : Nat} {av : List Value} {lv0 : List (Nat × Value)} {mc ms maxL : Nat} {RV : Int32} {hh : List (Nat × Nat × Nat × Nat)}
    (hy : plainName y.cls = true) (hcl : y.cls = own) (hw : wsy = .codeWith y cc maxL (some .int) hh :: ws') (hlen : (lg_sl av).length ≤ maxL) (hlv : lv_args 0 av = lv0)
    (body : ∀ (p : Program) (e : Env) (s : State) (m : MethodId) (below : List Frame) (meth : Method) (c : Code) (A : Nat → Prop) (Q : State → Prop), CallFix p m c cc maxL s av.toArray wsy own → c.exceptionTable.toList = tableOf hh → (∀ q, s.heap.size ≤ q → A q) → va_K D vwCl tys s → va_P D vwCl WS s.heap → va_D A WS → gS A s s.heap → va_S A s.heap s.heap [] →
      (∀ (H : Heap) (locs : List Loc) (ls : Array Slot) (pc : Nat), decode cc pc = .ok (.ireturn, 1) → va_P D vwCl W1 H → va_D A W1 → va_S A s.heap H locs → W p l e rm s m av.toArray below meth c H locs mc ms Q (F0 m pc ls [.int RV])) →
      ∀ ls : Array Slot, lv_has ls maxL lv0 → W p l e rm s m av.toArray below meth c s.heap [] 0 0 Q (F0 m 0 ls [])) :
    Met l y wsy rm (mPc D tys WS sz av) (va_Qi (fun (r : Int32) (u : va_W) => r = RV ∧ u = W1) (mB D tys (va_A WS sz)) (va_A WS sz)) mc ms (va_A WS sz) := by
  refine va_MetW (cc := cc) (maxL := maxL) (ret := some .int) (hh := hh) hy hw ?_
  intro p e s m args below meth c s₁ B hml hv
  obtain ⟨rfl, rfl, hP, hK, hD0, hG⟩ := hv
  have hts := atoms_spec (ws := wsy) B.pre
  have hown := findClass_of_methodNamed B.named
  rw [hcl] at hown
  have htab := vx_table (x := y) B (hts _ (by rw [hw]; exact List.mem_cons_self))
  have hl := lv_entry av (n := maxL) hlen
  rw [lg_entry_eq]
  rw [hlv] at hl
  refine body p e s m below meth c (va_A WS s.heap.size) _ ⟨B.exec, B.bytes, hml, hown, hts⟩ htab (fun q h => Or.inr h) hK hP hD0.self hG va_S.rf ?_ _ hl
  intro H locs ls pc hd hP1 hD1 hS1
  exact W.iret B.exec B.bytes B.returns (fun t ht hW => ⟨⟨RV, W1, rfl, ⟨rfl, rfl⟩, by rw [ht]; exact hP1, va_K.moved hW.alike hK, hD1⟩, hS1.F ht⟩) hS1.2.2 hd B.notSynchronized
end THROWS
