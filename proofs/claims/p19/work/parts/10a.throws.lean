section THROW1
variable {p : Program} {l : Launch} {e : Env} {R : Room} {s : State} {m : MethodId} {args : Array Value} {below : List Frame} {meth : Method} {c : Code} {H : Heap} {locs : List Loc} {cells slots : Nat} {Q : State → Prop}
variable {mc ms : Nat} {free : Addr → Prop} {A0 A1 : Nat → Prop} {H0 : Heap} {a : Array Value} {ls : Array Slot} {st0 rest : List Value}
variable {Qc : Array Value → State → Outcome → State → Prop} {XC : String → State → State → Prop}
/-- as its sister of the printed names, and it tells that the heap has grown by the new cell -/
theorem vx_throw1 {cc : ByteArray} {pc : Nat} (hexec : p.tables.exec = Jvm.exec) (hb : c.code = cc) (hl : l.stackTraces = false) {own cls : String} {names : List String} {ik ic mc ms : Nat} {A : Nat → Prop}
    (hown : s.vm.findClass own = some m.cls) (hcls : Bundle.fit cls = true) (hnames : ∀ n ∈ names, Bundle.fit n = true)
    (hk : (Cond.classLink own ik cls).before args s = true) (hini : (Cond.initialized cls).before args s = true) (hat : ∀ w ∈ vx_at0 own ic cls names, w.before args s = true)
    (hgood : ∀ w ∈ Cond.classLink own ik cls :: Cond.initialized cls :: vx_at0 own ic cls names, vx_ot w = true)
    (hU : vx_Zq Bundle.tN "UNASSIGNED_STACK" Bundle.steD A s s.heap) (hN : vx_Zq Bundle.tN "SUPPRESSED_SENTINEL" Bundle.listD A s s.heap) (hS : va_S A s.heap H locs) (hsize : ls.size = c.maxLocals)
    (d0 : decode cc pc = .ok (.new ik, 3)) (d3 : decode cc (pc + 3) = .ok (.dup, 1)) (d4 : decode cc (pc + 4) = .ok (.invokespecial ic, 3)) (d7 : decode cc (pc + 7) = .ok (.athrow, 1))
    (hout : ∀ x ∈ c.exceptionTable.toList, covers x (pc + 7) = false)
    (hRframes : names.length + 3 < R.frames) (hRlocals : (rest.map fun v => v.category).sum + (13 * (names.length + 1) + 42) ≤ R.locals) (hRcells : cells + 1 ≤ R.cells) (hRslots : slots + 6 ≤ R.slots) (hlocks : meth.locks = false)
    (hx : ∀ t : State, s.vm.Alike t.vm → H.size + 1 ≤ t.heap.size → (∀ q : Nat, q < H.size → t.heap[q]? = H[q]?) → XC cls s t)
    (hf : ∀ z ∈ locs, free z.base) (hc : cells + 1 ≤ mc) (hs : slots + 6 ≤ ms) :
    W p l e R s m args below meth c H locs cells slots (vx_MQ below Qc XC args s mc ms free) (F0 m pc ls rest) := by
  intro T hT X
  have htr : e.platform.stackTraces = false := (show e.platform.stackTraces = l.stackTraces by rw [X.admits.platform]).trans hl
  have Y := vx_rebase X (R' := { frames := R.frames, locals := R.locals, cells := 1, slots := 6 }) (Nat.le_refl _) (Nat.le_refl _) hRcells hRslots
  obtain ⟨s', hA⟩ : ∃ z, z = (T.setVm s.vm).setFrames (.invoking m args :: below) := ⟨_, rfl⟩
  rw [← hA] at Y
  have hvm : s'.vm = s.vm := by rw [hA]; rfl
  have hhp : s'.heap = H := by rw [hA]; exact hT
  have hW0 : s.WarmedH s'.vm := by rw [hvm]; exact State.WarmedH.refl s
  have hat' : ∀ w ∈ vx_at0 own ic cls names, w.before args s' = true := fun w hw => vx_ot_at hW0 hvm.symm (hgood w (List.mem_cons_of_mem _ (List.mem_cons_of_mem _ hw))) (hat w hw)
  have hk' : (Cond.classLink own ik cls).before args s' = true := vx_ot_at hW0 hvm.symm (hgood _ List.mem_cons_self) hk
  have hini' : (Cond.initialized cls).before args s' = true := vx_ot_at hW0 hvm.symm (hgood _ (List.mem_cons_of_mem _ List.mem_cons_self)) hini
  have hU' : vx_Zq Bundle.tN "UNASSIGNED_STACK" Bundle.steD A s' s'.heap := by rw [hhp]; exact vx_Zq.moved hW0.alike (hU.kept hS.2.1)
  have hN' : vx_Zq Bundle.tN "SUPPRESSED_SENTINEL" Bundle.listD A s' s'.heap := by rw [hhp]; exact vx_Zq.moved hW0.alike (hN.kept hS.2.1)
  have h : ∀ w ∈ Bundle.ownAtoms0 own ic cls names, w.before args s' = true := vx_own hat' (vx_isRefq hU'.1) (vx_isRefq hN'.1) hU'.2.word hN'.2.word
  have hown' : s'.vm.findClass own = some m.cls := by rw [hvm]; exact hown
  have hins : (Cond.instantiable cls 6).before args s' = true := h _ (by simp [Bundle.ownAtoms0])
  obtain ⟨vm₁, cX, kX, hfX, hkX, -, -, X₁, st1⟩ := Y.newCold hexec (own := own) (C := cls) (index := ik) (n := 6) hown' hk' hins hini'
    (g := F0 m pc ls rest) rfl (by rw [hb]; exact d0) (Nat.le_refl _) (Nat.le_refl _)
  generalize hT1 : (T.setVm vm₁).pushCell { cls := cX, slots := kX.instanceTypes.map defaultValue, vm := .none } = T1 at X₁ st1
  have hcat : (Value.ref T.heap.size).category = 1 := rfl
  have hcellA : T1.heap[T.heap.size]? = some (freshCell cX kX) := by rw [← hT1]; exact State.heap_pushCell_size _ _
  have d3' : decode c.code (pc + 3) = .ok (.dup, 1) := by rw [hb]; exact d3
  obtain ⟨U, hsteps, hrun, hend, hW, hsame, ce, hce, hO⟩ := X₁.ctorThrow0 hexec htr (own := own) (cls := cls) (names := names) (ic := ic) hown' hcls hnames h (fun x hx => nomatch hx) hfX hkX hcellA (by rw [hhp, hT]; exact Nat.le_refl _)
    (g := { method := m, pc := pc + 4, locals := ls, stack := .ref T.heap.size :: .ref T.heap.size :: rest, locked := none }) rfl hsize rfl rfl (rest := rest) rfl
    (by rw [hb]; exact d4) (by rw [hb]; exact d7) hout hRframes (by simp only [List.map_cons, List.sum_cons, hcat]; omega) hlocks
  obtain ⟨f1, f2⟩ := vx_frame hsame
  rw [hhp] at f1 f2
  have hWs : s.WarmedH U.vm := State.WarmedH.trans hW0 hW
  have hcl : s.vm.findClass cls = some ce.cls := by
    have h9 := hO.cls
    rw [hvm] at h9
    exact h9
  have hall : s.sameButNew ({ U with vm := s.vm } : State) locs mc ms := by
    subst hA
    obtain ⟨e1, e2⟩ := hsame
    rw [State.setFrames_setFrames] at e1
    have h2 : (T.setVm s.vm).sameButNew ({ U with vm := s.vm } : State) [] (0 + 1) (0 + 6) := ⟨e1, e2⟩
    have h3 := X.same.trans h2
    rw [List.append_nil] at h3
    exact h3.mono hc hs
  refine ⟨U, ?_, .threw T.heap.size, hrun, hend, Or.inr ⟨T.heap.size, rfl, cls, ce, locs, hx U hWs.alike (by have h9 := (Array.getElem?_eq_some_iff.mp hce).1; rw [hT] at h9; exact h9) (fun q hq => f2 q hq (fun z hz => nomatch hz)), hce, hO.vm, hcl, hWs, hall, hf⟩⟩
  refine st1 _ ?_
  show Steps p.tables e below (T1.setTop { method := m, pc := pc + 3, locals := ls, stack := .ref T.heap.size :: rest, locked := none }) _
  jvm_step X₁.here [X₁.here.top, hexec, d3', Value.category]
  exact hsteps
end THROW1
section THROWS
variable {p : Program} {l : Launch} {e : Env} {R : Room} {s : State} {m : MethodId} {args : Array Value} {below : List Frame} {meth : Method} {c : Code} {H : Heap} {locs : List Loc} {cells slots : Nat} {Q : State → Prop} {cc : ByteArray} {pc : Nat} {ls : Array Slot} {rest : List Value} {nL : Nat} {Ts : List Cond} {own : String} {D : va_G} {ws ws2 : va_W} {tys : List (ClassId × FieldType)} {A : Nat → Prop} {n : Nat}
def exN : List String := ["java/lang/RuntimeException", "java/lang/Exception"]
/-- what holds where a method has thrown: the world as it was -/
def mX (D : va_G) (tys : List (ClassId × FieldType)) (EX : String) (ws : va_W) (sz : Nat) : String → State → State → Prop := vx_X (fun u : va_W => u = ws) (fun E u t => E = EX ∧ mB D tys (va_A ws sz) u t ∧ sz + 1 ≤ t.heap.size) (va_A ws sz)
theorem exN_fit : ∀ n ∈ exN, Bundle.fit n = true := by decide +kernel
theorem st_t {y : MethodName} {wsy ws' : List Cond} {rm : Room} {WS : va_W} {sz : Nat} {av : List Value} {lv0 : List (Nat × Value)} {maxL : Nat} {ret : Option FieldType} {EX : String} {Qc : Array Value → State → Outcome → State → Prop} (hlt : l.stackTraces = false)
    (hy : plainName y.cls = true) (hcl : y.cls = own) (hw : wsy = .code y cc maxL ret :: ws') (hlen : (lg_sl av).length ≤ maxL) (hlv : lv_args 0 av = lv0) (hfit : Bundle.fit EX = true) (hrf : 5 < rm.frames) (hrl : 100 ≤ rm.locals) (hrc : rm.cells = 1) (hrs : rm.slots = 6)
    (body : ∀ (p : Program) (e : Env) (s : State) (m : MethodId) (below : List Frame) (meth : Method) (c : Code) (A : Nat → Prop) (Q : State → Prop), CallFix p m c cc maxL s av.toArray wsy own → (∀ q, s.heap.size ≤ q → A q) → va_K D vwCl tys s → va_P D vwCl WS s.heap → va_D A WS → gS A s s.heap → va_S A s.heap s.heap [] →
      (∀ (H : Heap) (locs : List Loc) (ls : Array Slot) (pc : Nat) (rest : List Value) (ik ic : Nat), decode cc pc = .ok (.new ik, 3) → decode cc (pc + 3) = .ok (.dup, 1) → decode cc (pc + 4) = .ok (.invokespecial ic, 3) → decode cc (pc + 7) = .ok (.athrow, 1) → (Cond.classLink own ik EX).before av.toArray s = true → (Cond.initialized EX).before av.toArray s = true → (∀ w ∈ (vx_at0 own ic EX exN).filter goodWord, w.before av.toArray s = true) → (∀ w ∈ (vx_at0 own ic EX exN).filter (fun w => !goodWord w), w ∈ [Cond.castable EX EX, .declares (Bundle.init0 "java/lang/RuntimeException"), .declares (Bundle.init0 "java/lang/Exception"), .declares (Bundle.init0 Bundle.tN)]) → va_Nw (.castable EX EX) s → (vx_at0 own ic EX exN).all vx_ot = true → vx_ot (Cond.classLink own ik EX) = true → vx_ot (Cond.initialized EX) = true → va_P D vwCl WS H → va_D A WS → va_S A s.heap H locs → ls.size = maxL → (rest.map fun v => v.category).sum ≤ 8 → W p l e rm s m av.toArray below meth c H locs 0 0 Q (F0 m pc ls rest)) →
      (∀ (H : Heap) (locs : List Loc) (ls : Array Slot) (pc : Nat) (rest : List Value) (q : Addr) (ce : Cell) (cells slots : Nat), va_P D vwCl WS H → va_D A WS → va_S A s.heap H locs → H[q]? = some ce → ce.vm = .none → s.vm.findClass EX = some ce.cls → s.heap.size + 1 ≤ H.size → cells ≤ 1 → slots ≤ 6 → vx_W p l e rm s m av.toArray below meth c H locs cells slots Q (F0 m pc ls rest) q) →
      ∀ ls : Array Slot, lv_has ls maxL lv0 → W p l e rm s m av.toArray below meth c s.heap [] 0 0 Q (F0 m 0 ls [])) :
    vx_Met l y wsy rm (mPc D tys WS sz av) Qc (mX D tys EX WS sz) 1 6 (va_A WS sz) := by
  refine vx_ofW (cc := cc) (maxL := maxL) (ret := ret) hy hw ?_
  intro p e s m args below meth c s₁ B hml hno hv
  obtain ⟨rfl, rfl, hP, hK, hD0, hG⟩ := hv
  have hts := atoms_spec (ws := wsy) B.pre
  have hown := findClass_of_methodNamed B.named
  rw [hcl] at hown
  have hl := lv_entry av (n := maxL) hlen
  rw [lg_entry_eq]
  rw [hlv] at hl
  refine body p e s m below meth c (va_A WS s.heap.size) _ ⟨B.exec, B.bytes, hml, hown, hts⟩ (fun q h => Or.inr h) hK hP hD0.self hG va_S.rf ?_ ?_ _ hl
  · intro H locs ls pc rest ik ic d0 d3 d4 d7 hk hini hat hat2 hcas hall ho1 ho2 hP1 hD1 hS1 hsz hrest
    have hgoodall := List.all_eq_true.mp hall
    refine vx_throw1 (names := exN) (ik := ik) (ic := ic) (A := va_A WS s.heap.size) (cls := EX) B.exec B.bytes hlt hown hfit exN_fit hk hini (vx_hat hat hat2 (vx_c (va_Nw.use rfl hcas) (vx_c (va_Nw.use rfl hG.2.2.2.2.2.2.2.2.2.2.2.2.2.1) (vx_c (va_Nw.use rfl hG.2.2.2.2.2.2.2.2.2.2.2.2.2.2.1) (vx_c (va_Nw.use rfl hG.2.2.2.2.2.2.2.2.2.2.2.2.2.2.2) vx_n))))) (fun w hw => ?_) hG.1.2.2.1 hG.1.2.2.2 hS1 (hsz.trans hml.symm) d0 d3 d4 d7 (fun x hx => absurd hx (hno x)) (by show 2 + 3 < rm.frames; omega) (by show _ + (13 * (2 + 1) + 42) ≤ rm.locals; omega) (by show 0 + 1 ≤ rm.cells; omega) (by show 0 + 6 ≤ rm.slots; omega) B.notSynchronized (fun t hvm hz hq => ?_) hS1.2.2 (Nat.le_refl 1) (Nat.le_refl 6)
    · rcases List.mem_cons.mp hw with rfl | hw
      · exact ho1
      · rcases List.mem_cons.mp hw with rfl | hw
        · exact ho2
        · exact hgoodall w hw
    · refine ⟨WS, rfl, ⟨rfl, ⟨fun k q hk => (hP1 k q hk).kept (hq q.1 (vx_lt hP1 hk)), va_K.moved hvm hK, hD1⟩, Nat.le_trans (Nat.succ_le_succ hS1.1) hz⟩, Nat.le_trans hS1.1 (Nat.le_of_succ_le hz), fun q h1 h2 => ?_⟩
      rw [hq q (Nat.lt_of_lt_of_le h1 hS1.1)]
      exact hS1.2.1 q h1 h2
  · intro H locs ls pc rest q ce cells slots hP1 hD1 hS1 hq hvn hcl2 hg9 hc9 hs9
    refine vx_out (E := EX) (fun x hx => absurd hx (hno x)) B.notSynchronized hq hvn hcl2 (fun t ht hvm => ?_) hS1.2.2 hc9 hs9
    exact ⟨WS, rfl, ⟨rfl, ⟨by rw [ht]; exact hP1, va_K.moved hvm hK, hD1⟩, by rw [ht]; exact hg9⟩, hS1.F ht⟩

theorem kxV_i (S : CallFix p m c cc nL s args Ts own) {y : MethodName} {wsy : List Cond} {rm : Room} {index maxL : Nat} {ret : Option FieldType} {bytes : ByteArray} {wc wr : va_W} {As st0 : List Value} {EX : String} {b ci q0 : Nat} {C : String} {T : u_T} {N : Nat} {fs : List Value} 
    (hM : vx_Met l y wsy rm (mPc D tys wc H.size (.ref b :: As)) (va_Qi (fun (r : Int32) (u : va_W) => False) (mB D tys (va_A wc H.size)) (va_A wc H.size)) (mX D tys EX wc H.size) 1 6 (va_A wc H.size)) (cw : CallW R s args own C index y bytes maxL ret wsy rm 1 6 n)
    (hK : va_K D vwCl tys s) (hP : va_P D vwCl ws H) (hD : va_D A ws) (hS : va_S A s.heap H locs) (hA : ∀ q, s.heap.size ≤ q → A q) (hG : gS A s s.heap)
    (isC isR pm : List Nat) (hC : isC.map (fun i => ws[i]?) = wc.map some) (hR : isR.map (fun i => ws[i]?) = wr.map some) (hnC : va_nd isC = true) (hnR : va_nd isR = true) (hdis : ∀ i ∈ isR, i ∉ isC) (hnp : va_nd pm = true) (hpm : pm.map (fun i => (wr ++ wc)[i]?) = ws2.map some)
    (hc : vwCl[ci]? = some (C, T, N)) (he : ws[q0]? = some (b, .inr (ci, fs))) (hn : As.length = n) (hsize : ls.size = nL) (hst : st0 = As.reverse ++ .ref b :: rest) (hW : (rest.map fun v => v.category).sum ≤ 8) (d : decode cc pc = .ok (.invokevirtual index, 3)) (hf : cells + 1 ≤ R.cells ∧ slots + 6 ≤ R.slots)
    (kx : ∀ (H1 : Heap) (locs1 : List Loc) (q : Addr) (ce : Cell), va_P D vwCl ws2 H1 → va_D A ws2 → va_S A s.heap H1 locs1 → H1[q]? = some ce → ce.vm = .none → s.vm.findClass EX = some ce.cls → s.heap.size + 1 ≤ H1.size → vx_W p l e R s m args below meth c H1 locs1 (cells + 1) (slots + 6) Q (F0 m pc ls rest) q) :
    W p l e R s m args below meth c H locs cells slots Q (F0 m pc ls st0) := by
  have hFc := va_free (wc := wc) hD hS hA isC hC
  refine vx_calli (AX := va_A wc H.size) (vx_runV S hM cw ⟨mPc_blind, va_recv hK hP hc he, mPc_of hK hP hD hS hA hG isC hC hnC⟩ rfl hn hsize hst (lv_room hW) d hf) hS (fun q _ h => hFc q h) hFc (fun q _ h => hFc q h) (fun E ce q9 u t H1 locs1 ht hvm hpx hBX hz hk hS1 hq hvn hcl => ?_) (fun r u t H1 locs1 ht hvm hw hB hz hk hS1 => absurd hw id)
  subst hpx
  obtain ⟨rfl, ⟨hP1, hK1, hD1⟩, hg1⟩ := hBX
  rw [ht] at hP1 hg1
  obtain ⟨hP2, hD2⟩ := va_join hP hD isC isR hC hR hnR hdis hk hFc hP1 hD1
  refine kx H1 locs1 q9 ce (hP2.sub pm ?_) (hD2.sub pm hnp hpm) hS1 hq hvn hcl (Nat.le_trans (Nat.succ_le_succ hS.1) hg1)
  have h2 := congrArg (fun x : List (Option (Nat × va_E)) => x.filterMap id) hpm
  simpa [List.filterMap_map, Function.comp_def] using h2
theorem kxV_l (S : CallFix p m c cc nL s args Ts own) {y : MethodName} {wsy : List Cond} {rm : Room} {index maxL : Nat} {ret : Option FieldType} {bytes : ByteArray} {wc wr : va_W} {As st0 : List Value} {EX : String} {b ci q0 : Nat} {C : String} {T : u_T} {N : Nat} {fs : List Value} 
    (hM : vx_Met l y wsy rm (mPc D tys wc H.size (.ref b :: As)) (va_Ql (fun (r : Int64) (u : va_W) => False) (mB D tys (va_A wc H.size)) (va_A wc H.size)) (mX D tys EX wc H.size) 1 6 (va_A wc H.size)) (cw : CallW R s args own C index y bytes maxL ret wsy rm 1 6 n)
    (hK : va_K D vwCl tys s) (hP : va_P D vwCl ws H) (hD : va_D A ws) (hS : va_S A s.heap H locs) (hA : ∀ q, s.heap.size ≤ q → A q) (hG : gS A s s.heap)
    (isC isR pm : List Nat) (hC : isC.map (fun i => ws[i]?) = wc.map some) (hR : isR.map (fun i => ws[i]?) = wr.map some) (hnC : va_nd isC = true) (hnR : va_nd isR = true) (hdis : ∀ i ∈ isR, i ∉ isC) (hnp : va_nd pm = true) (hpm : pm.map (fun i => (wr ++ wc)[i]?) = ws2.map some)
    (hc : vwCl[ci]? = some (C, T, N)) (he : ws[q0]? = some (b, .inr (ci, fs))) (hn : As.length = n) (hsize : ls.size = nL) (hst : st0 = As.reverse ++ .ref b :: rest) (hW : (rest.map fun v => v.category).sum ≤ 8) (d : decode cc pc = .ok (.invokevirtual index, 3)) (hf : cells + 1 ≤ R.cells ∧ slots + 6 ≤ R.slots)
    (kx : ∀ (H1 : Heap) (locs1 : List Loc) (q : Addr) (ce : Cell), va_P D vwCl ws2 H1 → va_D A ws2 → va_S A s.heap H1 locs1 → H1[q]? = some ce → ce.vm = .none → s.vm.findClass EX = some ce.cls → s.heap.size + 1 ≤ H1.size → vx_W p l e R s m args below meth c H1 locs1 (cells + 1) (slots + 6) Q (F0 m pc ls rest) q) :
    W p l e R s m args below meth c H locs cells slots Q (F0 m pc ls st0) := by
  have hFc := va_free (wc := wc) hD hS hA isC hC
  refine vx_calll (AX := va_A wc H.size) (vx_runV S hM cw ⟨mPc_blind, va_recv hK hP hc he, mPc_of hK hP hD hS hA hG isC hC hnC⟩ rfl hn hsize hst (lv_room hW) d hf) hS (fun q _ h => hFc q h) hFc (fun q _ h => hFc q h) (fun E ce q9 u t H1 locs1 ht hvm hpx hBX hz hk hS1 hq hvn hcl => ?_) (fun r u t H1 locs1 ht hvm hw hB hz hk hS1 => absurd hw id)
  subst hpx
  obtain ⟨rfl, ⟨hP1, hK1, hD1⟩, hg1⟩ := hBX
  rw [ht] at hP1 hg1
  obtain ⟨hP2, hD2⟩ := va_join hP hD isC isR hC hR hnR hdis hk hFc hP1 hD1
  refine kx H1 locs1 q9 ce (hP2.sub pm ?_) (hD2.sub pm hnp hpm) hS1 hq hvn hcl (Nat.le_trans (Nat.succ_le_succ hS.1) hg1)
  have h2 := congrArg (fun x : List (Option (Nat × va_E)) => x.filterMap id) hpm
  simpa [List.filterMap_map, Function.comp_def] using h2
theorem kxV_v (S : CallFix p m c cc nL s args Ts own) {y : MethodName} {wsy : List Cond} {rm : Room} {index maxL : Nat} {ret : Option FieldType} {bytes : ByteArray} {wc wr : va_W} {As st0 : List Value} {EX : String} {b ci q0 : Nat} {C : String} {T : u_T} {N : Nat} {fs : List Value} 
    (hM : vx_Met l y wsy rm (mPc D tys wc H.size (.ref b :: As)) (va_Qv (fun (u : va_W) => False) (mB D tys (va_A wc H.size)) (va_A wc H.size)) (mX D tys EX wc H.size) 1 6 (va_A wc H.size)) (cw : CallW R s args own C index y bytes maxL ret wsy rm 1 6 n)
    (hK : va_K D vwCl tys s) (hP : va_P D vwCl ws H) (hD : va_D A ws) (hS : va_S A s.heap H locs) (hA : ∀ q, s.heap.size ≤ q → A q) (hG : gS A s s.heap)
    (isC isR pm : List Nat) (hC : isC.map (fun i => ws[i]?) = wc.map some) (hR : isR.map (fun i => ws[i]?) = wr.map some) (hnC : va_nd isC = true) (hnR : va_nd isR = true) (hdis : ∀ i ∈ isR, i ∉ isC) (hnp : va_nd pm = true) (hpm : pm.map (fun i => (wr ++ wc)[i]?) = ws2.map some)
    (hc : vwCl[ci]? = some (C, T, N)) (he : ws[q0]? = some (b, .inr (ci, fs))) (hn : As.length = n) (hsize : ls.size = nL) (hst : st0 = As.reverse ++ .ref b :: rest) (hW : (rest.map fun v => v.category).sum ≤ 8) (d : decode cc pc = .ok (.invokevirtual index, 3)) (hf : cells + 1 ≤ R.cells ∧ slots + 6 ≤ R.slots)
    (kx : ∀ (H1 : Heap) (locs1 : List Loc) (q : Addr) (ce : Cell), va_P D vwCl ws2 H1 → va_D A ws2 → va_S A s.heap H1 locs1 → H1[q]? = some ce → ce.vm = .none → s.vm.findClass EX = some ce.cls → s.heap.size + 1 ≤ H1.size → vx_W p l e R s m args below meth c H1 locs1 (cells + 1) (slots + 6) Q (F0 m pc ls rest) q) :
    W p l e R s m args below meth c H locs cells slots Q (F0 m pc ls st0) := by
  have hFc := va_free (wc := wc) hD hS hA isC hC
  refine vx_callv (AX := va_A wc H.size) (vx_runV S hM cw ⟨mPc_blind, va_recv hK hP hc he, mPc_of hK hP hD hS hA hG isC hC hnC⟩ rfl hn hsize hst (lv_room hW) d hf) hS (fun q _ h => hFc q h) hFc (fun q _ h => hFc q h) (fun E ce q9 u t H1 locs1 ht hvm hpx hBX hz hk hS1 hq hvn hcl => ?_) (fun u t H1 locs1 ht hvm hw hB hz hk hS1 => absurd hw id)
  subst hpx
  obtain ⟨rfl, ⟨hP1, hK1, hD1⟩, hg1⟩ := hBX
  rw [ht] at hP1 hg1
  obtain ⟨hP2, hD2⟩ := va_join hP hD isC isR hC hR hnR hdis hk hFc hP1 hD1
  refine kx H1 locs1 q9 ce (hP2.sub pm ?_) (hD2.sub pm hnp hpm) hS1 hq hvn hcl (Nat.le_trans (Nat.succ_le_succ hS.1) hg1)
  have h2 := congrArg (fun x : List (Option (Nat × va_E)) => x.filterMap id) hpm
  simpa [List.filterMap_map, Function.comp_def] using h2
theorem kxS_i (S : CallFix p m c cc nL s args Ts own) {y : MethodName} {wsy : List Cond} {rm : Room} {index maxL : Nat} {ret : Option FieldType} {bytes : ByteArray} {wc wr : va_W} {As st0 : List Value} {EX : String} 
    (hM : vx_Met l y wsy rm (mPc D tys wc H.size As) (va_Qi (fun (r : Int32) (u : va_W) => False) (mB D tys (va_A wc H.size)) (va_A wc H.size)) (mX D tys EX wc H.size) 1 6 (va_A wc H.size)) (cw : CallB R s args own index y bytes maxL ret wsy rm 1 6 n ∧ (Cond.static y).before args s = true)
    (hK : va_K D vwCl tys s) (hP : va_P D vwCl ws H) (hD : va_D A ws) (hS : va_S A s.heap H locs) (hA : ∀ q, s.heap.size ≤ q → A q) (hG : gS A s s.heap)
    (isC isR pm : List Nat) (hC : isC.map (fun i => ws[i]?) = wc.map some) (hR : isR.map (fun i => ws[i]?) = wr.map some) (hnC : va_nd isC = true) (hnR : va_nd isR = true) (hdis : ∀ i ∈ isR, i ∉ isC) (hnp : va_nd pm = true) (hpm : pm.map (fun i => (wr ++ wc)[i]?) = ws2.map some)
    (hn : As.length = n) (hsize : ls.size = nL) (hst : st0 = As.reverse ++ rest) (hW : (rest.map fun v => v.category).sum ≤ 8) (d : decode cc pc = .ok (.invokestatic index, 3)) (hf : cells + 1 ≤ R.cells ∧ slots + 6 ≤ R.slots)
    (kx : ∀ (H1 : Heap) (locs1 : List Loc) (q : Addr) (ce : Cell), va_P D vwCl ws2 H1 → va_D A ws2 → va_S A s.heap H1 locs1 → H1[q]? = some ce → ce.vm = .none → s.vm.findClass EX = some ce.cls → s.heap.size + 1 ≤ H1.size → vx_W p l e R s m args below meth c H1 locs1 (cells + 1) (slots + 6) Q (F0 m pc ls rest) q) :
    W p l e R s m args below meth c H locs cells slots Q (F0 m pc ls st0) := by
  have hFc := va_free (wc := wc) hD hS hA isC hC
  refine vx_calli (AX := va_A wc H.size) (vx_runS S hM cw ⟨mPc_blind, mPc_of hK hP hD hS hA hG isC hC hnC⟩ rfl hn hsize hst (lv_room hW) d hf) hS (fun q _ h => hFc q h) hFc (fun q _ h => hFc q h) (fun E ce q9 u t H1 locs1 ht hvm hpx hBX hz hk hS1 hq hvn hcl => ?_) (fun r u t H1 locs1 ht hvm hw hB hz hk hS1 => absurd hw id)
  subst hpx
  obtain ⟨rfl, ⟨hP1, hK1, hD1⟩, hg1⟩ := hBX
  rw [ht] at hP1 hg1
  obtain ⟨hP2, hD2⟩ := va_join hP hD isC isR hC hR hnR hdis hk hFc hP1 hD1
  refine kx H1 locs1 q9 ce (hP2.sub pm ?_) (hD2.sub pm hnp hpm) hS1 hq hvn hcl (Nat.le_trans (Nat.succ_le_succ hS.1) hg1)
  have h2 := congrArg (fun x : List (Option (Nat × va_E)) => x.filterMap id) hpm
  simpa [List.filterMap_map, Function.comp_def] using h2
theorem kxS_l (S : CallFix p m c cc nL s args Ts own) {y : MethodName} {wsy : List Cond} {rm : Room} {index maxL : Nat} {ret : Option FieldType} {bytes : ByteArray} {wc wr : va_W} {As st0 : List Value} {EX : String} 
    (hM : vx_Met l y wsy rm (mPc D tys wc H.size As) (va_Ql (fun (r : Int64) (u : va_W) => False) (mB D tys (va_A wc H.size)) (va_A wc H.size)) (mX D tys EX wc H.size) 1 6 (va_A wc H.size)) (cw : CallB R s args own index y bytes maxL ret wsy rm 1 6 n ∧ (Cond.static y).before args s = true)
    (hK : va_K D vwCl tys s) (hP : va_P D vwCl ws H) (hD : va_D A ws) (hS : va_S A s.heap H locs) (hA : ∀ q, s.heap.size ≤ q → A q) (hG : gS A s s.heap)
    (isC isR pm : List Nat) (hC : isC.map (fun i => ws[i]?) = wc.map some) (hR : isR.map (fun i => ws[i]?) = wr.map some) (hnC : va_nd isC = true) (hnR : va_nd isR = true) (hdis : ∀ i ∈ isR, i ∉ isC) (hnp : va_nd pm = true) (hpm : pm.map (fun i => (wr ++ wc)[i]?) = ws2.map some)
    (hn : As.length = n) (hsize : ls.size = nL) (hst : st0 = As.reverse ++ rest) (hW : (rest.map fun v => v.category).sum ≤ 8) (d : decode cc pc = .ok (.invokestatic index, 3)) (hf : cells + 1 ≤ R.cells ∧ slots + 6 ≤ R.slots)
    (kx : ∀ (H1 : Heap) (locs1 : List Loc) (q : Addr) (ce : Cell), va_P D vwCl ws2 H1 → va_D A ws2 → va_S A s.heap H1 locs1 → H1[q]? = some ce → ce.vm = .none → s.vm.findClass EX = some ce.cls → s.heap.size + 1 ≤ H1.size → vx_W p l e R s m args below meth c H1 locs1 (cells + 1) (slots + 6) Q (F0 m pc ls rest) q) :
    W p l e R s m args below meth c H locs cells slots Q (F0 m pc ls st0) := by
  have hFc := va_free (wc := wc) hD hS hA isC hC
  refine vx_calll (AX := va_A wc H.size) (vx_runS S hM cw ⟨mPc_blind, mPc_of hK hP hD hS hA hG isC hC hnC⟩ rfl hn hsize hst (lv_room hW) d hf) hS (fun q _ h => hFc q h) hFc (fun q _ h => hFc q h) (fun E ce q9 u t H1 locs1 ht hvm hpx hBX hz hk hS1 hq hvn hcl => ?_) (fun r u t H1 locs1 ht hvm hw hB hz hk hS1 => absurd hw id)
  subst hpx
  obtain ⟨rfl, ⟨hP1, hK1, hD1⟩, hg1⟩ := hBX
  rw [ht] at hP1 hg1
  obtain ⟨hP2, hD2⟩ := va_join hP hD isC isR hC hR hnR hdis hk hFc hP1 hD1
  refine kx H1 locs1 q9 ce (hP2.sub pm ?_) (hD2.sub pm hnp hpm) hS1 hq hvn hcl (Nat.le_trans (Nat.succ_le_succ hS.1) hg1)
  have h2 := congrArg (fun x : List (Option (Nat × va_E)) => x.filterMap id) hpm
  simpa [List.filterMap_map, Function.comp_def] using h2
theorem kxS_v (S : CallFix p m c cc nL s args Ts own) {y : MethodName} {wsy : List Cond} {rm : Room} {index maxL : Nat} {ret : Option FieldType} {bytes : ByteArray} {wc wr : va_W} {As st0 : List Value} {EX : String} 
    (hM : vx_Met l y wsy rm (mPc D tys wc H.size As) (va_Qv (fun (u : va_W) => False) (mB D tys (va_A wc H.size)) (va_A wc H.size)) (mX D tys EX wc H.size) 1 6 (va_A wc H.size)) (cw : CallB R s args own index y bytes maxL ret wsy rm 1 6 n ∧ (Cond.static y).before args s = true)
    (hK : va_K D vwCl tys s) (hP : va_P D vwCl ws H) (hD : va_D A ws) (hS : va_S A s.heap H locs) (hA : ∀ q, s.heap.size ≤ q → A q) (hG : gS A s s.heap)
    (isC isR pm : List Nat) (hC : isC.map (fun i => ws[i]?) = wc.map some) (hR : isR.map (fun i => ws[i]?) = wr.map some) (hnC : va_nd isC = true) (hnR : va_nd isR = true) (hdis : ∀ i ∈ isR, i ∉ isC) (hnp : va_nd pm = true) (hpm : pm.map (fun i => (wr ++ wc)[i]?) = ws2.map some)
    (hn : As.length = n) (hsize : ls.size = nL) (hst : st0 = As.reverse ++ rest) (hW : (rest.map fun v => v.category).sum ≤ 8) (d : decode cc pc = .ok (.invokestatic index, 3)) (hf : cells + 1 ≤ R.cells ∧ slots + 6 ≤ R.slots)
    (kx : ∀ (H1 : Heap) (locs1 : List Loc) (q : Addr) (ce : Cell), va_P D vwCl ws2 H1 → va_D A ws2 → va_S A s.heap H1 locs1 → H1[q]? = some ce → ce.vm = .none → s.vm.findClass EX = some ce.cls → s.heap.size + 1 ≤ H1.size → vx_W p l e R s m args below meth c H1 locs1 (cells + 1) (slots + 6) Q (F0 m pc ls rest) q) :
    W p l e R s m args below meth c H locs cells slots Q (F0 m pc ls st0) := by
  have hFc := va_free (wc := wc) hD hS hA isC hC
  refine vx_callv (AX := va_A wc H.size) (vx_runS S hM cw ⟨mPc_blind, mPc_of hK hP hD hS hA hG isC hC hnC⟩ rfl hn hsize hst (lv_room hW) d hf) hS (fun q _ h => hFc q h) hFc (fun q _ h => hFc q h) (fun E ce q9 u t H1 locs1 ht hvm hpx hBX hz hk hS1 hq hvn hcl => ?_) (fun u t H1 locs1 ht hvm hw hB hz hk hS1 => absurd hw id)
  subst hpx
  obtain ⟨rfl, ⟨hP1, hK1, hD1⟩, hg1⟩ := hBX
  rw [ht] at hP1 hg1
  obtain ⟨hP2, hD2⟩ := va_join hP hD isC isR hC hR hnR hdis hk hFc hP1 hD1
  refine kx H1 locs1 q9 ce (hP2.sub pm ?_) (hD2.sub pm hnp hpm) hS1 hq hvn hcl (Nat.le_trans (Nat.succ_le_succ hS.1) hg1)
  have h2 := congrArg (fun x : List (Option (Nat × va_E)) => x.filterMap id) hpm
  simpa [List.filterMap_map, Function.comp_def] using h2
/-- the world as it was, and so many cells more -/
def mG (D : va_G) (tys : List (ClassId × FieldType)) (ws : va_W) (sz g : Nat) : va_W → State → Prop := fun u t => mB D tys (va_A ws sz) u t ∧ sz + g ≤ t.heap.size
theorem st_hl {y : MethodName} {wsy ws' : List Cond} {rm : Room} {WS : va_W} {sz g : Nat} {av : List Value} {lv0 : List (Nat × Value)} {mc ms maxL : Nat} {RV : Int64} {hh : List (Nat × Nat × Nat × Nat)}
    (hy : plainName y.cls = true) (hcl : y.cls = own) (hw : wsy = .codeWith y cc maxL (some .long) hh :: ws') (hlen : (lg_sl av).length ≤ maxL) (hlv : lv_args 0 av = lv0)
    (body : ∀ (p : Program) (e : Env) (s : State) (m : MethodId) (below : List Frame) (meth : Method) (c : Code) (A : Nat → Prop) (Q : State → Prop), CallFix p m c cc maxL s av.toArray wsy own → c.exceptionTable.toList = tableOf hh → (∀ q, s.heap.size ≤ q → A q) → va_K D vwCl tys s → va_P D vwCl WS s.heap → va_D A WS → gS A s s.heap → va_S A s.heap s.heap [] →
      (∀ (H : Heap) (locs : List Loc) (ls : Array Slot) (pc : Nat), decode cc pc = .ok (.lreturn, 1) → va_P D vwCl WS H → va_D A WS → va_S A s.heap H locs → s.heap.size + g ≤ H.size → W p l e rm s m av.toArray below meth c H locs mc ms Q (F0 m pc ls [.long RV])) →
      ∀ ls : Array Slot, lv_has ls maxL lv0 → W p l e rm s m av.toArray below meth c s.heap [] 0 0 Q (F0 m 0 ls [])) :
    Met l y wsy rm (mPc D tys WS sz av) (va_Ql (fun (r : Int64) (u : va_W) => r = RV ∧ u = WS) (mG D tys WS sz g) (va_A WS sz)) mc ms (va_A WS sz) := by
  refine va_MetW (cc := cc) (maxL := maxL) (ret := some .long) (hh := hh) hy hw ?_
  intro p e s m args below meth c s₁ B hml hv
  obtain ⟨rfl, rfl, hP, hK, hD0, hG⟩ := hv
  have hts := atoms_spec (ws := wsy) B.pre
  have hown := findClass_of_methodNamed B.named
  rw [hcl] at hown
  have htab := vx_table (x := y) B (hts _ (by rw [hw]; exact List.mem_cons_self))
  have hl := lv_entry av (n := maxL) hlen
  rw [lg_entry_eq]
  rw [hlv] at hl
  refine body p e s m below meth c (va_A WS s.heap.size) _ ⟨B.exec, B.bytes, hml, hown, hts⟩ htab (fun q h => Or.inr h) hK hP hD0.self hG va_S.rf ?_ _ hl
  intro H locs ls pc hd hP1 hD1 hS1 hg1
  exact W.lret B.exec B.bytes B.returns (fun t ht hW => ⟨⟨RV, WS, rfl, ⟨rfl, rfl⟩, ⟨by rw [ht]; exact hP1, va_K.moved hW.alike hK, hD1⟩, by rw [ht]; exact hg1⟩, hS1.F ht⟩) hS1.2.2 hd B.notSynchronized
theorem st_pl {y : MethodName} {wsy ws' : List Cond} {rm : Room} {WS : va_W} {sz g : Nat} {av : List Value} {lv0 : List (Nat × Value)} {mc ms maxL : Nat} {RV : Int64} 
    (hy : plainName y.cls = true) (hcl : y.cls = own) (hw : wsy = .code y cc maxL (some .long) :: ws') (hlen : (lg_sl av).length ≤ maxL) (hlv : lv_args 0 av = lv0)
    (body : ∀ (p : Program) (e : Env) (s : State) (m : MethodId) (below : List Frame) (meth : Method) (c : Code) (A : Nat → Prop) (Q : State → Prop), CallFix p m c cc maxL s av.toArray wsy own → (∀ q, s.heap.size ≤ q → A q) → va_K D vwCl tys s → va_P D vwCl WS s.heap → va_D A WS → gS A s s.heap → va_S A s.heap s.heap [] →
      (∀ (H : Heap) (locs : List Loc) (ls : Array Slot) (pc : Nat), decode cc pc = .ok (.lreturn, 1) → va_P D vwCl WS H → va_D A WS → va_S A s.heap H locs → s.heap.size + g ≤ H.size → W p l e rm s m av.toArray below meth c H locs mc ms Q (F0 m pc ls [.long RV])) →
      ∀ ls : Array Slot, lv_has ls maxL lv0 → W p l e rm s m av.toArray below meth c s.heap [] 0 0 Q (F0 m 0 ls [])) :
    Met l y wsy rm (mPc D tys WS sz av) (va_Ql (fun (r : Int64) (u : va_W) => r = RV ∧ u = WS) (mG D tys WS sz g) (va_A WS sz)) mc ms (va_A WS sz) := by
  refine Met.ofW (cc := cc) (maxL := maxL) (ret := some .long) hy hw ?_
  intro p e s m args below meth c s₁ B hml hv
  obtain ⟨rfl, rfl, hP, hK, hD0, hG⟩ := hv
  have hts := atoms_spec (ws := wsy) B.pre
  have hown := findClass_of_methodNamed B.named
  rw [hcl] at hown
  have hl := lv_entry av (n := maxL) hlen
  rw [lg_entry_eq]
  rw [hlv] at hl
  refine body p e s m below meth c (va_A WS s.heap.size) _ ⟨B.exec, B.bytes, hml, hown, hts⟩ (fun q h => Or.inr h) hK hP hD0.self hG va_S.rf ?_ _ hl
  intro H locs ls pc hd hP1 hD1 hS1 hg1
  exact W.lret B.exec B.bytes B.returns (fun t ht hW => ⟨⟨RV, WS, rfl, ⟨rfl, rfl⟩, ⟨by rw [ht]; exact hP1, va_K.moved hW.alike hK, hD1⟩, by rw [ht]; exact hg1⟩, hS1.F ht⟩) hS1.2.2 hd B.notSynchronized
theorem st_pi {y : MethodName} {wsy ws' : List Cond} {rm : Room} {WS : va_W} {sz g : Nat} {av : List Value} {lv0 : List (Nat × Value)} {mc ms maxL : Nat} {RV : Int32} 
    (hy : plainName y.cls = true) (hcl : y.cls = own) (hw : wsy = .code y cc maxL (some .int) :: ws') (hlen : (lg_sl av).length ≤ maxL) (hlv : lv_args 0 av = lv0)
    (body : ∀ (p : Program) (e : Env) (s : State) (m : MethodId) (below : List Frame) (meth : Method) (c : Code) (A : Nat → Prop) (Q : State → Prop), CallFix p m c cc maxL s av.toArray wsy own → (∀ q, s.heap.size ≤ q → A q) → va_K D vwCl tys s → va_P D vwCl WS s.heap → va_D A WS → gS A s s.heap → va_S A s.heap s.heap [] →
      (∀ (H : Heap) (locs : List Loc) (ls : Array Slot) (pc : Nat), decode cc pc = .ok (.ireturn, 1) → va_P D vwCl WS H → va_D A WS → va_S A s.heap H locs → s.heap.size + g ≤ H.size → W p l e rm s m av.toArray below meth c H locs mc ms Q (F0 m pc ls [.int RV])) →
      ∀ ls : Array Slot, lv_has ls maxL lv0 → W p l e rm s m av.toArray below meth c s.heap [] 0 0 Q (F0 m 0 ls [])) :
    Met l y wsy rm (mPc D tys WS sz av) (va_Qi (fun (r : Int32) (u : va_W) => r = RV ∧ u = WS) (mG D tys WS sz g) (va_A WS sz)) mc ms (va_A WS sz) := by
  refine Met.ofW (cc := cc) (maxL := maxL) (ret := some .int) hy hw ?_
  intro p e s m args below meth c s₁ B hml hv
  obtain ⟨rfl, rfl, hP, hK, hD0, hG⟩ := hv
  have hts := atoms_spec (ws := wsy) B.pre
  have hown := findClass_of_methodNamed B.named
  rw [hcl] at hown
  have hl := lv_entry av (n := maxL) hlen
  rw [lg_entry_eq]
  rw [hlv] at hl
  refine body p e s m below meth c (va_A WS s.heap.size) _ ⟨B.exec, B.bytes, hml, hown, hts⟩ (fun q h => Or.inr h) hK hP hD0.self hG va_S.rf ?_ _ hl
  intro H locs ls pc hd hP1 hD1 hS1 hg1
  exact W.iret B.exec B.bytes B.returns (fun t ht hW => ⟨⟨RV, WS, rfl, ⟨rfl, rfl⟩, ⟨by rw [ht]; exact hP1, va_K.moved hW.alike hK, hD1⟩, by rw [ht]; exact hg1⟩, hS1.F ht⟩) hS1.2.2 hd B.notSynchronized
theorem st_pz {y : MethodName} {wsy ws' : List Cond} {rm : Room} {WS : va_W} {sz g : Nat} {av : List Value} {lv0 : List (Nat × Value)} {mc ms maxL : Nat} {RV : Int32} 
    (hnar : narrow .boolean (.int RV) = .int RV) (hy : plainName y.cls = true) (hcl : y.cls = own) (hw : wsy = .code y cc maxL (some .boolean) :: ws') (hlen : (lg_sl av).length ≤ maxL) (hlv : lv_args 0 av = lv0)
    (body : ∀ (p : Program) (e : Env) (s : State) (m : MethodId) (below : List Frame) (meth : Method) (c : Code) (A : Nat → Prop) (Q : State → Prop), CallFix p m c cc maxL s av.toArray wsy own → (∀ q, s.heap.size ≤ q → A q) → va_K D vwCl tys s → va_P D vwCl WS s.heap → va_D A WS → gS A s s.heap → va_S A s.heap s.heap [] →
      (∀ (H : Heap) (locs : List Loc) (ls : Array Slot) (pc : Nat), decode cc pc = .ok (.ireturn, 1) → va_P D vwCl WS H → va_D A WS → va_S A s.heap H locs → s.heap.size + g ≤ H.size → W p l e rm s m av.toArray below meth c H locs mc ms Q (F0 m pc ls [.int RV])) →
      ∀ ls : Array Slot, lv_has ls maxL lv0 → W p l e rm s m av.toArray below meth c s.heap [] 0 0 Q (F0 m 0 ls [])) :
    Met l y wsy rm (mPc D tys WS sz av) (va_Qi (fun (r : Int32) (u : va_W) => r = RV ∧ u = WS) (mG D tys WS sz g) (va_A WS sz)) mc ms (va_A WS sz) := by
  refine Met.ofW (cc := cc) (maxL := maxL) (ret := some .boolean) hy hw ?_
  intro p e s m args below meth c s₁ B hml hv
  obtain ⟨rfl, rfl, hP, hK, hD0, hG⟩ := hv
  have hts := atoms_spec (ws := wsy) B.pre
  have hown := findClass_of_methodNamed B.named
  rw [hcl] at hown
  have hl := lv_entry av (n := maxL) hlen
  rw [lg_entry_eq]
  rw [hlv] at hl
  refine body p e s m below meth c (va_A WS s.heap.size) _ ⟨B.exec, B.bytes, hml, hown, hts⟩ (fun q h => Or.inr h) hK hP hD0.self hG va_S.rf ?_ _ hl
  intro H locs ls pc hd hP1 hD1 hS1 hg1
  exact W.zret B.exec B.bytes B.returns hnar (fun t ht hW => ⟨⟨RV, WS, rfl, ⟨rfl, rfl⟩, ⟨by rw [ht]; exact hP1, va_K.moved hW.alike hK, hD1⟩, by rw [ht]; exact hg1⟩, hS1.F ht⟩) hS1.2.2 hd B.notSynchronized
theorem kgW_l (S : CallFix p m c cc nL s args Ts own) {y : MethodName} {wsy : List Cond} {rm : Room} {index maxL mc ms g : Nat} {ret : Option FieldType} {hh : List (Nat × Nat × Nat × Nat)} {bytes : ByteArray} {wc wr : va_W} {As st0 : List Value} {RV : Int64}
    (hM : Met l y wsy rm (mPc D tys wc H.size As) (va_Ql (fun (r : Int64) (u : va_W) => r = RV ∧ u = wc) (mG D tys wc H.size g) (va_A wc H.size)) mc ms (va_A wc H.size)) (cw : vx_CSW R s args own index y bytes maxL ret hh wsy rm mc ms n)
    (hK : va_K D vwCl tys s) (hP : va_P D vwCl ws H) (hD : va_D A ws) (hS : va_S A s.heap H locs) (hA : ∀ q, s.heap.size ≤ q → A q) (hG : gS A s s.heap)
    (isC isR pm : List Nat) (hC : isC.map (fun i => ws[i]?) = wc.map some) (hR : isR.map (fun i => ws[i]?) = wr.map some) (hnC : va_nd isC = true) (hnR : va_nd isR = true) (hdis : ∀ i ∈ isR, i ∉ isC) (hnp : va_nd pm = true) (hpm : pm.map (fun i => (wr ++ wc)[i]?) = ws2.map some)
    (hn : As.length = n) (hsize : ls.size = nL) (hst : st0 = As.reverse ++ rest) (hW : (rest.map fun v => v.category).sum ≤ 8) (d : decode cc pc = .ok (.invokestatic index, 3)) (hf : cells + mc ≤ R.cells ∧ slots + ms ≤ R.slots)
    (kk : ∀ (H1 : Heap) (locs1 : List Loc), va_P D vwCl ws2 H1 → va_D A ws2 → va_S A s.heap H1 locs1 → H.size + g ≤ H1.size → W p l e R s m args below meth c H1 locs1 (cells + mc) (slots + ms) Q (F0 m (pc + 3) ls (.long RV :: rest))) :
    W p l e R s m args below meth c H locs cells slots Q (F0 m pc ls st0) := by
  have hFc := va_free (wc := wc) hD hS hA isC hC
  refine va_calll (vx_runSW S hM cw ⟨mPc_blind, mPc_of hK hP hD hS hA hG isC hC hnC⟩ rfl hn hsize hst (lv_room hW) d hf) hS (fun q _ h => hFc q h) hFc (fun r u t H1 locs1 ht hvm hw hB hz1 hk1 hS1 => ?_)
  obtain ⟨rfl, rfl⟩ := hw
  obtain ⟨⟨hP1, hK1, hD1⟩, hg1⟩ := hB
  rw [ht] at hP1 hg1
  obtain ⟨hP2, hD2⟩ := va_join hP hD isC isR hC hR hnR hdis hk1 hFc hP1 hD1
  refine kk H1 locs1 (hP2.sub pm ?_) (hD2.sub pm hnp hpm) hS1 hg1
  have h2 := congrArg (fun x : List (Option (Nat × va_E)) => x.filterMap id) hpm
  simpa [List.filterMap_map, Function.comp_def] using h2
theorem kgS_l (S : CallFix p m c cc nL s args Ts own) {y : MethodName} {wsy : List Cond} {rm : Room} {index maxL mc ms g : Nat} {ret : Option FieldType} {bytes : ByteArray} {wc wr : va_W} {As st0 : List Value} {RV : Int64}
    (hM : Met l y wsy rm (mPc D tys wc H.size As) (va_Ql (fun (r : Int64) (u : va_W) => r = RV ∧ u = wc) (mG D tys wc H.size g) (va_A wc H.size)) mc ms (va_A wc H.size)) (cw : CallB R s args own index y bytes maxL ret wsy rm mc ms n ∧ (Cond.static y).before args s = true)
    (hK : va_K D vwCl tys s) (hP : va_P D vwCl ws H) (hD : va_D A ws) (hS : va_S A s.heap H locs) (hA : ∀ q, s.heap.size ≤ q → A q) (hG : gS A s s.heap)
    (isC isR pm : List Nat) (hC : isC.map (fun i => ws[i]?) = wc.map some) (hR : isR.map (fun i => ws[i]?) = wr.map some) (hnC : va_nd isC = true) (hnR : va_nd isR = true) (hdis : ∀ i ∈ isR, i ∉ isC) (hnp : va_nd pm = true) (hpm : pm.map (fun i => (wr ++ wc)[i]?) = ws2.map some)
    (hn : As.length = n) (hsize : ls.size = nL) (hst : st0 = As.reverse ++ rest) (hW : (rest.map fun v => v.category).sum ≤ 8) (d : decode cc pc = .ok (.invokestatic index, 3)) (hf : cells + mc ≤ R.cells ∧ slots + ms ≤ R.slots)
    (kk : ∀ (H1 : Heap) (locs1 : List Loc), va_P D vwCl ws2 H1 → va_D A ws2 → va_S A s.heap H1 locs1 → H.size + g ≤ H1.size → W p l e R s m args below meth c H1 locs1 (cells + mc) (slots + ms) Q (F0 m (pc + 3) ls (.long RV :: rest))) :
    W p l e R s m args below meth c H locs cells slots Q (F0 m pc ls st0) := by
  have hFc := va_free (wc := wc) hD hS hA isC hC
  refine va_calll (va_runS S hM cw ⟨mPc_blind, mPc_of hK hP hD hS hA hG isC hC hnC⟩ rfl hn hsize hst (lv_room hW) d hf) hS (fun q _ h => hFc q h) hFc (fun r u t H1 locs1 ht hvm hw hB hz1 hk1 hS1 => ?_)
  obtain ⟨rfl, rfl⟩ := hw
  obtain ⟨⟨hP1, hK1, hD1⟩, hg1⟩ := hB
  rw [ht] at hP1 hg1
  obtain ⟨hP2, hD2⟩ := va_join hP hD isC isR hC hR hnR hdis hk1 hFc hP1 hD1
  refine kk H1 locs1 (hP2.sub pm ?_) (hD2.sub pm hnp hpm) hS1 hg1
  have h2 := congrArg (fun x : List (Option (Nat × va_E)) => x.filterMap id) hpm
  simpa [List.filterMap_map, Function.comp_def] using h2
theorem kgS_i (S : CallFix p m c cc nL s args Ts own) {y : MethodName} {wsy : List Cond} {rm : Room} {index maxL mc ms g : Nat} {ret : Option FieldType} {bytes : ByteArray} {wc wr : va_W} {As st0 : List Value} {RV : Int32}
    (hM : Met l y wsy rm (mPc D tys wc H.size As) (va_Qi (fun (r : Int32) (u : va_W) => r = RV ∧ u = wc) (mG D tys wc H.size g) (va_A wc H.size)) mc ms (va_A wc H.size)) (cw : CallB R s args own index y bytes maxL ret wsy rm mc ms n ∧ (Cond.static y).before args s = true)
    (hK : va_K D vwCl tys s) (hP : va_P D vwCl ws H) (hD : va_D A ws) (hS : va_S A s.heap H locs) (hA : ∀ q, s.heap.size ≤ q → A q) (hG : gS A s s.heap)
    (isC isR pm : List Nat) (hC : isC.map (fun i => ws[i]?) = wc.map some) (hR : isR.map (fun i => ws[i]?) = wr.map some) (hnC : va_nd isC = true) (hnR : va_nd isR = true) (hdis : ∀ i ∈ isR, i ∉ isC) (hnp : va_nd pm = true) (hpm : pm.map (fun i => (wr ++ wc)[i]?) = ws2.map some)
    (hn : As.length = n) (hsize : ls.size = nL) (hst : st0 = As.reverse ++ rest) (hW : (rest.map fun v => v.category).sum ≤ 8) (d : decode cc pc = .ok (.invokestatic index, 3)) (hf : cells + mc ≤ R.cells ∧ slots + ms ≤ R.slots)
    (kk : ∀ (H1 : Heap) (locs1 : List Loc), va_P D vwCl ws2 H1 → va_D A ws2 → va_S A s.heap H1 locs1 → H.size + g ≤ H1.size → W p l e R s m args below meth c H1 locs1 (cells + mc) (slots + ms) Q (F0 m (pc + 3) ls (.int RV :: rest))) :
    W p l e R s m args below meth c H locs cells slots Q (F0 m pc ls st0) := by
  have hFc := va_free (wc := wc) hD hS hA isC hC
  refine va_calli (va_runS S hM cw ⟨mPc_blind, mPc_of hK hP hD hS hA hG isC hC hnC⟩ rfl hn hsize hst (lv_room hW) d hf) hS (fun q _ h => hFc q h) hFc (fun r u t H1 locs1 ht hvm hw hB hz1 hk1 hS1 => ?_)
  obtain ⟨rfl, rfl⟩ := hw
  obtain ⟨⟨hP1, hK1, hD1⟩, hg1⟩ := hB
  rw [ht] at hP1 hg1
  obtain ⟨hP2, hD2⟩ := va_join hP hD isC isR hC hR hnR hdis hk1 hFc hP1 hD1
  refine kk H1 locs1 (hP2.sub pm ?_) (hD2.sub pm hnp hpm) hS1 hg1
  have h2 := congrArg (fun x : List (Option (Nat × va_E)) => x.filterMap id) hpm
  simpa [List.filterMap_map, Function.comp_def] using h2
end THROWS
