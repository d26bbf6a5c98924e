section MAKE
variable {p : Program} {l : Launch} {e : Env} {R : Room} {s : State} {m : MethodId} {args : Array Value} {below : List Frame} {meth : Method} {c : Code} {H : Heap} {locs : List Loc} {cells slots : Nat} {Q : State → Prop} {cc : ByteArray} {pc : Nat} {ls : Array Slot} {rest : List Value} {nL : Nat} {Ts : List Cond} {own : String} {D : va_G} {ws ws2 : va_W} {tys : List (ClassId × FieldType)} {A : Nat → Prop} {n : Nat}
/-- a constructor: what comes has addresses of its own -/
theorem st_c {y : MethodName} {wsy ws' : List Cond} {rm : Room} {WS : va_W} {post : va_W → Prop} {sz : Nat} {av : List Value} {lv0 : List (Nat × Value)} {mc ms maxL : Nat}
    (hy : plainName y.cls = true) (hcl : y.cls = own) (hw : wsy = .code y cc maxL none :: ws') (hlen : (lg_sl av).length ≤ maxL) (hlv : lv_args 0 av = lv0)
    (body : ∀ (p : Program) (e : Env) (s : State) (m : MethodId) (below : List Frame) (meth : Method) (c : Code) (A : Nat → Prop) (Q : State → Prop), CallFix p m c cc maxL s av.toArray wsy own → meth.name = y.name → (∀ q, s.heap.size ≤ q → A q) → va_K D vwCl tys s → va_P D vwCl WS s.heap → va_D A WS → gS A s s.heap → va_S A s.heap s.heap [] →
      (∀ (W1 : va_W) (H : Heap) (locs : List Loc) (ls : Array Slot) (pc : Nat), post W1 → decode cc pc = .ok (.return_, 1) → va_P D vwCl W1 H → va_D A W1 → va_S A s.heap H locs → W p l e rm s m av.toArray below meth c H locs mc ms Q (F0 m pc ls [])) →
      ∀ ls : Array Slot, lv_has ls maxL lv0 → W p l e rm s m av.toArray below meth c s.heap [] 0 0 Q (F0 m 0 ls [])) :
    Met l y wsy rm (mPc D tys WS sz av) (va_Qv (fun (u : va_W) => post u) (mB D tys (va_A WS sz)) (va_A WS sz)) mc ms (va_A WS sz) := by
  refine Met.ofW (cc := cc) (maxL := maxL) (ret := none) hy hw ?_
  intro p e s m args below meth c s₁ B hml hv
  obtain ⟨rfl, rfl, hP, hK, hD0, hG⟩ := hv
  have hts := atoms_spec (ws := wsy) B.pre
  have hown := findClass_of_methodNamed B.named
  rw [hcl] at hown
  have hl := lv_entry av (n := maxL) hlen
  rw [lg_entry_eq]
  rw [hlv] at hl
  refine body p e s m below meth c (va_A WS s.heap.size) _ ⟨B.exec, B.bytes, hml, hown, hts⟩ (name_of_methodNamed B.named B.method).1 (fun q h => Or.inr h) hK hP hD0.self hG va_S.rf ?_ _ hl
  intro W1 H locs ls pc hp hd hP1 hD1 hS1
  exact W.vret B.exec B.bytes B.returns (fun t ht hW => ⟨⟨W1, rfl, hp, by rw [ht]; exact hP1, va_K.moved hW.alike hK, hD1⟩, hS1.F ht⟩) hS1.2.2 hd B.notSynchronized
/-- a constructor is called -/
theorem kcI (S : CallFix p m c cc nL s args Ts own) {y : MethodName} {wsy : List Cond} {rm : Room} {index maxL mc ms : Nat} {bytes : ByteArray} {wc wr : va_W} {As st0 : List Value} {b : Nat} {post : va_W → Prop}
    (hM : Met l y wsy rm (mPc D tys wc H.size (.ref b :: As)) (va_Qv (fun (u : va_W) => post u) (mB D tys (va_A wc H.size)) (va_A wc H.size)) mc ms (va_A wc H.size)) (cw : CallB R s args own index y bytes maxL none wsy rm mc ms n ∧ y.name = "<init>" ∧ (Cond.instanceMethod y).before args s = true)
    (hK : va_K D vwCl tys s) (hP : va_P D vwCl ws H) (hD : va_D A ws) (hS : va_S A s.heap H locs) (hA : ∀ q, s.heap.size ≤ q → A q) (hG : gS A s s.heap)
    (isC isR : List Nat) (hC : isC.map (fun i => ws[i]?) = wc.map some) (hR : isR.map (fun i => ws[i]?) = wr.map some) (hnC : va_nd isC = true) (hnR : va_nd isR = true) (hdis : ∀ i ∈ isR, i ∉ isC)
    (hn : As.length = n) (hsize : ls.size = nL) (hst : st0 = As.reverse ++ .ref b :: rest) (hW : (rest.map fun v => v.category).sum ≤ 8) (d : decode cc pc = .ok (.invokespecial index, 3)) (hf : cells + mc ≤ R.cells ∧ slots + ms ≤ R.slots)
    (kk : ∀ (W1 : va_W) (H1 : Heap) (locs1 : List Loc), post W1 → va_P D vwCl (wr ++ W1) H1 → va_D A (wr ++ W1) → va_S A s.heap H1 locs1 → W p l e R s m args below meth c H1 locs1 (cells + mc) (slots + ms) Q (F0 m (pc + 3) ls rest)) :
    W p l e R s m args below meth c H locs cells slots Q (F0 m pc ls st0) := by
  have hFc := va_free (wc := wc) hD hS hA isC hC
  refine va_callv (va_runI S hM cw ⟨mPc_blind, mPc_of hK hP hD hS hA hG isC hC hnC⟩ rfl hn hsize hst (lv_room hW) d hf) hS (fun q _ h => hFc q h) hFc (fun u t H1 locs1 ht hvm hw hB hz1 hk1 hS1 => ?_)
  obtain ⟨hP1, hK1, hD1⟩ := hB
  rw [ht] at hP1
  obtain ⟨hP2, hD2⟩ := va_join hP hD isC isR hC hR hnR hdis hk1 hFc hP1 hD1
  exact kk u H1 locs1 hw hP2 hD2 hS1
/-- an array's class is that of its name -/
theorem cyI_eq {cyI cyJ cyZ cA : ClassId} (h : va_K D vwCl ([(cyI, .int), (cyJ, .long), (cyZ, .boolean)] ++ [(cA, .int)]) s) : cA = cyI := Option.some.inj ((va_nm_int (h.2 3 (cA, .int) rfl).2).symm.trans (va_nm_int (h.2 0 (cyI, .int) rfl).2))
theorem cyJ_eq {cyI cyJ cyZ cA : ClassId} (h : va_K D vwCl ([(cyI, .int), (cyJ, .long), (cyZ, .boolean)] ++ [(cA, .long)]) s) : cA = cyJ := Option.some.inj ((va_nm_long (h.2 3 (cA, .long) rfl).2).symm.trans (va_nm_long (h.2 1 (cyJ, .long) rfl).2))
theorem cyZ_eq {cyI cyJ cyZ cA : ClassId} (h : va_K D vwCl ([(cyI, .int), (cyJ, .long), (cyZ, .boolean)] ++ [(cA, .boolean)]) s) : cA = cyZ := Option.some.inj ((va_nm_boolean (h.2 3 (cA, .boolean) rfl).2).symm.trans (va_nm_boolean (h.2 2 (cyZ, .boolean) rfl).2))
end MAKE
