section
-- ===== PART A: goes FIRST, ahead of the names: the tables' words, and 'selects' of the private methods out of them =====
/-- a private method of a class that the tables say can be made, by its rows of tables_1 -/
def lw_okq (q : MethodName × Nat) : Prop := (q.1.cls ≠ "java/lang/invoke/MethodHandle" ∧ q.1.cls ≠ "java/lang/invoke/VarHandle") ∧ Cond.instantiable q.1.cls q.2 ∈ tables_1 ∧ Cond.privateMethod q.1 ∈ tables_1 ∧ Cond.instanceMethod q.1 ∈ tables_1
theorem lw_p0 : lw_okq (⟨"Particleway$Field", "measure", "()V"⟩, 3) := ⟨⟨by decide +kernel, by decide +kernel⟩, List.mem_of_getElem? (i := 24) (by decide +kernel), List.mem_of_getElem? (i := 30) (by decide +kernel), List.mem_of_getElem? (i := 31) (by decide +kernel)⟩
theorem lw_p1 : lw_okq (⟨"Particleway$Field", "countedSteps", "(II)I"⟩, 3) := ⟨⟨by decide +kernel, by decide +kernel⟩, List.mem_of_getElem? (i := 24) (by decide +kernel), List.mem_of_getElem? (i := 34) (by decide +kernel), List.mem_of_getElem? (i := 35) (by decide +kernel)⟩
theorem lw_p2 : lw_okq (⟨"java/lang/Throwable", "fillInStackTrace", "(I)Ljava/lang/Throwable;"⟩, 6) := ⟨⟨by decide +kernel, by decide +kernel⟩, List.mem_of_getElem? (i := 235) (by decide +kernel), List.mem_of_getElem? (i := 233) (by decide +kernel), List.mem_of_getElem? (i := 234) (by decide +kernel)⟩
theorem lw_p3 : lw_okq (⟨"Particleway", "checkMayTell", "()V"⟩, 9) := ⟨⟨by decide +kernel, by decide +kernel⟩, List.mem_of_getElem? (i := 16) (by decide +kernel), List.mem_of_getElem? (i := 275) (by decide +kernel), List.mem_of_getElem? (i := 276) (by decide +kernel)⟩
theorem lw_p4 : lw_okq (⟨"Particleway$Samples", "compareFit", "(I)V"⟩, 11) := ⟨⟨by decide +kernel, by decide +kernel⟩, List.mem_of_getElem? (i := 83) (by decide +kernel), List.mem_of_getElem? (i := 312) (by decide +kernel), List.mem_of_getElem? (i := 313) (by decide +kernel)⟩
theorem lw_p5 : lw_okq (⟨"Particleway$Samples", "manyAnew", "(II)I"⟩, 11) := ⟨⟨by decide +kernel, by decide +kernel⟩, List.mem_of_getElem? (i := 83) (by decide +kernel), List.mem_of_getElem? (i := 319) (by decide +kernel), List.mem_of_getElem? (i := 320) (by decide +kernel)⟩
theorem lw_p6 : lw_okq (⟨"Particleway$Samples", "drawAnew", "(II)V"⟩, 11) := ⟨⟨by decide +kernel, by decide +kernel⟩, List.mem_of_getElem? (i := 83) (by decide +kernel), List.mem_of_getElem? (i := 343) (by decide +kernel), List.mem_of_getElem? (i := 344) (by decide +kernel)⟩
theorem lw_p7 : lw_okq (⟨"Particleway$Samples", "oldCellBeyond", "(J)I"⟩, 11) := ⟨⟨by decide +kernel, by decide +kernel⟩, List.mem_of_getElem? (i := 83) (by decide +kernel), List.mem_of_getElem? (i := 360) (by decide +kernel), List.mem_of_getElem? (i := 361) (by decide +kernel)⟩
theorem lw_p8 : lw_okq (⟨"Particleway$Beliefs", "halveGreat", "()V"⟩, 3) := ⟨⟨by decide +kernel, by decide +kernel⟩, List.mem_of_getElem? (i := 134) (by decide +kernel), List.mem_of_getElem? (i := 386) (by decide +kernel), List.mem_of_getElem? (i := 387) (by decide +kernel)⟩
theorem lw_p9 : lw_okq (⟨"Particleway", "keep", "(II)V"⟩, 9) := ⟨⟨by decide +kernel, by decide +kernel⟩, List.mem_of_getElem? (i := 16) (by decide +kernel), List.mem_of_getElem? (i := 396) (by decide +kernel), List.mem_of_getElem? (i := 397) (by decide +kernel)⟩
theorem lw_p10 : lw_okq (⟨"Particleway", "checkSpread", "()V"⟩, 9) := ⟨⟨by decide +kernel, by decide +kernel⟩, List.mem_of_getElem? (i := 16) (by decide +kernel), List.mem_of_getElem? (i := 408) (by decide +kernel), List.mem_of_getElem? (i := 409) (by decide +kernel)⟩
theorem lw_p11 : lw_okq (⟨"Particleway$Samples", "drawnSteps", "()I"⟩, 11) := ⟨⟨by decide +kernel, by decide +kernel⟩, List.mem_of_getElem? (i := 83) (by decide +kernel), List.mem_of_getElem? (i := 480) (by decide +kernel), List.mem_of_getElem? (i := 481) (by decide +kernel)⟩
theorem lw_p12 : lw_okq (⟨"Particleway", "chartOf", "(Z)LParticleway$Chart;"⟩, 9) := ⟨⟨by decide +kernel, by decide +kernel⟩, List.mem_of_getElem? (i := 16) (by decide +kernel), List.mem_of_getElem? (i := 529) (by decide +kernel), List.mem_of_getElem? (i := 530) (by decide +kernel)⟩
theorem lw_p13 : lw_okq (⟨"Particleway$Chart", "placeOf", "(I)I"⟩, 1) := ⟨⟨by decide +kernel, by decide +kernel⟩, List.mem_of_getElem? (i := 89) (by decide +kernel), List.mem_of_getElem? (i := 584) (by decide +kernel), List.mem_of_getElem? (i := 585) (by decide +kernel)⟩
theorem lw_p14 : lw_okq (⟨"Particleway", "repeatAllTold", "()V"⟩, 9) := ⟨⟨by decide +kernel, by decide +kernel⟩, List.mem_of_getElem? (i := 16) (by decide +kernel), List.mem_of_getElem? (i := 623) (by decide +kernel), List.mem_of_getElem? (i := 624) (by decide +kernel)⟩
theorem lw_p15 : lw_okq (⟨"Particleway$Beliefs", "fetched", "(II)J"⟩, 3) := ⟨⟨by decide +kernel, by decide +kernel⟩, List.mem_of_getElem? (i := 134) (by decide +kernel), List.mem_of_getElem? (i := 631) (by decide +kernel), List.mem_of_getElem? (i := 632) (by decide +kernel)⟩
def lw_privs_1 : List (MethodName × Nat) := [(⟨"Particleway$Field", "measure", "()V"⟩, 3), (⟨"Particleway$Field", "countedSteps", "(II)I"⟩, 3), (⟨"java/lang/Throwable", "fillInStackTrace", "(I)Ljava/lang/Throwable;"⟩, 6), (⟨"Particleway", "checkMayTell", "()V"⟩, 9), (⟨"Particleway$Samples", "compareFit", "(I)V"⟩, 11), (⟨"Particleway$Samples", "manyAnew", "(II)I"⟩, 11), (⟨"Particleway$Samples", "drawAnew", "(II)V"⟩, 11), (⟨"Particleway$Samples", "oldCellBeyond", "(J)I"⟩, 11), (⟨"Particleway$Beliefs", "halveGreat", "()V"⟩, 3), (⟨"Particleway", "keep", "(II)V"⟩, 9), (⟨"Particleway", "checkSpread", "()V"⟩, 9), (⟨"Particleway$Samples", "drawnSteps", "()I"⟩, 11), (⟨"Particleway", "chartOf", "(Z)LParticleway$Chart;"⟩, 9), (⟨"Particleway$Chart", "placeOf", "(I)I"⟩, 1), (⟨"Particleway", "repeatAllTold", "()V"⟩, 9), (⟨"Particleway$Beliefs", "fetched", "(II)J"⟩, 3)]
theorem lw_r1 : ∀ q ∈ lw_privs_1, lw_okq q := List.forall_mem_cons.mpr ⟨lw_p0, List.forall_mem_cons.mpr ⟨lw_p1, List.forall_mem_cons.mpr ⟨lw_p2, List.forall_mem_cons.mpr ⟨lw_p3, List.forall_mem_cons.mpr ⟨lw_p4, List.forall_mem_cons.mpr ⟨lw_p5, List.forall_mem_cons.mpr ⟨lw_p6, List.forall_mem_cons.mpr ⟨lw_p7, List.forall_mem_cons.mpr ⟨lw_p8, List.forall_mem_cons.mpr ⟨lw_p9, List.forall_mem_cons.mpr ⟨lw_p10, List.forall_mem_cons.mpr ⟨lw_p11, List.forall_mem_cons.mpr ⟨lw_p12, List.forall_mem_cons.mpr ⟨lw_p13, List.forall_mem_cons.mpr ⟨lw_p14, List.forall_mem_cons.mpr ⟨lw_p15, fun _ h => absurd h List.not_mem_nil⟩⟩⟩⟩⟩⟩⟩⟩⟩⟩⟩⟩⟩⟩⟩⟩
def lw_privs : List (MethodName × Nat) := lw_privs_1
def lw_tbl : List Cond := k2_sels lw_privs ++ tables_1
theorem lw_privs_ok : ∀ q ∈ lw_privs, lw_okq q := lw_r1
/-! ===== BEGIN words of one list among another's, by their places ===== -/
theorem goodIn_r {big : List Cond} (ws : List Cond) (ps : List Nat) (hp : ws = ps.filterMap (fun i => big[i]?)) (h : ws.all goodWord = true) : GoodIn big ws := by
  intro w hw
  have h1 := List.all_eq_true.mp h w hw
  rw [hp] at hw
  obtain ⟨i, -, hi⟩ := List.mem_filterMap.mp hw
  have hm : w ∈ big := by first | exact List.mem_of_getElem? hi | exact List.getElem?_mem hi
  exact ⟨hm, good_of_word h1⟩
theorem goodIn_app {big a b : List Cond} (ha : GoodIn big a) (hb : GoodIn big b) : GoodIn big (a ++ b) := fun w h => (List.mem_append.mp h).elim (ha w) (hb w)
theorem goodIn_ca {big a b : List Cond} {c : Cond} (ha : GoodIn big (c :: a)) (hb : GoodIn big b) : GoodIn big (c :: (a ++ b)) := fun w h => (List.mem_cons.mp h).elim (fun e => ha w (List.mem_cons.mpr (Or.inl e))) (fun h => (List.mem_append.mp h).elim (fun h => ha w (List.mem_cons.mpr (Or.inr h))) (hb w))
theorem goodIn_sub {big ws : List Cond} (hm : ∀ w ∈ ws, w ∈ big) (h : ws.all goodWord = true) : GoodIn big ws := fun w hw => ⟨hm w hw, good_of_word (List.all_eq_true.mp h w hw)⟩
/-! ===== END ===== -/

/-! ===== BEGIN exceptions that leave a method, and their catching by the caller (launches without stack traces) ===== -/
section VXA
/-! The laws vx_back, vx_callV, vx_callS, vx_callSW, vx_throw0, vx_throwS follow proofs of the library, with one case more: JvmDerived/Free/Laws.lean (Back.of_free), Shelf42/LK1.lean (callV, callS), Shelf/KitTraced.lean (throwNew0V, throwNewS). -/
/-- where a method has thrown q: the class by its name, the cell, what was written, the world -/
def vx_T (XC : String → State → State → Prop) (st : State) (q : Addr) (t : State) (mc ms : Nat) (free : Addr → Prop) : Prop :=
  ∃ (E : String) (ce : Cell) (L : List Loc), XC E st t ∧ t.heap[q]? = some ce ∧ ce.vm = .none ∧ st.vm.findClass E = some ce.cls ∧ st.WarmedH t.vm ∧ st.sameButNew ({ t with vm := st.vm } : State) L mc ms ∧ ∀ z ∈ L, free z.base
def vx_Q (Qc : Array Value → State → Outcome → State → Prop) (XC : String → State → State → Prop) (mc ms : Nat) (free : Addr → Prop) : Array Value → State → Outcome → State → Prop := fun a st o t =>
  (Qc a st o t ∧ ∃ L, FrameEnd st o t L mc ms ∧ ∀ q ∈ L, free q.base) ∨ ∃ q, o = .threw q ∧ vx_T XC st q t mc ms free
/-- a callee that returns or throws -/
def vx_Met (l : Launch) (y : MethodName) (ws : List Cond) (rm : Room) (Pc : Array Value → State → Prop) (Qc : Array Value → State → Outcome → State → Prop) (XC : String → State → State → Prop) (mc ms : Nat) (free : Addr → Prop) : Prop :=
  MetFree l y (headSpec ws rm) Pc (fun _ _ _ _ _ => True) (vx_Q Qc XC mc ms free)
def vx_Post (XC : String → State → State → Prop) (mc ms : Nat) (free : Addr → Prop) : Pt → Array Value → Addr → Pt → Prop := fun A a q B =>
  ∃ (g : JFrame) (mk : MethodId) (t : State) (L : List Loc) (E : String) (ce : Cell), B.U.heap = t.heap ∧ B.U.vm = t.vm ∧ XC E (A.U.calling g mk a) t ∧ t.heap[q]? = some ce ∧ ce.vm = .none ∧ A.U.vm.findClass E = some ce.cls ∧ B.locs = A.locs ++ L ∧ (∀ z ∈ L, free z.base) ∧ B.cells = A.cells + mc ∧ B.slots = A.slots + ms
def vx_Back (l : Launch) (R : Room) (p : Program) (e : Env) (below : List Frame) (s : State) (sargs : Array Value) (y : MethodName) (len W9 : Nat)
    (Pre : Pt → Array Value → Prop) (Post : Pt → Array Value → Option Value → Pt → Prop) (PostX : Pt → Array Value → Addr → Pt → Prop) : Prop :=
  ∀ (m : MethodId) (meth : Method) (c : Code) (A : Pt) (g : JFrame) (ig : Instr) (mk : MethodId) (a : Array Value),
    Stand p l e R s m sargs below meth c A.U A.locs A.cells A.slots → g.method = m → g.locals.size = c.maxLocals → decode c.code g.pc = .ok (ig, len) →
    2 * g.monitorRoom + (g.stack.map fun v => v.category).sum ≤ W9 → A.U.methodNamed? y = some mk → Pre A a →
    (∃ (v : Option Value) (B : Pt), Stand p l e R s m sargs below meth c B.U B.locs B.cells B.slots ∧ Post A a v B ∧
      Steps p.tables e below (doInvoke e (A.U.setTop g) [] mk a).1 (B.U.setTop { g with pc := g.pc + len, stack := v.toList ++ g.stack })) ∨
    (∃ (q : Addr) (B : Pt), Stand p l e R s m sargs below meth c B.U B.locs B.cells B.slots ∧ PostX A a q B ∧
      Steps p.tables e below (doInvoke e (A.U.setTop g) [] mk a).1 ((B.U.setTop g).pushFrame (.throwing q)))
section Payer
variable {l : Launch} {R : Room} {p : Program} {e : Env} {below : List Frame} {s : State} {sargs : Array Value} {y : MethodName} {len W9 : Nat}
theorem vx_back {ws : List Cond} {rm : Room} {Pc : Array Value → State → Prop} {Qc : Array Value → State → Outcome → State → Prop} {XC : String → State → State → Prop} {mc ms : Nat} {free : Addr → Prop} {bytes : ByteArray} {maxL : Nat} {ret : Option FieldType}
    (hM : vx_Met l y ws rm Pc Qc XC mc ms free) (hblind : FrameBlind Pc) (hrc : rm.cells = mc) (hrs : rm.slots = ms)
    (hframes : rm.frames + 1 ≤ R.frames) (hlocals : W9 + (maxL + 11) + rm.locals ≤ R.locals)
    (hws : ∀ w ∈ ws, ∀ a' U, s.WarmedH U.vm → w.before a' U = true) (hcode : Cond.code y bytes maxL ret ∈ ws) (hinit : ∀ a' U, s.WarmedH U.vm → (Cond.initialized y.cls).before a' U = true) :
    vx_Back l R p e below s sargs y len W9 (PreOf R mc ms Pc) (PostOf Qc mc ms free) (vx_Post XC mc ms free) := by
  intro m meth c A g ig mk a X hg hsize hdg hW hn hp
  have h1 : (headSpec ws rm).pre.before a A.U = true := atoms_intro fun w hw => hws w hw _ _ X.warmed
  have h2 : (Cond.code y bytes maxL ret).before a A.U = true := hws _ hcode _ _ X.warmed
  have h3 : (Cond.initialized y.cls).before a A.U = true := hinit _ _ X.warmed
  have h4 : A.cells + (headSpec ws rm).room.cells ≤ R.cells := by rw [show (headSpec ws rm).room.cells = mc from hrc]; exact hp.1
  have h5 : A.slots + (headSpec ws rm).room.slots ≤ R.slots := by rw [show (headSpec ws rm).room.slots = ms from hrs]; exact hp.2.1
  have hPc : Pc a (A.U.calling g mk a) := hblind _ _ _ _ hp.2.2
  obtain ⟨U, Ls, c0, s0⟩ := A
  dsimp only [Pt.U, Pt.locs, Pt.cells, Pt.slots] at h1 h2 h3 h4 h5 X hn hPc ⊢
  obtain ⟨methY, cY, hmY, hcY, -, hlY, -, -, -, -⟩ := Cond.code_spec hn h2
  obtain ⟨kY, hkY, -⟩ := className_of_methodNamed hn
  have hinitY : kY.init = .initialized := Cond.initialized_spec (findClass_of_methodNamed hn) hkY h3
  have h : At U g.method c below := by rw [hg]; exact X.here
  have hlocals9 : W9 + (maxL + 11) + (headSpec ws rm).room.locals ≤ R.locals := hlocals
  have happ : (headSpec ws rm).appliesLoose y e.platform (U.calling g mk a) = true :=
    Spec.appliesLoose_calling (g := g) h hdg hn hkY hinitY
      (X.room_calling (g := g) (R' := (headSpec ws rm).room) hsize hmY hcY hframes (by rw [hlY]; omega) h4 h5) h1
  obtain ⟨mid, hmid⟩ := h.above
  have hfr : (U.setTop g).frames = (.java g :: mid) ++ below := by rw [State.frames_setTop' g h.top, hmid]; rfl
  obtain ⟨o, s₂, hsteps, -, hend, hq⟩ := Steps.callFree hM p X.admits X.cas X.clock (acts := []) hfr happ hPc trivial
  have hq' : vx_Q Qc XC mc ms free a (U.calling g mk a) o s₂ := hq
  rw [State.frames_setTop' g h.top] at hend
  obtain ⟨g₀, hg0⟩ := Option.isSome_iff_exists.mp h.top
  obtain ⟨r, hr⟩ := State.topJava?_eq_some.mp hg0
  have hr' : (({ U with heap := s₂.heap, slotsUsed := s₂.slotsUsed } : State).setVm s₂.vm).frames = .java g₀ :: r := hr
  rcases hq' with ⟨hqc, L, hfe, hL⟩ | ⟨q, rfl, E, ce, L, hx, hce, hcv, hcl, hW₂, hsm, hL⟩
  · obtain ⟨⟨v, rfl⟩, hW₂, e2, q2, q3, q4, q5, q6⟩ := id hfe
    have e3 : s₂ = ({ (U.calling g mk a).setFrames s₂.frames with heap := s₂.heap, slotsUsed := s₂.slotsUsed } : State).setVm s₂.vm := by
      have : s₂ = ({ s₂ with vm := (U.calling g mk a).vm } : State).setVm s₂.vm := rfl
      rw [e2] at this
      exact this
    obtain ⟨c₂, i₂, len₂, hc₂, hd₂, hf₂⟩ := hend
    have hW' : U.WarmedH s₂.vm := hW₂
    have hcc : c₂ = c := by
      have h1 : s₂.code? g.method = U.code? g.method := by
        rw [State.code?_eq, State.code?_eq, hW'.alike.method?]
      exact Option.some.inj (hc₂.symm.trans (h1.trans h.code))
    subst hcc
    have hlen : len₂ = len := by rw [hdg] at hd₂; cases hd₂; rfl
    subst hlen
    have hs₂ : s₂ = (({ U with heap := s₂.heap, slotsUsed := s₂.slotsUsed } : State).setVm s₂.vm).setTop { g with pc := g.pc + len₂, stack := v.toList ++ g.stack } := by
      refine e3.trans ?_
      rw [hf₂, State.calling_eq h.top, State.setFrames_setFrames, State.setTop_of_frames _ hr', hr]
      rfl
    have hsame : U.sameButNew ({ U with heap := s₂.heap, slotsUsed := s₂.slotsUsed } : State) L mc ms := by
      refine ⟨?_, q2, q3, q4, q5, q6⟩
      obtain ⟨t, ht, -⟩ := State.frames_cons hr
      show ({ U with heap := s₂.heap, slotsUsed := s₂.slotsUsed } : State) = { U.setFrames U.frames with heap := s₂.heap, slotsUsed := s₂.slotsUsed }
      rw [State.setFrames_self ht]
    subst hg
    refine Or.inl ⟨v, ⟨(({ U with heap := s₂.heap, slotsUsed := s₂.slotsUsed } : State).setVm s₂.vm), Ls ++ L, c0 + mc, s0 + ms⟩,
      ⟨X.admits, X.cas, X.clock, X.frames, X.room, X.hears, X.method, X.code, (X.here.setHeapUsed s₂.heap s₂.slotsUsed).setVm hW'.alike, X.tail, State.WarmedH.trans X.warmed hW', X.limits, X.bytes, X.same.trans (hsame.setVm s.vm)⟩,
      ⟨g, mk, s₂, L, rfl, rfl, hqc, rfl, hL, rfl, rfl⟩, ?_⟩
    show Steps p.tables e below _ ((({ U with heap := s₂.heap, slotsUsed := s₂.slotsUsed } : State).setVm s₂.vm).setTop { g with pc := g.pc + len₂, stack := v.toList ++ g.stack })
    rw [← hs₂]
    exact hsteps
  · obtain ⟨e2, q2, q3, q4, q5, q6⟩ := id hsm
    have e3 : s₂ = ({ (U.calling g mk a).setFrames s₂.frames with heap := s₂.heap, slotsUsed := s₂.slotsUsed } : State).setVm s₂.vm := by
      have : s₂ = ({ s₂ with vm := (U.calling g mk a).vm } : State).setVm s₂.vm := rfl
      rw [e2] at this
      exact this
    have hf₂ : s₂.frames = .throwing q :: .java g :: U.frames.tail := hend
    have hW' : U.WarmedH s₂.vm := hW₂
    have hs₂ : s₂ = ((({ U with heap := s₂.heap, slotsUsed := s₂.slotsUsed } : State).setVm s₂.vm).setTop g).pushFrame (.throwing q) := by
      refine e3.trans ?_
      rw [hf₂, State.calling_eq h.top, State.setFrames_setFrames, State.pushFrame, State.frames_setTop _ hr', State.setTop_of_frames _ hr', State.setFrames_setFrames, hr]
      rfl
    have hsame : U.sameButNew ({ U with heap := s₂.heap, slotsUsed := s₂.slotsUsed } : State) L mc ms := by
      refine ⟨?_, q2, q3, q4, q5, q6⟩
      obtain ⟨t, ht, -⟩ := State.frames_cons hr
      show ({ U with heap := s₂.heap, slotsUsed := s₂.slotsUsed } : State) = { U.setFrames U.frames with heap := s₂.heap, slotsUsed := s₂.slotsUsed }
      rw [State.setFrames_self ht]
    subst hg
    refine Or.inr ⟨q, ⟨(({ U with heap := s₂.heap, slotsUsed := s₂.slotsUsed } : State).setVm s₂.vm), Ls ++ L, c0 + mc, s0 + ms⟩,
      ⟨X.admits, X.cas, X.clock, X.frames, X.room, X.hears, X.method, X.code, (X.here.setHeapUsed s₂.heap s₂.slotsUsed).setVm hW'.alike, X.tail, State.WarmedH.trans X.warmed hW', X.limits, X.bytes, X.same.trans (hsame.setVm s.vm)⟩,
      ⟨g, mk, s₂, L, E, ce, rfl, rfl, hx, hce, hcv, hcl, rfl, hL, rfl, rfl⟩, ?_⟩
    show Steps p.tables e below _ (((({ U with heap := s₂.heap, slotsUsed := s₂.slotsUsed } : State).setVm s₂.vm).setTop g).pushFrame (.throwing q))
    rw [← hs₂]
    exact hsteps
end Payer
section Calls
variable {p : Program} {l : Launch} {e : Env} {R : Room} {s : State} {m : MethodId} {args : Array Value} {below : List Frame} {meth : Method} {c : Code} {T : State} {locs : List Loc} {cells slots : Nat}
theorem vx_callV (X : Stand p l e R s m args below meth c T locs cells slots) (hexec : p.tables.exec = Jvm.exec) {own C : String} {index : Nat} {y : MethodName} {bytes : ByteArray} {maxL : Nat} {ret : Option FieldType}
    (hown : s.vm.findClass own = some m.cls) (hlink : (Cond.methodLink own index y).before args s = true) (hinst : (Cond.instanceMethod y).before args s = true) (hsel : (Cond.selects C y y).before args s = true)
    (hcode : (Cond.code y bytes maxL ret).before args s = true) (hy : y.cls ≠ "java/lang/invoke/MethodHandle" ∧ y.cls ≠ "java/lang/invoke/VarHandle")
    {W9 : Nat} {Pre : Pt → Array Value → Prop} {Post : Pt → Array Value → Option Value → Pt → Prop} {PostX : Pt → Array Value → Addr → Pt → Prop} (hK : vx_Back l R p e below s args y 3 W9 Pre Post PostX)
    {b : Addr} {cellB : Cell} (hcell : T.heap[b]? = some cellB) (hobj : cellB.vm.isStatics = false) (hcls : s.vm.findClass C = some cellB.cls)
    {g : JFrame} (hg : g.method = m) (hsize : g.locals.size = c.maxLocals) {argsL rest : List Value} (hlen : ∀ sig, parseMethodDescriptor y.desc = some sig → argsL.length = sig.parameters.length)
    (hstack : g.stack = argsL.reverse ++ .ref b :: rest) (hW : 2 * g.monitorRoom + (rest.map fun v => v.category).sum ≤ W9) (hdg : decode c.code g.pc = .ok (.invokevirtual index, 3))
    (hpre : ∀ vm₁, s.WarmedH vm₁ → Pre ⟨T.setVm vm₁, locs, cells, slots⟩ (Value.ref b :: argsL).toArray) :
    (∃ (v : Option Value) (vm₁ : Vm) (B : Pt), s.WarmedH vm₁ ∧ Stand p l e R s m args below meth c B.U B.locs B.cells B.slots ∧ Post ⟨T.setVm vm₁, locs, cells, slots⟩ (Value.ref b :: argsL).toArray v B ∧
      ∀ target, Steps p.tables e below (B.U.setTop { g with pc := g.pc + 3, stack := v.toList ++ rest }) target → Steps p.tables e below (T.setTop g) target) ∨
    (∃ (q : Addr) (vm₁ : Vm) (B : Pt), s.WarmedH vm₁ ∧ Stand p l e R s m args below meth c B.U B.locs B.cells B.slots ∧ PostX ⟨T.setVm vm₁, locs, cells, slots⟩ (Value.ref b :: argsL).toArray q B ∧
      Steps p.tables e below (T.setTop g) ((B.U.setTop { g with stack := rest }).pushFrame (.throwing q))) := by
  obtain ⟨mk, methM, hnamed, hmethM, hstM, habM⟩ := Cond.instanceMethod_spec hinst
  obtain ⟨methM', cM, hmethM', -, -, -, -, -, -, hsigM⟩ := Cond.code_spec hnamed hcode
  cases hmethM.symm.trans hmethM'
  obtain ⟨c2, r2, m2, q1, q2, q3, q4, kP, hkP, hkPi⟩ := Cond.selects_spec hsel
  cases hcls.symm.trans q1
  cases (State.methodFound?_of_named hnamed hy).symm.trans q2
  cases hnamed.symm.trans q3
  have hselP : selectMethod e.platform s.vm cellB.cls mk = .method mk := by rw [Launch.admits_selectMethod X.admits]; exact q4
  obtain ⟨vm₁, X₁, hstep₁⟩ := X.invokevirtual hexec hown hlink hnamed hmethM hstM hkP hkPi hy (a := b) (cell := cellB) hcell
    (fun z h => by rw [h] at hobj; cases hobj) hselP hmethM habM hkP hkPi (g := g) hg (argsL := argsL) (rest := rest) (hlen _ hsigM) hstack hdg
  rcases hK m meth c ⟨T.setVm vm₁, locs, cells, slots⟩ { g with stack := rest } (.invokevirtual index) mk (Value.ref b :: argsL).toArray X₁ hg hsize hdg hW (X₁.named hnamed) (hpre vm₁ X₁.warmed) with ⟨v, B, X', hpost, hsteps⟩ | ⟨q, B, X', hpost, hsteps⟩
  · exact Or.inl ⟨v, vm₁, B, X₁.warmed, X', hpost, fun target h => hstep₁ _ fun acts => by rw [doInvoke_state]; exact hsteps.trans h⟩
  · exact Or.inr ⟨q, vm₁, B, X₁.warmed, X', hpost, hstep₁ _ fun acts => by rw [doInvoke_state]; exact hsteps⟩
theorem vx_callS (X : Stand p l e R s m args below meth c T locs cells slots) (hexec : p.tables.exec = Jvm.exec) {own : String} {index : Nat} {y : MethodName} {bytes : ByteArray} {maxL : Nat} {ret : Option FieldType}
    (hown : s.vm.findClass own = some m.cls) (hlink : (Cond.methodLink own index y).before args s = true) (hstat : (Cond.static y).before args s = true) (hinit : (Cond.initialized y.cls).before args s = true)
    (hcode : (Cond.code y bytes maxL ret).before args s = true) (hy : y.cls ≠ "java/lang/invoke/MethodHandle" ∧ y.cls ≠ "java/lang/invoke/VarHandle")
    {W9 : Nat} {Pre : Pt → Array Value → Prop} {Post : Pt → Array Value → Option Value → Pt → Prop} {PostX : Pt → Array Value → Addr → Pt → Prop} (hK : vx_Back l R p e below s args y 3 W9 Pre Post PostX)
    {g : JFrame} (hg : g.method = m) (hsize : g.locals.size = c.maxLocals) {argsL rest : List Value} (hlen : ∀ sig, parseMethodDescriptor y.desc = some sig → argsL.length = sig.parameters.length)
    (hstack : g.stack = argsL.reverse ++ rest) (hW : 2 * g.monitorRoom + (rest.map fun v => v.category).sum ≤ W9) (hdg : decode c.code g.pc = .ok (.invokestatic index, 3))
    (hpre : ∀ vm₁, s.WarmedH vm₁ → Pre ⟨T.setVm vm₁, locs, cells, slots⟩ argsL.toArray) :
    (∃ (v : Option Value) (vm₁ : Vm) (B : Pt), s.WarmedH vm₁ ∧ Stand p l e R s m args below meth c B.U B.locs B.cells B.slots ∧ Post ⟨T.setVm vm₁, locs, cells, slots⟩ argsL.toArray v B ∧
      ∀ target, Steps p.tables e below (B.U.setTop { g with pc := g.pc + 3, stack := v.toList ++ rest }) target → Steps p.tables e below (T.setTop g) target) ∨
    (∃ (q : Addr) (vm₁ : Vm) (B : Pt), s.WarmedH vm₁ ∧ Stand p l e R s m args below meth c B.U B.locs B.cells B.slots ∧ PostX ⟨T.setVm vm₁, locs, cells, slots⟩ argsL.toArray q B ∧
      Steps p.tables e below (T.setTop g) ((B.U.setTop { g with stack := rest }).pushFrame (.throwing q))) := by
  obtain ⟨mk, hnamed⟩ := Cond.code_named hcode
  obtain ⟨methM, cM, hmethM, -, -, -, -, -, -, hsigM⟩ := Cond.code_spec hnamed hcode
  have hstatic : methM.isStatic = true := Cond.static_spec hnamed hmethM hstat
  obtain ⟨kP, hkP, -⟩ := className_of_methodNamed hnamed
  have hinitP : kP.init = .initialized := Cond.initialized_spec (findClass_of_methodNamed hnamed) hkP hinit
  obtain ⟨vm₁, X₁, hstep₁⟩ := X.invokestatic hexec hown hlink hnamed hmethM hstatic hkP hinitP hy (g := g) hg (argsL := argsL) (rest := rest) (hlen _ hsigM) hstack hdg
  rcases hK m meth c ⟨T.setVm vm₁, locs, cells, slots⟩ { g with stack := rest } (.invokestatic index) mk argsL.toArray X₁ hg hsize hdg hW (X₁.named hnamed) (hpre vm₁ X₁.warmed) with ⟨v, B, X', hpost, hsteps⟩ | ⟨q, B, X', hpost, hsteps⟩
  · exact Or.inl ⟨v, vm₁, B, X₁.warmed, X', hpost, fun target h => hstep₁ _ fun acts => by rw [doInvoke_state]; exact hsteps.trans h⟩
  · exact Or.inr ⟨q, vm₁, B, X₁.warmed, X', hpost, hstep₁ _ fun acts => by rw [doInvoke_state]; exact hsteps⟩
end Calls
theorem vx_cls {s : State} {T : State} {vm₁ : Vm} {E : String} {k : ClassId} (hW : s.WarmedH vm₁) (h : (T.setVm vm₁).vm.findClass E = some k) : s.vm.findClass E = some k := by
  have h1 : vm₁.findClass E = some k := h
  rw [hW.alike.findClass] at h1
  exact h1
/-- the method's frame g, with q thrown over it -/
def vx_W (p : Program) (l : Launch) (e : Env) (R : Room) (s : State) (m : MethodId) (args : Array Value) (below : List Frame) (meth : Method) (c : Code) (H : Heap) (locs : List Loc) (cells slots : Nat) (Q : State → Prop) (g : JFrame) (q : Addr) : Prop :=
  ∀ T : State, T.heap = H → Stand p l e R s m args below meth c T locs cells slots → ∃ t, Steps p.tables e below ((T.setTop g).pushFrame (.throwing q)) t ∧ Q t
def vx_Run (p : Program) (l : Launch) (e : Env) (R : Room) (s : State) (m : MethodId) (args : Array Value) (below : List Frame) (meth : Method) (c : Code) (H : Heap) (locs : List Loc) (cells slots mc ms : Nat) (g : JFrame) (rest : List Value) (Qa : State → Outcome → State → Prop) (XC : String → State → State → Prop) (free : Addr → Prop) : Prop :=
  ∀ T : State, T.heap = H → Stand p l e R s m args below meth c T locs cells slots →
    (∃ (v : Option Value) (st₀ t T' : State) (L : List Loc), st₀.heap = H ∧ Stand p l e R s m args below meth c T' (locs ++ L) (cells + mc) (slots + ms) ∧ (∀ q ∈ L, free q.base) ∧ T'.heap = t.heap ∧ T'.vm = t.vm ∧ Qa st₀ (.returned v) t ∧
      Goes p e below T g T' { g with pc := g.pc + 3, stack := v.toList ++ rest }) ∨
    (∃ (q : Addr) (st₀ t T' : State) (L : List Loc) (E : String) (ce : Cell), st₀.heap = H ∧ Stand p l e R s m args below meth c T' (locs ++ L) (cells + mc) (slots + ms) ∧ (∀ z ∈ L, free z.base) ∧ T'.heap = t.heap ∧ T'.vm = t.vm ∧ XC E st₀ t ∧ t.heap[q]? = some ce ∧ ce.vm = .none ∧ s.vm.findClass E = some ce.cls ∧
      Steps p.tables e below (T.setTop g) ((T'.setTop { g with stack := rest }).pushFrame (.throwing q)))
def vx_X {S : Type} (px : S → Prop) (B : String → S → State → Prop) (A : Nat → Prop) : String → State → State → Prop := fun E st t => ∃ u : S, px u ∧ B E u t ∧ va_F A st t
section Runs
variable {p : Program} {l : Launch} {e : Env} {R : Room} {s : State} {m : MethodId} {args : Array Value} {below : List Frame} {meth : Method} {c : Code} {H : Heap} {locs : List Loc} {cells slots : Nat}
variable {y : MethodName} {bytes cc : ByteArray} {maxL nL mc ms n index : Nat} {ret : Option FieldType} {ws : List Cond} {rm : Room} {Pc : Array Value → State → Prop} {Qc : Array Value → State → Outcome → State → Prop} {XC : String → State → State → Prop} {free : Addr → Prop} {Ts : List Cond} {own C : String} {b : Addr} {As rest : List Value} {g : JFrame}
theorem vx_callBack (cb : CallB R s args own index y bytes maxL ret ws rm mc ms n) (hM : vx_Met l y ws rm Pc Qc XC mc ms free) (hbl : FrameBlind Pc) : vx_Back l R p e below s args y 3 8 (PreOf R mc ms Pc) (PostOf Qc mc ms free) (vx_Post XC mc ms free) := by
  obtain ⟨hrc, hrs, hfr, hlo, hws, hcw, -, hini, -⟩ := cb
  exact vx_back (bytes := bytes) (maxL := maxL) (ret := ret) hM hbl hrc hrs hfr hlo hws hcw (fun a' U hW => word_at hW (Or.inl (by first | rfl | simp [Cond.onTables, Cond.keeps, Cond.steady])) hini)
theorem vx_runV (S : CallFix p m c cc nL s args Ts own) (hM : vx_Met l y ws rm Pc Qc XC mc ms free) (cw : CallW R s args own C index y bytes maxL ret ws rm mc ms n) (hp : PreV s H C b Pc As)
    (hg : g.method = m) (hn : As.length = n) (hsize : g.locals.size = nL) (hstack : g.stack = As.reverse ++ .ref b :: rest) (hW : 2 * g.monitorRoom + (rest.map fun v => v.category).sum ≤ 8) (hdg : decode cc g.pc = .ok (.invokevirtual index, 3)) (hf : cells + mc ≤ R.cells ∧ slots + ms ≤ R.slots) :
    vx_Run p l e R s m args below meth c H locs cells slots mc ms g rest (Qc (Value.ref b :: As).toArray) XC free := by
  have hK : vx_Back l R p e below s args y 3 8 (PreOf R mc ms Pc) (PostOf Qc mc ms free) (vx_Post XC mc ms free) := vx_callBack cw.1 hM hp.1
  obtain ⟨⟨-, -, -, -, -, -, hcode, -, hy, hlen, hl⟩, hin, hse⟩ := cw
  obtain ⟨hx, hb, hml, ho, -⟩ := S
  obtain ⟨-, ⟨cellB, hcB, hoB, hclB⟩, hPc⟩ := hp
  intro T hT X
  rcases vx_callV X hx (C := C) (bytes := bytes) (maxL := maxL) (ret := ret) ho hl hin hse hcode hy hK (by rw [hT]; exact hcB) hoB hclB hg (hsize.trans hml.symm) (argsL := As) (rest := rest) (fun sig h => hn.trans (hlen sig h)) hstack hW (by rw [hb]; exact hdg)
    (fun vm₁ hW₁ => ⟨hf.1, hf.2, hPc (T.setVm vm₁) hT hW₁⟩) with ⟨v, vm₁, ⟨U', l2, c2, s2⟩, hW₁, X', ⟨g', mk, t, L, e1, e2, hq, h1, hL, h2, h3⟩, st⟩ | ⟨q, vm₁, ⟨U', l2, c2, s2⟩, hW₁, X', ⟨g', mk, t, L, E, ce, e1, e2, hq, hce, hcv, hcl, h1, hL, h2, h3⟩, st⟩
  · dsimp only [Pt.U, Pt.locs, Pt.cells, Pt.slots] at X' e1 e2 h1 h2 h3 st
    subst h1; subst h2; subst h3
    exact Or.inl ⟨v, (T.setVm vm₁).calling g' mk (Value.ref b :: As).toArray, t, U', L, hT, X', hL, e1, e2, hq, st⟩
  · dsimp only [Pt.U, Pt.locs, Pt.cells, Pt.slots] at X' e1 e2 h1 h2 h3 st hcl
    subst h1; subst h2; subst h3
    exact Or.inr ⟨q, (T.setVm vm₁).calling g' mk (Value.ref b :: As).toArray, t, U', L, E, ce, hT, X', hL, e1, e2, hq, hce, hcv, vx_cls hW₁ hcl, st⟩
theorem vx_runS (S : CallFix p m c cc nL s args Ts own) (hM : vx_Met l y ws rm Pc Qc XC mc ms free) (cw : CallB R s args own index y bytes maxL ret ws rm mc ms n ∧ (Cond.static y).before args s = true) (hp : PreS s H Pc As)
    (hg : g.method = m) (hn : As.length = n) (hsize : g.locals.size = nL) (hstack : g.stack = As.reverse ++ rest) (hW : 2 * g.monitorRoom + (rest.map fun v => v.category).sum ≤ 8) (hdg : decode cc g.pc = .ok (.invokestatic index, 3)) (hf : cells + mc ≤ R.cells ∧ slots + ms ≤ R.slots) :
    vx_Run p l e R s m args below meth c H locs cells slots mc ms g rest (Qc As.toArray) XC free := by
  have hK : vx_Back l R p e below s args y 3 8 (PreOf R mc ms Pc) (PostOf Qc mc ms free) (vx_Post XC mc ms free) := vx_callBack cw.1 hM hp.1
  obtain ⟨⟨-, -, -, -, -, -, hcode, hini, hy, hlen, hl⟩, hstt⟩ := cw
  obtain ⟨hx, hb, hml, ho, -⟩ := S
  intro T hT X
  rcases vx_callS X hx (bytes := bytes) (maxL := maxL) (ret := ret) ho hl hstt hini hcode hy hK hg (hsize.trans hml.symm) (argsL := As) (rest := rest) (fun sig h => hn.trans (hlen sig h)) hstack hW (by rw [hb]; exact hdg)
    (fun vm₁ hW₁ => ⟨hf.1, hf.2, hp.2 (T.setVm vm₁) hT hW₁⟩) with ⟨v, vm₁, ⟨U', l2, c2, s2⟩, hW₁, X', ⟨g', mk, t, L, e1, e2, hq, h1, hL, h2, h3⟩, st⟩ | ⟨q, vm₁, ⟨U', l2, c2, s2⟩, hW₁, X', ⟨g', mk, t, L, E, ce, e1, e2, hq, hce, hcv, hcl, h1, hL, h2, h3⟩, st⟩
  · dsimp only [Pt.U, Pt.locs, Pt.cells, Pt.slots] at X' e1 e2 h1 h2 h3 st
    subst h1; subst h2; subst h3
    exact Or.inl ⟨v, (T.setVm vm₁).calling g' mk As.toArray, t, U', L, hT, X', hL, e1, e2, hq, st⟩
  · dsimp only [Pt.U, Pt.locs, Pt.cells, Pt.slots] at X' e1 e2 h1 h2 h3 st hcl
    subst h1; subst h2; subst h3
    exact Or.inr ⟨q, (T.setVm vm₁).calling g' mk As.toArray, t, U', L, E, ce, hT, X', hL, e1, e2, hq, hce, hcv, vx_cls hW₁ hcl, st⟩
end Runs
section Rows
variable {p : Program} {l : Launch} {e : Env} {R : Room} {s : State} {m : MethodId} {args : Array Value} {below : List Frame} {meth : Method} {c : Code} {H : Heap} {locs : List Loc} {cells slots : Nat} {Q : State → Prop}
variable {mc ms : Nat} {free : Addr → Prop} {A0 A1 : Nat → Prop} {H0 : Heap} {a : Array Value} {pc : Nat} {ls : Array Slot} {st0 rest : List Value}
theorem vx_keep {st₀ t T' : State} {L : List Loc} (h0 : st₀.heap = H) (e1 : T'.heap = t.heap) (hS : va_S A0 H0 H locs) (hA : ∀ q, q < H.size → A1 q → A0 q) (hf : ∀ q, free q → A0 q) (hL : ∀ q ∈ L, free q.base) (hF : va_F A1 st₀ t) :
    H.size ≤ T'.heap.size ∧ (∀ q : Nat, q < H.size → ¬ A1 q → T'.heap[q]? = H[q]?) ∧ va_S A0 H0 T'.heap (locs ++ L) := by
  obtain ⟨hz, hk⟩ := hF
  rw [h0] at hz hk
  exact ⟨by rw [e1]; exact hz, fun q h1 h2 => by rw [e1]; exact hk q h1 h2,
    ⟨Nat.le_trans hS.1 (by rw [e1]; exact hz), fun q h1 h2 => by rw [e1, hk q (Nat.lt_of_lt_of_le h1 hS.1) (fun z => h2 (hA q (Nat.lt_of_lt_of_le h1 hS.1) z))]; exact hS.2.1 q h1 h2, fun q hq => by
      rcases List.mem_append.mp hq with h | h
      · exact hS.2.2 q h
      · exact hf _ (hL q h)⟩⟩
theorem vx_calli {S SX : Type} {post : Int32 → S → Prop} {px : SX → Prop} {B : S → State → Prop} {BX : String → SX → State → Prop} {AX : Nat → Prop} (hr : vx_Run p l e R s m args below meth c H locs cells slots mc ms (F0 m pc ls st0) rest (va_Qi post B A1 a) (vx_X px BX AX) free) (hS : va_S A0 H0 H locs) (hA : ∀ q, q < H.size → A1 q → A0 q) (hf : ∀ q, free q → A0 q) (hAX : ∀ q, q < H.size → AX q → A0 q)
    (kx : ∀ (E : String) (ce : Cell) (q9 : Addr) (u : SX) (t : State) (H1 : Heap) (locs1 : List Loc), t.heap = H1 → s.vm.Alike t.vm → px u → BX E u t → H.size ≤ H1.size → (∀ q : Nat, q < H.size → ¬ AX q → H1[q]? = H[q]?) → va_S A0 H0 H1 locs1 → H1[q9]? = some ce → ce.vm = .none → s.vm.findClass E = some ce.cls → vx_W p l e R s m args below meth c H1 locs1 (cells + mc) (slots + ms) Q (F0 m pc ls rest) q9)
    (kk : ∀ (r : Int32) (u : S) (t : State) (H1 : Heap) (locs1 : List Loc), t.heap = H1 → s.vm.Alike t.vm → post r u → B u t → H.size ≤ H1.size → (∀ q : Nat, q < H.size → ¬ A1 q → H1[q]? = H[q]?) → va_S A0 H0 H1 locs1 → W p l e R s m args below meth c H1 locs1 (cells + mc) (slots + ms) Q (F0 m (pc + 3) ls (.int r :: rest))) : W p l e R s m args below meth c H locs cells slots Q (F0 m pc ls st0) := by
  intro T hT X
  rcases hr T hT X with ⟨v, st₀, t, T', L, h0, X', hL, e1, e2, ⟨⟨r, u, hv, hp, hb⟩, hF⟩, st⟩ | ⟨q, st₀, t, T', L, E, ce, h0, X', hL, e1, e2, ⟨u, hp, hb, hF⟩, hce, hcv, hcl, st⟩
  · cases hv
    obtain ⟨k1, k2, k3⟩ := vx_keep h0 e1 hS hA hf hL hF
    obtain ⟨t2, a1, b1⟩ := kk r u t T'.heap (locs ++ L) e1.symm (by rw [← e2]; exact X'.warmed.alike) hp hb k1 k2 k3 T' rfl X'
    exact ⟨t2, st t2 a1, b1⟩
  · obtain ⟨k1, k2, k3⟩ := vx_keep h0 e1 hS hAX hf hL hF
    obtain ⟨t2, a1, b1⟩ := kx E ce q u t T'.heap (locs ++ L) e1.symm (by rw [← e2]; exact X'.warmed.alike) hp hb k1 k2 k3 (by rw [e1]; exact hce) hcv hcl T' rfl X'
    exact ⟨t2, st.trans a1, b1⟩
theorem vx_calll {S SX : Type} {post : Int64 → S → Prop} {px : SX → Prop} {B : S → State → Prop} {BX : String → SX → State → Prop} {AX : Nat → Prop} (hr : vx_Run p l e R s m args below meth c H locs cells slots mc ms (F0 m pc ls st0) rest (va_Ql post B A1 a) (vx_X px BX AX) free) (hS : va_S A0 H0 H locs) (hA : ∀ q, q < H.size → A1 q → A0 q) (hf : ∀ q, free q → A0 q) (hAX : ∀ q, q < H.size → AX q → A0 q)
    (kx : ∀ (E : String) (ce : Cell) (q9 : Addr) (u : SX) (t : State) (H1 : Heap) (locs1 : List Loc), t.heap = H1 → s.vm.Alike t.vm → px u → BX E u t → H.size ≤ H1.size → (∀ q : Nat, q < H.size → ¬ AX q → H1[q]? = H[q]?) → va_S A0 H0 H1 locs1 → H1[q9]? = some ce → ce.vm = .none → s.vm.findClass E = some ce.cls → vx_W p l e R s m args below meth c H1 locs1 (cells + mc) (slots + ms) Q (F0 m pc ls rest) q9)
    (kk : ∀ (r : Int64) (u : S) (t : State) (H1 : Heap) (locs1 : List Loc), t.heap = H1 → s.vm.Alike t.vm → post r u → B u t → H.size ≤ H1.size → (∀ q : Nat, q < H.size → ¬ A1 q → H1[q]? = H[q]?) → va_S A0 H0 H1 locs1 → W p l e R s m args below meth c H1 locs1 (cells + mc) (slots + ms) Q (F0 m (pc + 3) ls (.long r :: rest))) : W p l e R s m args below meth c H locs cells slots Q (F0 m pc ls st0) := by
  intro T hT X
  rcases hr T hT X with ⟨v, st₀, t, T', L, h0, X', hL, e1, e2, ⟨⟨r, u, hv, hp, hb⟩, hF⟩, st⟩ | ⟨q, st₀, t, T', L, E, ce, h0, X', hL, e1, e2, ⟨u, hp, hb, hF⟩, hce, hcv, hcl, st⟩
  · cases hv
    obtain ⟨k1, k2, k3⟩ := vx_keep h0 e1 hS hA hf hL hF
    obtain ⟨t2, a1, b1⟩ := kk r u t T'.heap (locs ++ L) e1.symm (by rw [← e2]; exact X'.warmed.alike) hp hb k1 k2 k3 T' rfl X'
    exact ⟨t2, st t2 a1, b1⟩
  · obtain ⟨k1, k2, k3⟩ := vx_keep h0 e1 hS hAX hf hL hF
    obtain ⟨t2, a1, b1⟩ := kx E ce q u t T'.heap (locs ++ L) e1.symm (by rw [← e2]; exact X'.warmed.alike) hp hb k1 k2 k3 (by rw [e1]; exact hce) hcv hcl T' rfl X'
    exact ⟨t2, st.trans a1, b1⟩
theorem vx_callf {S SX : Type} {post : UInt32 → S → Prop} {px : SX → Prop} {B : S → State → Prop} {BX : String → SX → State → Prop} {AX : Nat → Prop} (hr : vx_Run p l e R s m args below meth c H locs cells slots mc ms (F0 m pc ls st0) rest (va_Qf post B A1 a) (vx_X px BX AX) free) (hS : va_S A0 H0 H locs) (hA : ∀ q, q < H.size → A1 q → A0 q) (hf : ∀ q, free q → A0 q) (hAX : ∀ q, q < H.size → AX q → A0 q)
    (kx : ∀ (E : String) (ce : Cell) (q9 : Addr) (u : SX) (t : State) (H1 : Heap) (locs1 : List Loc), t.heap = H1 → s.vm.Alike t.vm → px u → BX E u t → H.size ≤ H1.size → (∀ q : Nat, q < H.size → ¬ AX q → H1[q]? = H[q]?) → va_S A0 H0 H1 locs1 → H1[q9]? = some ce → ce.vm = .none → s.vm.findClass E = some ce.cls → vx_W p l e R s m args below meth c H1 locs1 (cells + mc) (slots + ms) Q (F0 m pc ls rest) q9)
    (kk : ∀ (r : UInt32) (u : S) (t : State) (H1 : Heap) (locs1 : List Loc), t.heap = H1 → s.vm.Alike t.vm → post r u → B u t → H.size ≤ H1.size → (∀ q : Nat, q < H.size → ¬ A1 q → H1[q]? = H[q]?) → va_S A0 H0 H1 locs1 → W p l e R s m args below meth c H1 locs1 (cells + mc) (slots + ms) Q (F0 m (pc + 3) ls (.float r :: rest))) : W p l e R s m args below meth c H locs cells slots Q (F0 m pc ls st0) := by
  intro T hT X
  rcases hr T hT X with ⟨v, st₀, t, T', L, h0, X', hL, e1, e2, ⟨⟨r, u, hv, hp, hb⟩, hF⟩, st⟩ | ⟨q, st₀, t, T', L, E, ce, h0, X', hL, e1, e2, ⟨u, hp, hb, hF⟩, hce, hcv, hcl, st⟩
  · cases hv
    obtain ⟨k1, k2, k3⟩ := vx_keep h0 e1 hS hA hf hL hF
    obtain ⟨t2, a1, b1⟩ := kk r u t T'.heap (locs ++ L) e1.symm (by rw [← e2]; exact X'.warmed.alike) hp hb k1 k2 k3 T' rfl X'
    exact ⟨t2, st t2 a1, b1⟩
  · obtain ⟨k1, k2, k3⟩ := vx_keep h0 e1 hS hAX hf hL hF
    obtain ⟨t2, a1, b1⟩ := kx E ce q u t T'.heap (locs ++ L) e1.symm (by rw [← e2]; exact X'.warmed.alike) hp hb k1 k2 k3 (by rw [e1]; exact hce) hcv hcl T' rfl X'
    exact ⟨t2, st.trans a1, b1⟩
theorem vx_calld {S SX : Type} {post : UInt64 → S → Prop} {px : SX → Prop} {B : S → State → Prop} {BX : String → SX → State → Prop} {AX : Nat → Prop} (hr : vx_Run p l e R s m args below meth c H locs cells slots mc ms (F0 m pc ls st0) rest (va_Qd post B A1 a) (vx_X px BX AX) free) (hS : va_S A0 H0 H locs) (hA : ∀ q, q < H.size → A1 q → A0 q) (hf : ∀ q, free q → A0 q) (hAX : ∀ q, q < H.size → AX q → A0 q)
    (kx : ∀ (E : String) (ce : Cell) (q9 : Addr) (u : SX) (t : State) (H1 : Heap) (locs1 : List Loc), t.heap = H1 → s.vm.Alike t.vm → px u → BX E u t → H.size ≤ H1.size → (∀ q : Nat, q < H.size → ¬ AX q → H1[q]? = H[q]?) → va_S A0 H0 H1 locs1 → H1[q9]? = some ce → ce.vm = .none → s.vm.findClass E = some ce.cls → vx_W p l e R s m args below meth c H1 locs1 (cells + mc) (slots + ms) Q (F0 m pc ls rest) q9)
    (kk : ∀ (r : UInt64) (u : S) (t : State) (H1 : Heap) (locs1 : List Loc), t.heap = H1 → s.vm.Alike t.vm → post r u → B u t → H.size ≤ H1.size → (∀ q : Nat, q < H.size → ¬ A1 q → H1[q]? = H[q]?) → va_S A0 H0 H1 locs1 → W p l e R s m args below meth c H1 locs1 (cells + mc) (slots + ms) Q (F0 m (pc + 3) ls (.double r :: rest))) : W p l e R s m args below meth c H locs cells slots Q (F0 m pc ls st0) := by
  intro T hT X
  rcases hr T hT X with ⟨v, st₀, t, T', L, h0, X', hL, e1, e2, ⟨⟨r, u, hv, hp, hb⟩, hF⟩, st⟩ | ⟨q, st₀, t, T', L, E, ce, h0, X', hL, e1, e2, ⟨u, hp, hb, hF⟩, hce, hcv, hcl, st⟩
  · cases hv
    obtain ⟨k1, k2, k3⟩ := vx_keep h0 e1 hS hA hf hL hF
    obtain ⟨t2, a1, b1⟩ := kk r u t T'.heap (locs ++ L) e1.symm (by rw [← e2]; exact X'.warmed.alike) hp hb k1 k2 k3 T' rfl X'
    exact ⟨t2, st t2 a1, b1⟩
  · obtain ⟨k1, k2, k3⟩ := vx_keep h0 e1 hS hAX hf hL hF
    obtain ⟨t2, a1, b1⟩ := kx E ce q u t T'.heap (locs ++ L) e1.symm (by rw [← e2]; exact X'.warmed.alike) hp hb k1 k2 k3 (by rw [e1]; exact hce) hcv hcl T' rfl X'
    exact ⟨t2, st.trans a1, b1⟩
theorem vx_callv {S SX : Type} {post : S → Prop} {px : SX → Prop} {B : S → State → Prop} {BX : String → SX → State → Prop} {AX : Nat → Prop} (hr : vx_Run p l e R s m args below meth c H locs cells slots mc ms (F0 m pc ls st0) rest (va_Qv post B A1 a) (vx_X px BX AX) free) (hS : va_S A0 H0 H locs) (hA : ∀ q, q < H.size → A1 q → A0 q) (hf : ∀ q, free q → A0 q) (hAX : ∀ q, q < H.size → AX q → A0 q)
    (kx : ∀ (E : String) (ce : Cell) (q9 : Addr) (u : SX) (t : State) (H1 : Heap) (locs1 : List Loc), t.heap = H1 → s.vm.Alike t.vm → px u → BX E u t → H.size ≤ H1.size → (∀ q : Nat, q < H.size → ¬ AX q → H1[q]? = H[q]?) → va_S A0 H0 H1 locs1 → H1[q9]? = some ce → ce.vm = .none → s.vm.findClass E = some ce.cls → vx_W p l e R s m args below meth c H1 locs1 (cells + mc) (slots + ms) Q (F0 m pc ls rest) q9)
    (kk : ∀ (u : S) (t : State) (H1 : Heap) (locs1 : List Loc), t.heap = H1 → s.vm.Alike t.vm → post u → B u t → H.size ≤ H1.size → (∀ q : Nat, q < H.size → ¬ A1 q → H1[q]? = H[q]?) → va_S A0 H0 H1 locs1 → W p l e R s m args below meth c H1 locs1 (cells + mc) (slots + ms) Q (F0 m (pc + 3) ls (rest))) : W p l e R s m args below meth c H locs cells slots Q (F0 m pc ls st0) := by
  intro T hT X
  rcases hr T hT X with ⟨v, st₀, t, T', L, h0, X', hL, e1, e2, ⟨⟨u, hv, hp, hb⟩, hF⟩, st⟩ | ⟨q, st₀, t, T', L, E, ce, h0, X', hL, e1, e2, ⟨u, hp, hb, hF⟩, hce, hcv, hcl, st⟩
  · cases hv
    obtain ⟨k1, k2, k3⟩ := vx_keep h0 e1 hS hA hf hL hF
    obtain ⟨t2, a1, b1⟩ := kk u t T'.heap (locs ++ L) e1.symm (by rw [← e2]; exact X'.warmed.alike) hp hb k1 k2 k3 T' rfl X'
    exact ⟨t2, st t2 a1, b1⟩
  · obtain ⟨k1, k2, k3⟩ := vx_keep h0 e1 hS hAX hf hL hF
    obtain ⟨t2, a1, b1⟩ := kx E ce q u t T'.heap (locs ++ L) e1.symm (by rw [← e2]; exact X'.warmed.alike) hp hb k1 k2 k3 (by rw [e1]; exact hce) hcv hcl T' rfl X'
    exact ⟨t2, st.trans a1, b1⟩
/-- caught by the row x of this method's table; the rows ahead don't take it -/
theorem vx_catch {own name : String} {E : String} {ce : Cell} {q : Addr} (hown : s.vm.findClass own = some m.cls) (pre : List ExceptionTableEntry) (x : ExceptionTableEntry) (suf : List ExceptionTableEntry) (hsplit : c.exceptionTable.toList = pre ++ x :: suf)
    (hpass : ∀ z ∈ pre, covers z pc = false ∨ (z.catchType ≠ 0 ∧ ∃ nm : String, (Cond.classLink own z.catchType nm).before args s = true ∧ va_Nc E nm s)) (hx : covers x pc = true) (h0 : x.catchType ≠ 0)
    (hlink : (Cond.classLink own x.catchType name).before args s = true) (hcast : (Cond.castable E name).before args s = true) (hcell : H[q]? = some ce) (hv : ce.vm = .none) (hcl : s.vm.findClass E = some ce.cls)
    (kk : W p l e R s m args below meth c H locs cells slots Q (F0 m x.handlerPc ls [.ref q])) : vx_W p l e R s m args below meth c H locs cells slots Q (F0 m pc ls rest) q := by
  intro T hT X
  have hpl : e.platform.magicAccessors = ({} : Platform).magicAccessors := by rw [X.admits.platform]
  obtain ⟨c3, c4, hc3, hc4, hasg⟩ := Cond.castable_spec hcast
  cases Option.some.inj (hc3.symm.trans hcl)
  obtain ⟨c5, hc5, hcl5⟩ := Cond.classLink_spec hown hlink e.platform hpl
  cases Option.some.inj (hc4.symm.trans hc5)
  obtain ⟨vm', X', st⟩ := X.thenCaughtThrough q (g := F0 m pc ls rest) rfl (Steps.refl _) (by rw [hT]; exact hcell) (by rw [hv]; rfl) (by obtain ⟨k9, h9, -⟩ := Vm.findClass_spec hcl; exact ⟨k9, h9⟩) pre x suf hsplit
    (fun z hz => by
      rcases hpass z hz with h | ⟨hz0, nm, hl1, hn1⟩
      · exact Or.inl h
      · obtain ⟨c6, hc6, hcl6⟩ := Cond.classLink_spec hown hl1 e.platform hpl
        obtain ⟨a8, b8, h1, h2, h3⟩ := hn1
        cases Option.some.inj (h1.symm.trans hcl)
        cases Option.some.inj (h2.symm.trans hc6)
        exact Or.inr ⟨hz0, _, hcl6, h3⟩) hx (Or.inr ⟨h0, c4, hcl5, hasg⟩)
  obtain ⟨t, a1, b1⟩ := kk (T.setVm vm') hT X'
  exact ⟨t, st.trans a1, b1⟩
end Rows
section Ends
variable {p : Program} {l : Launch} {e : Env} {R : Room} {s : State} {m : MethodId} {args : Array Value} {below : List Frame} {meth : Method} {c : Code} {H : Heap} {locs : List Loc} {cells slots : Nat} {Q : State → Prop}
variable {mc ms : Nat} {free : Addr → Prop} {A0 A1 : Nat → Prop} {H0 : Heap} {a : Array Value} {ls : Array Slot} {st0 rest : List Value}
variable {Qc : Array Value → State → Outcome → State → Prop} {XC : String → State → State → Prop}
/-- what a body that may throw owes at its end -/
def vx_MQ (below : List Frame) (Qc : Array Value → State → Outcome → State → Prop) (XC : String → State → State → Prop) (a : Array Value) (s : State) (mc ms : Nat) (free : Addr → Prop) : State → Prop := fun t =>
  ∃ o, t.status = .running ∧ Ended t below o ∧ vx_Q Qc XC mc ms free a s o t
theorem vx_ret {g : JFrame} {mc ms : Nat} (k : W p l e R s m args below meth c H locs cells slots (MQ below Qc args s mc ms free) g) : W p l e R s m args below meth c H locs cells slots (vx_MQ below Qc XC args s mc ms free) g := by
  intro T hT X
  obtain ⟨t, a1, o, b1, b2, b3, b4⟩ := k T hT X
  exact ⟨t, a1, o, b1, b2, Or.inl ⟨b3, b4⟩⟩
/-- not caught here: it goes on to the caller -/
theorem vx_widen {g : JFrame} {q : Addr} {k n : Nat} (h1 : cells ≤ k) (h2 : slots ≤ n) (kk : vx_W p l e R s m args below meth c H locs k n Q g q) : vx_W p l e R s m args below meth c H locs cells slots Q g q := fun T hT X => kk T hT (stand_widen X h1 h2)
theorem vx_out {pc : Nat} {E : String} {ce : Cell} {q : Addr} {mc ms : Nat} (hout : ∀ x ∈ c.exceptionTable.toList, covers x pc = false) (hlocks : meth.locks = false) (hcell : H[q]? = some ce) (hv : ce.vm = .none) (hcl : s.vm.findClass E = some ce.cls)
    (hx : ∀ t : State, t.heap = H → s.vm.Alike t.vm → XC E s t) (hf : ∀ z ∈ locs, free z.base) (hc : cells ≤ mc) (hs : slots ≤ ms) :
    vx_W p l e R s m args below meth c H locs cells slots (vx_MQ below Qc XC args s mc ms free) (F0 m pc ls rest) q := by
  intro T hT X
  obtain ⟨st1, hrun, hend, hW, hsm⟩ := X.leaveThrown q (g := F0 m pc ls rest) rfl rfl rfl hout hlocks
  have hcell9 : (T.setFrames (.throwing q :: below)).heap[q]? = some ce := by
    show T.heap[q]? = some ce
    rw [hT]; exact hcell
  exact ⟨_, st1, .threw q, hrun, hend, Or.inr ⟨q, rfl, E, ce, locs, hx _ hT hW.alike, hcell9, hv, hcl, hW, hsm.mono hc hs, hf⟩⟩
theorem vx_frame {U : State} {k n : Nat} (h : s.sameButNew ({ U with vm := s.vm } : State) locs k n) : s.heap.size ≤ U.heap.size ∧ ∀ q : Nat, q < s.heap.size → (∀ z ∈ locs, z.base ≠ q) → U.heap[q]? = s.heap[q]? := by
  obtain ⟨-, h2, -, -, -, h6⟩ := h
  refine ⟨h2, fun q hq hz => ?_⟩
  obtain ⟨c9, e1, e2, e3, e4⟩ := h6 q _ (Array.getElem?_eq_getElem hq)
  have hs : c9.slots = (s.heap[q]).slots := Array.ext_getElem? fun i => e4 i fun hm => hz _ hm rfl
  have h9 : c9 = s.heap[q] := by
    rw [hs] at e2
    exact e2
  have e5 : U.heap[q]? = some c9 := e1
  rw [e5, h9, Array.getElem?_eq_getElem hq]
/-- the words of a throw but the four that speak of the heap -/
def vx_no (w : Cond) : Bool := decide (w ≠ .isRef (.static Bundle.tN "UNASSIGNED_STACK" Bundle.steD)) && decide (w ≠ .isRef (.static Bundle.tN "SUPPRESSED_SENTINEL" Bundle.listD)) && decide (w ≠ .laysStatic Bundle.tN "UNASSIGNED_STACK" Bundle.steD) && decide (w ≠ .laysStatic Bundle.tN "SUPPRESSED_SENTINEL" Bundle.listD)
def vx_at0 (own : String) (ic : Nat) (X : String) (names : List String) : List Cond := (Bundle.ownAtoms0 own ic X names).filter vx_no
def vx_atS (own : String) (ic : Nat) (X : String) (names : List String) : List Cond := (Bundle.ownAtoms own ic X names).filter vx_no
/-- a word that the tables alone decide, or a good one -/
def vx_ot (w : Cond) : Bool := w.onTables || goodWord w
theorem vx_ot_at {args a' : Array Value} {s U : State} {w : Cond} (hW : s.WarmedH U.vm) (hvm : s.vm = U.vm) (hg : vx_ot w = true) (h : w.before args s = true) : w.before a' U = true := by
  simp only [vx_ot, Bool.or_eq_true] at hg
  rcases hg with hg | hg
  · exact va_tabs hg hvm h
  · exact word_at hW (good_of_word hg) h
/-- a list's words: the good ones out of the method's own list, the others by premises of their own -/
theorem vx_hat {args : Array Value} {s : State} {L B : List Cond} (h1 : ∀ w ∈ L.filter goodWord, w.before args s = true) (h2 : ∀ w ∈ L.filter (fun w => !goodWord w), w ∈ B) (h3 : ∀ w ∈ B, w.before args s = true) : ∀ w ∈ L, w.before args s = true := by
  intro w hw
  by_cases g : goodWord w = true
  · exact h1 w (List.mem_filter.mpr ⟨hw, g⟩)
  · refine h3 w (h2 w (List.mem_filter.mpr ⟨hw, ?_⟩))
    show (!goodWord w) = true
    cases hgw : goodWord w
    · rfl
    · exact absurd hgw g
theorem vx_c {args : Array Value} {s : State} {w : Cond} {B : List Cond} (h : w.before args s = true) (t : ∀ w ∈ B, w.before args s = true) : ∀ w' ∈ w :: B, w'.before args s = true := fun w' h' => (List.mem_cons.mp h').elim (fun e => by rw [e]; exact h) (t w')
theorem vx_n {args : Array Value} {s : State} : ∀ w ∈ ([] : List Cond), w.before args s = true := fun _ h => nomatch h
theorem vx_own {args : Array Value} {s : State} {L : List Cond} (h1 : ∀ w ∈ L.filter vx_no, w.before args s = true)
    (hU : (Cond.isRef (.static Bundle.tN "UNASSIGNED_STACK" Bundle.steD)).before args s = true) (hN : (Cond.isRef (.static Bundle.tN "SUPPRESSED_SENTINEL" Bundle.listD)).before args s = true)
    (lU : (Cond.laysStatic Bundle.tN "UNASSIGNED_STACK" Bundle.steD).before args s = true) (lN : (Cond.laysStatic Bundle.tN "SUPPRESSED_SENTINEL" Bundle.listD).before args s = true) : ∀ w ∈ L, w.before args s = true := by
  intro w hw
  by_cases e1 : w = .isRef (.static Bundle.tN "UNASSIGNED_STACK" Bundle.steD)
  · rw [e1]; exact hU
  · by_cases e2 : w = .isRef (.static Bundle.tN "SUPPRESSED_SENTINEL" Bundle.listD)
    · rw [e2]; exact hN
    · by_cases e3 : w = .laysStatic Bundle.tN "UNASSIGNED_STACK" Bundle.steD
      · rw [e3]; exact lU
      · by_cases e4 : w = .laysStatic Bundle.tN "SUPPRESSED_SENTINEL" Bundle.listD
        · rw [e4]; exact lN
        · exact h1 w (List.mem_filter.mpr ⟨hw, by unfold vx_no; rw [decide_eq_true e1, decide_eq_true e2, decide_eq_true e3, decide_eq_true e4]; rfl⟩)
/-- where a static field lies, its class's statics cell in H -/
def vx_L (C n d : String) (A : Nat → Prop) (U : State) (H : Heap) : Prop := ∃ (c : ClassId) (k : Class) (i : Nat) (f : Field) (a : Nat) (cell : Cell), U.vm.findClass C = some c ∧ U.fieldFound? C n d = some (c, k, i, f) ∧ f.isStatic = true ∧ k.statics = some a ∧ H[a]? = some cell ∧ cell.vm.isStatics = true ∧ cell.cls = c ∧ f.slot < cell.slots.size ∧ k.staticTypes[f.slot]? = some f.type ∧ ¬ A a
theorem vx_L.moved {C n d : String} {A : Nat → Prop} {u U : State} {H : Heap} (hvm : u.vm.Alike U.vm) (h : vx_L C n d A u H) : vx_L C n d A U H := by
  obtain ⟨c, k, i, f, a, cell, h1, h2, h3, h4, h5, h6, h7, h8, h9, h10⟩ := h
  obtain ⟨k', hi', he⟩ := State.fieldFound?_setVm hvm h2
  exact ⟨c, k', i, f, a, cell, by rw [hvm.findClass]; exact h1, hi', h3, by rw [he]; exact h4, h5, h6, h7, h8, by rw [he]; exact h9, h10⟩
theorem vx_L.kept {C n d : String} {A : Nat → Prop} {U : State} {H H1 : Heap} (h : vx_L C n d A U H) (hq : ∀ a : Nat, a < H.size → ¬ A a → H1[a]? = H[a]?) : vx_L C n d A U H1 := by
  obtain ⟨c, k, i, f, a, cell, h1, h2, h3, h4, h5, h6, h7, h8, h9, h10⟩ := h
  exact ⟨c, k, i, f, a, cell, h1, h2, h3, h4, by rw [hq a (Array.getElem?_eq_some_iff.mp h5).1 h10]; exact h5, h6, h7, h8, h9, h10⟩
theorem vx_L.narrow {C n d : String} {A B : Nat → Prop} {U : State} {H : Heap} (h : vx_L C n d A U H) (hAB : ∀ q, B q → A q) : vx_L C n d B U H := by
  obtain ⟨c, k, i, f, a, cell, h1, h2, h3, h4, h5, h6, h7, h8, h9, h10⟩ := h
  exact ⟨c, k, i, f, a, cell, h1, h2, h3, h4, h5, h6, h7, h8, h9, fun z => h10 (hAB _ z)⟩
theorem vx_L.word {C n d : String} {A : Nat → Prop} {s : State} {args : Array Value} (h : vx_L C n d A s s.heap) : (Cond.laysStatic C n d).before args s = true := by
  obtain ⟨c, k, i, f, a, cell, h1, h2, h3, h4, h5, h6, h7, h8, h9, -⟩ := h
  show (Cond.laysStatic C n d).holds args s none s [] = true
  exact Cond.laysStatic_of h1 h2 h3 h4 h5 h6 h7 h8 h9
/-- .. and what it holds: null or some reference -/
def vx_Zq (C n d : String) (A : Nat → Prop) (U : State) (H : Heap) : Prop := va_Zq C n d A U H ∧ vx_L C n d A U H
theorem vx_Zq.moved {C n d : String} {A : Nat → Prop} {u U : State} {H : Heap} (hvm : u.vm.Alike U.vm) (h : vx_Zq C n d A u H) : vx_Zq C n d A U H := ⟨va_Zq.moved hvm h.1, vx_L.moved hvm h.2⟩
theorem vx_Zq.kept {C n d : String} {A : Nat → Prop} {U : State} {H H1 : Heap} (h : vx_Zq C n d A U H) (hq : ∀ a : Nat, a < H.size → ¬ A a → H1[a]? = H[a]?) : vx_Zq C n d A U H1 := ⟨va_Zq.kept h.1 hq, vx_L.kept h.2 hq⟩
theorem vx_Zq.narrow {C n d : String} {A B : Nat → Prop} {U : State} {H : Heap} (h : vx_Zq C n d A U H) (hAB : ∀ q, B q → A q) : vx_Zq C n d B U H := ⟨va_Zq.narrow h.1 hAB, vx_L.narrow h.2 hAB⟩
theorem vx_Zqof {args : Array Value} {s : State} {C n d : String} {A : Nat → Prop} (hl : (Cond.laysStatic C n d).before args s = true) (hini : (Cond.initialized C).before args s = true) (h : (Cond.isRef (.static C n d)).before args s = true) (hA : ∀ a : Nat, a < s.heap.size → ¬ A a) : vx_Zq C n d A s s.heap := by
  refine ⟨va_Zqof hl hini h hA, ?_⟩
  obtain ⟨c, k, i, f, a, cell, h1, h2, h3, h4, h5, h6, h7, h8, h9⟩ := Cond.laysStatic_spec hl
  exact ⟨c, k, i, f, a, cell, h1, h2, h3, h4, h5, h6, h7, h8, h9, hA a (Array.getElem?_eq_some_iff.mp h5).1⟩
theorem vx_isRef {C n d : String} {v : Value} {A : Nat → Prop} {s : State} {args : Array Value} (h : va_Z C n d v A s s.heap) (hv : v.isRef = true) : (Cond.isRef (.static C n d)).before args s = true := by
  obtain ⟨cf, kf, fi, f, a, cell, h1, h2, h3, h4, h5, h6, h7, -⟩ := h
  have he : (Term.static C n d).eval args s none [] s = some v := by
    simp [Term.eval, State.fieldNamed?, h1, h2, h4, h5, h6, h7]
  simp only [Cond.before, Cond.holds, Cond.value, he]
  cases v <;> simp_all [Value.isRef]
theorem vx_isRefq {C n d : String} {A : Nat → Prop} {s : State} {args : Array Value} (h : va_Zq C n d A s s.heap) : (Cond.isRef (.static C n d)).before args s = true := by
  rcases h with h | ⟨t, h⟩
  · exact vx_isRef h rfl
  · exact vx_isRef h rfl
/-- the same frame, seen from here: as if the method were called anew in this heap -/
theorem vx_rebase {T : State} (X : Stand p l e R s m args below meth c T locs cells slots) {R' : Room} (hf : R'.frames ≤ R.frames) (hl : R'.locals ≤ R.locals) (hc : cells + R'.cells ≤ R.cells) (hs : slots + R'.slots ≤ R.slots) :
    Stand p l e R' ((T.setVm s.vm).setFrames (.invoking m args :: below)) m args below meth c T [] 0 0 := by
  have htop : (T.setVm s.vm).topJava?.isSome := X.here.top
  have hF : ((T.setVm s.vm).setFrames (.invoking m args :: below)).frames = .invoking m args :: below := State.frames_setFrames _ (State.cur_lt_of_top htop)
  obtain ⟨g₀, hg0⟩ := Option.isSome_iff_exists.mp htop
  obtain ⟨r, hr⟩ := State.topJava?_eq_some.mp hg0
  have hl9 : e.platform.stackLimits (T.setVm s.vm).me = e.platform.stackLimits s.me := X.limits
  have hb9 : (T.setVm s.vm).me.stackBytes = s.me.stackBytes := X.bytes
  refine ⟨X.admits, X.cas, X.clock, hF, ?_, X.hears, X.method, X.code, X.here, X.tail, X.warmed, ?_, ?_, ?_⟩
  · have h := X.room
    have hU : ((T.setVm s.vm).setFrames (.invoking m args :: below)).localsInUse = s.localsInUse := by
      rw [State.localsInUse_invoking hF (meth := meth) (c := c) X.method X.code, State.localsInUse_invoking X.frames X.method X.code]
    simp only [State.hasRoom, Bool.and_eq_true, decide_eq_true_eq] at h ⊢
    obtain ⟨⟨⟨⟨h1, h2, h3, h4, h5, h6⟩, h7⟩, h8⟩, h9⟩ := h
    rw [X.frames, List.length_cons] at h2 h3
    have q1 := X.heapSize
    have q2 := X.used
    simp only [hF, hU, List.length_cons, State.stackLimits_setFrames, State.stackBytes_setFrames, hl9, hb9]
    refine ⟨⟨⟨⟨by omega, by omega, by omega, by omega, by omega, h6⟩, ?_⟩, ?_⟩, X.book⟩
    · show T.heap.size + R'.cells ≤ e.platform.maxCells
      omega
    · show T.slotsUsed + R'.slots ≤ e.platform.maxSlots
      omega
  · rw [State.stackLimits_setFrames]; rfl
  · rw [State.stackBytes_setFrames]; rfl
  · refine ⟨?_, Nat.le_refl _, Nat.le_refl _, ?_, ?_, fun a c9 h9 => ⟨c9, h9, rfl, rfl, fun _ _ => rfl⟩⟩
    · obtain ⟨t, ht, -⟩ := State.frames_cons hr
      show T.setVm s.vm = { ((T.setVm s.vm).setFrames (.invoking m args :: below)).setFrames (T.setVm s.vm).frames with heap := T.heap, slotsUsed := T.slotsUsed }
      rw [State.setFrames_setFrames, State.setFrames_self ht]
      rfl
    · show T.slotsUsed = T.slotsUsed + ((T.heap.toList.drop T.heap.size).map (·.slots.size)).sum
      rw [List.drop_eq_nil_of_le (Nat.le_of_eq Array.length_toList)]
      rfl
    · show ((T.heap.toList.drop T.heap.size).map (·.slots.size)).sum ≤ 0
      rw [List.drop_eq_nil_of_le (Nat.le_of_eq Array.length_toList)]
      exact Nat.le_refl _
/-- 'throw new E()': new; dup; invokespecial; athrow -/
theorem vx_throw0 {cc : ByteArray} {pc : Nat} (hexec : p.tables.exec = Jvm.exec) (hb : c.code = cc) (hl : l.stackTraces = false) {own cls : String} {names : List String} {ik ic mc ms : Nat} {A : Nat → Prop}
    (hown : s.vm.findClass own = some m.cls) (hcls : Bundle.fit cls = true) (hnames : ∀ n ∈ names, Bundle.fit n = true)
    (hk : (Cond.classLink own ik cls).before args s = true) (hini : (Cond.initialized cls).before args s = true) (hat : ∀ w ∈ vx_at0 own ic cls names, w.before args s = true)
    (hgood : ∀ w ∈ Cond.classLink own ik cls :: Cond.initialized cls :: vx_at0 own ic cls names, vx_ot w = true)
    (hU : vx_Zq Bundle.tN "UNASSIGNED_STACK" Bundle.steD A s s.heap) (hN : vx_Zq Bundle.tN "SUPPRESSED_SENTINEL" Bundle.listD A s s.heap) (hS : va_S A s.heap H locs) (hsize : ls.size = c.maxLocals)
    (d0 : decode cc pc = .ok (.new ik, 3)) (d3 : decode cc (pc + 3) = .ok (.dup, 1)) (d4 : decode cc (pc + 4) = .ok (.invokespecial ic, 3)) (d7 : decode cc (pc + 7) = .ok (.athrow, 1))
    (hout : ∀ x ∈ c.exceptionTable.toList, covers x (pc + 7) = false)
    (hRframes : names.length + 3 < R.frames) (hRlocals : (rest.map fun v => v.category).sum + (13 * (names.length + 1) + 42) ≤ R.locals) (hRcells : cells + 1 ≤ R.cells) (hRslots : slots + 6 ≤ R.slots) (hlocks : meth.locks = false)
    (hx : ∀ t : State, s.vm.Alike t.vm → H.size ≤ t.heap.size → (∀ q : Nat, q < H.size → t.heap[q]? = H[q]?) → XC cls s t)
    (hf : ∀ z ∈ locs, free z.base) (hc : cells + 1 ≤ mc) (hs : slots + 6 ≤ ms) :
    W p l e R s m args below meth c H locs cells slots (vx_MQ below Qc XC args s mc ms free) (F0 m pc ls rest) := by
  intro T hT X
  have htr : e.platform.stackTraces = false := (show e.platform.stackTraces = l.stackTraces by rw [X.admits.platform]).trans hl
  have Y := vx_rebase X (R' := { frames := R.frames, locals := R.locals, cells := 1, slots := 6 }) (Nat.le_refl _) (Nat.le_refl _) hRcells hRslots
  obtain ⟨s', hA⟩ : ∃ z, z = (T.setVm s.vm).setFrames (.invoking m args :: below) := ⟨_, rfl⟩
  rw [← hA] at Y
  have hvm : s'.vm = s.vm := by rw [hA]; rfl
  have hhp : s'.heap = H := by rw [hA]; exact hT
  have hW0 : s.WarmedH s'.vm := by rw [hvm]; exact State.WarmedH.refl s
  have hat' : ∀ w ∈ vx_at0 own ic cls names, w.before args s' = true := fun w hw => vx_ot_at hW0 hvm.symm (hgood w (List.mem_cons_of_mem _ (List.mem_cons_of_mem _ hw))) (hat w hw)
  have hk' : (Cond.classLink own ik cls).before args s' = true := vx_ot_at hW0 hvm.symm (hgood _ List.mem_cons_self) hk
  have hini' : (Cond.initialized cls).before args s' = true := vx_ot_at hW0 hvm.symm (hgood _ (List.mem_cons_of_mem _ List.mem_cons_self)) hini
  have hU' : vx_Zq Bundle.tN "UNASSIGNED_STACK" Bundle.steD A s' s'.heap := by rw [hhp]; exact vx_Zq.moved hW0.alike (hU.kept hS.2.1)
  have hN' : vx_Zq Bundle.tN "SUPPRESSED_SENTINEL" Bundle.listD A s' s'.heap := by rw [hhp]; exact vx_Zq.moved hW0.alike (hN.kept hS.2.1)
  have h : ∀ w ∈ Bundle.ownAtoms0 own ic cls names, w.before args s' = true := vx_own hat' (vx_isRefq hU'.1) (vx_isRefq hN'.1) hU'.2.word hN'.2.word
  have hown' : s'.vm.findClass own = some m.cls := by rw [hvm]; exact hown
  have hins : (Cond.instantiable cls 6).before args s' = true := h _ (by simp [Bundle.ownAtoms0])
  obtain ⟨vm₁, cX, kX, hfX, hkX, -, -, X₁, st1⟩ := Y.newCold hexec (own := own) (C := cls) (index := ik) (n := 6) hown' hk' hins hini'
    (g := F0 m pc ls rest) rfl (by rw [hb]; exact d0) (Nat.le_refl _) (Nat.le_refl _)
  generalize hT1 : (T.setVm vm₁).pushCell { cls := cX, slots := kX.instanceTypes.map defaultValue, vm := .none } = T1 at X₁ st1
  have hcat : (Value.ref T.heap.size).category = 1 := rfl
  have hcellA : T1.heap[T.heap.size]? = some (freshCell cX kX) := by rw [← hT1]; exact State.heap_pushCell_size _ _
  have d3' : decode c.code (pc + 3) = .ok (.dup, 1) := by rw [hb]; exact d3
  obtain ⟨U, hsteps, hrun, hend, hW, hsame, ce, hce, hO⟩ := X₁.ctorThrow0 hexec htr (own := own) (cls := cls) (names := names) (ic := ic) hown' hcls hnames h (fun x hx => nomatch hx) hfX hkX hcellA (by rw [hhp, hT]; exact Nat.le_refl _)
    (g := { method := m, pc := pc + 4, locals := ls, stack := .ref T.heap.size :: .ref T.heap.size :: rest, locked := none }) rfl hsize rfl rfl (rest := rest) rfl
    (by rw [hb]; exact d4) (by rw [hb]; exact d7) hout hRframes (by simp only [List.map_cons, List.sum_cons, hcat]; omega) hlocks
  obtain ⟨f1, f2⟩ := vx_frame hsame
  rw [hhp] at f1 f2
  have hWs : s.WarmedH U.vm := State.WarmedH.trans hW0 hW
  have hcl : s.vm.findClass cls = some ce.cls := by
    have h9 := hO.cls
    rw [hvm] at h9
    exact h9
  have hall : s.sameButNew ({ U with vm := s.vm } : State) locs mc ms := by
    subst hA
    obtain ⟨e1, e2⟩ := hsame
    rw [State.setFrames_setFrames] at e1
    have h2 : (T.setVm s.vm).sameButNew ({ U with vm := s.vm } : State) [] (0 + 1) (0 + 6) := ⟨e1, e2⟩
    have h3 := X.same.trans h2
    rw [List.append_nil] at h3
    exact h3.mono hc hs
  refine ⟨U, ?_, .threw T.heap.size, hrun, hend, Or.inr ⟨T.heap.size, rfl, cls, ce, locs, hx U hWs.alike f1 (fun q hq => f2 q hq (fun z hz => nomatch hz)), hce, hO.vm, hcl, hWs, hall, hf⟩⟩
  refine st1 _ ?_
  show Steps p.tables e below (T1.setTop { method := m, pc := pc + 3, locals := ls, stack := .ref T.heap.size :: rest, locked := none }) _
  jvm_step X₁.here [X₁.here.top, hexec, d3', Value.category]
  exact hsteps
/-- 'throw new E("text")': new; dup; ldc; invokespecial; athrow -/
theorem vx_throwS {cc : ByteArray} {pc : Nat} (hexec : p.tables.exec = Jvm.exec) (hb : c.code = cc) (hl : l.stackTraces = false) {own cls text : String} {names : List String} {ik is ic mc ms sa : Nat} {A : Nat → Prop}
    (hown : s.vm.findClass own = some m.cls) (hcls : Bundle.fit cls = true) (hnames : ∀ n ∈ names, Bundle.fit n = true)
    (hk : (Cond.classLink own ik cls).before args s = true) (hini : (Cond.initialized cls).before args s = true) (hstr : vk_R own is text sa s) (hat : ∀ w ∈ vx_atS own ic cls names, w.before args s = true)
    (hgood : ∀ w ∈ Cond.classLink own ik cls :: Cond.initialized cls :: vx_atS own ic cls names, vx_ot w = true)
    (hU : vx_Zq Bundle.tN "UNASSIGNED_STACK" Bundle.steD A s s.heap) (hN : vx_Zq Bundle.tN "SUPPRESSED_SENTINEL" Bundle.listD A s s.heap) (hS : va_S A s.heap H locs) (hsize : ls.size = c.maxLocals)
    (d0 : decode cc pc = .ok (.new ik, 3)) (d3 : decode cc (pc + 3) = .ok (.dup, 1)) (d4 : decode cc (pc + 4) = .ok (.ldc is, 2)) (d6 : decode cc (pc + 6) = .ok (.invokespecial ic, 3)) (d9 : decode cc (pc + 9) = .ok (.athrow, 1))
    (hout : ∀ x ∈ c.exceptionTable.toList, covers x (pc + 9) = false)
    (hRframes : names.length + 3 < R.frames) (hRlocals : (rest.map fun v => v.category).sum + (13 * (names.length + 1) + 43) ≤ R.locals) (hRcells : cells + 1 ≤ R.cells) (hRslots : slots + 6 ≤ R.slots) (hlocks : meth.locks = false)
    (hx : ∀ t : State, s.vm.Alike t.vm → H.size ≤ t.heap.size → (∀ q : Nat, q < H.size → t.heap[q]? = H[q]?) → XC cls s t)
    (hf : ∀ z ∈ locs, free z.base) (hc : cells + 1 ≤ mc) (hs : slots + 6 ≤ ms) :
    W p l e R s m args below meth c H locs cells slots (vx_MQ below Qc XC args s mc ms free) (F0 m pc ls rest) := by
  intro T hT X
  have htr : e.platform.stackTraces = false := (show e.platform.stackTraces = l.stackTraces by rw [X.admits.platform]).trans hl
  have Y := vx_rebase X (R' := { frames := R.frames, locals := R.locals, cells := 1, slots := 6 }) (Nat.le_refl _) (Nat.le_refl _) hRcells hRslots
  obtain ⟨s', hA⟩ : ∃ z, z = (T.setVm s.vm).setFrames (.invoking m args :: below) := ⟨_, rfl⟩
  rw [← hA] at Y
  have hvm : s'.vm = s.vm := by rw [hA]; rfl
  have hhp : s'.heap = H := by rw [hA]; exact hT
  have hW0 : s.WarmedH s'.vm := by rw [hvm]; exact State.WarmedH.refl s
  have hat' : ∀ w ∈ vx_atS own ic cls names, w.before args s' = true := fun w hw => vx_ot_at hW0 hvm.symm (hgood w (List.mem_cons_of_mem _ (List.mem_cons_of_mem _ hw))) (hat w hw)
  have hk' : (Cond.classLink own ik cls).before args s' = true := vx_ot_at hW0 hvm.symm (hgood _ List.mem_cons_self) hk
  have hini' : (Cond.initialized cls).before args s' = true := vx_ot_at hW0 hvm.symm (hgood _ (List.mem_cons_of_mem _ List.mem_cons_self)) hini
  have hU' : vx_Zq Bundle.tN "UNASSIGNED_STACK" Bundle.steD A s' s'.heap := by rw [hhp]; exact vx_Zq.moved hW0.alike (hU.kept hS.2.1)
  have hN' : vx_Zq Bundle.tN "SUPPRESSED_SENTINEL" Bundle.listD A s' s'.heap := by rw [hhp]; exact vx_Zq.moved hW0.alike (hN.kept hS.2.1)
  have h : ∀ w ∈ Bundle.ownAtoms own ic cls names, w.before args s' = true := vx_own hat' (vx_isRefq hU'.1) (vx_isRefq hN'.1) hU'.2.word hN'.2.word
  have hown' : s'.vm.findClass own = some m.cls := by rw [hvm]; exact hown
  have hins : (Cond.instantiable cls 6).before args s' = true := h _ (by simp [Bundle.ownAtoms])
  obtain ⟨vm₁, cX, kX, hfX, hkX, -, -, X₁, st1⟩ := Y.newCold hexec (own := own) (C := cls) (index := ik) (n := 6) hown' hk' hins hini'
    (g := F0 m pc ls rest) rfl (by rw [hb]; exact d0) (Nat.le_refl _) (Nat.le_refl _)
  generalize hT1 : (T.setVm vm₁).pushCell { cls := cX, slots := kX.instanceTypes.map defaultValue, vm := .none } = T1 at X₁ st1
  have hcat : (Value.ref T.heap.size).category = 1 := rfl
  have hcellA : T1.heap[T.heap.size]? = some (freshCell cX kX) := by rw [← hT1]; exact State.heap_pushCell_size _ _
  have d3' : decode c.code (pc + 3) = .ok (.dup, 1) := by rw [hb]; exact d3
  have d4' : decode c.code (pc + 4) = .ok (.ldc is, 2) := by rw [hb]; exact d4
  have hstr' : vk_R own is text sa s' := vk_R.warm hW0 hstr
  obtain ⟨U, hsteps, hrun, hend, hW, hsame, ce, hce, hO⟩ := X₁.ctorThrowS hexec htr (own := own) (cls := cls) (names := names) (ic := ic) hown' hcls hnames h (fun x hx => nomatch hx) hfX hkX hcellA (by rw [hhp, hT]; exact Nat.le_refl _) (msg := .ref sa) rfl
    (g := { method := m, pc := pc + 6, locals := ls, stack := .ref sa :: .ref T.heap.size :: .ref T.heap.size :: rest, locked := none }) rfl hsize rfl rfl (rest := rest) rfl
    (by rw [hb]; exact d6) (by rw [hb]; exact d9) hout hRframes (by simp only [List.map_cons, List.sum_cons, hcat]; omega) hlocks
  obtain ⟨f1, f2⟩ := vx_frame hsame
  rw [hhp] at f1 f2
  have hWs : s.WarmedH U.vm := State.WarmedH.trans hW0 hW
  have hcl : s.vm.findClass cls = some ce.cls := by
    have h9 := hO.cls
    rw [hvm] at h9
    exact h9
  have hall : s.sameButNew ({ U with vm := s.vm } : State) locs mc ms := by
    subst hA
    obtain ⟨e1, e2⟩ := hsame
    rw [State.setFrames_setFrames] at e1
    have h2 : (T.setVm s.vm).sameButNew ({ U with vm := s.vm } : State) [] (0 + 1) (0 + 6) := ⟨e1, e2⟩
    have h3 := X.same.trans h2
    rw [List.append_nil] at h3
    exact h3.mono hc hs
  refine ⟨U, ?_, .threw T.heap.size, hrun, hend, Or.inr ⟨T.heap.size, rfl, cls, ce, locs, hx U hWs.alike f1 (fun q hq => f2 q hq (fun z hz => nomatch hz)), hce, hO.vm, hcl, hWs, hall, hf⟩⟩
  refine st1 _ ?_
  show Steps p.tables e below (T1.setTop { method := m, pc := pc + 3, locals := ls, stack := .ref T.heap.size :: rest, locked := none }) _
  jvm_step X₁.here [X₁.here.top, hexec, d3', Value.category]
  exact X₁.ldcString hexec (own := own) (text := text) (index := is) (a := sa) hown' hstr'.1 hstr'.2
    (g := { method := m, pc := pc + 4, locals := ls, stack := .ref T.heap.size :: .ref T.heap.size :: rest, locked := none }) rfl d4' _ hsteps
/-- 'throw new E("text")', the text by a wide index -/
theorem vx_throwSW {cc : ByteArray} {pc : Nat} (hexec : p.tables.exec = Jvm.exec) (hb : c.code = cc) (hl : l.stackTraces = false) {own cls text : String} {names : List String} {ik is ic mc ms sa : Nat} {A : Nat → Prop}
    (hown : s.vm.findClass own = some m.cls) (hcls : Bundle.fit cls = true) (hnames : ∀ n ∈ names, Bundle.fit n = true)
    (hk : (Cond.classLink own ik cls).before args s = true) (hini : (Cond.initialized cls).before args s = true) (hstr : vk_R own is text sa s) (hat : ∀ w ∈ vx_atS own ic cls names, w.before args s = true)
    (hgood : ∀ w ∈ Cond.classLink own ik cls :: Cond.initialized cls :: vx_atS own ic cls names, vx_ot w = true)
    (hU : vx_Zq Bundle.tN "UNASSIGNED_STACK" Bundle.steD A s s.heap) (hN : vx_Zq Bundle.tN "SUPPRESSED_SENTINEL" Bundle.listD A s s.heap) (hS : va_S A s.heap H locs) (hsize : ls.size = c.maxLocals)
    (d0 : decode cc pc = .ok (.new ik, 3)) (d3 : decode cc (pc + 3) = .ok (.dup, 1)) (d4 : decode cc (pc + 4) = .ok (.ldc_w is, 3)) (d7 : decode cc (pc + 7) = .ok (.invokespecial ic, 3)) (d10 : decode cc (pc + 10) = .ok (.athrow, 1))
    (hout : ∀ x ∈ c.exceptionTable.toList, covers x (pc + 10) = false)
    (hRframes : names.length + 3 < R.frames) (hRlocals : (rest.map fun v => v.category).sum + (13 * (names.length + 1) + 43) ≤ R.locals) (hRcells : cells + 1 ≤ R.cells) (hRslots : slots + 6 ≤ R.slots) (hlocks : meth.locks = false)
    (hx : ∀ t : State, s.vm.Alike t.vm → H.size ≤ t.heap.size → (∀ q : Nat, q < H.size → t.heap[q]? = H[q]?) → XC cls s t)
    (hf : ∀ z ∈ locs, free z.base) (hc : cells + 1 ≤ mc) (hs : slots + 6 ≤ ms) :
    W p l e R s m args below meth c H locs cells slots (vx_MQ below Qc XC args s mc ms free) (F0 m pc ls rest) := by
  intro T hT X
  have htr : e.platform.stackTraces = false := (show e.platform.stackTraces = l.stackTraces by rw [X.admits.platform]).trans hl
  have Y := vx_rebase X (R' := { frames := R.frames, locals := R.locals, cells := 1, slots := 6 }) (Nat.le_refl _) (Nat.le_refl _) hRcells hRslots
  obtain ⟨s', hA⟩ : ∃ z, z = (T.setVm s.vm).setFrames (.invoking m args :: below) := ⟨_, rfl⟩
  rw [← hA] at Y
  have hvm : s'.vm = s.vm := by rw [hA]; rfl
  have hhp : s'.heap = H := by rw [hA]; exact hT
  have hW0 : s.WarmedH s'.vm := by rw [hvm]; exact State.WarmedH.refl s
  have hat' : ∀ w ∈ vx_atS own ic cls names, w.before args s' = true := fun w hw => vx_ot_at hW0 hvm.symm (hgood w (List.mem_cons_of_mem _ (List.mem_cons_of_mem _ hw))) (hat w hw)
  have hk' : (Cond.classLink own ik cls).before args s' = true := vx_ot_at hW0 hvm.symm (hgood _ List.mem_cons_self) hk
  have hini' : (Cond.initialized cls).before args s' = true := vx_ot_at hW0 hvm.symm (hgood _ (List.mem_cons_of_mem _ List.mem_cons_self)) hini
  have hU' : vx_Zq Bundle.tN "UNASSIGNED_STACK" Bundle.steD A s' s'.heap := by rw [hhp]; exact vx_Zq.moved hW0.alike (hU.kept hS.2.1)
  have hN' : vx_Zq Bundle.tN "SUPPRESSED_SENTINEL" Bundle.listD A s' s'.heap := by rw [hhp]; exact vx_Zq.moved hW0.alike (hN.kept hS.2.1)
  have h : ∀ w ∈ Bundle.ownAtoms own ic cls names, w.before args s' = true := vx_own hat' (vx_isRefq hU'.1) (vx_isRefq hN'.1) hU'.2.word hN'.2.word
  have hown' : s'.vm.findClass own = some m.cls := by rw [hvm]; exact hown
  have hins : (Cond.instantiable cls 6).before args s' = true := h _ (by simp [Bundle.ownAtoms])
  obtain ⟨vm₁, cX, kX, hfX, hkX, -, -, X₁, st1⟩ := Y.newCold hexec (own := own) (C := cls) (index := ik) (n := 6) hown' hk' hins hini'
    (g := F0 m pc ls rest) rfl (by rw [hb]; exact d0) (Nat.le_refl _) (Nat.le_refl _)
  generalize hT1 : (T.setVm vm₁).pushCell { cls := cX, slots := kX.instanceTypes.map defaultValue, vm := .none } = T1 at X₁ st1
  have hcat : (Value.ref T.heap.size).category = 1 := rfl
  have hcellA : T1.heap[T.heap.size]? = some (freshCell cX kX) := by rw [← hT1]; exact State.heap_pushCell_size _ _
  have d3' : decode c.code (pc + 3) = .ok (.dup, 1) := by rw [hb]; exact d3
  have d4' : decode c.code (pc + 4) = .ok (.ldc_w is, 3) := by rw [hb]; exact d4
  have hstr' : vk_R own is text sa s' := vk_R.warm hW0 hstr
  obtain ⟨U, hsteps, hrun, hend, hW, hsame, ce, hce, hO⟩ := X₁.ctorThrowS hexec htr (own := own) (cls := cls) (names := names) (ic := ic) hown' hcls hnames h (fun x hx => nomatch hx) hfX hkX hcellA (by rw [hhp, hT]; exact Nat.le_refl _) (msg := .ref sa) rfl
    (g := { method := m, pc := pc + 7, locals := ls, stack := .ref sa :: .ref T.heap.size :: .ref T.heap.size :: rest, locked := none }) rfl hsize rfl rfl (rest := rest) rfl
    (by rw [hb]; exact d7) (by rw [hb]; exact d10) hout hRframes (by simp only [List.map_cons, List.sum_cons, hcat]; omega) hlocks
  obtain ⟨f1, f2⟩ := vx_frame hsame
  rw [hhp] at f1 f2
  have hWs : s.WarmedH U.vm := State.WarmedH.trans hW0 hW
  have hcl : s.vm.findClass cls = some ce.cls := by
    have h9 := hO.cls
    rw [hvm] at h9
    exact h9
  have hall : s.sameButNew ({ U with vm := s.vm } : State) locs mc ms := by
    subst hA
    obtain ⟨e1, e2⟩ := hsame
    rw [State.setFrames_setFrames] at e1
    have h2 : (T.setVm s.vm).sameButNew ({ U with vm := s.vm } : State) [] (0 + 1) (0 + 6) := ⟨e1, e2⟩
    have h3 := X.same.trans h2
    rw [List.append_nil] at h3
    exact h3.mono hc hs
  refine ⟨U, ?_, .threw T.heap.size, hrun, hend, Or.inr ⟨T.heap.size, rfl, cls, ce, locs, hx U hWs.alike f1 (fun q hq => f2 q hq (fun z hz => nomatch hz)), hce, hO.vm, hcl, hWs, hall, hf⟩⟩
  refine st1 _ ?_
  show Steps p.tables e below (T1.setTop { method := m, pc := pc + 3, locals := ls, stack := .ref T.heap.size :: rest, locked := none }) _
  jvm_step X₁.here [X₁.here.top, hexec, d3', Value.category]
  exact X₁.ldcStringW hexec (own := own) (text := text) (index := is) (a := sa) hown' hstr'.1 hstr'.2
    (g := { method := m, pc := pc + 4, locals := ls, stack := .ref T.heap.size :: .ref T.heap.size :: rest, locked := none }) rfl d4' _ hsteps
end Ends
section Bodies
variable {l : Launch}
theorem vx_ofW {y : MethodName} {ws ws' : List Cond} {rm : Room} {Pc : Array Value → State → Prop} {Qc : Array Value → State → Outcome → State → Prop} {XC : String → State → State → Prop} {mc ms : Nat} {free : Addr → Prop} {cc : ByteArray} {maxL : Nat} {ret : Option FieldType}
    (hy : plainName y.cls = true) (hw : ws = Cond.code y cc maxL ret :: ws')
    (body : ∀ p e s m args below meth c s₁, BodyLoose p l y (headSpec ws rm) cc maxL ret e s m args below meth c s₁ → c.maxLocals = maxL → (∀ x ∈ c.exceptionTable.toList, False) → Pc args s →
      W p l e (headSpec ws rm).room s m args below meth c s.heap [] 0 0 (vx_MQ below Qc XC args s mc ms free) (entryFrame m args maxL)) : vx_Met l y ws rm Pc Qc XC mc ms free := by
  refine MetFree.of_bodyS (code := cc) (maxLocals := maxL) (ret := ret) hy ?_ ?_
  · intro args s m h hn
    obtain ⟨meth, c, h1, h2, h3, h4, h5, h6, -, -⟩ := Cond.code_spec hn (atoms_spec (ws := ws) h _ (by rw [hw]; exact List.mem_cons_self))
    exact ⟨meth, c, h1, h2, h3, h4, h5, h6⟩
  · intro p e s m args below meth c s₁ B hml hP _
    have hh0 : s₁.heap = s.heap := by rw [B.state]; rfl
    have ht : ∀ x ∈ c.exceptionTable.toList, False := by
      obtain ⟨meth9, c9, h1, h2, -, -, -, -, h7, -⟩ := Cond.code_spec B.named (atoms_spec (ws := ws) B.pre _ (by rw [hw]; exact List.mem_cons_self))
      cases Option.some.inj (h1.symm.trans B.method)
      cases Option.some.inj (h2.symm.trans (Stand.of_body B).code)
      intro x hx
      rw [Array.isEmpty_iff.mp h7] at hx
      cases hx
    obtain ⟨t, a1, o, b1, b2, b3⟩ := body p e s m args below meth c s₁ B hml ht hP s₁ hh0 (Stand.of_body B)
    exact ⟨t, o, a1, b1, b2, b3⟩
/-- the table of a body with handlers -/
theorem vx_table {p : Program} {x y : MethodName} {S : Spec} {cc bytes : ByteArray} {maxL maxL' : Nat} {ret ret' : Option FieldType} {e : Env} {s s₁ : State} {m : MethodId} {args : Array Value} {below : List Frame} {meth : Method} {c : Code} {hh : List (Nat × Nat × Nat × Nat)}
    (B : BodyLoose p l y S cc maxL ret e s m args below meth c s₁) (h : (Cond.codeWith y bytes maxL' ret' hh).before args s = true) : c.exceptionTable.toList = tableOf hh := by
  obtain ⟨m9, meth9, c9, hn9, h1, h2, -, -, h6, -⟩ := Cond.codeWith_spec h
  cases Option.some.inj (hn9.symm.trans B.named)
  cases Option.some.inj (h1.symm.trans B.method)
  cases Option.some.inj (h2.symm.trans (Stand.of_body B).code)
  rw [← h6, table_eq]
end Bodies
end VXA
/-! ===== END ===== -/
/-! ===== BEGIN a static call of a method with an exception table ===== -/
section VXS
variable {p : Program} {l : Launch} {e : Env} {R : Room} {s : State} {m : MethodId} {args : Array Value} {below : List Frame} {meth : Method} {c : Code} {T : State} {H : Heap} {locs : List Loc} {cells slots : Nat}
abbrev vx_CSW (R : Room) (s : State) (args : Array Value) (own : String) (index : Nat) (y : MethodName) (bytes : ByteArray) (maxL : Nat) (ret : Option FieldType) (hh : List (Nat × Nat × Nat × Nat)) (ws : List Cond) (rm : Room) (mc ms n : Nat) : Prop :=
  (rm.cells = mc ∧ rm.slots = ms ∧ rm.frames + 1 ≤ R.frames ∧ 8 + (maxL + 11) + rm.locals ≤ R.locals ∧ (∀ w ∈ ws, ∀ (a' : Array Value) (U : State), s.WarmedH U.vm → w.before a' U = true) ∧ Cond.codeWith y bytes maxL ret hh ∈ ws) ∧
  (Cond.codeWith y bytes maxL ret hh).before args s = true ∧ (Cond.initialized y.cls).before args s = true ∧ (y.cls ≠ "java/lang/invoke/MethodHandle" ∧ y.cls ≠ "java/lang/invoke/VarHandle") ∧
  (∀ sig, parseMethodDescriptor y.desc = some sig → n = sig.parameters.length) ∧ (Cond.methodLink own index y).before args s = true ∧ (Cond.static y).before args s = true
theorem vx_cwSW {own : String} {index maxL mc ms : Nat} {y : MethodName} {bytes : ByteArray} {ret : Option FieldType} {hh : List (Nat × Nat × Nat × Nat)} {Ts ws ws' : List Cond} {rm : Room} (n : Nat) (ht : ∀ w ∈ Ts, w.before args s = true) (hT : GoodIn Ts (va_wsS own index y ws)) (hw : ws = Cond.codeWith y bytes maxL ret hh :: ws') (hrc : rm.cells = mc) (hrs : rm.slots = ms)
    (hd : y.cls ≠ "java/lang/invoke/MethodHandle" ∧ y.cls ≠ "java/lang/invoke/VarHandle" ∧ (parseMethodDescriptor y.desc).map (fun d => d.parameters.length) = some n) (hR : rm.frames + 1 ≤ R.frames ∧ 8 + (maxL + 11) + rm.locals ≤ R.locals) :
    vx_CSW R s args own index y bytes maxL ret hh ws rm mc ms n := by
  have ok : ∀ w ∈ va_wsS own index y ws, w.before args s = true := fun w h => ht w (hT w h).1
  have hG : GoodIn Ts ws := fun w h => hT w (by unfold va_wsS; exact List.mem_append_right _ h)
  have hc : Cond.codeWith y bytes maxL ret hh ∈ ws := by rw [hw]; exact List.mem_cons_self
  refine ⟨⟨hrc, hrs, hR.1, hR.2, pay_in ht hG, hc⟩, ht _ (hG _ hc).1, ok _ (by simp [va_wsS]), ⟨hd.1, hd.2.1⟩, fun sig h => ?_, ok _ (by simp [va_wsS]), ok _ (by simp [va_wsS])⟩
  have h2 := hd.2.2
  rw [h] at h2
  exact (Option.some.inj h2).symm
theorem vx_callSW (X : Stand p l e R s m args below meth c T locs cells slots) (hexec : p.tables.exec = Jvm.exec) {own : String} {index : Nat} {y : MethodName} {bytes : ByteArray} {maxL : Nat} {ret : Option FieldType} {hh : List (Nat × Nat × Nat × Nat)}
    (hown : s.vm.findClass own = some m.cls) (hlink : (Cond.methodLink own index y).before args s = true) (hstat : (Cond.static y).before args s = true) (hinit : (Cond.initialized y.cls).before args s = true)
    (hcode : (Cond.codeWith y bytes maxL ret hh).before args s = true) (hy : y.cls ≠ "java/lang/invoke/MethodHandle" ∧ y.cls ≠ "java/lang/invoke/VarHandle")
    {W9 : Nat} {Pre : Pt → Array Value → Prop} {Post : Pt → Array Value → Option Value → Pt → Prop} (hK : Back l R p e below s args y 3 W9 Pre Post)
    {g : JFrame} (hg : g.method = m) (hsize : g.locals.size = c.maxLocals) {argsL rest : List Value} (hlen : ∀ sig, parseMethodDescriptor y.desc = some sig → argsL.length = sig.parameters.length)
    (hstack : g.stack = argsL.reverse ++ rest) (hW : 2 * g.monitorRoom + (rest.map fun v => v.category).sum ≤ W9) (hdg : decode c.code g.pc = .ok (.invokestatic index, 3))
    (hpre : ∀ vm₁, s.WarmedH vm₁ → Pre ⟨T.setVm vm₁, locs, cells, slots⟩ argsL.toArray) :
    ∃ (v : Option Value) (vm₁ : Vm) (B : Pt), s.WarmedH vm₁ ∧ Stand p l e R s m args below meth c B.U B.locs B.cells B.slots ∧ Post ⟨T.setVm vm₁, locs, cells, slots⟩ argsL.toArray v B ∧
      ∀ target, Steps p.tables e below (B.U.setTop { g with pc := g.pc + 3, stack := v.toList ++ rest }) target → Steps p.tables e below (T.setTop g) target := by
  obtain ⟨mk, methM, cM, hnamed, hmethM, -, -, -, -, -, -, hsigM⟩ := Cond.codeWith_spec hcode
  have hstatic : methM.isStatic = true := Cond.static_spec hnamed hmethM hstat
  obtain ⟨kP, hkP, -⟩ := className_of_methodNamed hnamed
  have hinitP : kP.init = .initialized := Cond.initialized_spec (findClass_of_methodNamed hnamed) hkP hinit
  obtain ⟨vm₁, X₁, hstep₁⟩ := X.invokestatic hexec hown hlink hnamed hmethM hstatic hkP hinitP hy (g := g) hg (argsL := argsL) (rest := rest) (hlen _ hsigM) hstack hdg
  obtain ⟨v, B, X', hpost, hsteps⟩ := hK m meth c ⟨T.setVm vm₁, locs, cells, slots⟩ { g with stack := rest } (.invokestatic index) mk argsL.toArray X₁ hg hsize hdg hW (X₁.named hnamed) (hpre vm₁ X₁.warmed)
  exact ⟨v, vm₁, B, X₁.warmed, X', hpost, fun target h => hstep₁ _ fun acts => by rw [doInvoke_state]; exact hsteps.trans h⟩
theorem vx_runSW {y : MethodName} {bytes cc : ByteArray} {maxL nL mc ms n index : Nat} {ret : Option FieldType} {hh : List (Nat × Nat × Nat × Nat)} {ws : List Cond} {rm : Room} {Pc : Array Value → State → Prop} {Qc : Array Value → State → Outcome → State → Prop} {free : Addr → Prop} {Ts : List Cond} {own : String} {As rest : List Value} {g : JFrame}
    (S : CallFix p m c cc nL s args Ts own) (hM : Met l y ws rm Pc Qc mc ms free) (cw : vx_CSW R s args own index y bytes maxL ret hh ws rm mc ms n) (hp : PreS s H Pc As)
    (hg : g.method = m) (hn : As.length = n) (hsize : g.locals.size = nL) (hstack : g.stack = As.reverse ++ rest) (hW : 2 * g.monitorRoom + (rest.map fun v => v.category).sum ≤ 8) (hdg : decode cc g.pc = .ok (.invokestatic index, 3)) (hf : cells + mc ≤ R.cells ∧ slots + ms ≤ R.slots) :
    va_Run p l e R s m args below meth c H locs cells slots mc ms g rest (Qc As.toArray) (free) := by
  obtain ⟨⟨hrc, hrs, hfr, hlo, hws, hcw⟩, hcode, hini, hy, hlen, hl, hstt⟩ := cw
  have hK : Back l R p e below s args y 3 8 (PreOf R mc ms Pc) (PostOf Qc mc ms free) := va_backW (hh := hh) (bytes := bytes) (maxL := maxL) (ret := ret) hM hp.1 hrc hrs hfr hlo hws hcw (fun a' U hW => word_at hW (Or.inl (by first | rfl | simp [Cond.onTables, Cond.keeps, Cond.steady])) hini)
  obtain ⟨hx, hb, hml, ho, -⟩ := S
  intro T hT X
  obtain ⟨v, vm₁, ⟨U', l2, c2, s2⟩, hW₁, X', ⟨g', mk, t, L, e1, e2, hq, h1, hL, h2, h3⟩, st⟩ := vx_callSW X hx (hh := hh) (bytes := bytes) (maxL := maxL) (ret := ret) ho hl hstt hini hcode hy hK hg (hsize.trans hml.symm) (argsL := As) (rest := rest) (fun sig h => hn.trans (hlen sig h)) hstack hW (by rw [hb]; exact hdg)
    (fun vm₁ hW₁ => ⟨hf.1, hf.2, hp.2 (T.setVm vm₁) hT hW₁⟩)
  dsimp only [Pt.U, Pt.locs, Pt.cells, Pt.slots] at X' e1 e2 h1 h2 h3 st
  subst h1; subst h2; subst h3
  exact ⟨v, (T.setVm vm₁).calling g' mk As.toArray, t, U', L, hT, X', hL, e1, e2, hq, st⟩
/-- not caught here, past rows that name other classes: it goes on to the caller -/
theorem vx_outP {p : Program} {l : Launch} {e : Env} {R : Room} {s : State} {m : MethodId} {args : Array Value} {below : List Frame} {meth : Method} {c : Code} {H : Heap} {locs : List Loc} {cells slots : Nat} {free : Addr → Prop} {ls : Array Slot} {rest : List Value} {Qc : Array Value → State → Outcome → State → Prop} {XC : String → State → State → Prop}
    {pc : Nat} {own E : String} {ce : Cell} {q : Addr} {mc ms : Nat} (hown : s.vm.findClass own = some m.cls) (hlocks : meth.locks = false)
    (hpass : ∀ z ∈ c.exceptionTable.toList, covers z pc = false ∨ (z.catchType ≠ 0 ∧ ∃ nm : String, (Cond.classLink own z.catchType nm).before args s = true ∧ va_Nc E nm s)) (hcell : H[q]? = some ce) (hv : ce.vm = .none) (hcl : s.vm.findClass E = some ce.cls)
    (hx : ∀ t : State, t.heap = H → s.vm.Alike t.vm → XC E s t) (hf : ∀ z ∈ locs, free z.base) (hc : cells ≤ mc) (hs : slots ≤ ms) :
    vx_W p l e R s m args below meth c H locs cells slots (vx_MQ below Qc XC args s mc ms free) (F0 m pc ls rest) q := by
  intro T hT X
  have hpl : e.platform.magicAccessors = ({} : Platform).magicAccessors := by rw [X.admits.platform]
  obtain ⟨vm', hW', X', st⟩ := X.outThrough hlocks q (g := F0 m pc ls rest) rfl rfl rfl (cell := ce) (by rw [hT]; exact hcell) (by rw [hv]; rfl)
    (by obtain ⟨k9, h9, -⟩ := Vm.findClass_spec hcl; exact ⟨k9, h9⟩) (fun z hz => by
      rcases hpass z hz with h | ⟨hz0, nm, hl1, hn1⟩
      · exact Or.inl h
      · obtain ⟨c6, hc6, hcl6⟩ := Cond.classLink_spec hown hl1 e.platform hpl
        obtain ⟨a8, b8, h1, h2, h3⟩ := hn1
        cases Option.some.inj (h1.symm.trans hcl)
        cases Option.some.inj (h2.symm.trans hc6)
        exact Or.inr ⟨hz0, _, hcl6, h3⟩)
  obtain ⟨g₀, hfr⟩ := X'.frames_eq
  have hcell9 : ((T.setVm vm').setFrames (.throwing q :: below)).heap[q]? = some ce := by
    show T.heap[q]? = some ce
    rw [hT]; exact hcell
  have hend : Ended ((T.setVm vm').setFrames (.throwing q :: below)) below (.threw q) := State.frames_setFrames _ (State.cur_lt_of_frames hfr)
  refine ⟨(T.setVm vm').setFrames (.throwing q :: below), ?_, .threw q, X'.here.running, hend, Or.inr ⟨q, rfl, E, ce, locs, hx _ hT (X'.ends _).1.alike, hcell9, hv, hcl, (X'.ends _).1, (X'.ends _).2.mono hc hs, hf⟩⟩
  rw [X.pushThrowing_eq]
  exact st
/-- a thing of a world lies in the heap -/
theorem vx_lt {D : va_G} {cl : List vw_C} {ws : va_W} {H1 : Heap} (h : va_P D cl ws H1) {k : Nat} {q : Nat × va_E} (hk : ws[k]? = some q) : q.1 < H1.size := (h k q hk).lt
end VXS
/-! ===== END ===== -/
/-! ===== BEGIN methods with a table of their own: called by a name, returning or throwing ===== -/
section VXH
/-! vx_backW, vx_callVX, vx_callSX, vx_callVW, vx_runVW, vx_runVX, vx_runSX, vx_ofWH follow the same proofs as their sisters above (Free/Laws.lean, Shelf42/LK1.lean); vx_outP calls Shelf42/NT130.lean (outThrough). -/
section
variable {l : Launch} {R : Room} {p : Program} {e : Env} {below : List Frame} {s : State} {sargs : Array Value} {y : MethodName} {len W9 : Nat}
theorem vx_backW {ws : List Cond} {rm : Room} {Pc : Array Value → State → Prop} {Qc : Array Value → State → Outcome → State → Prop} {XC : String → State → State → Prop} {mc ms : Nat} {free : Addr → Prop} {bytes : ByteArray} {maxL : Nat} {ret : Option FieldType} {hh : List (Nat × Nat × Nat × Nat)}
    (hM : vx_Met l y ws rm Pc Qc XC mc ms free) (hblind : FrameBlind Pc) (hrc : rm.cells = mc) (hrs : rm.slots = ms)
    (hframes : rm.frames + 1 ≤ R.frames) (hlocals : W9 + (maxL + 11) + rm.locals ≤ R.locals)
    (hws : ∀ w ∈ ws, ∀ a' U, s.WarmedH U.vm → w.before a' U = true) (hcode : Cond.codeWith y bytes maxL ret hh ∈ ws) (hinit : ∀ a' U, s.WarmedH U.vm → (Cond.initialized y.cls).before a' U = true) :
    vx_Back l R p e below s sargs y len W9 (PreOf R mc ms Pc) (PostOf Qc mc ms free) (vx_Post XC mc ms free) := by
  intro m meth c A g ig mk a X hg hsize hdg hW hn hp
  have h1 : (headSpec ws rm).pre.before a A.U = true := atoms_intro fun w hw => hws w hw _ _ X.warmed
  have h2 : (Cond.codeWith y bytes maxL ret hh).before a A.U = true := hws _ hcode _ _ X.warmed
  have h3 : (Cond.initialized y.cls).before a A.U = true := hinit _ _ X.warmed
  have h4 : A.cells + (headSpec ws rm).room.cells ≤ R.cells := by rw [show (headSpec ws rm).room.cells = mc from hrc]; exact hp.1
  have h5 : A.slots + (headSpec ws rm).room.slots ≤ R.slots := by rw [show (headSpec ws rm).room.slots = ms from hrs]; exact hp.2.1
  have hPc : Pc a (A.U.calling g mk a) := hblind _ _ _ _ hp.2.2
  obtain ⟨U, Ls, c0, s0⟩ := A
  dsimp only [Pt.U, Pt.locs, Pt.cells, Pt.slots] at h1 h2 h3 h4 h5 X hn hPc ⊢
  obtain ⟨m9, methY, cY, hn9, hmY, hcY, -, hlY, -⟩ := Cond.codeWith_spec h2
  cases Option.some.inj (hn9.symm.trans hn)
  obtain ⟨kY, hkY, -⟩ := className_of_methodNamed hn
  have hinitY : kY.init = .initialized := Cond.initialized_spec (findClass_of_methodNamed hn) hkY h3
  have h : At U g.method c below := by rw [hg]; exact X.here
  have hlocals9 : W9 + (maxL + 11) + (headSpec ws rm).room.locals ≤ R.locals := hlocals
  have happ : (headSpec ws rm).appliesLoose y e.platform (U.calling g mk a) = true :=
    Spec.appliesLoose_calling (g := g) h hdg hn hkY hinitY
      (X.room_calling (g := g) (R' := (headSpec ws rm).room) hsize hmY hcY hframes (by rw [hlY]; omega) h4 h5) h1
  obtain ⟨mid, hmid⟩ := h.above
  have hfr : (U.setTop g).frames = (.java g :: mid) ++ below := by rw [State.frames_setTop' g h.top, hmid]; rfl
  obtain ⟨o, s₂, hsteps, -, hend, hq⟩ := Steps.callFree hM p X.admits X.cas X.clock (acts := []) hfr happ hPc trivial
  have hq' : vx_Q Qc XC mc ms free a (U.calling g mk a) o s₂ := hq
  rw [State.frames_setTop' g h.top] at hend
  obtain ⟨g₀, hg0⟩ := Option.isSome_iff_exists.mp h.top
  obtain ⟨r, hr⟩ := State.topJava?_eq_some.mp hg0
  have hr' : (({ U with heap := s₂.heap, slotsUsed := s₂.slotsUsed } : State).setVm s₂.vm).frames = .java g₀ :: r := hr
  rcases hq' with ⟨hqc, L, hfe, hL⟩ | ⟨q, rfl, E, ce, L, hx, hce, hcv, hcl, hW₂, hsm, hL⟩
  · obtain ⟨⟨v, rfl⟩, hW₂, e2, q2, q3, q4, q5, q6⟩ := id hfe
    have e3 : s₂ = ({ (U.calling g mk a).setFrames s₂.frames with heap := s₂.heap, slotsUsed := s₂.slotsUsed } : State).setVm s₂.vm := by
      have : s₂ = ({ s₂ with vm := (U.calling g mk a).vm } : State).setVm s₂.vm := rfl
      rw [e2] at this
      exact this
    obtain ⟨c₂, i₂, len₂, hc₂, hd₂, hf₂⟩ := hend
    have hW' : U.WarmedH s₂.vm := hW₂
    have hcc : c₂ = c := by
      have h1 : s₂.code? g.method = U.code? g.method := by
        rw [State.code?_eq, State.code?_eq, hW'.alike.method?]
      exact Option.some.inj (hc₂.symm.trans (h1.trans h.code))
    subst hcc
    have hlen : len₂ = len := by rw [hdg] at hd₂; cases hd₂; rfl
    subst hlen
    have hs₂ : s₂ = (({ U with heap := s₂.heap, slotsUsed := s₂.slotsUsed } : State).setVm s₂.vm).setTop { g with pc := g.pc + len₂, stack := v.toList ++ g.stack } := by
      refine e3.trans ?_
      rw [hf₂, State.calling_eq h.top, State.setFrames_setFrames, State.setTop_of_frames _ hr', hr]
      rfl
    have hsame : U.sameButNew ({ U with heap := s₂.heap, slotsUsed := s₂.slotsUsed } : State) L mc ms := by
      refine ⟨?_, q2, q3, q4, q5, q6⟩
      obtain ⟨t, ht, -⟩ := State.frames_cons hr
      show ({ U with heap := s₂.heap, slotsUsed := s₂.slotsUsed } : State) = { U.setFrames U.frames with heap := s₂.heap, slotsUsed := s₂.slotsUsed }
      rw [State.setFrames_self ht]
    subst hg
    refine Or.inl ⟨v, ⟨(({ U with heap := s₂.heap, slotsUsed := s₂.slotsUsed } : State).setVm s₂.vm), Ls ++ L, c0 + mc, s0 + ms⟩,
      ⟨X.admits, X.cas, X.clock, X.frames, X.room, X.hears, X.method, X.code, (X.here.setHeapUsed s₂.heap s₂.slotsUsed).setVm hW'.alike, X.tail, State.WarmedH.trans X.warmed hW', X.limits, X.bytes, X.same.trans (hsame.setVm s.vm)⟩,
      ⟨g, mk, s₂, L, rfl, rfl, hqc, rfl, hL, rfl, rfl⟩, ?_⟩
    show Steps p.tables e below _ ((({ U with heap := s₂.heap, slotsUsed := s₂.slotsUsed } : State).setVm s₂.vm).setTop { g with pc := g.pc + len₂, stack := v.toList ++ g.stack })
    rw [← hs₂]
    exact hsteps
  · obtain ⟨e2, q2, q3, q4, q5, q6⟩ := id hsm
    have e3 : s₂ = ({ (U.calling g mk a).setFrames s₂.frames with heap := s₂.heap, slotsUsed := s₂.slotsUsed } : State).setVm s₂.vm := by
      have : s₂ = ({ s₂ with vm := (U.calling g mk a).vm } : State).setVm s₂.vm := rfl
      rw [e2] at this
      exact this
    have hf₂ : s₂.frames = .throwing q :: .java g :: U.frames.tail := hend
    have hW' : U.WarmedH s₂.vm := hW₂
    have hs₂ : s₂ = ((({ U with heap := s₂.heap, slotsUsed := s₂.slotsUsed } : State).setVm s₂.vm).setTop g).pushFrame (.throwing q) := by
      refine e3.trans ?_
      rw [hf₂, State.calling_eq h.top, State.setFrames_setFrames, State.pushFrame, State.frames_setTop _ hr', State.setTop_of_frames _ hr', State.setFrames_setFrames, hr]
      rfl
    have hsame : U.sameButNew ({ U with heap := s₂.heap, slotsUsed := s₂.slotsUsed } : State) L mc ms := by
      refine ⟨?_, q2, q3, q4, q5, q6⟩
      obtain ⟨t, ht, -⟩ := State.frames_cons hr
      show ({ U with heap := s₂.heap, slotsUsed := s₂.slotsUsed } : State) = { U.setFrames U.frames with heap := s₂.heap, slotsUsed := s₂.slotsUsed }
      rw [State.setFrames_self ht]
    subst hg
    refine Or.inr ⟨q, ⟨(({ U with heap := s₂.heap, slotsUsed := s₂.slotsUsed } : State).setVm s₂.vm), Ls ++ L, c0 + mc, s0 + ms⟩,
      ⟨X.admits, X.cas, X.clock, X.frames, X.room, X.hears, X.method, X.code, (X.here.setHeapUsed s₂.heap s₂.slotsUsed).setVm hW'.alike, X.tail, State.WarmedH.trans X.warmed hW', X.limits, X.bytes, X.same.trans (hsame.setVm s.vm)⟩,
      ⟨g, mk, s₂, L, E, ce, rfl, rfl, hx, hce, hcv, hcl, rfl, hL, rfl, rfl⟩, ?_⟩
    show Steps p.tables e below _ (((({ U with heap := s₂.heap, slotsUsed := s₂.slotsUsed } : State).setVm s₂.vm).setTop g).pushFrame (.throwing q))
    rw [← hs₂]
    exact hsteps
end
variable {p : Program} {l : Launch} {e : Env} {R : Room} {s : State} {m : MethodId} {args : Array Value} {below : List Frame} {meth : Method} {c : Code} {T : State} {H : Heap} {locs : List Loc} {cells slots : Nat}
theorem vx_callVX (X : Stand p l e R s m args below meth c T locs cells slots) (hexec : p.tables.exec = Jvm.exec) {own C : String} {index : Nat} {y : MethodName} {bytes : ByteArray} {maxL : Nat} {ret : Option FieldType} {hh : List (Nat × Nat × Nat × Nat)}
    (hown : s.vm.findClass own = some m.cls) (hlink : (Cond.methodLink own index y).before args s = true) (hinst : (Cond.instanceMethod y).before args s = true) (hsel : (Cond.selects C y y).before args s = true)
    (hcode : (Cond.codeWith y bytes maxL ret hh).before args s = true) (hy : y.cls ≠ "java/lang/invoke/MethodHandle" ∧ y.cls ≠ "java/lang/invoke/VarHandle")
    {W9 : Nat} {Pre : Pt → Array Value → Prop} {Post : Pt → Array Value → Option Value → Pt → Prop} {PostX : Pt → Array Value → Addr → Pt → Prop} (hK : vx_Back l R p e below s args y 3 W9 Pre Post PostX)
    {b : Addr} {cellB : Cell} (hcell : T.heap[b]? = some cellB) (hobj : cellB.vm.isStatics = false) (hcls : s.vm.findClass C = some cellB.cls)
    {g : JFrame} (hg : g.method = m) (hsize : g.locals.size = c.maxLocals) {argsL rest : List Value} (hlen : ∀ sig, parseMethodDescriptor y.desc = some sig → argsL.length = sig.parameters.length)
    (hstack : g.stack = argsL.reverse ++ .ref b :: rest) (hW : 2 * g.monitorRoom + (rest.map fun v => v.category).sum ≤ W9) (hdg : decode c.code g.pc = .ok (.invokevirtual index, 3))
    (hpre : ∀ vm₁, s.WarmedH vm₁ → Pre ⟨T.setVm vm₁, locs, cells, slots⟩ (Value.ref b :: argsL).toArray) :
    (∃ (v : Option Value) (vm₁ : Vm) (B : Pt), s.WarmedH vm₁ ∧ Stand p l e R s m args below meth c B.U B.locs B.cells B.slots ∧ Post ⟨T.setVm vm₁, locs, cells, slots⟩ (Value.ref b :: argsL).toArray v B ∧
      ∀ target, Steps p.tables e below (B.U.setTop { g with pc := g.pc + 3, stack := v.toList ++ rest }) target → Steps p.tables e below (T.setTop g) target) ∨
    (∃ (q : Addr) (vm₁ : Vm) (B : Pt), s.WarmedH vm₁ ∧ Stand p l e R s m args below meth c B.U B.locs B.cells B.slots ∧ PostX ⟨T.setVm vm₁, locs, cells, slots⟩ (Value.ref b :: argsL).toArray q B ∧
      Steps p.tables e below (T.setTop g) ((B.U.setTop { g with stack := rest }).pushFrame (.throwing q))) := by
  obtain ⟨mk, methM, hnamed, hmethM, hstM, habM⟩ := Cond.instanceMethod_spec hinst
  obtain ⟨m8, methM', cM, hn8, hmethM', -, -, -, -, -, -, hsigM⟩ := Cond.codeWith_spec hcode
  cases Option.some.inj (hn8.symm.trans hnamed)
  cases hmethM.symm.trans hmethM'
  obtain ⟨c2, r2, m2, q1, q2, q3, q4, kP, hkP, hkPi⟩ := Cond.selects_spec hsel
  cases hcls.symm.trans q1
  cases (State.methodFound?_of_named hnamed hy).symm.trans q2
  cases hnamed.symm.trans q3
  have hselP : selectMethod e.platform s.vm cellB.cls mk = .method mk := by rw [Launch.admits_selectMethod X.admits]; exact q4
  obtain ⟨vm₁, X₁, hstep₁⟩ := X.invokevirtual hexec hown hlink hnamed hmethM hstM hkP hkPi hy (a := b) (cell := cellB) hcell
    (fun z h => by rw [h] at hobj; cases hobj) hselP hmethM habM hkP hkPi (g := g) hg (argsL := argsL) (rest := rest) (hlen _ hsigM) hstack hdg
  rcases hK m meth c ⟨T.setVm vm₁, locs, cells, slots⟩ { g with stack := rest } (.invokevirtual index) mk (Value.ref b :: argsL).toArray X₁ hg hsize hdg hW (X₁.named hnamed) (hpre vm₁ X₁.warmed) with ⟨v, B, X', hpost, hsteps⟩ | ⟨q, B, X', hpost, hsteps⟩
  · exact Or.inl ⟨v, vm₁, B, X₁.warmed, X', hpost, fun target h => hstep₁ _ fun acts => by rw [doInvoke_state]; exact hsteps.trans h⟩
  · exact Or.inr ⟨q, vm₁, B, X₁.warmed, X', hpost, hstep₁ _ fun acts => by rw [doInvoke_state]; exact hsteps⟩
theorem vx_callSX (X : Stand p l e R s m args below meth c T locs cells slots) (hexec : p.tables.exec = Jvm.exec) {own : String} {index : Nat} {y : MethodName} {bytes : ByteArray} {maxL : Nat} {ret : Option FieldType} {hh : List (Nat × Nat × Nat × Nat)}
    (hown : s.vm.findClass own = some m.cls) (hlink : (Cond.methodLink own index y).before args s = true) (hstat : (Cond.static y).before args s = true) (hinit : (Cond.initialized y.cls).before args s = true)
    (hcode : (Cond.codeWith y bytes maxL ret hh).before args s = true) (hy : y.cls ≠ "java/lang/invoke/MethodHandle" ∧ y.cls ≠ "java/lang/invoke/VarHandle")
    {W9 : Nat} {Pre : Pt → Array Value → Prop} {Post : Pt → Array Value → Option Value → Pt → Prop} {PostX : Pt → Array Value → Addr → Pt → Prop} (hK : vx_Back l R p e below s args y 3 W9 Pre Post PostX)
    {g : JFrame} (hg : g.method = m) (hsize : g.locals.size = c.maxLocals) {argsL rest : List Value} (hlen : ∀ sig, parseMethodDescriptor y.desc = some sig → argsL.length = sig.parameters.length)
    (hstack : g.stack = argsL.reverse ++ rest) (hW : 2 * g.monitorRoom + (rest.map fun v => v.category).sum ≤ W9) (hdg : decode c.code g.pc = .ok (.invokestatic index, 3))
    (hpre : ∀ vm₁, s.WarmedH vm₁ → Pre ⟨T.setVm vm₁, locs, cells, slots⟩ argsL.toArray) :
    (∃ (v : Option Value) (vm₁ : Vm) (B : Pt), s.WarmedH vm₁ ∧ Stand p l e R s m args below meth c B.U B.locs B.cells B.slots ∧ Post ⟨T.setVm vm₁, locs, cells, slots⟩ argsL.toArray v B ∧
      ∀ target, Steps p.tables e below (B.U.setTop { g with pc := g.pc + 3, stack := v.toList ++ rest }) target → Steps p.tables e below (T.setTop g) target) ∨
    (∃ (q : Addr) (vm₁ : Vm) (B : Pt), s.WarmedH vm₁ ∧ Stand p l e R s m args below meth c B.U B.locs B.cells B.slots ∧ PostX ⟨T.setVm vm₁, locs, cells, slots⟩ argsL.toArray q B ∧
      Steps p.tables e below (T.setTop g) ((B.U.setTop { g with stack := rest }).pushFrame (.throwing q))) := by
  obtain ⟨mk, methM, cM, hnamed, hmethM, -, -, -, -, -, -, hsigM⟩ := Cond.codeWith_spec hcode
  have hstatic : methM.isStatic = true := Cond.static_spec hnamed hmethM hstat
  obtain ⟨kP, hkP, -⟩ := className_of_methodNamed hnamed
  have hinitP : kP.init = .initialized := Cond.initialized_spec (findClass_of_methodNamed hnamed) hkP hinit
  obtain ⟨vm₁, X₁, hstep₁⟩ := X.invokestatic hexec hown hlink hnamed hmethM hstatic hkP hinitP hy (g := g) hg (argsL := argsL) (rest := rest) (hlen _ hsigM) hstack hdg
  rcases hK m meth c ⟨T.setVm vm₁, locs, cells, slots⟩ { g with stack := rest } (.invokestatic index) mk argsL.toArray X₁ hg hsize hdg hW (X₁.named hnamed) (hpre vm₁ X₁.warmed) with ⟨v, B, X', hpost, hsteps⟩ | ⟨q, B, X', hpost, hsteps⟩
  · exact Or.inl ⟨v, vm₁, B, X₁.warmed, X', hpost, fun target h => hstep₁ _ fun acts => by rw [doInvoke_state]; exact hsteps.trans h⟩
  · exact Or.inr ⟨q, vm₁, B, X₁.warmed, X', hpost, hstep₁ _ fun acts => by rw [doInvoke_state]; exact hsteps⟩
theorem vx_callVW (X : Stand p l e R s m args below meth c T locs cells slots) (hexec : p.tables.exec = Jvm.exec) {own C : String} {index : Nat} {y : MethodName} {bytes : ByteArray} {maxL : Nat} {ret : Option FieldType} {hh : List (Nat × Nat × Nat × Nat)}
    (hown : s.vm.findClass own = some m.cls) (hlink : (Cond.methodLink own index y).before args s = true) (hinst : (Cond.instanceMethod y).before args s = true) (hsel : (Cond.selects C y y).before args s = true)
    (hcode : (Cond.codeWith y bytes maxL ret hh).before args s = true) (hy : y.cls ≠ "java/lang/invoke/MethodHandle" ∧ y.cls ≠ "java/lang/invoke/VarHandle")
    {W9 : Nat} {Pre : Pt → Array Value → Prop} {Post : Pt → Array Value → Option Value → Pt → Prop} (hK : Back l R p e below s args y 3 W9 Pre Post)
    {b : Addr} {cellB : Cell} (hcell : T.heap[b]? = some cellB) (hobj : cellB.vm.isStatics = false) (hcls : s.vm.findClass C = some cellB.cls)
    {g : JFrame} (hg : g.method = m) (hsize : g.locals.size = c.maxLocals) {argsL rest : List Value} (hlen : ∀ sig, parseMethodDescriptor y.desc = some sig → argsL.length = sig.parameters.length)
    (hstack : g.stack = argsL.reverse ++ .ref b :: rest) (hW : 2 * g.monitorRoom + (rest.map fun v => v.category).sum ≤ W9) (hdg : decode c.code g.pc = .ok (.invokevirtual index, 3))
    (hpre : ∀ vm₁, s.WarmedH vm₁ → Pre ⟨T.setVm vm₁, locs, cells, slots⟩ (Value.ref b :: argsL).toArray) :
    ∃ (v : Option Value) (vm₁ : Vm) (B : Pt), s.WarmedH vm₁ ∧ Stand p l e R s m args below meth c B.U B.locs B.cells B.slots ∧ Post ⟨T.setVm vm₁, locs, cells, slots⟩ (Value.ref b :: argsL).toArray v B ∧
      ∀ target, Steps p.tables e below (B.U.setTop { g with pc := g.pc + 3, stack := v.toList ++ rest }) target → Steps p.tables e below (T.setTop g) target := by
  obtain ⟨mk, methM, hnamed, hmethM, hstM, habM⟩ := Cond.instanceMethod_spec hinst
  obtain ⟨m8, methM', cM, hn8, hmethM', -, -, -, -, -, -, hsigM⟩ := Cond.codeWith_spec hcode
  cases Option.some.inj (hn8.symm.trans hnamed)
  cases hmethM.symm.trans hmethM'
  obtain ⟨c2, r2, m2, q1, q2, q3, q4, kP, hkP, hkPi⟩ := Cond.selects_spec hsel
  cases hcls.symm.trans q1
  cases (State.methodFound?_of_named hnamed hy).symm.trans q2
  cases hnamed.symm.trans q3
  have hselP : selectMethod e.platform s.vm cellB.cls mk = .method mk := by rw [Launch.admits_selectMethod X.admits]; exact q4
  obtain ⟨vm₁, X₁, hstep₁⟩ := X.invokevirtual hexec hown hlink hnamed hmethM hstM hkP hkPi hy (a := b) (cell := cellB) hcell
    (fun z h => by rw [h] at hobj; cases hobj) hselP hmethM habM hkP hkPi (g := g) hg (argsL := argsL) (rest := rest) (hlen _ hsigM) hstack hdg
  obtain ⟨v, B, X', hpost, hsteps⟩ := hK m meth c ⟨T.setVm vm₁, locs, cells, slots⟩ { g with stack := rest } (.invokevirtual index) mk (Value.ref b :: argsL).toArray X₁ hg hsize hdg hW (X₁.named hnamed) (hpre vm₁ X₁.warmed)
  exact ⟨v, vm₁, B, X₁.warmed, X', hpost, fun target h => hstep₁ _ fun acts => by rw [doInvoke_state]; exact hsteps.trans h⟩
abbrev vx_CVW (R : Room) (s : State) (args : Array Value) (own C : String) (index : Nat) (y : MethodName) (bytes : ByteArray) (maxL : Nat) (ret : Option FieldType) (hh : List (Nat × Nat × Nat × Nat)) (ws : List Cond) (rm : Room) (mc ms n : Nat) : Prop :=
  (rm.cells = mc ∧ rm.slots = ms ∧ rm.frames + 1 ≤ R.frames ∧ 8 + (maxL + 11) + rm.locals ≤ R.locals ∧ (∀ w ∈ ws, ∀ (a' : Array Value) (U : State), s.WarmedH U.vm → w.before a' U = true) ∧ Cond.codeWith y bytes maxL ret hh ∈ ws) ∧
  (Cond.codeWith y bytes maxL ret hh).before args s = true ∧ (Cond.initialized y.cls).before args s = true ∧ (y.cls ≠ "java/lang/invoke/MethodHandle" ∧ y.cls ≠ "java/lang/invoke/VarHandle") ∧
  (∀ sig, parseMethodDescriptor y.desc = some sig → n = sig.parameters.length) ∧ (Cond.methodLink own index y).before args s = true ∧ (Cond.instanceMethod y).before args s = true ∧ (Cond.selects C y y).before args s = true
theorem vx_cwVW {own C : String} {index maxL mc ms : Nat} {y : MethodName} {bytes : ByteArray} {ret : Option FieldType} {hh : List (Nat × Nat × Nat × Nat)} {Ts ws ws' : List Cond} {rm : Room} (n : Nat) (ht : ∀ w ∈ Ts, w.before args s = true) (hT : GoodIn Ts (wsV own index C y ws)) (hw : ws = Cond.codeWith y bytes maxL ret hh :: ws') (hrc : rm.cells = mc) (hrs : rm.slots = ms)
    (hd : y.cls = C ∧ y.cls ≠ "java/lang/invoke/MethodHandle" ∧ y.cls ≠ "java/lang/invoke/VarHandle" ∧ (parseMethodDescriptor y.desc).map (fun d => d.parameters.length) = some n) (hR : rm.frames + 1 ≤ R.frames ∧ 8 + (maxL + 11) + rm.locals ≤ R.locals) :
    vx_CVW R s args own C index y bytes maxL ret hh ws rm mc ms n := by
  obtain ⟨hC, hd⟩ := hd
  subst hC
  have ok : ∀ w ∈ wsV own index y.cls y ws, w.before args s = true := fun w h => ht w (hT w h).1
  have hG : GoodIn Ts ws := fun w h => hT w (by unfold wsV; exact List.mem_append_right _ h)
  have hc : Cond.codeWith y bytes maxL ret hh ∈ ws := by rw [hw]; exact List.mem_cons_self
  refine ⟨⟨hrc, hrs, hR.1, hR.2, pay_in ht hG, hc⟩, ht _ (hG _ hc).1, ok _ (by simp [wsV]), ⟨hd.1, hd.2.1⟩, fun sig h => ?_, ok _ (by simp [wsV]), ok _ (by simp [wsV]), ok _ (by simp [wsV])⟩
  have h2 := hd.2.2
  rw [h] at h2
  exact (Option.some.inj h2).symm
theorem vx_runVW {y : MethodName} {bytes cc : ByteArray} {maxL nL mc ms n index : Nat} {ret : Option FieldType} {hh : List (Nat × Nat × Nat × Nat)} {ws : List Cond} {rm : Room} {Pc : Array Value → State → Prop} {Qc : Array Value → State → Outcome → State → Prop} {free : Addr → Prop} {Ts : List Cond} {own C : String} {b : Addr} {As rest : List Value} {g : JFrame}
    (S : CallFix p m c cc nL s args Ts own) (hM : Met l y ws rm Pc Qc mc ms free) (cw : vx_CVW R s args own C index y bytes maxL ret hh ws rm mc ms n) (hp : PreV s H C b Pc As)
    (hg : g.method = m) (hn : As.length = n) (hsize : g.locals.size = nL) (hstack : g.stack = As.reverse ++ .ref b :: rest) (hW : 2 * g.monitorRoom + (rest.map fun v => v.category).sum ≤ 8) (hdg : decode cc g.pc = .ok (.invokevirtual index, 3)) (hf : cells + mc ≤ R.cells ∧ slots + ms ≤ R.slots) :
    va_Run p l e R s m args below meth c H locs cells slots mc ms g rest (Qc (Value.ref b :: As).toArray) free := by
  obtain ⟨⟨hrc, hrs, hfr, hlo, hws, hcw⟩, hcode, hini, hy, hlen, hl, hin, hse⟩ := cw
  have hK : Back l R p e below s args y 3 8 (PreOf R mc ms Pc) (PostOf Qc mc ms free) := va_backW (hh := hh) (bytes := bytes) (maxL := maxL) (ret := ret) hM hp.1 hrc hrs hfr hlo hws hcw (fun a' U hW => word_at hW (Or.inl (by first | rfl | simp [Cond.onTables, Cond.keeps, Cond.steady])) hini)
  obtain ⟨hx, hb, hml, ho, -⟩ := S
  obtain ⟨-, ⟨cellB, hcB, hoB, hclB⟩, hPc⟩ := hp
  intro T hT X
  obtain ⟨v, vm₁, ⟨U', l2, c2, s2⟩, hW₁, X', ⟨g', mk, t, L, e1, e2, hq, h1, hL, h2, h3⟩, st⟩ := vx_callVW X hx (C := C) (hh := hh) (bytes := bytes) (maxL := maxL) (ret := ret) ho hl hin hse hcode hy hK (by rw [hT]; exact hcB) hoB hclB hg (hsize.trans hml.symm) (argsL := As) (rest := rest) (fun sig h => hn.trans (hlen sig h)) hstack hW (by rw [hb]; exact hdg)
    (fun vm₁ hW₁ => ⟨hf.1, hf.2, hPc (T.setVm vm₁) hT hW₁⟩)
  dsimp only [Pt.U, Pt.locs, Pt.cells, Pt.slots] at X' e1 e2 h1 h2 h3 st
  subst h1; subst h2; subst h3
  exact ⟨v, (T.setVm vm₁).calling g' mk (Value.ref b :: As).toArray, t, U', L, hT, X', hL, e1, e2, hq, st⟩
section
variable {y : MethodName} {bytes cc : ByteArray} {maxL nL mc ms n index : Nat} {ret : Option FieldType} {ws : List Cond} {rm : Room} {Pc : Array Value → State → Prop} {Qc : Array Value → State → Outcome → State → Prop} {XC : String → State → State → Prop} {free : Addr → Prop} {Ts : List Cond} {own C : String} {b : Addr} {As rest : List Value} {g : JFrame}
theorem vx_runVX {hh : List (Nat × Nat × Nat × Nat)} (S : CallFix p m c cc nL s args Ts own) (hM : vx_Met l y ws rm Pc Qc XC mc ms free) (cw : vx_CVW R s args own C index y bytes maxL ret hh ws rm mc ms n) (hp : PreV s H C b Pc As)
    (hg : g.method = m) (hn : As.length = n) (hsize : g.locals.size = nL) (hstack : g.stack = As.reverse ++ .ref b :: rest) (hW : 2 * g.monitorRoom + (rest.map fun v => v.category).sum ≤ 8) (hdg : decode cc g.pc = .ok (.invokevirtual index, 3)) (hf : cells + mc ≤ R.cells ∧ slots + ms ≤ R.slots) :
    vx_Run p l e R s m args below meth c H locs cells slots mc ms g rest (Qc (Value.ref b :: As).toArray) XC free := by
  obtain ⟨⟨hrc, hrs, hfr, hlo, hws, hcw⟩, hcode, hini, hy, hlen, hl, hin, hse⟩ := cw
  have hK : vx_Back l R p e below s args y 3 8 (PreOf R mc ms Pc) (PostOf Qc mc ms free) (vx_Post XC mc ms free) := vx_backW (hh := hh) (bytes := bytes) (maxL := maxL) (ret := ret) hM hp.1 hrc hrs hfr hlo hws hcw (fun a' U hW => word_at hW (Or.inl (by first | rfl | simp [Cond.onTables, Cond.keeps, Cond.steady])) hini)
  obtain ⟨hx, hb, hml, ho, -⟩ := S
  obtain ⟨-, ⟨cellB, hcB, hoB, hclB⟩, hPc⟩ := hp
  intro T hT X
  rcases vx_callVX X hx (C := C) (hh := hh) (bytes := bytes) (maxL := maxL) (ret := ret) ho hl hin hse hcode hy hK (by rw [hT]; exact hcB) hoB hclB hg (hsize.trans hml.symm) (argsL := As) (rest := rest) (fun sig h => hn.trans (hlen sig h)) hstack hW (by rw [hb]; exact hdg)
    (fun vm₁ hW₁ => ⟨hf.1, hf.2, hPc (T.setVm vm₁) hT hW₁⟩) with ⟨v, vm₁, ⟨U', l2, c2, s2⟩, hW₁, X', ⟨g', mk, t, L, e1, e2, hq, h1, hL, h2, h3⟩, st⟩ | ⟨q, vm₁, ⟨U', l2, c2, s2⟩, hW₁, X', ⟨g', mk, t, L, E, ce, e1, e2, hq, hce, hcv, hcl, h1, hL, h2, h3⟩, st⟩
  · dsimp only [Pt.U, Pt.locs, Pt.cells, Pt.slots] at X' e1 e2 h1 h2 h3 st
    subst h1; subst h2; subst h3
    exact Or.inl ⟨v, (T.setVm vm₁).calling g' mk (Value.ref b :: As).toArray, t, U', L, hT, X', hL, e1, e2, hq, st⟩
  · dsimp only [Pt.U, Pt.locs, Pt.cells, Pt.slots] at X' e1 e2 h1 h2 h3 st hcl
    subst h1; subst h2; subst h3
    exact Or.inr ⟨q, (T.setVm vm₁).calling g' mk (Value.ref b :: As).toArray, t, U', L, E, ce, hT, X', hL, e1, e2, hq, hce, hcv, vx_cls hW₁ hcl, st⟩
theorem vx_runSX {hh : List (Nat × Nat × Nat × Nat)} (S : CallFix p m c cc nL s args Ts own) (hM : vx_Met l y ws rm Pc Qc XC mc ms free) (cw : vx_CSW R s args own index y bytes maxL ret hh ws rm mc ms n) (hp : PreS s H Pc As)
    (hg : g.method = m) (hn : As.length = n) (hsize : g.locals.size = nL) (hstack : g.stack = As.reverse ++ rest) (hW : 2 * g.monitorRoom + (rest.map fun v => v.category).sum ≤ 8) (hdg : decode cc g.pc = .ok (.invokestatic index, 3)) (hf : cells + mc ≤ R.cells ∧ slots + ms ≤ R.slots) :
    vx_Run p l e R s m args below meth c H locs cells slots mc ms g rest (Qc As.toArray) XC free := by
  obtain ⟨⟨hrc, hrs, hfr, hlo, hws, hcw⟩, hcode, hini, hy, hlen, hl, hstt⟩ := cw
  have hK : vx_Back l R p e below s args y 3 8 (PreOf R mc ms Pc) (PostOf Qc mc ms free) (vx_Post XC mc ms free) := vx_backW (hh := hh) (bytes := bytes) (maxL := maxL) (ret := ret) hM hp.1 hrc hrs hfr hlo hws hcw (fun a' U hW => word_at hW (Or.inl (by first | rfl | simp [Cond.onTables, Cond.keeps, Cond.steady])) hini)
  obtain ⟨hx, hb, hml, ho, -⟩ := S
  intro T hT X
  rcases vx_callSX X hx (hh := hh) (bytes := bytes) (maxL := maxL) (ret := ret) ho hl hstt hini hcode hy hK hg (hsize.trans hml.symm) (argsL := As) (rest := rest) (fun sig h => hn.trans (hlen sig h)) hstack hW (by rw [hb]; exact hdg)
    (fun vm₁ hW₁ => ⟨hf.1, hf.2, hp.2 (T.setVm vm₁) hT hW₁⟩) with ⟨v, vm₁, ⟨U', l2, c2, s2⟩, hW₁, X', ⟨g', mk, t, L, e1, e2, hq, h1, hL, h2, h3⟩, st⟩ | ⟨q, vm₁, ⟨U', l2, c2, s2⟩, hW₁, X', ⟨g', mk, t, L, E, ce, e1, e2, hq, hce, hcv, hcl, h1, hL, h2, h3⟩, st⟩
  · dsimp only [Pt.U, Pt.locs, Pt.cells, Pt.slots] at X' e1 e2 h1 h2 h3 st
    subst h1; subst h2; subst h3
    exact Or.inl ⟨v, (T.setVm vm₁).calling g' mk As.toArray, t, U', L, hT, X', hL, e1, e2, hq, st⟩
  · dsimp only [Pt.U, Pt.locs, Pt.cells, Pt.slots] at X' e1 e2 h1 h2 h3 st hcl
    subst h1; subst h2; subst h3
    exact Or.inr ⟨q, (T.setVm vm₁).calling g' mk As.toArray, t, U', L, E, ce, hT, X', hL, e1, e2, hq, hce, hcv, vx_cls hW₁ hcl, st⟩
end
end VXH
theorem vx_ofWH {l : Launch} {y : MethodName} {ws ws' : List Cond} {rm : Room} {Pc : Array Value → State → Prop} {Qc : Array Value → State → Outcome → State → Prop} {XC : String → State → State → Prop} {mc ms : Nat} {free : Addr → Prop} {cc : ByteArray} {maxL : Nat} {ret : Option FieldType} {hh : List (Nat × Nat × Nat × Nat)}
    (hy : plainName y.cls = true) (hw : ws = Cond.codeWith y cc maxL ret hh :: ws')
    (body : ∀ p e s m args below meth c s₁, BodyLoose p l y (headSpec ws rm) cc maxL ret e s m args below meth c s₁ → c.maxLocals = maxL → Pc args s →
      W p l e (headSpec ws rm).room s m args below meth c s.heap [] 0 0 (vx_MQ below Qc XC args s mc ms free) (entryFrame m args maxL)) : vx_Met l y ws rm Pc Qc XC mc ms free := by
  refine MetFree.of_bodyS (code := cc) (maxLocals := maxL) (ret := ret) hy ?_ ?_
  · intro args s m h hn
    obtain ⟨m9, meth, c, hn9, h1, h2, h3, h4, -, h5, h6, -⟩ := Cond.codeWith_spec (atoms_spec (ws := ws) h _ (by rw [hw]; exact List.mem_cons_self))
    cases hn.symm.trans hn9
    exact ⟨meth, c, h1, h2, h3, h4, h5, h6⟩
  · intro p e s m args below meth c s₁ B hml hP _
    have hh0 : s₁.heap = s.heap := by rw [B.state]; rfl
    obtain ⟨t, a1, o, b1, b2, b3⟩ := body p e s m args below meth c s₁ B hml hP s₁ hh0 (Stand.of_body B)
    exact ⟨t, o, a1, b1, b2, b3⟩
/-! ===== END ===== -/
end
section
/-! ===== BEGIN printed: names, fields, word lists, decode rows ===== -/
def RX0 : String := "Particleway$Beliefs"
def TX0 : u_T := fun k => match k with
  | 0 => ("Particleway$Beliefs", "field", "LParticleway$Field;", true)
  | 1 => ("Particleway$Beliefs", "now", "LParticleway$Chart;", true)
  | _ => ("Particleway$Beliefs", "before", "LParticleway$Chart;", true)
def tyX0 : Nat → FieldType := fun k => match k with
  | 0 => .object "Particleway$Field"
  | 1 => .object "Particleway$Chart"
  | _ => .object "Particleway$Chart"
abbrev wsX00 : List Cond := u_ws RX0 TX0 3
theorem nmX0 : ∀ a, a < 3 → ∀ b, b < 3 → a ≠ b → (TX0 a).2.1 ≠ (TX0 b).2.1 := by decide +kernel
theorem tyX0_ok : ∀ k, k < 3 → parseFieldDescriptor (TX0 k).2.2.1 = some (tyX0 k) := by decide +kernel
abbrev cX0_init : ByteArray := prog_2_method_1_code
def yX0_init : MethodName := ⟨RX0, "<init>", "(LParticleway$Field;)V"⟩
abbrev cX0_chart : ByteArray := prog_2_method_2_code
def yX0_chart : MethodName := ⟨RX0, "chart", "()LParticleway$Chart;"⟩
abbrev cX0_begin : ByteArray := prog_2_method_3_code
def yX0_begin : MethodName := ⟨RX0, "begin", "()V"⟩
abbrev cX0_push : ByteArray := prog_2_method_4_code
def yX0_push : MethodName := ⟨RX0, "push", "(I)V"⟩
abbrev cX0_fetch : ByteArray := prog_2_method_5_code
def yX0_fetch : MethodName := ⟨RX0, "fetch", "(I)V"⟩
abbrev cX0_fetched : ByteArray := prog_2_method_6_code
def yX0_fetched : MethodName := ⟨RX0, "fetched", "(II)J"⟩
abbrev cX0_weigh : ByteArray := prog_2_method_7_code
def yX0_weigh : MethodName := ⟨RX0, "weigh", "(II)V"⟩
abbrev cX0_halveGreat : ByteArray := prog_2_method_8_code
def yX0_halveGreat : MethodName := ⟨RX0, "halveGreat", "()V"⟩
def RX1 : String := "Particleway$Chance"
def TX1 : u_T := fun k => match k with
  | _ => ("Particleway$Chance", "x", "I", false)
def tyX1 : Nat → FieldType := fun k => match k with
  | _ => .int
abbrev wsX10 : List Cond := u_ws RX1 TX1 1
theorem nmX1 : ∀ a, a < 1 → ∀ b, b < 1 → a ≠ b → (TX1 a).2.1 ≠ (TX1 b).2.1 := by decide +kernel
theorem tyX1_ok : ∀ k, k < 1 → parseFieldDescriptor (TX1 k).2.2.1 = some (tyX1 k) := by decide +kernel
abbrev cX1_init : ByteArray := prog_3_method_1_code
def yX1_init : MethodName := ⟨RX1, "<init>", "()V"⟩
abbrev cX1_change : ByteArray := prog_3_method_2_code
def yX1_change : MethodName := ⟨RX1, "change", "(I)I"⟩
abbrev cX1_remainder : ByteArray := prog_3_method_3_code
def yX1_remainder : MethodName := ⟨RX1, "remainder", "(I)I"⟩
def RX2 : String := "Particleway$Chart"
def TX2 : u_T := fun k => match k with
  | _ => ("Particleway$Chart", "numbers", "[J", true)
def tyX2 : Nat → FieldType := fun k => match k with
  | _ => .array .long
abbrev wsX20 : List Cond := u_ws RX2 TX2 1
theorem nmX2 : ∀ a, a < 1 → ∀ b, b < 1 → a ≠ b → (TX2 a).2.1 ≠ (TX2 b).2.1 := by decide +kernel
theorem tyX2_ok : ∀ k, k < 1 → parseFieldDescriptor (TX2 k).2.2.1 = some (tyX2 k) := by decide +kernel
abbrev cX2_init : ByteArray := prog_4_method_1_code
def yX2_init : MethodName := ⟨RX2, "<init>", "()V"⟩
abbrev cX2_at : ByteArray := prog_4_method_2_code
def yX2_at : MethodName := ⟨RX2, "at", "(I)J"⟩
abbrev cX2_put : ByteArray := prog_4_method_3_code
def yX2_put : MethodName := ⟨RX2, "put", "(IJ)V"⟩
abbrev cX2_add : ByteArray := prog_4_method_4_code
def yX2_add : MethodName := ⟨RX2, "add", "(IJ)V"⟩
abbrev cX2_clear : ByteArray := prog_4_method_5_code
def yX2_clear : MethodName := ⟨RX2, "clear", "()V"⟩
abbrev cX2_halve : ByteArray := prog_4_method_6_code
def yX2_halve : MethodName := ⟨RX2, "halve", "()V"⟩
abbrev cX2_copy : ByteArray := prog_4_method_7_code
def yX2_copy : MethodName := ⟨RX2, "copy", "(LParticleway$Chart;)V"⟩
abbrev cX2_greatest : ByteArray := prog_4_method_8_code
def yX2_greatest : MethodName := ⟨RX2, "greatest", "()J"⟩
abbrev cX2_greatestCell : ByteArray := prog_4_method_9_code
def yX2_greatestCell : MethodName := ⟨RX2, "greatestCell", "()I"⟩
abbrev cX2_sum : ByteArray := prog_4_method_10_code
def yX2_sum : MethodName := ⟨RX2, "sum", "()J"⟩
abbrev cX2_sumOf : ByteArray := prog_4_method_11_code
def yX2_sumOf : MethodName := ⟨RX2, "sumOf", "(IIII)J"⟩
abbrev cX2_coordinateSum : ByteArray := prog_4_method_12_code
def yX2_coordinateSum : MethodName := ⟨RX2, "coordinateSum", "(Z)J"⟩
abbrev cX2_cellAtPlace : ByteArray := prog_4_method_13_code
def yX2_cellAtPlace : MethodName := ⟨RX2, "cellAtPlace", "(I)I"⟩
abbrev cX2_placeOf : ByteArray := prog_4_method_14_code
def yX2_placeOf : MethodName := ⟨RX2, "placeOf", "(I)I"⟩
def RX3 : String := "Particleway$Field"
def TX3 : u_T := fun k => match k with
  | 0 => ("Particleway$Field", "walls", "[Z", true)
  | 1 => ("Particleway$Field", "ahead", "[I", true)
  | _ => ("Particleway$Field", "free", "I", false)
def tyX3 : Nat → FieldType := fun k => match k with
  | 0 => .array .boolean
  | 1 => .array .int
  | _ => .int
abbrev wsX30 : List Cond := u_ws RX3 TX3 3
theorem nmX3 : ∀ a, a < 3 → ∀ b, b < 3 → a ≠ b → (TX3 a).2.1 ≠ (TX3 b).2.1 := by decide +kernel
theorem tyX3_ok : ∀ k, k < 3 → parseFieldDescriptor (TX3 k).2.2.1 = some (tyX3 k) := by decide +kernel
abbrev cX3_init : ByteArray := prog_5_method_1_code
def yX3_init : MethodName := ⟨RX3, "<init>", "()V"⟩
abbrev cX3_isFree : ByteArray := prog_5_method_2_code
def yX3_isFree : MethodName := ⟨RX3, "isFree", "(I)Z"⟩
abbrev cX3_freeCells : ByteArray := prog_5_method_3_code
def yX3_freeCells : MethodName := ⟨RX3, "freeCells", "()I"⟩
abbrev cX3_build : ByteArray := prog_5_method_4_code
def yX3_build : MethodName := ⟨RX3, "build", "(IZ)V"⟩
abbrev cX3_drawnCell : ByteArray := prog_5_method_5_code
def yX3_drawnCell : MethodName := ⟨RX3, "drawnCell", "(LParticleway$Chance;)I"⟩
abbrev cX3_stepsAhead : ByteArray := prog_5_method_6_code
def yX3_stepsAhead : MethodName := ⟨RX3, "stepsAhead", "(II)I"⟩
abbrev cX3_led : ByteArray := prog_5_method_7_code
def yX3_led : MethodName := ⟨RX3, "led", "(III)I"⟩
abbrev cX3_weight : ByteArray := prog_5_method_8_code
def yX3_weight : MethodName := ⟨RX3, "weight", "(III)I"⟩
abbrev cX3_shifted : ByteArray := prog_5_method_9_code
def yX3_shifted : MethodName := ⟨RX3, "shifted", "(III)I"⟩
abbrev cX3_measure : ByteArray := prog_5_method_10_code
def yX3_measure : MethodName := ⟨RX3, "measure", "()V"⟩
abbrev cX3_countedSteps : ByteArray := prog_5_method_11_code
def yX3_countedSteps : MethodName := ⟨RX3, "countedSteps", "(II)I"⟩
def RX4 : String := "Particleway$Samples"
def TX4 : u_T := fun k => match k with
  | 0 => ("Particleway$Samples", "field", "LParticleway$Field;", true)
  | 1 => ("Particleway$Samples", "chance", "LParticleway$Chance;", true)
  | 2 => ("Particleway$Samples", "cells", "[I", true)
  | 3 => ("Particleway$Samples", "oldCells", "[I", true)
  | 4 => ("Particleway$Samples", "weights", "[I", true)
  | 5 => ("Particleway$Samples", "counts", "LParticleway$Chart;", true)
  | 6 => ("Particleway$Samples", "many", "I", false)
  | 7 => ("Particleway$Samples", "isRead", "Z", false)
  | 8 => ("Particleway$Samples", "slow", "I", false)
  | 9 => ("Particleway$Samples", "fast", "I", false)
  | _ => ("Particleway$Samples", "doubt", "I", false)
def tyX4 : Nat → FieldType := fun k => match k with
  | 0 => .object "Particleway$Field"
  | 1 => .object "Particleway$Chance"
  | 2 => .array .int
  | 3 => .array .int
  | 4 => .array .int
  | 5 => .object "Particleway$Chart"
  | 6 => .int
  | 7 => .boolean
  | 8 => .int
  | 9 => .int
  | _ => .int
abbrev wsX40 : List Cond := u_ws RX4 TX4 11
theorem nmX4 : ∀ a, a < 11 → ∀ b, b < 11 → a ≠ b → (TX4 a).2.1 ≠ (TX4 b).2.1 := by decide +kernel
theorem tyX4_ok : ∀ k, k < 11 → parseFieldDescriptor (TX4 k).2.2.1 = some (tyX4 k) := by decide +kernel
abbrev cX4_init : ByteArray := prog_6_method_1_code
def yX4_init : MethodName := ⟨RX4, "<init>", "(LParticleway$Field;LParticleway$Chance;)V"⟩
abbrev cX4_size : ByteArray := prog_6_method_2_code
def yX4_size : MethodName := ⟨RX4, "size", "()I"⟩
abbrev cX4_cellOf : ByteArray := prog_6_method_3_code
def yX4_cellOf : MethodName := ⟨RX4, "cellOf", "(I)I"⟩
abbrev cX4_lastDoubt : ByteArray := prog_6_method_4_code
def yX4_lastDoubt : MethodName := ⟨RX4, "lastDoubt", "()I"⟩
abbrev cX4_chart : ByteArray := prog_6_method_5_code
def yX4_chart : MethodName := ⟨RX4, "chart", "()LParticleway$Chart;"⟩
abbrev cX4_begin : ByteArray := prog_6_method_6_code
def yX4_begin : MethodName := ⟨RX4, "begin", "(I)V"⟩
abbrev cX4_move : ByteArray := prog_6_method_7_code
def yX4_move : MethodName := ⟨RX4, "move", "(I)V"⟩
abbrev cX4_drawnSteps : ByteArray := prog_6_method_8_code
def yX4_drawnSteps : MethodName := ⟨RX4, "drawnSteps", "()I"⟩
abbrev cX4_weigh : ByteArray := prog_6_method_9_code
def yX4_weigh : MethodName := ⟨RX4, "weigh", "(II)I"⟩
abbrev cX4_compareFit : ByteArray := prog_6_method_10_code
def yX4_compareFit : MethodName := ⟨RX4, "compareFit", "(I)V"⟩
abbrev cX4_manyAnew : ByteArray := prog_6_method_11_code
def yX4_manyAnew : MethodName := ⟨RX4, "manyAnew", "(II)I"⟩
abbrev cX4_drawAnew : ByteArray := prog_6_method_12_code
def yX4_drawAnew : MethodName := ⟨RX4, "drawAnew", "(II)V"⟩
abbrev cX4_oldCellBeyond : ByteArray := prog_6_method_13_code
def yX4_oldCellBeyond : MethodName := ⟨RX4, "oldCellBeyond", "(J)I"⟩
def RX5 : String := "Particleway"
def TX5 : u_T := fun k => match k with
  | 0 => ("Particleway", "field", "LParticleway$Field;", true)
  | 1 => ("Particleway", "chance", "LParticleway$Chance;", true)
  | 2 => ("Particleway", "samples", "LParticleway$Samples;", true)
  | 3 => ("Particleway", "beliefs", "LParticleway$Beliefs;", true)
  | 4 => ("Particleway", "beliefsAnew", "LParticleway$Beliefs;", true)
  | 5 => ("Particleway", "toldDirections", "[I", true)
  | 6 => ("Particleway", "toldReadings", "[I", true)
  | 7 => ("Particleway", "told", "I", false)
  | _ => ("Particleway", "isSpread", "Z", false)
def tyX5 : Nat → FieldType := fun k => match k with
  | 0 => .object "Particleway$Field"
  | 1 => .object "Particleway$Chance"
  | 2 => .object "Particleway$Samples"
  | 3 => .object "Particleway$Beliefs"
  | 4 => .object "Particleway$Beliefs"
  | 5 => .array .int
  | 6 => .array .int
  | 7 => .int
  | _ => .boolean
abbrev wsX50 : List Cond := u_ws RX5 TX5 9
theorem nmX5 : ∀ a, a < 9 → ∀ b, b < 9 → a ≠ b → (TX5 a).2.1 ≠ (TX5 b).2.1 := by decide +kernel
theorem tyX5_ok : ∀ k, k < 9 → parseFieldDescriptor (TX5 k).2.2.1 = some (tyX5 k) := by decide +kernel
abbrev cX5_init : ByteArray := prog_1_method_1_code
def yX5_init : MethodName := ⟨RX5, "<init>", "()V"⟩
abbrev cX5_wall : ByteArray := prog_1_method_2_code
def yX5_wall : MethodName := ⟨RX5, "wall", "(IIZ)Z"⟩
abbrev cX5_draw : ByteArray := prog_1_method_3_code
def yX5_draw : MethodName := ⟨RX5, "draw", "(I)I"⟩
abbrev cX5_spread : ByteArray := prog_1_method_4_code
def yX5_spread : MethodName := ⟨RX5, "spread", "(I)V"⟩
abbrev cX5_drive : ByteArray := prog_1_method_5_code
def yX5_drive : MethodName := ⟨RX5, "drive", "(I)V"⟩
abbrev cX5_read : ByteArray := prog_1_method_6_code
def yX5_read : MethodName := ⟨RX5, "read", "(II)I"⟩
abbrev cX5_toRead : ByteArray := prog_1_method_7_code
def yX5_toRead : MethodName := ⟨RX5, "toRead", "(III)I"⟩
abbrev cX5_samples : ByteArray := prog_1_method_8_code
def yX5_samples : MethodName := ⟨RX5, "samples", "()I"⟩
abbrev cX5_sample : ByteArray := prog_1_method_9_code
def yX5_sample : MethodName := ⟨RX5, "sample", "(I)I"⟩
abbrev cX5_count : ByteArray := prog_1_method_10_code
def yX5_count : MethodName := ⟨RX5, "count", "(II)I"⟩
abbrev cX5_belief : ByteArray := prog_1_method_11_code
def yX5_belief : MethodName := ⟨RX5, "belief", "(II)J"⟩
abbrev cX5_beliefAnew : ByteArray := prog_1_method_12_code
def yX5_beliefAnew : MethodName := ⟨RX5, "beliefAnew", "(II)J"⟩
abbrev cX5_mode : ByteArray := prog_1_method_13_code
def yX5_mode : MethodName := ⟨RX5, "mode", "(Z)I"⟩
abbrev cX5_mean : ByteArray := prog_1_method_14_code
def yX5_mean : MethodName := ⟨RX5, "mean", "(ZZ)I"⟩
abbrev cX5_share : ByteArray := prog_1_method_15_code
def yX5_share : MethodName := ⟨RX5, "share", "(IIIIZ)I"⟩
abbrev cX5_best : ByteArray := prog_1_method_16_code
def yX5_best : MethodName := ⟨RX5, "best", "(I)I"⟩
abbrev cX5_doubt : ByteArray := prog_1_method_17_code
def yX5_doubt : MethodName := ⟨RX5, "doubt", "()I"⟩
abbrev cX5_checkCell : ByteArray := prog_1_method_18_code
def yX5_checkCell : MethodName := ⟨RX5, "checkCell", "(II)V"⟩
abbrev cX5_checkDirection : ByteArray := prog_1_method_19_code
def yX5_checkDirection : MethodName := ⟨RX5, "checkDirection", "(I)V"⟩
abbrev cX5_checkSpread : ByteArray := prog_1_method_20_code
def yX5_checkSpread : MethodName := ⟨RX5, "checkSpread", "()V"⟩
abbrev cX5_checkMayTell : ByteArray := prog_1_method_21_code
def yX5_checkMayTell : MethodName := ⟨RX5, "checkMayTell", "()V"⟩
abbrev cX5_keep : ByteArray := prog_1_method_22_code
def yX5_keep : MethodName := ⟨RX5, "keep", "(II)V"⟩
abbrev cX5_repeatAllTold : ByteArray := prog_1_method_23_code
def yX5_repeatAllTold : MethodName := ⟨RX5, "repeatAllTold", "()V"⟩
abbrev cX5_chartOf : ByteArray := prog_1_method_24_code
def yX5_chartOf : MethodName := ⟨RX5, "chartOf", "(Z)LParticleway$Chart;"⟩
abbrev cX5_isInField : ByteArray := prog_1_method_25_code
def yX5_isInField : MethodName := ⟨RX5, "isInField", "(II)Z"⟩
abbrev cX5_isCell : ByteArray := prog_1_method_26_code
def yX5_isCell : MethodName := ⟨RX5, "isCell", "(I)Z"⟩
abbrev cX5_isDirection : ByteArray := prog_1_method_27_code
def yX5_isDirection : MethodName := ⟨RX5, "isDirection", "(I)Z"⟩
abbrev cX5_numberOf : ByteArray := prog_1_method_28_code
def yX5_numberOf : MethodName := ⟨RX5, "numberOf", "(II)I"⟩
abbrev cX5_quotient : ByteArray := prog_1_method_29_code
def yX5_quotient : MethodName := ⟨RX5, "quotient", "(JJ)J"⟩
def RX6 : String := "ParticlewayModel"
def TX6 : u_T := fun k => match k with
  | _ => ("", "", "", false)
def tyX6 : Nat → FieldType := fun k => match k with
  | _ => .int
abbrev wsX60 : List Cond := u_ws RX6 TX6 0
theorem nmX6 : ∀ a, a < 0 → ∀ b, b < 0 → a ≠ b → (TX6 a).2.1 ≠ (TX6 b).2.1 := by decide +kernel
theorem tyX6_ok : ∀ k, k < 0 → parseFieldDescriptor (TX6 k).2.2.1 = some (tyX6 k) := by decide +kernel
def RJ9 : String := "java/lang/Math"
def TJ9 : u_T := fun k => match k with
  | _ => ("", "", "", false)
def tyJ9 : Nat → FieldType := fun k => match k with
  | _ => .int
abbrev wsJ90 : List Cond := u_ws RJ9 TJ9 0
theorem nmJ9 : ∀ a, a < 0 → ∀ b, b < 0 → a ≠ b → (TJ9 a).2.1 ≠ (TJ9 b).2.1 := by decide +kernel
theorem tyJ9_ok : ∀ k, k < 0 → parseFieldDescriptor (TJ9 k).2.2.1 = some (tyJ9 k) := by decide +kernel
abbrev cJ9_abs_0f7a4 : ByteArray := prog_13_method_59_code
def yJ9_abs_0f7a4 : MethodName := ⟨RJ9, "abs", "(I)I"⟩
abbrev cJ9_max_7cf53 : ByteArray := prog_13_method_65_code
def yJ9_max_7cf53 : MethodName := ⟨RJ9, "max", "(II)I"⟩
abbrev cJ9_max_f86c9 : ByteArray := prog_13_method_66_code
def yJ9_max_f86c9 : MethodName := ⟨RJ9, "max", "(JJ)J"⟩
abbrev cJ9_min_7cf53 : ByteArray := prog_13_method_69_code
def yJ9_min_7cf53 : MethodName := ⟨RJ9, "min", "(II)I"⟩
def RJ10 : String := "java/lang/System"
def TJ10 : u_T := fun k => match k with
  | _ => ("", "", "", false)
def tyJ10 : Nat → FieldType := fun k => match k with
  | _ => .int
abbrev wsJ100 : List Cond := u_ws RJ10 TJ10 0
theorem nmJ10 : ∀ a, a < 0 → ∀ b, b < 0 → a ≠ b → (TJ10 a).2.1 ≠ (TJ10 b).2.1 := by decide +kernel
theorem tyJ10_ok : ∀ k, k < 0 → parseFieldDescriptor (TJ10 k).2.2.1 = some (tyJ10 k) := by decide +kernel
def RL : String := "ParticlewayLaw"
abbrev cL_cell : ByteArray := method_2_code
def yL_cell : MethodName := ⟨RL, "cell", "([II)I"⟩
abbrev cL_low : ByteArray := method_3_code
def yL_low : MethodName := ⟨RL, "low", "(II)I"⟩
abbrev cL_wall : ByteArray := method_4_code
def yL_wall : MethodName := ⟨RL, "wall", "(LParticleway;IIZ)J"⟩
abbrev cL_draw : ByteArray := method_5_code
def yL_draw : MethodName := ⟨RL, "draw", "(LParticleway;I)J"⟩
abbrev cL_spread : ByteArray := method_6_code
def yL_spread : MethodName := ⟨RL, "spread", "(LParticleway;I)J"⟩
abbrev cL_drive : ByteArray := method_7_code
def yL_drive : MethodName := ⟨RL, "drive", "(LParticleway;I)J"⟩
abbrev cL_read : ByteArray := method_8_code
def yL_read : MethodName := ⟨RL, "read", "(LParticleway;II)J"⟩
abbrev cL_toRead : ByteArray := method_9_code
def yL_toRead : MethodName := ⟨RL, "toRead", "(LParticleway;III)J"⟩
abbrev cL_samples : ByteArray := method_10_code
def yL_samples : MethodName := ⟨RL, "samples", "(LParticleway;)J"⟩
abbrev cL_sample : ByteArray := method_11_code
def yL_sample : MethodName := ⟨RL, "sample", "(LParticleway;I)J"⟩
abbrev cL_belief : ByteArray := method_13_code
def yL_belief : MethodName := ⟨RL, "belief", "(LParticleway;II)J"⟩
abbrev cL_mode : ByteArray := method_15_code
def yL_mode : MethodName := ⟨RL, "mode", "(LParticleway;Z)J"⟩
abbrev cL_mean : ByteArray := method_16_code
def yL_mean : MethodName := ⟨RL, "mean", "(LParticleway;ZZ)J"⟩
abbrev cL_share : ByteArray := method_17_code
def yL_share : MethodName := ⟨RL, "share", "(LParticleway;IIIIZ)J"⟩
abbrev cL_best : ByteArray := method_18_code
def yL_best : MethodName := ⟨RL, "best", "(LParticleway;I)J"⟩
abbrev cL_doubt : ByteArray := method_19_code
def yL_doubt : MethodName := ⟨RL, "doubt", "(LParticleway;)J"⟩
abbrev cL_act : ByteArray := method_20_code
def yL_act : MethodName := ⟨RL, "act", "(LParticleway;II)J"⟩
abbrev cL_areAlike : ByteArray := method_21_code
def yL_areAlike : MethodName := ⟨RL, "areAlike", "(LParticleway;LParticleway;I)Z"⟩
abbrev cL_isSo : ByteArray := method_22_code
def yL_isSo : MethodName := ⟨RL, "isSo", "(LParticleway;)Z"⟩
abbrev cL_law : ByteArray := code
def yL_law : MethodName := ⟨RL, "law", "([I)Z"⟩
def wsX2_init : List Cond := .code yX2_init cX2_init 1 none :: ([.methodLink RX2 3 objectInit, .instanceMethod objectInit, .code objectInit ⟨#[0xb1]⟩ 1 none, .arrayClass .long, .fieldLink RX2 9 "Particleway$Chart" "numbers" "[J"] ++ wsX20)
def wsX0_init : List Cond := .code yX0_init cX0_init 2 none :: ([.methodLink RX0 3 objectInit, .instanceMethod objectInit, .code objectInit ⟨#[0xb1]⟩ 1 none, .fieldLink RX0 9 "Particleway$Beliefs" "field" "LParticleway$Field;", .classLink RX0 15 RX2, .instantiable RX2 1, .initialized RX2, .fieldLink RX0 18 "Particleway$Beliefs" "now" "LParticleway$Chart;", .fieldLink RX0 22 "Particleway$Beliefs" "before" "LParticleway$Chart;", .methodLink RX0 17 yX2_init, .instanceMethod yX2_init, .code yX2_init cX2_init 1 none, .methodLink RX2 3 objectInit, .arrayClass .long, .fieldLink RX2 9 "Particleway$Chart" "numbers" "[J"] ++ wsX00 ++ wsX20)
def wsX0_chart : List Cond := .code yX0_chart cX0_chart 1 (some (.object "Particleway$Chart")) :: ([.fieldLink RX0 18 "Particleway$Beliefs" "now" "LParticleway$Chart;"] ++ wsX00)
def wsX5_isCell : List Cond := .code yX5_isCell cX5_isCell 1 (some .boolean) :: ([])
def wsX3_isFree : List Cond := .code yX3_isFree cX3_isFree 2 (some .boolean) :: ([.fieldLink RX3 9 "Particleway$Field" "walls" "[Z", .static yX5_isCell, .initialized RX5, .code yX5_isCell cX5_isCell 1 (some .boolean)] ++ wsX30)
def wsX2_put : List Cond := .code yX2_put cX2_put 4 none :: ([.fieldLink RX2 9 "Particleway$Chart" "numbers" "[J", .static yX5_isCell, .initialized RX5, .code yX5_isCell cX5_isCell 1 (some .boolean)] ++ wsX20)
def wsX0_begin : List Cond := .code yX0_begin cX0_begin 2 none :: ([.fieldLink RX0 18 "Particleway$Beliefs" "now" "LParticleway$Chart;", .fieldLink RX0 9 "Particleway$Beliefs" "field" "LParticleway$Field;", .methodLink RX0 25 yX3_isFree, .instanceMethod yX3_isFree, .selects RX3 yX3_isFree yX3_isFree, .initialized RX3, .code yX3_isFree cX3_isFree 2 (some .boolean), .fieldLink RX3 9 "Particleway$Field" "walls" "[Z", .static yX5_isCell, .initialized RX5, .code yX5_isCell cX5_isCell 1 (some .boolean), .methodLink RX0 31 yX2_put, .instanceMethod yX2_put, .selects RX2 yX2_put yX2_put, .initialized RX2, .code yX2_put cX2_put 4 none, .fieldLink RX2 9 "Particleway$Chart" "numbers" "[J"] ++ wsX00 ++ wsX30 ++ wsX20)
def wsX2_copy : List Cond := .code yX2_copy cX2_copy 2 none :: ([.fieldLink RX2 9 "Particleway$Chart" "numbers" "[J", .methodLink RX2 21 arraycopyName, .native arraycopyName, .static arraycopyName, .initialized "java/lang/System"] ++ wsX20)
def wsX2_clear : List Cond := .code yX2_clear cX2_clear 2 none :: ([.fieldLink RX2 9 "Particleway$Chart" "numbers" "[J"] ++ wsX20)
def wsX2_at : List Cond := .code yX2_at cX2_at 2 (some .long) :: ([.fieldLink RX2 9 "Particleway$Chart" "numbers" "[J", .static yX5_isCell, .initialized RX5, .code yX5_isCell cX5_isCell 1 (some .boolean)] ++ wsX20)
def wsX2_add : List Cond := .code yX2_add cX2_add 4 none :: ([.fieldLink RX2 9 "Particleway$Chart" "numbers" "[J", .static yX5_isCell, .initialized RX5, .code yX5_isCell cX5_isCell 1 (some .boolean)] ++ wsX20)
def wsX5_isDirection : List Cond := .code yX5_isDirection cX5_isDirection 1 (some .boolean) :: ([])
def wsX3_stepsAhead : List Cond := .code yX3_stepsAhead cX3_stepsAhead 3 (some .int) :: ([.fieldLink RX3 15 "Particleway$Field" "ahead" "[I", .static yX5_isCell, .initialized RX5, .code yX5_isCell cX5_isCell 1 (some .boolean), .static yX5_isDirection, .code yX5_isDirection cX5_isDirection 1 (some .boolean)] ++ wsX30)
def wsX5_isInField : List Cond := .code yX5_isInField cX5_isInField 2 (some .boolean) :: ([])
def wsX5_numberOf : List Cond := .code yX5_numberOf cX5_numberOf 2 (some .int) :: ([])
def wsX3_shifted : List Cond := .code yX3_shifted cX3_shifted 5 (some .int) :: ([.fieldLink RX3 55 "Particleway$Field" "STEP_X" "[I", .fieldLink RX3 58 "Particleway$Field" "STEP_Y" "[I", .static yX5_isCell, .initialized RX5, .code yX5_isCell cX5_isCell 1 (some .boolean), .static yX5_isDirection, .code yX5_isDirection cX5_isDirection 1 (some .boolean), .static yX5_isInField, .code yX5_isInField cX5_isInField 2 (some .boolean), .static yX5_numberOf, .code yX5_numberOf cX5_numberOf 2 (some .int)])
def wsX3_led : List Cond := .code yX3_led cX3_led 4 (some .int) :: ([.methodLink RX3 43 Lib.Math.min.name, .static Lib.Math.min.name, .initialized "java/lang/Math", .code Lib.Math.min.name Lib.Math.min.code 2 (some .int), .methodLink RX3 39 yX3_stepsAhead, .instanceMethod yX3_stepsAhead, .selects RX3 yX3_stepsAhead yX3_stepsAhead, .initialized RX3, .code yX3_stepsAhead cX3_stepsAhead 3 (some .int), .fieldLink RX3 15 "Particleway$Field" "ahead" "[I", .static yX5_isCell, .initialized RX5, .code yX5_isCell cX5_isCell 1 (some .boolean), .static yX5_isDirection, .code yX5_isDirection cX5_isDirection 1 (some .boolean), .methodLink RX3 48 yX3_shifted, .static yX3_shifted, .code yX3_shifted cX3_shifted 5 (some .int), .fieldLink RX3 55 "Particleway$Field" "STEP_X" "[I", .fieldLink RX3 58 "Particleway$Field" "STEP_Y" "[I", .static yX5_isInField, .code yX5_isInField cX5_isInField 2 (some .boolean), .static yX5_numberOf, .code yX5_numberOf cX5_numberOf 2 (some .int)] ++ wsX30)
def wsX2_greatest : List Cond := .code yX2_greatest cX2_greatest 4 (some .long) :: ([.fieldLink RX2 9 "Particleway$Chart" "numbers" "[J", .methodLink RX2 27 Lib.MathLoose.max_long.x, .static Lib.MathLoose.max_long.x, .initialized "java/lang/Math", .code Lib.MathLoose.max_long.x Lib.MathLoose.max_long.code 4 (some .long)] ++ wsX20)
def wsX2_halve : List Cond := .code yX2_halve cX2_halve 2 none :: ([.fieldLink RX2 9 "Particleway$Chart" "numbers" "[J", .constantLong RX2 19 (2)] ++ wsX20)
def wsX0_halveGreat : List Cond := .code yX0_halveGreat cX0_halveGreat 2 none :: ([.fieldLink RX0 18 "Particleway$Beliefs" "now" "LParticleway$Chart;", .constantLong RX0 77 (1099511627776), .methodLink RX0 70 yX2_greatest, .instanceMethod yX2_greatest, .selects RX2 yX2_greatest yX2_greatest, .initialized RX2, .code yX2_greatest cX2_greatest 4 (some .long), .fieldLink RX2 9 "Particleway$Chart" "numbers" "[J", .methodLink RX2 27 Lib.MathLoose.max_long.x, .static Lib.MathLoose.max_long.x, .initialized "java/lang/Math", .code Lib.MathLoose.max_long.x Lib.MathLoose.max_long.code 4 (some .long), .methodLink RX0 79 yX2_halve, .instanceMethod yX2_halve, .selects RX2 yX2_halve yX2_halve, .code yX2_halve cX2_halve 2 none, .constantLong RX2 19 (2)] ++ wsX00 ++ wsX20)
def wsX0_push_r1 : List Cond := [Cond.fieldLink RX0 22 "Particleway$Beliefs" "before" "LParticleway$Chart;", Cond.fieldLink RX0 18 "Particleway$Beliefs" "now" "LParticleway$Chart;", Cond.fieldLink RX0 9 "Particleway$Beliefs" "field" "LParticleway$Field;", Cond.constantLong RX0 42 (3), Cond.constantLong RX0 55 (12), Cond.methodLink RX0 35 yX2_copy, Cond.instanceMethod yX2_copy, Cond.selects RX2 yX2_copy yX2_copy, Cond.initialized RX2, Cond.code yX2_copy cX2_copy 2 none, Cond.fieldLink RX2 9 "Particleway$Chart" "numbers" "[J", Cond.methodLink RX2 21 arraycopyName, Cond.native arraycopyName, Cond.static arraycopyName, Cond.initialized "java/lang/System", Cond.methodLink RX0 39 yX2_clear, Cond.instanceMethod yX2_clear, Cond.selects RX2 yX2_clear yX2_clear, Cond.code yX2_clear cX2_clear 2 none, Cond.methodLink RX0 25 yX3_isFree, Cond.instanceMethod yX3_isFree, Cond.selects RX3 yX3_isFree yX3_isFree, Cond.initialized RX3, Cond.code yX3_isFree cX3_isFree 2 (some .boolean)]
def wsX0_push_r2 : List Cond := [Cond.fieldLink RX3 9 "Particleway$Field" "walls" "[Z", Cond.static yX5_isCell, Cond.initialized RX5, Cond.code yX5_isCell cX5_isCell 1 (some .boolean), Cond.methodLink RX0 44 yX2_at, Cond.instanceMethod yX2_at, Cond.selects RX2 yX2_at yX2_at, Cond.code yX2_at cX2_at 2 (some .long), Cond.methodLink RX0 48 yX2_add, Cond.instanceMethod yX2_add, Cond.selects RX2 yX2_add yX2_add, Cond.code yX2_add cX2_add 4 none, Cond.methodLink RX0 51 yX3_led, Cond.instanceMethod yX3_led, Cond.selects RX3 yX3_led yX3_led, Cond.code yX3_led cX3_led 4 (some .int), Cond.methodLink RX3 43 Lib.Math.min.name, Cond.static Lib.Math.min.name, Cond.initialized "java/lang/Math", Cond.code Lib.Math.min.name Lib.Math.min.code 2 (some .int), Cond.methodLink RX3 39 yX3_stepsAhead, Cond.instanceMethod yX3_stepsAhead, Cond.selects RX3 yX3_stepsAhead yX3_stepsAhead, Cond.code yX3_stepsAhead cX3_stepsAhead 3 (some .int)]
def wsX0_push_r3 : List Cond := [Cond.fieldLink RX3 15 "Particleway$Field" "ahead" "[I", Cond.static yX5_isDirection, Cond.code yX5_isDirection cX5_isDirection 1 (some .boolean), Cond.methodLink RX3 48 yX3_shifted, Cond.static yX3_shifted, Cond.code yX3_shifted cX3_shifted 5 (some .int), Cond.fieldLink RX3 55 "Particleway$Field" "STEP_X" "[I", Cond.fieldLink RX3 58 "Particleway$Field" "STEP_Y" "[I", Cond.static yX5_isInField, Cond.code yX5_isInField cX5_isInField 2 (some .boolean), Cond.static yX5_numberOf, Cond.code yX5_numberOf cX5_numberOf 2 (some .int), Cond.methodLink RX0 57 yX0_halveGreat, Cond.instanceMethod yX0_halveGreat, Cond.selects RX0 yX0_halveGreat yX0_halveGreat, Cond.initialized RX0, Cond.code yX0_halveGreat cX0_halveGreat 2 none, Cond.constantLong RX0 77 (1099511627776), Cond.methodLink RX0 70 yX2_greatest, Cond.instanceMethod yX2_greatest, Cond.selects RX2 yX2_greatest yX2_greatest, Cond.code yX2_greatest cX2_greatest 4 (some .long), Cond.methodLink RX2 27 Lib.MathLoose.max_long.x, Cond.static Lib.MathLoose.max_long.x]
def wsX0_push_r4 : List Cond := [Cond.code Lib.MathLoose.max_long.x Lib.MathLoose.max_long.code 4 (some .long), Cond.methodLink RX0 79 yX2_halve, Cond.instanceMethod yX2_halve, Cond.selects RX2 yX2_halve yX2_halve, Cond.code yX2_halve cX2_halve 2 none, Cond.constantLong RX2 19 (2)]
def wsX0_push : List Cond := .code yX0_push cX0_push 3 none :: ((wsX0_push_r1 ++ (wsX0_push_r2 ++ (wsX0_push_r3 ++ wsX0_push_r4))) ++ wsX00 ++ wsX20 ++ wsX30)
def wsX0_fetched_r1 : List Cond := [Cond.constantLong RX0 42 (3), Cond.fieldLink RX0 22 "Particleway$Beliefs" "before" "LParticleway$Chart;", Cond.fieldLink RX0 9 "Particleway$Beliefs" "field" "LParticleway$Field;", Cond.constantLong RX0 55 (12), Cond.methodLink RX0 44 yX2_at, Cond.instanceMethod yX2_at, Cond.selects RX2 yX2_at yX2_at, Cond.initialized RX2, Cond.code yX2_at cX2_at 2 (some .long), Cond.fieldLink RX2 9 "Particleway$Chart" "numbers" "[J", Cond.static yX5_isCell, Cond.initialized RX5, Cond.code yX5_isCell cX5_isCell 1 (some .boolean), Cond.methodLink RX0 64 yX3_shifted, Cond.static yX3_shifted, Cond.initialized RX3, Cond.code yX3_shifted cX3_shifted 5 (some .int), Cond.fieldLink RX3 55 "Particleway$Field" "STEP_X" "[I", Cond.fieldLink RX3 58 "Particleway$Field" "STEP_Y" "[I", Cond.static yX5_isDirection, Cond.code yX5_isDirection cX5_isDirection 1 (some .boolean), Cond.static yX5_isInField, Cond.code yX5_isInField cX5_isInField 2 (some .boolean), Cond.static yX5_numberOf]
def wsX0_fetched_r2 : List Cond := [Cond.code yX5_numberOf cX5_numberOf 2 (some .int), Cond.methodLink RX0 25 yX3_isFree, Cond.instanceMethod yX3_isFree, Cond.selects RX3 yX3_isFree yX3_isFree, Cond.code yX3_isFree cX3_isFree 2 (some .boolean), Cond.fieldLink RX3 9 "Particleway$Field" "walls" "[Z", Cond.methodLink RX0 51 yX3_led, Cond.instanceMethod yX3_led, Cond.selects RX3 yX3_led yX3_led, Cond.code yX3_led cX3_led 4 (some .int), Cond.methodLink RX3 43 Lib.Math.min.name, Cond.static Lib.Math.min.name, Cond.initialized "java/lang/Math", Cond.code Lib.Math.min.name Lib.Math.min.code 2 (some .int), Cond.methodLink RX3 39 yX3_stepsAhead, Cond.instanceMethod yX3_stepsAhead, Cond.selects RX3 yX3_stepsAhead yX3_stepsAhead, Cond.code yX3_stepsAhead cX3_stepsAhead 3 (some .int), Cond.fieldLink RX3 15 "Particleway$Field" "ahead" "[I", Cond.methodLink RX3 48 yX3_shifted]
def wsX0_fetched : List Cond := .code yX0_fetched cX0_fetched 7 (some .long) :: ((wsX0_fetched_r1 ++ wsX0_fetched_r2) ++ wsX00 ++ wsX20 ++ wsX30)
def wsX0_fetch_r1 : List Cond := [Cond.fieldLink RX0 22 "Particleway$Beliefs" "before" "LParticleway$Chart;", Cond.fieldLink RX0 18 "Particleway$Beliefs" "now" "LParticleway$Chart;", Cond.methodLink RX0 35 yX2_copy, Cond.instanceMethod yX2_copy, Cond.selects RX2 yX2_copy yX2_copy, Cond.initialized RX2, Cond.code yX2_copy cX2_copy 2 none, Cond.fieldLink RX2 9 "Particleway$Chart" "numbers" "[J", Cond.methodLink RX2 21 arraycopyName, Cond.native arraycopyName, Cond.static arraycopyName, Cond.initialized "java/lang/System", Cond.methodLink RX0 60 yX0_fetched, Cond.instanceMethod yX0_fetched, Cond.selects RX0 yX0_fetched yX0_fetched, Cond.initialized RX0, Cond.code yX0_fetched cX0_fetched 7 (some .long), Cond.constantLong RX0 42 (3), Cond.fieldLink RX0 9 "Particleway$Beliefs" "field" "LParticleway$Field;", Cond.constantLong RX0 55 (12), Cond.methodLink RX0 44 yX2_at, Cond.instanceMethod yX2_at, Cond.selects RX2 yX2_at yX2_at, Cond.code yX2_at cX2_at 2 (some .long)]
def wsX0_fetch_r2 : List Cond := [Cond.static yX5_isCell, Cond.initialized RX5, Cond.code yX5_isCell cX5_isCell 1 (some .boolean), Cond.methodLink RX0 64 yX3_shifted, Cond.static yX3_shifted, Cond.initialized RX3, Cond.code yX3_shifted cX3_shifted 5 (some .int), Cond.fieldLink RX3 55 "Particleway$Field" "STEP_X" "[I", Cond.fieldLink RX3 58 "Particleway$Field" "STEP_Y" "[I", Cond.static yX5_isDirection, Cond.code yX5_isDirection cX5_isDirection 1 (some .boolean), Cond.static yX5_isInField, Cond.code yX5_isInField cX5_isInField 2 (some .boolean), Cond.static yX5_numberOf, Cond.code yX5_numberOf cX5_numberOf 2 (some .int), Cond.methodLink RX0 25 yX3_isFree, Cond.instanceMethod yX3_isFree, Cond.selects RX3 yX3_isFree yX3_isFree, Cond.code yX3_isFree cX3_isFree 2 (some .boolean), Cond.fieldLink RX3 9 "Particleway$Field" "walls" "[Z", Cond.methodLink RX0 51 yX3_led, Cond.instanceMethod yX3_led, Cond.selects RX3 yX3_led yX3_led, Cond.code yX3_led cX3_led 4 (some .int)]
def wsX0_fetch_r3 : List Cond := [Cond.methodLink RX3 43 Lib.Math.min.name, Cond.static Lib.Math.min.name, Cond.initialized "java/lang/Math", Cond.code Lib.Math.min.name Lib.Math.min.code 2 (some .int), Cond.methodLink RX3 39 yX3_stepsAhead, Cond.instanceMethod yX3_stepsAhead, Cond.selects RX3 yX3_stepsAhead yX3_stepsAhead, Cond.code yX3_stepsAhead cX3_stepsAhead 3 (some .int), Cond.fieldLink RX3 15 "Particleway$Field" "ahead" "[I", Cond.methodLink RX3 48 yX3_shifted, Cond.methodLink RX0 31 yX2_put, Cond.instanceMethod yX2_put, Cond.selects RX2 yX2_put yX2_put, Cond.code yX2_put cX2_put 4 none, Cond.methodLink RX0 57 yX0_halveGreat, Cond.instanceMethod yX0_halveGreat, Cond.selects RX0 yX0_halveGreat yX0_halveGreat, Cond.code yX0_halveGreat cX0_halveGreat 2 none, Cond.constantLong RX0 77 (1099511627776), Cond.methodLink RX0 70 yX2_greatest, Cond.instanceMethod yX2_greatest, Cond.selects RX2 yX2_greatest yX2_greatest, Cond.code yX2_greatest cX2_greatest 4 (some .long), Cond.methodLink RX2 27 Lib.MathLoose.max_long.x]
def wsX0_fetch_r4 : List Cond := [Cond.static Lib.MathLoose.max_long.x, Cond.code Lib.MathLoose.max_long.x Lib.MathLoose.max_long.code 4 (some .long), Cond.methodLink RX0 79 yX2_halve, Cond.instanceMethod yX2_halve, Cond.selects RX2 yX2_halve yX2_halve, Cond.code yX2_halve cX2_halve 2 none, Cond.constantLong RX2 19 (2)]
def wsX0_fetch : List Cond := .code yX0_fetch cX0_fetch 3 none :: ((wsX0_fetch_r1 ++ (wsX0_fetch_r2 ++ (wsX0_fetch_r3 ++ wsX0_fetch_r4))) ++ wsX00 ++ wsX20 ++ wsX30)
def wsX3_weight : List Cond := .code yX3_weight cX3_weight 4 (some .int) :: ([.methodLink RX3 52 Lib.Math.abs.name, .static Lib.Math.abs.name, .initialized "java/lang/Math", .code Lib.Math.abs.name Lib.Math.abs.code 1 (some .int), .methodLink RX3 39 yX3_stepsAhead, .instanceMethod yX3_stepsAhead, .selects RX3 yX3_stepsAhead yX3_stepsAhead, .initialized RX3, .code yX3_stepsAhead cX3_stepsAhead 3 (some .int), .fieldLink RX3 15 "Particleway$Field" "ahead" "[I", .static yX5_isCell, .initialized RX5, .code yX5_isCell cX5_isCell 1 (some .boolean), .static yX5_isDirection, .code yX5_isDirection cX5_isDirection 1 (some .boolean)] ++ wsX30)
def wsX0_weigh_r1 : List Cond := [Cond.fieldLink RX0 18 "Particleway$Beliefs" "now" "LParticleway$Chart;", Cond.fieldLink RX0 9 "Particleway$Beliefs" "field" "LParticleway$Field;", Cond.methodLink RX0 44 yX2_at, Cond.instanceMethod yX2_at, Cond.selects RX2 yX2_at yX2_at, Cond.initialized RX2, Cond.code yX2_at cX2_at 2 (some .long), Cond.fieldLink RX2 9 "Particleway$Chart" "numbers" "[J", Cond.static yX5_isCell, Cond.initialized RX5, Cond.code yX5_isCell cX5_isCell 1 (some .boolean), Cond.methodLink RX0 67 yX3_weight, Cond.instanceMethod yX3_weight, Cond.selects RX3 yX3_weight yX3_weight, Cond.initialized RX3, Cond.code yX3_weight cX3_weight 4 (some .int), Cond.methodLink RX3 52 Lib.Math.abs.name, Cond.static Lib.Math.abs.name, Cond.initialized "java/lang/Math", Cond.code Lib.Math.abs.name Lib.Math.abs.code 1 (some .int), Cond.methodLink RX3 39 yX3_stepsAhead, Cond.instanceMethod yX3_stepsAhead, Cond.selects RX3 yX3_stepsAhead yX3_stepsAhead, Cond.code yX3_stepsAhead cX3_stepsAhead 3 (some .int)]
def wsX0_weigh_r2 : List Cond := [Cond.fieldLink RX3 15 "Particleway$Field" "ahead" "[I", Cond.static yX5_isDirection, Cond.code yX5_isDirection cX5_isDirection 1 (some .boolean), Cond.methodLink RX0 31 yX2_put, Cond.instanceMethod yX2_put, Cond.selects RX2 yX2_put yX2_put, Cond.code yX2_put cX2_put 4 none, Cond.methodLink RX0 70 yX2_greatest, Cond.instanceMethod yX2_greatest, Cond.selects RX2 yX2_greatest yX2_greatest, Cond.code yX2_greatest cX2_greatest 4 (some .long), Cond.methodLink RX2 27 Lib.MathLoose.max_long.x, Cond.static Lib.MathLoose.max_long.x, Cond.code Lib.MathLoose.max_long.x Lib.MathLoose.max_long.code 4 (some .long), Cond.methodLink RX0 74 yX0_begin, Cond.instanceMethod yX0_begin, Cond.selects RX0 yX0_begin yX0_begin, Cond.initialized RX0, Cond.code yX0_begin cX0_begin 2 none, Cond.methodLink RX0 25 yX3_isFree, Cond.instanceMethod yX3_isFree, Cond.selects RX3 yX3_isFree yX3_isFree, Cond.code yX3_isFree cX3_isFree 2 (some .boolean), Cond.fieldLink RX3 9 "Particleway$Field" "walls" "[Z"]
def wsX0_weigh_r3 : List Cond := [Cond.methodLink RX0 57 yX0_halveGreat, Cond.instanceMethod yX0_halveGreat, Cond.selects RX0 yX0_halveGreat yX0_halveGreat, Cond.code yX0_halveGreat cX0_halveGreat 2 none, Cond.constantLong RX0 77 (1099511627776), Cond.methodLink RX0 79 yX2_halve, Cond.instanceMethod yX2_halve, Cond.selects RX2 yX2_halve yX2_halve, Cond.code yX2_halve cX2_halve 2 none, Cond.constantLong RX2 19 (2)]
def wsX0_weigh : List Cond := .code yX0_weigh cX0_weigh 4 none :: ((wsX0_weigh_r1 ++ (wsX0_weigh_r2 ++ wsX0_weigh_r3)) ++ wsX00 ++ wsX20 ++ wsX30)
def wsX1_init : List Cond := .code yX1_init cX1_init 1 none :: ([.methodLink RX1 1 objectInit, .instanceMethod objectInit, .code objectInit ⟨#[0xb1]⟩ 1 none, .fieldLink RX1 7 "Particleway$Chance" "x" "I"] ++ wsX10)
def wsX1_change : List Cond := .code yX1_change cX1_change 3 (some .int) :: ([.fieldLink RX1 7 "Particleway$Chance" "x" "I"] ++ wsX10)
def wsX1_remainder : List Cond := .code yX1_remainder cX1_remainder 2 (some .int) :: ([.fieldLink RX1 7 "Particleway$Chance" "x" "I", .constant RX1 13 (65537)] ++ wsX10)
def wsX2_greatestCell : List Cond := .code yX2_greatestCell cX2_greatestCell 4 (some .int) :: ([.fieldLink RX2 9 "Particleway$Chart" "numbers" "[J", .methodLink RX2 33 yX2_greatest, .instanceMethod yX2_greatest, .selects RX2 yX2_greatest yX2_greatest, .initialized RX2, .code yX2_greatest cX2_greatest 4 (some .long), .methodLink RX2 27 Lib.MathLoose.max_long.x, .static Lib.MathLoose.max_long.x, .initialized "java/lang/Math", .code Lib.MathLoose.max_long.x Lib.MathLoose.max_long.code 4 (some .long)] ++ wsX20)
def wsX2_sumOf : List Cond := .code yX2_sumOf cX2_sumOf 10 (some .long) :: ([.fieldLink RX2 9 "Particleway$Chart" "numbers" "[J"] ++ wsX20)
def wsX2_sum : List Cond := .code yX2_sum cX2_sum 1 (some .long) :: ([.methodLink RX2 37 yX2_sumOf, .instanceMethod yX2_sumOf, .selects RX2 yX2_sumOf yX2_sumOf, .initialized RX2, .code yX2_sumOf cX2_sumOf 10 (some .long), .fieldLink RX2 9 "Particleway$Chart" "numbers" "[J"] ++ wsX20)
def wsX2_coordinateSum : List Cond := .code yX2_coordinateSum cX2_coordinateSum 5 (some .long) :: ([.fieldLink RX2 9 "Particleway$Chart" "numbers" "[J"] ++ wsX20)
def wsX2_placeOf : List Cond := .code yX2_placeOf cX2_placeOf 5 (some .int) :: ([.fieldLink RX2 9 "Particleway$Chart" "numbers" "[J", .methodLink RX2 45 yX2_at, .instanceMethod yX2_at, .selects RX2 yX2_at yX2_at, .initialized RX2, .code yX2_at cX2_at 2 (some .long), .static yX5_isCell, .initialized RX5, .code yX5_isCell cX5_isCell 1 (some .boolean)] ++ wsX20)
def wsX2_cellAtPlace : List Cond := .code yX2_cellAtPlace cX2_cellAtPlace 3 (some .int) :: ([.fieldLink RX2 9 "Particleway$Chart" "numbers" "[J", .methodLink RX2 41 yX2_placeOf, .instanceMethod yX2_placeOf, .selects RX2 yX2_placeOf yX2_placeOf, .initialized RX2, .code yX2_placeOf cX2_placeOf 5 (some .int), .methodLink RX2 45 yX2_at, .instanceMethod yX2_at, .selects RX2 yX2_at yX2_at, .code yX2_at cX2_at 2 (some .long), .static yX5_isCell, .initialized RX5, .code yX5_isCell cX5_isCell 1 (some .boolean)] ++ wsX20)
def wsX3_countedSteps : List Cond := .code yX3_countedSteps cX3_countedSteps 4 (some .int) :: ([.methodLink RX3 48 yX3_shifted, .static yX3_shifted, .initialized RX3, .code yX3_shifted cX3_shifted 5 (some .int), .fieldLink RX3 55 "Particleway$Field" "STEP_X" "[I", .fieldLink RX3 58 "Particleway$Field" "STEP_Y" "[I", .static yX5_isCell, .initialized RX5, .code yX5_isCell cX5_isCell 1 (some .boolean), .static yX5_isDirection, .code yX5_isDirection cX5_isDirection 1 (some .boolean), .static yX5_isInField, .code yX5_isInField cX5_isInField 2 (some .boolean), .static yX5_numberOf, .code yX5_numberOf cX5_numberOf 2 (some .int), .methodLink RX3 71 yX3_isFree, .instanceMethod yX3_isFree, .selects RX3 yX3_isFree yX3_isFree, .code yX3_isFree cX3_isFree 2 (some .boolean), .fieldLink RX3 9 "Particleway$Field" "walls" "[Z"] ++ wsX30)
def wsX3_measure_r1 : List Cond := [Cond.fieldLink RX3 26 "Particleway$Field" "free" "I", Cond.fieldLink RX3 9 "Particleway$Field" "walls" "[Z", Cond.fieldLink RX3 15 "Particleway$Field" "ahead" "[I", Cond.methodLink RX3 68 yX3_countedSteps, Cond.instanceMethod yX3_countedSteps, Cond.selects RX3 yX3_countedSteps yX3_countedSteps, Cond.initialized RX3, Cond.code yX3_countedSteps cX3_countedSteps 4 (some .int), Cond.methodLink RX3 48 yX3_shifted, Cond.static yX3_shifted, Cond.code yX3_shifted cX3_shifted 5 (some .int), Cond.fieldLink RX3 55 "Particleway$Field" "STEP_X" "[I", Cond.fieldLink RX3 58 "Particleway$Field" "STEP_Y" "[I", Cond.static yX5_isCell, Cond.initialized RX5, Cond.code yX5_isCell cX5_isCell 1 (some .boolean), Cond.static yX5_isDirection, Cond.code yX5_isDirection cX5_isDirection 1 (some .boolean), Cond.static yX5_isInField, Cond.code yX5_isInField cX5_isInField 2 (some .boolean), Cond.static yX5_numberOf, Cond.code yX5_numberOf cX5_numberOf 2 (some .int), Cond.methodLink RX3 71 yX3_isFree, Cond.instanceMethod yX3_isFree]
def wsX3_measure_r2 : List Cond := [Cond.selects RX3 yX3_isFree yX3_isFree, Cond.code yX3_isFree cX3_isFree 2 (some .boolean)]
def wsX3_measure : List Cond := .code yX3_measure cX3_measure 3 none :: ((wsX3_measure_r1 ++ wsX3_measure_r2) ++ wsX30)
def wsX3_init_r1 : List Cond := [Cond.methodLink RX3 3 objectInit, Cond.instanceMethod objectInit, Cond.code objectInit ⟨#[0xb1]⟩ 1 none, Cond.arrayClass .boolean, Cond.fieldLink RX3 9 "Particleway$Field" "walls" "[Z", Cond.arrayClass .int, Cond.fieldLink RX3 15 "Particleway$Field" "ahead" "[I", Cond.methodLink RX3 19 yX3_measure, Cond.instanceMethod yX3_measure, Cond.selects RX3 yX3_measure yX3_measure, Cond.initialized RX3, Cond.code yX3_measure cX3_measure 3 none, Cond.fieldLink RX3 26 "Particleway$Field" "free" "I", Cond.methodLink RX3 68 yX3_countedSteps, Cond.instanceMethod yX3_countedSteps, Cond.selects RX3 yX3_countedSteps yX3_countedSteps, Cond.code yX3_countedSteps cX3_countedSteps 4 (some .int), Cond.methodLink RX3 48 yX3_shifted, Cond.static yX3_shifted, Cond.code yX3_shifted cX3_shifted 5 (some .int), Cond.fieldLink RX3 55 "Particleway$Field" "STEP_X" "[I", Cond.fieldLink RX3 58 "Particleway$Field" "STEP_Y" "[I", Cond.static yX5_isCell, Cond.initialized RX5]
def wsX3_init_r2 : List Cond := [Cond.code yX5_isCell cX5_isCell 1 (some .boolean), Cond.static yX5_isDirection, Cond.code yX5_isDirection cX5_isDirection 1 (some .boolean), Cond.static yX5_isInField, Cond.code yX5_isInField cX5_isInField 2 (some .boolean), Cond.static yX5_numberOf, Cond.code yX5_numberOf cX5_numberOf 2 (some .int), Cond.methodLink RX3 71 yX3_isFree, Cond.instanceMethod yX3_isFree, Cond.selects RX3 yX3_isFree yX3_isFree, Cond.code yX3_isFree cX3_isFree 2 (some .boolean)]
def wsX3_init : List Cond := .code yX3_init cX3_init 1 none :: ((wsX3_init_r1 ++ wsX3_init_r2) ++ wsX30)
def wsX3_freeCells : List Cond := .code yX3_freeCells cX3_freeCells 1 (some .int) :: ([.fieldLink RX3 26 "Particleway$Field" "free" "I"] ++ wsX30)
def wsX3_build_r1 : List Cond := [Cond.fieldLink RX3 9 "Particleway$Field" "walls" "[Z", Cond.static yX5_isCell, Cond.initialized RX5, Cond.code yX5_isCell cX5_isCell 1 (some .boolean), Cond.methodLink RX3 19 yX3_measure, Cond.instanceMethod yX3_measure, Cond.selects RX3 yX3_measure yX3_measure, Cond.initialized RX3, Cond.code yX3_measure cX3_measure 3 none, Cond.fieldLink RX3 26 "Particleway$Field" "free" "I", Cond.fieldLink RX3 15 "Particleway$Field" "ahead" "[I", Cond.methodLink RX3 68 yX3_countedSteps, Cond.instanceMethod yX3_countedSteps, Cond.selects RX3 yX3_countedSteps yX3_countedSteps, Cond.code yX3_countedSteps cX3_countedSteps 4 (some .int), Cond.methodLink RX3 48 yX3_shifted, Cond.static yX3_shifted, Cond.code yX3_shifted cX3_shifted 5 (some .int), Cond.fieldLink RX3 55 "Particleway$Field" "STEP_X" "[I", Cond.fieldLink RX3 58 "Particleway$Field" "STEP_Y" "[I", Cond.static yX5_isDirection, Cond.code yX5_isDirection cX5_isDirection 1 (some .boolean), Cond.static yX5_isInField, Cond.code yX5_isInField cX5_isInField 2 (some .boolean)]
def wsX3_build_r2 : List Cond := [Cond.static yX5_numberOf, Cond.code yX5_numberOf cX5_numberOf 2 (some .int), Cond.methodLink RX3 71 yX3_isFree, Cond.instanceMethod yX3_isFree, Cond.selects RX3 yX3_isFree yX3_isFree, Cond.code yX3_isFree cX3_isFree 2 (some .boolean)]
def wsX3_build : List Cond := .code yX3_build cX3_build 3 none :: ((wsX3_build_r1 ++ wsX3_build_r2) ++ wsX30)
def wsX3_drawnCell : List Cond := .code yX3_drawnCell cX3_drawnCell 4 (some .int) :: ([.fieldLink RX3 26 "Particleway$Field" "free" "I", .fieldLink RX3 9 "Particleway$Field" "walls" "[Z", .methodLink RX3 30 yX1_remainder, .instanceMethod yX1_remainder, .selects RX1 yX1_remainder yX1_remainder, .initialized RX1, .code yX1_remainder cX1_remainder 2 (some .int), .fieldLink RX1 7 "Particleway$Chance" "x" "I", .constant RX1 13 (65537)] ++ wsX30 ++ wsX10)
def wsX4_init : List Cond := .code yX4_init cX4_init 3 none :: ([.methodLink RX4 3 objectInit, .instanceMethod objectInit, .code objectInit ⟨#[0xb1]⟩ 1 none, .fieldLink RX4 9 "Particleway$Samples" "field" "LParticleway$Field;", .fieldLink RX4 15 "Particleway$Samples" "chance" "LParticleway$Chance;", .arrayClass .int, .fieldLink RX4 19 "Particleway$Samples" "cells" "[I", .fieldLink RX4 23 "Particleway$Samples" "oldCells" "[I", .fieldLink RX4 26 "Particleway$Samples" "weights" "[I", .classLink RX4 29 RX2, .instantiable RX2 1, .initialized RX2, .fieldLink RX4 32 "Particleway$Samples" "counts" "LParticleway$Chart;", .fieldLink RX4 36 "Particleway$Samples" "many" "I", .methodLink RX4 31 yX2_init, .instanceMethod yX2_init, .code yX2_init cX2_init 1 none, .methodLink RX2 3 objectInit, .arrayClass .long, .fieldLink RX2 9 "Particleway$Chart" "numbers" "[J"] ++ wsX40 ++ wsX20)
def wsX4_size : List Cond := .code yX4_size cX4_size 1 (some .int) :: ([.fieldLink RX4 36 "Particleway$Samples" "many" "I"] ++ wsX40)
def wsX4_cellOf : List Cond := .code yX4_cellOf cX4_cellOf 2 (some .int) :: ([.fieldLink RX4 19 "Particleway$Samples" "cells" "[I"] ++ wsX40)
def wsX4_lastDoubt : List Cond := .code yX4_lastDoubt cX4_lastDoubt 1 (some .int) :: ([.fieldLink RX4 40 "Particleway$Samples" "doubt" "I"] ++ wsX40)
def wsX4_chart : List Cond := .code yX4_chart cX4_chart 2 (some (.object "Particleway$Chart")) :: ([.fieldLink RX4 32 "Particleway$Samples" "counts" "LParticleway$Chart;", .fieldLink RX4 36 "Particleway$Samples" "many" "I", .fieldLink RX4 19 "Particleway$Samples" "cells" "[I", .methodLink RX4 43 yX2_clear, .instanceMethod yX2_clear, .selects RX2 yX2_clear yX2_clear, .initialized RX2, .code yX2_clear cX2_clear 2 none, .fieldLink RX2 9 "Particleway$Chart" "numbers" "[J", .methodLink RX4 46 yX2_add, .instanceMethod yX2_add, .selects RX2 yX2_add yX2_add, .code yX2_add cX2_add 4 none, .static yX5_isCell, .initialized RX5, .code yX5_isCell cX5_isCell 1 (some .boolean)] ++ wsX40 ++ wsX20)
def wsX4_begin : List Cond := .code yX4_begin cX4_begin 3 none :: ([.fieldLink RX4 36 "Particleway$Samples" "many" "I", .fieldLink RX4 19 "Particleway$Samples" "cells" "[I", .fieldLink RX4 9 "Particleway$Samples" "field" "LParticleway$Field;", .fieldLink RX4 15 "Particleway$Samples" "chance" "LParticleway$Chance;", .fieldLink RX4 56 "Particleway$Samples" "isRead" "Z", .fieldLink RX4 60 "Particleway$Samples" "slow" "I", .fieldLink RX4 63 "Particleway$Samples" "fast" "I", .fieldLink RX4 40 "Particleway$Samples" "doubt" "I", .methodLink RX4 50 yX3_drawnCell, .instanceMethod yX3_drawnCell, .selects RX3 yX3_drawnCell yX3_drawnCell, .initialized RX3, .code yX3_drawnCell cX3_drawnCell 4 (some .int), .fieldLink RX3 26 "Particleway$Field" "free" "I", .fieldLink RX3 9 "Particleway$Field" "walls" "[Z", .methodLink RX3 30 yX1_remainder, .instanceMethod yX1_remainder, .selects RX1 yX1_remainder yX1_remainder, .initialized RX1, .code yX1_remainder cX1_remainder 2 (some .int), .fieldLink RX1 7 "Particleway$Chance" "x" "I", .constant RX1 13 (65537)] ++ wsX40 ++ wsX30 ++ wsX10)
def wsX4_drawnSteps : List Cond := .code yX4_drawnSteps cX4_drawnSteps 2 (some .int) :: ([.fieldLink RX4 15 "Particleway$Samples" "chance" "LParticleway$Chance;", .methodLink RX4 74 yX1_remainder, .instanceMethod yX1_remainder, .selects RX1 yX1_remainder yX1_remainder, .initialized RX1, .code yX1_remainder cX1_remainder 2 (some .int), .fieldLink RX1 7 "Particleway$Chance" "x" "I", .constant RX1 13 (65537)] ++ wsX40 ++ wsX10)
def wsX4_move_r1 : List Cond := [Cond.fieldLink RX4 36 "Particleway$Samples" "many" "I", Cond.fieldLink RX4 19 "Particleway$Samples" "cells" "[I", Cond.fieldLink RX4 9 "Particleway$Samples" "field" "LParticleway$Field;", Cond.methodLink RX4 66 yX4_drawnSteps, Cond.instanceMethod yX4_drawnSteps, Cond.selects RX4 yX4_drawnSteps yX4_drawnSteps, Cond.initialized RX4, Cond.code yX4_drawnSteps cX4_drawnSteps 2 (some .int), Cond.fieldLink RX4 15 "Particleway$Samples" "chance" "LParticleway$Chance;", Cond.methodLink RX4 74 yX1_remainder, Cond.instanceMethod yX1_remainder, Cond.selects RX1 yX1_remainder yX1_remainder, Cond.initialized RX1, Cond.code yX1_remainder cX1_remainder 2 (some .int), Cond.fieldLink RX1 7 "Particleway$Chance" "x" "I", Cond.constant RX1 13 (65537), Cond.methodLink RX4 70 yX3_led, Cond.instanceMethod yX3_led, Cond.selects RX3 yX3_led yX3_led, Cond.initialized RX3, Cond.code yX3_led cX3_led 4 (some .int), Cond.methodLink RX3 43 Lib.Math.min.name, Cond.static Lib.Math.min.name, Cond.initialized "java/lang/Math"]
def wsX4_move_r2 : List Cond := [Cond.code Lib.Math.min.name Lib.Math.min.code 2 (some .int), Cond.methodLink RX3 39 yX3_stepsAhead, Cond.instanceMethod yX3_stepsAhead, Cond.selects RX3 yX3_stepsAhead yX3_stepsAhead, Cond.code yX3_stepsAhead cX3_stepsAhead 3 (some .int), Cond.fieldLink RX3 15 "Particleway$Field" "ahead" "[I", Cond.static yX5_isCell, Cond.initialized RX5, Cond.code yX5_isCell cX5_isCell 1 (some .boolean), Cond.static yX5_isDirection, Cond.code yX5_isDirection cX5_isDirection 1 (some .boolean), Cond.methodLink RX3 48 yX3_shifted, Cond.static yX3_shifted, Cond.code yX3_shifted cX3_shifted 5 (some .int), Cond.fieldLink RX3 55 "Particleway$Field" "STEP_X" "[I", Cond.fieldLink RX3 58 "Particleway$Field" "STEP_Y" "[I", Cond.static yX5_isInField, Cond.code yX5_isInField cX5_isInField 2 (some .boolean), Cond.static yX5_numberOf, Cond.code yX5_numberOf cX5_numberOf 2 (some .int)]
def wsX4_move : List Cond := .code yX4_move cX4_move 3 none :: ((wsX4_move_r1 ++ wsX4_move_r2) ++ wsX40 ++ wsX10 ++ wsX30)
def wsX5_quotient : List Cond := .code yX5_quotient cX5_quotient 4 (some .long) :: ([])
def wsX4_compareFit : List Cond := .code yX4_compareFit cX4_compareFit 2 none :: ([.fieldLink RX4 56 "Particleway$Samples" "isRead" "Z", .fieldLink RX4 60 "Particleway$Samples" "slow" "I", .fieldLink RX4 63 "Particleway$Samples" "fast" "I", .methodLink RX4 99 Lib.Math.max.name, .static Lib.Math.max.name, .initialized "java/lang/Math", .code Lib.Math.max.name Lib.Math.max.code 2 (some .int), .fieldLink RX4 40 "Particleway$Samples" "doubt" "I"] ++ wsX40)
def wsX4_manyAnew_r1 : List Cond := [Cond.fieldLink RX4 9 "Particleway$Samples" "field" "LParticleway$Field;", Cond.methodLink RX4 112 Lib.Math.min.name, Cond.static Lib.Math.min.name, Cond.initialized "java/lang/Math", Cond.code Lib.Math.min.name Lib.Math.min.code 2 (some .int), Cond.methodLink RX4 104 yX4_chart, Cond.instanceMethod yX4_chart, Cond.selects RX4 yX4_chart yX4_chart, Cond.initialized RX4, Cond.code yX4_chart cX4_chart 2 (some (.object "Particleway$Chart")), Cond.fieldLink RX4 32 "Particleway$Samples" "counts" "LParticleway$Chart;", Cond.fieldLink RX4 36 "Particleway$Samples" "many" "I", Cond.fieldLink RX4 19 "Particleway$Samples" "cells" "[I", Cond.methodLink RX4 43 yX2_clear, Cond.instanceMethod yX2_clear, Cond.selects RX2 yX2_clear yX2_clear, Cond.initialized RX2, Cond.code yX2_clear cX2_clear 2 none, Cond.fieldLink RX2 9 "Particleway$Chart" "numbers" "[J", Cond.methodLink RX4 46 yX2_add, Cond.instanceMethod yX2_add, Cond.selects RX2 yX2_add yX2_add, Cond.code yX2_add cX2_add 4 none, Cond.static yX5_isCell]
def wsX4_manyAnew_r2 : List Cond := [Cond.initialized RX5, Cond.code yX5_isCell cX5_isCell 1 (some .boolean), Cond.methodLink RX4 108 yX2_at, Cond.instanceMethod yX2_at, Cond.selects RX2 yX2_at yX2_at, Cond.code yX2_at cX2_at 2 (some .long), Cond.methodLink RX4 80 yX3_weight, Cond.instanceMethod yX3_weight, Cond.selects RX3 yX3_weight yX3_weight, Cond.initialized RX3, Cond.code yX3_weight cX3_weight 4 (some .int), Cond.methodLink RX3 52 Lib.Math.abs.name, Cond.static Lib.Math.abs.name, Cond.code Lib.Math.abs.name Lib.Math.abs.code 1 (some .int), Cond.methodLink RX3 39 yX3_stepsAhead, Cond.instanceMethod yX3_stepsAhead, Cond.selects RX3 yX3_stepsAhead yX3_stepsAhead, Cond.code yX3_stepsAhead cX3_stepsAhead 3 (some .int), Cond.fieldLink RX3 15 "Particleway$Field" "ahead" "[I", Cond.static yX5_isDirection, Cond.code yX5_isDirection cX5_isDirection 1 (some .boolean)]
def wsX4_manyAnew : List Cond := .code yX4_manyAnew cX4_manyAnew 6 (some .int) :: ((wsX4_manyAnew_r1 ++ wsX4_manyAnew_r2) ++ wsX40 ++ wsX20 ++ wsX30)
def wsX4_oldCellBeyond : List Cond := .code yX4_oldCellBeyond cX4_oldCellBeyond 5 (some .int) :: ([.fieldLink RX4 36 "Particleway$Samples" "many" "I", .fieldLink RX4 26 "Particleway$Samples" "weights" "[I", .fieldLink RX4 23 "Particleway$Samples" "oldCells" "[I"] ++ wsX40)
def wsX4_drawAnew_r1 : List Cond := [Cond.fieldLink RX4 19 "Particleway$Samples" "cells" "[I", Cond.fieldLink RX4 23 "Particleway$Samples" "oldCells" "[I", Cond.methodLink RX4 115 arraycopyName, Cond.native arraycopyName, Cond.static arraycopyName, Cond.initialized "java/lang/System", Cond.fieldLink RX4 15 "Particleway$Samples" "chance" "LParticleway$Chance;", Cond.fieldLink RX4 40 "Particleway$Samples" "doubt" "I", Cond.fieldLink RX4 9 "Particleway$Samples" "field" "LParticleway$Field;", Cond.fieldLink RX4 36 "Particleway$Samples" "many" "I", Cond.methodLink RX4 74 yX1_remainder, Cond.instanceMethod yX1_remainder, Cond.selects RX1 yX1_remainder yX1_remainder, Cond.initialized RX1, Cond.code yX1_remainder cX1_remainder 2 (some .int), Cond.fieldLink RX1 7 "Particleway$Chance" "x" "I", Cond.constant RX1 13 (65537), Cond.methodLink RX4 50 yX3_drawnCell, Cond.instanceMethod yX3_drawnCell, Cond.selects RX3 yX3_drawnCell yX3_drawnCell, Cond.initialized RX3, Cond.code yX3_drawnCell cX3_drawnCell 4 (some .int), Cond.fieldLink RX3 26 "Particleway$Field" "free" "I", Cond.fieldLink RX3 9 "Particleway$Field" "walls" "[Z"]
def wsX4_drawAnew_r2 : List Cond := [Cond.methodLink RX3 30 yX1_remainder, Cond.static yX5_quotient, Cond.initialized RX5, Cond.code yX5_quotient cX5_quotient 4 (some .long), Cond.methodLink RX4 121 yX4_oldCellBeyond, Cond.instanceMethod yX4_oldCellBeyond, Cond.selects RX4 yX4_oldCellBeyond yX4_oldCellBeyond, Cond.initialized RX4, Cond.code yX4_oldCellBeyond cX4_oldCellBeyond 5 (some .int), Cond.fieldLink RX4 26 "Particleway$Samples" "weights" "[I"]
def wsX4_drawAnew : List Cond := .code yX4_drawAnew cX4_drawAnew 6 none :: ((wsX4_drawAnew_r1 ++ wsX4_drawAnew_r2) ++ wsX40 ++ wsX10 ++ wsX30)
def wsX4_weigh_r1 : List Cond := [Cond.fieldLink RX4 36 "Particleway$Samples" "many" "I", Cond.fieldLink RX4 26 "Particleway$Samples" "weights" "[I", Cond.fieldLink RX4 9 "Particleway$Samples" "field" "LParticleway$Field;", Cond.fieldLink RX4 19 "Particleway$Samples" "cells" "[I", Cond.methodLink RX4 80 yX3_weight, Cond.instanceMethod yX3_weight, Cond.selects RX3 yX3_weight yX3_weight, Cond.initialized RX3, Cond.code yX3_weight cX3_weight 4 (some .int), Cond.methodLink RX3 52 Lib.Math.abs.name, Cond.static Lib.Math.abs.name, Cond.initialized "java/lang/Math", Cond.code Lib.Math.abs.name Lib.Math.abs.code 1 (some .int), Cond.methodLink RX3 39 yX3_stepsAhead, Cond.instanceMethod yX3_stepsAhead, Cond.selects RX3 yX3_stepsAhead yX3_stepsAhead, Cond.code yX3_stepsAhead cX3_stepsAhead 3 (some .int), Cond.fieldLink RX3 15 "Particleway$Field" "ahead" "[I", Cond.static yX5_isCell, Cond.initialized RX5, Cond.code yX5_isCell cX5_isCell 1 (some .boolean), Cond.static yX5_isDirection, Cond.code yX5_isDirection cX5_isDirection 1 (some .boolean), Cond.static yX5_quotient]
def wsX4_weigh_r2 : List Cond := [Cond.code yX5_quotient cX5_quotient 4 (some .long), Cond.methodLink RX4 87 yX4_compareFit, Cond.instanceMethod yX4_compareFit, Cond.selects RX4 yX4_compareFit yX4_compareFit, Cond.initialized RX4, Cond.code yX4_compareFit cX4_compareFit 2 none, Cond.fieldLink RX4 56 "Particleway$Samples" "isRead" "Z", Cond.fieldLink RX4 60 "Particleway$Samples" "slow" "I", Cond.fieldLink RX4 63 "Particleway$Samples" "fast" "I", Cond.methodLink RX4 99 Lib.Math.max.name, Cond.static Lib.Math.max.name, Cond.code Lib.Math.max.name Lib.Math.max.code 2 (some .int), Cond.fieldLink RX4 40 "Particleway$Samples" "doubt" "I", Cond.methodLink RX4 91 yX4_manyAnew, Cond.instanceMethod yX4_manyAnew, Cond.selects RX4 yX4_manyAnew yX4_manyAnew, Cond.code yX4_manyAnew cX4_manyAnew 6 (some .int), Cond.methodLink RX4 112 Lib.Math.min.name, Cond.static Lib.Math.min.name, Cond.code Lib.Math.min.name Lib.Math.min.code 2 (some .int), Cond.methodLink RX4 104 yX4_chart, Cond.instanceMethod yX4_chart, Cond.selects RX4 yX4_chart yX4_chart, Cond.code yX4_chart cX4_chart 2 (some (.object "Particleway$Chart"))]
def wsX4_weigh_r3 : List Cond := [Cond.fieldLink RX4 32 "Particleway$Samples" "counts" "LParticleway$Chart;", Cond.methodLink RX4 43 yX2_clear, Cond.instanceMethod yX2_clear, Cond.selects RX2 yX2_clear yX2_clear, Cond.initialized RX2, Cond.code yX2_clear cX2_clear 2 none, Cond.fieldLink RX2 9 "Particleway$Chart" "numbers" "[J", Cond.methodLink RX4 46 yX2_add, Cond.instanceMethod yX2_add, Cond.selects RX2 yX2_add yX2_add, Cond.code yX2_add cX2_add 4 none, Cond.methodLink RX4 108 yX2_at, Cond.instanceMethod yX2_at, Cond.selects RX2 yX2_at yX2_at, Cond.code yX2_at cX2_at 2 (some .long), Cond.methodLink RX4 95 yX4_drawAnew, Cond.instanceMethod yX4_drawAnew, Cond.selects RX4 yX4_drawAnew yX4_drawAnew, Cond.code yX4_drawAnew cX4_drawAnew 6 none, Cond.fieldLink RX4 23 "Particleway$Samples" "oldCells" "[I", Cond.methodLink RX4 115 arraycopyName, Cond.native arraycopyName, Cond.static arraycopyName, Cond.initialized "java/lang/System"]
def wsX4_weigh_r4 : List Cond := [Cond.fieldLink RX4 15 "Particleway$Samples" "chance" "LParticleway$Chance;", Cond.methodLink RX4 74 yX1_remainder, Cond.instanceMethod yX1_remainder, Cond.selects RX1 yX1_remainder yX1_remainder, Cond.initialized RX1, Cond.code yX1_remainder cX1_remainder 2 (some .int), Cond.fieldLink RX1 7 "Particleway$Chance" "x" "I", Cond.constant RX1 13 (65537), Cond.methodLink RX4 50 yX3_drawnCell, Cond.instanceMethod yX3_drawnCell, Cond.selects RX3 yX3_drawnCell yX3_drawnCell, Cond.code yX3_drawnCell cX3_drawnCell 4 (some .int), Cond.fieldLink RX3 26 "Particleway$Field" "free" "I", Cond.fieldLink RX3 9 "Particleway$Field" "walls" "[Z", Cond.methodLink RX3 30 yX1_remainder, Cond.methodLink RX4 121 yX4_oldCellBeyond, Cond.instanceMethod yX4_oldCellBeyond, Cond.selects RX4 yX4_oldCellBeyond yX4_oldCellBeyond, Cond.code yX4_oldCellBeyond cX4_oldCellBeyond 5 (some .int)]
def wsX4_weigh : List Cond := .code yX4_weigh cX4_weigh 5 (some .int) :: ((wsX4_weigh_r1 ++ (wsX4_weigh_r2 ++ (wsX4_weigh_r3 ++ wsX4_weigh_r4))) ++ wsX40 ++ wsX30 ++ wsX20 ++ wsX10)
def wsX5_init_r1 : List Cond := [Cond.methodLink RX5 1 objectInit, Cond.instanceMethod objectInit, Cond.code objectInit ⟨#[0xb1]⟩ 1 none, Cond.classLink RX5 7 RX3, Cond.instantiable RX3 3, Cond.initialized RX3, Cond.fieldLink RX5 10 "Particleway" "field" "LParticleway$Field;", Cond.classLink RX5 16 RX1, Cond.instantiable RX1 1, Cond.initialized RX1, Cond.fieldLink RX5 19 "Particleway" "chance" "LParticleway$Chance;", Cond.classLink RX5 23 RX4, Cond.instantiable RX4 11, Cond.initialized RX4, Cond.fieldLink RX5 28 "Particleway" "samples" "LParticleway$Samples;", Cond.classLink RX5 32 RX0, Cond.instantiable RX0 3, Cond.initialized RX0, Cond.fieldLink RX5 37 "Particleway" "beliefs" "LParticleway$Beliefs;", Cond.fieldLink RX5 41 "Particleway" "beliefsAnew" "LParticleway$Beliefs;", Cond.arrayClass .int, Cond.fieldLink RX5 44 "Particleway" "toldDirections" "[I", Cond.fieldLink RX5 48 "Particleway" "toldReadings" "[I", Cond.fieldLink RX5 51 "Particleway" "told" "I"]
def wsX5_init_r2 : List Cond := [Cond.fieldLink RX5 55 "Particleway" "isSpread" "Z", Cond.methodLink RX5 9 yX3_init, Cond.instanceMethod yX3_init, Cond.code yX3_init cX3_init 1 none, Cond.methodLink RX3 3 objectInit, Cond.arrayClass .boolean, Cond.fieldLink RX3 9 "Particleway$Field" "walls" "[Z", Cond.fieldLink RX3 15 "Particleway$Field" "ahead" "[I", Cond.methodLink RX3 19 yX3_measure, Cond.instanceMethod yX3_measure, Cond.selects RX3 yX3_measure yX3_measure, Cond.code yX3_measure cX3_measure 3 none, Cond.fieldLink RX3 26 "Particleway$Field" "free" "I", Cond.methodLink RX3 68 yX3_countedSteps, Cond.instanceMethod yX3_countedSteps, Cond.selects RX3 yX3_countedSteps yX3_countedSteps, Cond.code yX3_countedSteps cX3_countedSteps 4 (some .int), Cond.methodLink RX3 48 yX3_shifted, Cond.static yX3_shifted, Cond.code yX3_shifted cX3_shifted 5 (some .int), Cond.fieldLink RX3 55 "Particleway$Field" "STEP_X" "[I", Cond.fieldLink RX3 58 "Particleway$Field" "STEP_Y" "[I", Cond.static yX5_isCell, Cond.initialized RX5]
def wsX5_init_r3 : List Cond := [Cond.code yX5_isCell cX5_isCell 1 (some .boolean), Cond.static yX5_isDirection, Cond.code yX5_isDirection cX5_isDirection 1 (some .boolean), Cond.static yX5_isInField, Cond.code yX5_isInField cX5_isInField 2 (some .boolean), Cond.static yX5_numberOf, Cond.code yX5_numberOf cX5_numberOf 2 (some .int), Cond.methodLink RX3 71 yX3_isFree, Cond.instanceMethod yX3_isFree, Cond.selects RX3 yX3_isFree yX3_isFree, Cond.code yX3_isFree cX3_isFree 2 (some .boolean), Cond.methodLink RX5 18 yX1_init, Cond.instanceMethod yX1_init, Cond.code yX1_init cX1_init 1 none, Cond.methodLink RX1 1 objectInit, Cond.fieldLink RX1 7 "Particleway$Chance" "x" "I", Cond.methodLink RX5 25 yX4_init, Cond.instanceMethod yX4_init, Cond.code yX4_init cX4_init 3 none, Cond.methodLink RX4 3 objectInit, Cond.fieldLink RX4 9 "Particleway$Samples" "field" "LParticleway$Field;", Cond.fieldLink RX4 15 "Particleway$Samples" "chance" "LParticleway$Chance;", Cond.fieldLink RX4 19 "Particleway$Samples" "cells" "[I", Cond.fieldLink RX4 23 "Particleway$Samples" "oldCells" "[I"]
def wsX5_init_r4 : List Cond := [Cond.fieldLink RX4 26 "Particleway$Samples" "weights" "[I", Cond.classLink RX4 29 RX2, Cond.instantiable RX2 1, Cond.initialized RX2, Cond.fieldLink RX4 32 "Particleway$Samples" "counts" "LParticleway$Chart;", Cond.fieldLink RX4 36 "Particleway$Samples" "many" "I", Cond.methodLink RX4 31 yX2_init, Cond.instanceMethod yX2_init, Cond.code yX2_init cX2_init 1 none, Cond.methodLink RX2 3 objectInit, Cond.arrayClass .long, Cond.fieldLink RX2 9 "Particleway$Chart" "numbers" "[J", Cond.methodLink RX5 34 yX0_init, Cond.instanceMethod yX0_init, Cond.code yX0_init cX0_init 2 none, Cond.methodLink RX0 3 objectInit, Cond.fieldLink RX0 9 "Particleway$Beliefs" "field" "LParticleway$Field;", Cond.classLink RX0 15 RX2, Cond.fieldLink RX0 18 "Particleway$Beliefs" "now" "LParticleway$Chart;", Cond.fieldLink RX0 22 "Particleway$Beliefs" "before" "LParticleway$Chart;", Cond.methodLink RX0 17 yX2_init]
def wsX5_init : List Cond := .code yX5_init cX5_init 1 none :: ((wsX5_init_r1 ++ (wsX5_init_r2 ++ (wsX5_init_r3 ++ wsX5_init_r4))) ++ wsX30 ++ wsX50 ++ wsX10 ++ wsX40 ++ wsX00 ++ wsX20)
def wsX5_checkCell : List Cond := .code yX5_checkCell cX5_checkCell 2 none :: ([.classLink RX5 125 "java/lang/IndexOutOfBoundsException", .initialized "java/lang/IndexOutOfBoundsException", .methodLink RX5 178 yX5_isInField, .static yX5_isInField, .initialized RX5, .code yX5_isInField cX5_isInField 2 (some .boolean)] ++ (vx_at0 RX5 127 "java/lang/IndexOutOfBoundsException" ["java/lang/RuntimeException", "java/lang/Exception"]).filter goodWord)
def wsX5_wall_r1 : List Cond := [Cond.classLink RX5 75 "java/lang/IllegalStateException", Cond.initialized "java/lang/IllegalStateException", Cond.fieldLink RX5 10 "Particleway" "field" "LParticleway$Field;", Cond.fieldLink RX5 55 "Particleway" "isSpread" "Z", Cond.methodLink RX5 59 yX5_checkCell, Cond.static yX5_checkCell, Cond.initialized RX5, Cond.code yX5_checkCell cX5_checkCell 2 none, Cond.classLink RX5 125 "java/lang/IndexOutOfBoundsException", Cond.initialized "java/lang/IndexOutOfBoundsException", Cond.methodLink RX5 178 yX5_isInField, Cond.static yX5_isInField, Cond.code yX5_isInField cX5_isInField 2 (some .boolean), Cond.methodLink RX5 63 yX5_numberOf, Cond.static yX5_numberOf, Cond.code yX5_numberOf cX5_numberOf 2 (some .int), Cond.methodLink RX5 67 yX3_isFree, Cond.instanceMethod yX3_isFree, Cond.selects RX3 yX3_isFree yX3_isFree, Cond.initialized RX3, Cond.code yX3_isFree cX3_isFree 2 (some .boolean), Cond.fieldLink RX3 9 "Particleway$Field" "walls" "[Z", Cond.static yX5_isCell, Cond.code yX5_isCell cX5_isCell 1 (some .boolean)]
def wsX5_wall_r2 : List Cond := [Cond.methodLink RX5 71 yX3_freeCells, Cond.instanceMethod yX3_freeCells, Cond.selects RX3 yX3_freeCells yX3_freeCells, Cond.code yX3_freeCells cX3_freeCells 1 (some .int), Cond.fieldLink RX3 26 "Particleway$Field" "free" "I", Cond.methodLink RX5 78 yX3_build, Cond.instanceMethod yX3_build, Cond.selects RX3 yX3_build yX3_build, Cond.code yX3_build cX3_build 3 none, Cond.methodLink RX3 19 yX3_measure, Cond.instanceMethod yX3_measure, Cond.selects RX3 yX3_measure yX3_measure, Cond.code yX3_measure cX3_measure 3 none, Cond.fieldLink RX3 15 "Particleway$Field" "ahead" "[I", Cond.methodLink RX3 68 yX3_countedSteps, Cond.instanceMethod yX3_countedSteps, Cond.selects RX3 yX3_countedSteps yX3_countedSteps, Cond.code yX3_countedSteps cX3_countedSteps 4 (some .int), Cond.methodLink RX3 48 yX3_shifted, Cond.static yX3_shifted, Cond.code yX3_shifted cX3_shifted 5 (some .int), Cond.fieldLink RX3 55 "Particleway$Field" "STEP_X" "[I", Cond.fieldLink RX3 58 "Particleway$Field" "STEP_Y" "[I", Cond.static yX5_isDirection]
def wsX5_wall_r3 : List Cond := [Cond.code yX5_isDirection cX5_isDirection 1 (some .boolean), Cond.methodLink RX3 71 yX3_isFree]
def wsX5_wall : List Cond := .code yX5_wall cX5_wall 7 (some .boolean) :: ((wsX5_wall_r1 ++ (wsX5_wall_r2 ++ wsX5_wall_r3)) ++ wsX50 ++ wsX30 ++ (vx_at0 RX5 77 "java/lang/IllegalStateException" ["java/lang/RuntimeException", "java/lang/Exception"]).filter goodWord ++ (vx_at0 RX5 127 "java/lang/IndexOutOfBoundsException" ["java/lang/RuntimeException", "java/lang/Exception"]).filter goodWord)
def wsX5_draw : List Cond := .code yX5_draw cX5_draw 2 (some .int) :: ([.classLink RX5 83 "java/lang/IllegalArgumentException", .initialized "java/lang/IllegalArgumentException", .constant RX5 82 (65536), .fieldLink RX5 19 "Particleway" "chance" "LParticleway$Chance;", .methodLink RX5 86 yX1_change, .instanceMethod yX1_change, .selects RX1 yX1_change yX1_change, .initialized RX1, .code yX1_change cX1_change 3 (some .int), .fieldLink RX1 7 "Particleway$Chance" "x" "I"] ++ wsX50 ++ wsX10 ++ (vx_at0 RX5 85 "java/lang/IllegalArgumentException" ["java/lang/RuntimeException", "java/lang/Exception"]).filter goodWord)
def wsX5_spread_r1 : List Cond := [Cond.classLink RX5 83 "java/lang/IllegalArgumentException", Cond.initialized "java/lang/IllegalArgumentException", Cond.fieldLink RX5 28 "Particleway" "samples" "LParticleway$Samples;", Cond.fieldLink RX5 37 "Particleway" "beliefs" "LParticleway$Beliefs;", Cond.fieldLink RX5 51 "Particleway" "told" "I", Cond.fieldLink RX5 55 "Particleway" "isSpread" "Z", Cond.methodLink RX5 90 yX4_begin, Cond.instanceMethod yX4_begin, Cond.selects RX4 yX4_begin yX4_begin, Cond.initialized RX4, Cond.code yX4_begin cX4_begin 3 none, Cond.fieldLink RX4 36 "Particleway$Samples" "many" "I", Cond.fieldLink RX4 19 "Particleway$Samples" "cells" "[I", Cond.fieldLink RX4 9 "Particleway$Samples" "field" "LParticleway$Field;", Cond.fieldLink RX4 15 "Particleway$Samples" "chance" "LParticleway$Chance;", Cond.fieldLink RX4 56 "Particleway$Samples" "isRead" "Z", Cond.fieldLink RX4 60 "Particleway$Samples" "slow" "I", Cond.fieldLink RX4 63 "Particleway$Samples" "fast" "I", Cond.fieldLink RX4 40 "Particleway$Samples" "doubt" "I", Cond.methodLink RX4 50 yX3_drawnCell, Cond.instanceMethod yX3_drawnCell, Cond.selects RX3 yX3_drawnCell yX3_drawnCell, Cond.initialized RX3, Cond.code yX3_drawnCell cX3_drawnCell 4 (some .int)]
def wsX5_spread_r2 : List Cond := [Cond.fieldLink RX3 26 "Particleway$Field" "free" "I", Cond.fieldLink RX3 9 "Particleway$Field" "walls" "[Z", Cond.methodLink RX3 30 yX1_remainder, Cond.instanceMethod yX1_remainder, Cond.selects RX1 yX1_remainder yX1_remainder, Cond.initialized RX1, Cond.code yX1_remainder cX1_remainder 2 (some .int), Cond.fieldLink RX1 7 "Particleway$Chance" "x" "I", Cond.constant RX1 13 (65537), Cond.methodLink RX5 94 yX0_begin, Cond.instanceMethod yX0_begin, Cond.selects RX0 yX0_begin yX0_begin, Cond.initialized RX0, Cond.code yX0_begin cX0_begin 2 none, Cond.fieldLink RX0 18 "Particleway$Beliefs" "now" "LParticleway$Chart;", Cond.fieldLink RX0 9 "Particleway$Beliefs" "field" "LParticleway$Field;", Cond.methodLink RX0 25 yX3_isFree, Cond.instanceMethod yX3_isFree, Cond.selects RX3 yX3_isFree yX3_isFree, Cond.code yX3_isFree cX3_isFree 2 (some .boolean), Cond.static yX5_isCell, Cond.initialized RX5, Cond.code yX5_isCell cX5_isCell 1 (some .boolean), Cond.methodLink RX0 31 yX2_put]
def wsX5_spread_r3 : List Cond := [Cond.instanceMethod yX2_put, Cond.selects RX2 yX2_put yX2_put, Cond.initialized RX2, Cond.code yX2_put cX2_put 4 none, Cond.fieldLink RX2 9 "Particleway$Chart" "numbers" "[J"]
def wsX5_spread : List Cond := .code yX5_spread cX5_spread 2 none :: ((wsX5_spread_r1 ++ (wsX5_spread_r2 ++ wsX5_spread_r3)) ++ wsX50 ++ wsX40 ++ wsX30 ++ wsX10 ++ wsX00 ++ wsX20 ++ (vx_at0 RX5 85 "java/lang/IllegalArgumentException" ["java/lang/RuntimeException", "java/lang/Exception"]).filter goodWord)
def wsX5_checkDirection : List Cond := .code yX5_checkDirection cX5_checkDirection 1 none :: ([.classLink RX5 125 "java/lang/IndexOutOfBoundsException", .initialized "java/lang/IndexOutOfBoundsException", .methodLink RX5 182 yX5_isDirection, .static yX5_isDirection, .initialized RX5, .code yX5_isDirection cX5_isDirection 1 (some .boolean)] ++ (vx_at0 RX5 127 "java/lang/IndexOutOfBoundsException" ["java/lang/RuntimeException", "java/lang/Exception"]).filter goodWord)
def wsX5_checkMayTell : List Cond := .code yX5_checkMayTell cX5_checkMayTell 1 none :: ([.classLink RX5 75 "java/lang/IllegalStateException", .initialized "java/lang/IllegalStateException", .fieldLink RX5 55 "Particleway" "isSpread" "Z", .fieldLink RX5 51 "Particleway" "told" "I"] ++ wsX50 ++ (vx_at0 RX5 77 "java/lang/IllegalStateException" ["java/lang/RuntimeException", "java/lang/Exception"]).filter goodWord)
def wsX5_keep : List Cond := .code yX5_keep cX5_keep 3 none :: ([.fieldLink RX5 51 "Particleway" "told" "I", .fieldLink RX5 44 "Particleway" "toldDirections" "[I", .fieldLink RX5 48 "Particleway" "toldReadings" "[I"] ++ wsX50)
def wsX5_drive_r1 : List Cond := [Cond.fieldLink RX5 28 "Particleway" "samples" "LParticleway$Samples;", Cond.fieldLink RX5 37 "Particleway" "beliefs" "LParticleway$Beliefs;", Cond.methodLink RX5 96 yX5_checkDirection, Cond.static yX5_checkDirection, Cond.initialized RX5, Cond.code yX5_checkDirection cX5_checkDirection 1 none, Cond.classLink RX5 125 "java/lang/IndexOutOfBoundsException", Cond.initialized "java/lang/IndexOutOfBoundsException", Cond.methodLink RX5 182 yX5_isDirection, Cond.static yX5_isDirection, Cond.code yX5_isDirection cX5_isDirection 1 (some .boolean), Cond.methodLink RX5 99 yX5_checkMayTell, Cond.instanceMethod yX5_checkMayTell, Cond.selects RX5 yX5_checkMayTell yX5_checkMayTell, Cond.code yX5_checkMayTell cX5_checkMayTell 1 none, Cond.classLink RX5 75 "java/lang/IllegalStateException", Cond.initialized "java/lang/IllegalStateException", Cond.fieldLink RX5 55 "Particleway" "isSpread" "Z", Cond.fieldLink RX5 51 "Particleway" "told" "I", Cond.methodLink RX5 102 yX4_move, Cond.instanceMethod yX4_move, Cond.selects RX4 yX4_move yX4_move, Cond.initialized RX4, Cond.code yX4_move cX4_move 3 none]
def wsX5_drive_r2 : List Cond := [Cond.fieldLink RX4 36 "Particleway$Samples" "many" "I", Cond.fieldLink RX4 19 "Particleway$Samples" "cells" "[I", Cond.fieldLink RX4 9 "Particleway$Samples" "field" "LParticleway$Field;", Cond.methodLink RX4 66 yX4_drawnSteps, Cond.instanceMethod yX4_drawnSteps, Cond.selects RX4 yX4_drawnSteps yX4_drawnSteps, Cond.code yX4_drawnSteps cX4_drawnSteps 2 (some .int), Cond.fieldLink RX4 15 "Particleway$Samples" "chance" "LParticleway$Chance;", Cond.methodLink RX4 74 yX1_remainder, Cond.instanceMethod yX1_remainder, Cond.selects RX1 yX1_remainder yX1_remainder, Cond.initialized RX1, Cond.code yX1_remainder cX1_remainder 2 (some .int), Cond.fieldLink RX1 7 "Particleway$Chance" "x" "I", Cond.constant RX1 13 (65537), Cond.methodLink RX4 70 yX3_led, Cond.instanceMethod yX3_led, Cond.selects RX3 yX3_led yX3_led, Cond.initialized RX3, Cond.code yX3_led cX3_led 4 (some .int), Cond.methodLink RX3 43 Lib.Math.min.name, Cond.static Lib.Math.min.name, Cond.initialized "java/lang/Math", Cond.code Lib.Math.min.name Lib.Math.min.code 2 (some .int)]
def wsX5_drive_r3 : List Cond := [Cond.methodLink RX3 39 yX3_stepsAhead, Cond.instanceMethod yX3_stepsAhead, Cond.selects RX3 yX3_stepsAhead yX3_stepsAhead, Cond.code yX3_stepsAhead cX3_stepsAhead 3 (some .int), Cond.fieldLink RX3 15 "Particleway$Field" "ahead" "[I", Cond.static yX5_isCell, Cond.code yX5_isCell cX5_isCell 1 (some .boolean), Cond.methodLink RX3 48 yX3_shifted, Cond.static yX3_shifted, Cond.code yX3_shifted cX3_shifted 5 (some .int), Cond.fieldLink RX3 55 "Particleway$Field" "STEP_X" "[I", Cond.fieldLink RX3 58 "Particleway$Field" "STEP_Y" "[I", Cond.static yX5_isInField, Cond.code yX5_isInField cX5_isInField 2 (some .boolean), Cond.static yX5_numberOf, Cond.code yX5_numberOf cX5_numberOf 2 (some .int), Cond.methodLink RX5 105 yX0_push, Cond.instanceMethod yX0_push, Cond.selects RX0 yX0_push yX0_push, Cond.initialized RX0, Cond.code yX0_push cX0_push 3 none, Cond.fieldLink RX0 22 "Particleway$Beliefs" "before" "LParticleway$Chart;", Cond.fieldLink RX0 18 "Particleway$Beliefs" "now" "LParticleway$Chart;", Cond.fieldLink RX0 9 "Particleway$Beliefs" "field" "LParticleway$Field;"]
def wsX5_drive_r4 : List Cond := [Cond.constantLong RX0 42 (3), Cond.constantLong RX0 55 (12), Cond.methodLink RX0 35 yX2_copy, Cond.instanceMethod yX2_copy, Cond.selects RX2 yX2_copy yX2_copy, Cond.initialized RX2, Cond.code yX2_copy cX2_copy 2 none, Cond.fieldLink RX2 9 "Particleway$Chart" "numbers" "[J", Cond.methodLink RX2 21 arraycopyName, Cond.native arraycopyName, Cond.static arraycopyName, Cond.initialized "java/lang/System", Cond.methodLink RX0 39 yX2_clear, Cond.instanceMethod yX2_clear, Cond.selects RX2 yX2_clear yX2_clear, Cond.code yX2_clear cX2_clear 2 none, Cond.methodLink RX0 25 yX3_isFree, Cond.instanceMethod yX3_isFree, Cond.selects RX3 yX3_isFree yX3_isFree, Cond.code yX3_isFree cX3_isFree 2 (some .boolean), Cond.fieldLink RX3 9 "Particleway$Field" "walls" "[Z", Cond.methodLink RX0 44 yX2_at, Cond.instanceMethod yX2_at, Cond.selects RX2 yX2_at yX2_at]
def wsX5_drive_r5 : List Cond := [Cond.code yX2_at cX2_at 2 (some .long), Cond.methodLink RX0 48 yX2_add, Cond.instanceMethod yX2_add, Cond.selects RX2 yX2_add yX2_add, Cond.code yX2_add cX2_add 4 none, Cond.methodLink RX0 51 yX3_led, Cond.methodLink RX0 57 yX0_halveGreat, Cond.instanceMethod yX0_halveGreat, Cond.selects RX0 yX0_halveGreat yX0_halveGreat, Cond.code yX0_halveGreat cX0_halveGreat 2 none, Cond.constantLong RX0 77 (1099511627776), Cond.methodLink RX0 70 yX2_greatest, Cond.instanceMethod yX2_greatest, Cond.selects RX2 yX2_greatest yX2_greatest, Cond.code yX2_greatest cX2_greatest 4 (some .long), Cond.methodLink RX2 27 Lib.MathLoose.max_long.x, Cond.static Lib.MathLoose.max_long.x, Cond.code Lib.MathLoose.max_long.x Lib.MathLoose.max_long.code 4 (some .long), Cond.methodLink RX0 79 yX2_halve, Cond.instanceMethod yX2_halve, Cond.selects RX2 yX2_halve yX2_halve, Cond.code yX2_halve cX2_halve 2 none, Cond.constantLong RX2 19 (2), Cond.methodLink RX5 108 yX5_keep]
def wsX5_drive_r6 : List Cond := [Cond.instanceMethod yX5_keep, Cond.selects RX5 yX5_keep yX5_keep, Cond.code yX5_keep cX5_keep 3 none, Cond.fieldLink RX5 44 "Particleway" "toldDirections" "[I", Cond.fieldLink RX5 48 "Particleway" "toldReadings" "[I"]
def wsX5_drive : List Cond := .code yX5_drive cX5_drive 2 none :: ((wsX5_drive_r1 ++ (wsX5_drive_r2 ++ (wsX5_drive_r3 ++ (wsX5_drive_r4 ++ (wsX5_drive_r5 ++ wsX5_drive_r6))))) ++ wsX50 ++ wsX40 ++ wsX10 ++ wsX30 ++ wsX00 ++ wsX20 ++ (vx_at0 RX5 127 "java/lang/IndexOutOfBoundsException" ["java/lang/RuntimeException", "java/lang/Exception"]).filter goodWord ++ (vx_at0 RX5 77 "java/lang/IllegalStateException" ["java/lang/RuntimeException", "java/lang/Exception"]).filter goodWord)
def wsX5_read_r1 : List Cond := [Cond.classLink RX5 83 "java/lang/IllegalArgumentException", Cond.initialized "java/lang/IllegalArgumentException", Cond.fieldLink RX5 28 "Particleway" "samples" "LParticleway$Samples;", Cond.fieldLink RX5 37 "Particleway" "beliefs" "LParticleway$Beliefs;", Cond.methodLink RX5 96 yX5_checkDirection, Cond.static yX5_checkDirection, Cond.initialized RX5, Cond.code yX5_checkDirection cX5_checkDirection 1 none, Cond.classLink RX5 125 "java/lang/IndexOutOfBoundsException", Cond.initialized "java/lang/IndexOutOfBoundsException", Cond.methodLink RX5 182 yX5_isDirection, Cond.static yX5_isDirection, Cond.code yX5_isDirection cX5_isDirection 1 (some .boolean), Cond.methodLink RX5 99 yX5_checkMayTell, Cond.instanceMethod yX5_checkMayTell, Cond.selects RX5 yX5_checkMayTell yX5_checkMayTell, Cond.code yX5_checkMayTell cX5_checkMayTell 1 none, Cond.classLink RX5 75 "java/lang/IllegalStateException", Cond.initialized "java/lang/IllegalStateException", Cond.fieldLink RX5 55 "Particleway" "isSpread" "Z", Cond.fieldLink RX5 51 "Particleway" "told" "I", Cond.methodLink RX5 111 yX4_weigh, Cond.instanceMethod yX4_weigh, Cond.selects RX4 yX4_weigh yX4_weigh]
def wsX5_read_r2 : List Cond := [Cond.initialized RX4, Cond.code yX4_weigh cX4_weigh 5 (some .int), Cond.fieldLink RX4 36 "Particleway$Samples" "many" "I", Cond.fieldLink RX4 26 "Particleway$Samples" "weights" "[I", Cond.fieldLink RX4 9 "Particleway$Samples" "field" "LParticleway$Field;", Cond.fieldLink RX4 19 "Particleway$Samples" "cells" "[I", Cond.methodLink RX4 80 yX3_weight, Cond.instanceMethod yX3_weight, Cond.selects RX3 yX3_weight yX3_weight, Cond.initialized RX3, Cond.code yX3_weight cX3_weight 4 (some .int), Cond.methodLink RX3 52 Lib.Math.abs.name, Cond.static Lib.Math.abs.name, Cond.initialized "java/lang/Math", Cond.code Lib.Math.abs.name Lib.Math.abs.code 1 (some .int), Cond.methodLink RX3 39 yX3_stepsAhead, Cond.instanceMethod yX3_stepsAhead, Cond.selects RX3 yX3_stepsAhead yX3_stepsAhead, Cond.code yX3_stepsAhead cX3_stepsAhead 3 (some .int), Cond.fieldLink RX3 15 "Particleway$Field" "ahead" "[I", Cond.static yX5_isCell, Cond.code yX5_isCell cX5_isCell 1 (some .boolean), Cond.static yX5_quotient, Cond.code yX5_quotient cX5_quotient 4 (some .long)]
def wsX5_read_r3 : List Cond := [Cond.methodLink RX4 87 yX4_compareFit, Cond.instanceMethod yX4_compareFit, Cond.selects RX4 yX4_compareFit yX4_compareFit, Cond.code yX4_compareFit cX4_compareFit 2 none, Cond.fieldLink RX4 56 "Particleway$Samples" "isRead" "Z", Cond.fieldLink RX4 60 "Particleway$Samples" "slow" "I", Cond.fieldLink RX4 63 "Particleway$Samples" "fast" "I", Cond.methodLink RX4 99 Lib.Math.max.name, Cond.static Lib.Math.max.name, Cond.code Lib.Math.max.name Lib.Math.max.code 2 (some .int), Cond.fieldLink RX4 40 "Particleway$Samples" "doubt" "I", Cond.methodLink RX4 91 yX4_manyAnew, Cond.instanceMethod yX4_manyAnew, Cond.selects RX4 yX4_manyAnew yX4_manyAnew, Cond.code yX4_manyAnew cX4_manyAnew 6 (some .int), Cond.methodLink RX4 112 Lib.Math.min.name, Cond.static Lib.Math.min.name, Cond.code Lib.Math.min.name Lib.Math.min.code 2 (some .int), Cond.methodLink RX4 104 yX4_chart, Cond.instanceMethod yX4_chart, Cond.selects RX4 yX4_chart yX4_chart, Cond.code yX4_chart cX4_chart 2 (some (.object "Particleway$Chart")), Cond.fieldLink RX4 32 "Particleway$Samples" "counts" "LParticleway$Chart;", Cond.methodLink RX4 43 yX2_clear]
def wsX5_read_r4 : List Cond := [Cond.instanceMethod yX2_clear, Cond.selects RX2 yX2_clear yX2_clear, Cond.initialized RX2, Cond.code yX2_clear cX2_clear 2 none, Cond.fieldLink RX2 9 "Particleway$Chart" "numbers" "[J", Cond.methodLink RX4 46 yX2_add, Cond.instanceMethod yX2_add, Cond.selects RX2 yX2_add yX2_add, Cond.code yX2_add cX2_add 4 none, Cond.methodLink RX4 108 yX2_at, Cond.instanceMethod yX2_at, Cond.selects RX2 yX2_at yX2_at, Cond.code yX2_at cX2_at 2 (some .long), Cond.methodLink RX4 95 yX4_drawAnew, Cond.instanceMethod yX4_drawAnew, Cond.selects RX4 yX4_drawAnew yX4_drawAnew, Cond.code yX4_drawAnew cX4_drawAnew 6 none, Cond.fieldLink RX4 23 "Particleway$Samples" "oldCells" "[I", Cond.methodLink RX4 115 arraycopyName, Cond.native arraycopyName, Cond.static arraycopyName, Cond.initialized "java/lang/System", Cond.fieldLink RX4 15 "Particleway$Samples" "chance" "LParticleway$Chance;", Cond.methodLink RX4 74 yX1_remainder]
def wsX5_read_r5 : List Cond := [Cond.instanceMethod yX1_remainder, Cond.selects RX1 yX1_remainder yX1_remainder, Cond.initialized RX1, Cond.code yX1_remainder cX1_remainder 2 (some .int), Cond.fieldLink RX1 7 "Particleway$Chance" "x" "I", Cond.constant RX1 13 (65537), Cond.methodLink RX4 50 yX3_drawnCell, Cond.instanceMethod yX3_drawnCell, Cond.selects RX3 yX3_drawnCell yX3_drawnCell, Cond.code yX3_drawnCell cX3_drawnCell 4 (some .int), Cond.fieldLink RX3 26 "Particleway$Field" "free" "I", Cond.fieldLink RX3 9 "Particleway$Field" "walls" "[Z", Cond.methodLink RX3 30 yX1_remainder, Cond.methodLink RX4 121 yX4_oldCellBeyond, Cond.instanceMethod yX4_oldCellBeyond, Cond.selects RX4 yX4_oldCellBeyond yX4_oldCellBeyond, Cond.code yX4_oldCellBeyond cX4_oldCellBeyond 5 (some .int), Cond.methodLink RX5 114 yX0_weigh, Cond.instanceMethod yX0_weigh, Cond.selects RX0 yX0_weigh yX0_weigh, Cond.initialized RX0, Cond.code yX0_weigh cX0_weigh 4 none, Cond.fieldLink RX0 18 "Particleway$Beliefs" "now" "LParticleway$Chart;", Cond.fieldLink RX0 9 "Particleway$Beliefs" "field" "LParticleway$Field;"]
def wsX5_read_r6 : List Cond := [Cond.methodLink RX0 44 yX2_at, Cond.methodLink RX0 67 yX3_weight, Cond.methodLink RX0 31 yX2_put, Cond.instanceMethod yX2_put, Cond.selects RX2 yX2_put yX2_put, Cond.code yX2_put cX2_put 4 none, Cond.methodLink RX0 70 yX2_greatest, Cond.instanceMethod yX2_greatest, Cond.selects RX2 yX2_greatest yX2_greatest, Cond.code yX2_greatest cX2_greatest 4 (some .long), Cond.methodLink RX2 27 Lib.MathLoose.max_long.x, Cond.static Lib.MathLoose.max_long.x, Cond.code Lib.MathLoose.max_long.x Lib.MathLoose.max_long.code 4 (some .long), Cond.methodLink RX0 74 yX0_begin, Cond.instanceMethod yX0_begin, Cond.selects RX0 yX0_begin yX0_begin, Cond.code yX0_begin cX0_begin 2 none, Cond.methodLink RX0 25 yX3_isFree, Cond.instanceMethod yX3_isFree, Cond.selects RX3 yX3_isFree yX3_isFree, Cond.code yX3_isFree cX3_isFree 2 (some .boolean), Cond.methodLink RX0 57 yX0_halveGreat, Cond.instanceMethod yX0_halveGreat, Cond.selects RX0 yX0_halveGreat yX0_halveGreat]
def wsX5_read_r7 : List Cond := [Cond.code yX0_halveGreat cX0_halveGreat 2 none, Cond.constantLong RX0 77 (1099511627776), Cond.methodLink RX0 79 yX2_halve, Cond.instanceMethod yX2_halve, Cond.selects RX2 yX2_halve yX2_halve, Cond.code yX2_halve cX2_halve 2 none, Cond.constantLong RX2 19 (2), Cond.methodLink RX5 108 yX5_keep, Cond.instanceMethod yX5_keep, Cond.selects RX5 yX5_keep yX5_keep, Cond.code yX5_keep cX5_keep 3 none, Cond.fieldLink RX5 44 "Particleway" "toldDirections" "[I", Cond.fieldLink RX5 48 "Particleway" "toldReadings" "[I"]
def wsX5_read : List Cond := .code yX5_read cX5_read 4 (some .int) :: ((wsX5_read_r1 ++ (wsX5_read_r2 ++ (wsX5_read_r3 ++ (wsX5_read_r4 ++ (wsX5_read_r5 ++ (wsX5_read_r6 ++ wsX5_read_r7)))))) ++ wsX50 ++ wsX40 ++ wsX30 ++ wsX20 ++ wsX10 ++ wsX00 ++ (vx_at0 RX5 85 "java/lang/IllegalArgumentException" ["java/lang/RuntimeException", "java/lang/Exception"]).filter goodWord ++ (vx_at0 RX5 127 "java/lang/IndexOutOfBoundsException" ["java/lang/RuntimeException", "java/lang/Exception"]).filter goodWord ++ (vx_at0 RX5 77 "java/lang/IllegalStateException" ["java/lang/RuntimeException", "java/lang/Exception"]).filter goodWord)
def wsX5_toRead_r1 : List Cond := [Cond.fieldLink RX5 10 "Particleway" "field" "LParticleway$Field;", Cond.methodLink RX5 59 yX5_checkCell, Cond.static yX5_checkCell, Cond.initialized RX5, Cond.code yX5_checkCell cX5_checkCell 2 none, Cond.classLink RX5 125 "java/lang/IndexOutOfBoundsException", Cond.initialized "java/lang/IndexOutOfBoundsException", Cond.methodLink RX5 178 yX5_isInField, Cond.static yX5_isInField, Cond.code yX5_isInField cX5_isInField 2 (some .boolean), Cond.methodLink RX5 96 yX5_checkDirection, Cond.static yX5_checkDirection, Cond.code yX5_checkDirection cX5_checkDirection 1 none, Cond.methodLink RX5 182 yX5_isDirection, Cond.static yX5_isDirection, Cond.code yX5_isDirection cX5_isDirection 1 (some .boolean), Cond.methodLink RX5 63 yX5_numberOf, Cond.static yX5_numberOf, Cond.code yX5_numberOf cX5_numberOf 2 (some .int), Cond.methodLink RX5 116 yX3_stepsAhead, Cond.instanceMethod yX3_stepsAhead, Cond.selects RX3 yX3_stepsAhead yX3_stepsAhead, Cond.initialized RX3, Cond.code yX3_stepsAhead cX3_stepsAhead 3 (some .int)]
def wsX5_toRead_r2 : List Cond := [Cond.fieldLink RX3 15 "Particleway$Field" "ahead" "[I", Cond.static yX5_isCell, Cond.code yX5_isCell cX5_isCell 1 (some .boolean)]
def wsX5_toRead : List Cond := .code yX5_toRead cX5_toRead 4 (some .int) :: ((wsX5_toRead_r1 ++ wsX5_toRead_r2) ++ wsX50 ++ wsX30 ++ (vx_at0 RX5 127 "java/lang/IndexOutOfBoundsException" ["java/lang/RuntimeException", "java/lang/Exception"]).filter goodWord)
def wsX5_checkSpread : List Cond := .code yX5_checkSpread cX5_checkSpread 1 none :: ([.classLink RX5 75 "java/lang/IllegalStateException", .initialized "java/lang/IllegalStateException", .fieldLink RX5 55 "Particleway" "isSpread" "Z"] ++ wsX50 ++ (vx_at0 RX5 77 "java/lang/IllegalStateException" ["java/lang/RuntimeException", "java/lang/Exception"]).filter goodWord)
def wsX5_samples : List Cond := .code yX5_samples cX5_samples 1 (some .int) :: ([.fieldLink RX5 28 "Particleway" "samples" "LParticleway$Samples;", .methodLink RX5 119 yX5_checkSpread, .instanceMethod yX5_checkSpread, .selects RX5 yX5_checkSpread yX5_checkSpread, .initialized RX5, .code yX5_checkSpread cX5_checkSpread 1 none, .classLink RX5 75 "java/lang/IllegalStateException", .initialized "java/lang/IllegalStateException", .fieldLink RX5 55 "Particleway" "isSpread" "Z", .methodLink RX5 122 yX4_size, .instanceMethod yX4_size, .selects RX4 yX4_size yX4_size, .initialized RX4, .code yX4_size cX4_size 1 (some .int), .fieldLink RX4 36 "Particleway$Samples" "many" "I"] ++ wsX50 ++ wsX40 ++ (vx_at0 RX5 77 "java/lang/IllegalStateException" ["java/lang/RuntimeException", "java/lang/Exception"]).filter goodWord)
def wsX5_sample : List Cond := .code yX5_sample cX5_sample 2 (some .int) :: ([.classLink RX5 125 "java/lang/IndexOutOfBoundsException", .initialized "java/lang/IndexOutOfBoundsException", .fieldLink RX5 28 "Particleway" "samples" "LParticleway$Samples;", .methodLink RX5 122 yX4_size, .instanceMethod yX4_size, .selects RX4 yX4_size yX4_size, .initialized RX4, .code yX4_size cX4_size 1 (some .int), .fieldLink RX4 36 "Particleway$Samples" "many" "I", .methodLink RX5 128 yX4_cellOf, .instanceMethod yX4_cellOf, .selects RX4 yX4_cellOf yX4_cellOf, .code yX4_cellOf cX4_cellOf 2 (some .int), .fieldLink RX4 19 "Particleway$Samples" "cells" "[I"] ++ wsX50 ++ wsX40 ++ (vx_at0 RX5 127 "java/lang/IndexOutOfBoundsException" ["java/lang/RuntimeException", "java/lang/Exception"]).filter goodWord)
def wsX5_count_r1 : List Cond := [Cond.fieldLink RX5 28 "Particleway" "samples" "LParticleway$Samples;", Cond.methodLink RX5 59 yX5_checkCell, Cond.static yX5_checkCell, Cond.initialized RX5, Cond.code yX5_checkCell cX5_checkCell 2 none, Cond.classLink RX5 125 "java/lang/IndexOutOfBoundsException", Cond.initialized "java/lang/IndexOutOfBoundsException", Cond.methodLink RX5 178 yX5_isInField, Cond.static yX5_isInField, Cond.code yX5_isInField cX5_isInField 2 (some .boolean), Cond.methodLink RX5 119 yX5_checkSpread, Cond.instanceMethod yX5_checkSpread, Cond.selects RX5 yX5_checkSpread yX5_checkSpread, Cond.code yX5_checkSpread cX5_checkSpread 1 none, Cond.classLink RX5 75 "java/lang/IllegalStateException", Cond.initialized "java/lang/IllegalStateException", Cond.fieldLink RX5 55 "Particleway" "isSpread" "Z", Cond.methodLink RX5 131 yX4_chart, Cond.instanceMethod yX4_chart, Cond.selects RX4 yX4_chart yX4_chart, Cond.initialized RX4, Cond.code yX4_chart cX4_chart 2 (some (.object "Particleway$Chart")), Cond.fieldLink RX4 32 "Particleway$Samples" "counts" "LParticleway$Chart;", Cond.fieldLink RX4 36 "Particleway$Samples" "many" "I"]
def wsX5_count_r2 : List Cond := [Cond.fieldLink RX4 19 "Particleway$Samples" "cells" "[I", Cond.methodLink RX4 43 yX2_clear, Cond.instanceMethod yX2_clear, Cond.selects RX2 yX2_clear yX2_clear, Cond.initialized RX2, Cond.code yX2_clear cX2_clear 2 none, Cond.fieldLink RX2 9 "Particleway$Chart" "numbers" "[J", Cond.methodLink RX4 46 yX2_add, Cond.instanceMethod yX2_add, Cond.selects RX2 yX2_add yX2_add, Cond.code yX2_add cX2_add 4 none, Cond.static yX5_isCell, Cond.code yX5_isCell cX5_isCell 1 (some .boolean), Cond.methodLink RX5 63 yX5_numberOf, Cond.static yX5_numberOf, Cond.code yX5_numberOf cX5_numberOf 2 (some .int), Cond.methodLink RX5 135 yX2_at, Cond.instanceMethod yX2_at, Cond.selects RX2 yX2_at yX2_at, Cond.code yX2_at cX2_at 2 (some .long)]
def wsX5_count : List Cond := .code yX5_count cX5_count 3 (some .int) :: ((wsX5_count_r1 ++ wsX5_count_r2) ++ wsX50 ++ wsX40 ++ wsX20 ++ (vx_at0 RX5 127 "java/lang/IndexOutOfBoundsException" ["java/lang/RuntimeException", "java/lang/Exception"]).filter goodWord ++ (vx_at0 RX5 77 "java/lang/IllegalStateException" ["java/lang/RuntimeException", "java/lang/Exception"]).filter goodWord)
def wsX5_belief_r1 : List Cond := [Cond.fieldLink RX5 37 "Particleway" "beliefs" "LParticleway$Beliefs;", Cond.methodLink RX5 59 yX5_checkCell, Cond.static yX5_checkCell, Cond.initialized RX5, Cond.code yX5_checkCell cX5_checkCell 2 none, Cond.classLink RX5 125 "java/lang/IndexOutOfBoundsException", Cond.initialized "java/lang/IndexOutOfBoundsException", Cond.methodLink RX5 178 yX5_isInField, Cond.static yX5_isInField, Cond.code yX5_isInField cX5_isInField 2 (some .boolean), Cond.methodLink RX5 119 yX5_checkSpread, Cond.instanceMethod yX5_checkSpread, Cond.selects RX5 yX5_checkSpread yX5_checkSpread, Cond.code yX5_checkSpread cX5_checkSpread 1 none, Cond.classLink RX5 75 "java/lang/IllegalStateException", Cond.initialized "java/lang/IllegalStateException", Cond.fieldLink RX5 55 "Particleway" "isSpread" "Z", Cond.methodLink RX5 141 yX0_chart, Cond.instanceMethod yX0_chart, Cond.selects RX0 yX0_chart yX0_chart, Cond.initialized RX0, Cond.code yX0_chart cX0_chart 1 (some (.object "Particleway$Chart")), Cond.fieldLink RX0 18 "Particleway$Beliefs" "now" "LParticleway$Chart;", Cond.methodLink RX5 63 yX5_numberOf]
def wsX5_belief_r2 : List Cond := [Cond.static yX5_numberOf, Cond.code yX5_numberOf cX5_numberOf 2 (some .int), Cond.methodLink RX5 135 yX2_at, Cond.instanceMethod yX2_at, Cond.selects RX2 yX2_at yX2_at, Cond.initialized RX2, Cond.code yX2_at cX2_at 2 (some .long), Cond.fieldLink RX2 9 "Particleway$Chart" "numbers" "[J", Cond.static yX5_isCell, Cond.code yX5_isCell cX5_isCell 1 (some .boolean)]
def wsX5_belief : List Cond := .code yX5_belief cX5_belief 3 (some .long) :: ((wsX5_belief_r1 ++ wsX5_belief_r2) ++ wsX50 ++ wsX00 ++ wsX20 ++ (vx_at0 RX5 127 "java/lang/IndexOutOfBoundsException" ["java/lang/RuntimeException", "java/lang/Exception"]).filter goodWord ++ (vx_at0 RX5 77 "java/lang/IllegalStateException" ["java/lang/RuntimeException", "java/lang/Exception"]).filter goodWord)
def wsX5_repeatAllTold_r1 : List Cond := [Cond.fieldLink RX5 41 "Particleway" "beliefsAnew" "LParticleway$Beliefs;", Cond.fieldLink RX5 51 "Particleway" "told" "I", Cond.fieldLink RX5 48 "Particleway" "toldReadings" "[I", Cond.fieldLink RX5 44 "Particleway" "toldDirections" "[I", Cond.methodLink RX5 94 yX0_begin, Cond.instanceMethod yX0_begin, Cond.selects RX0 yX0_begin yX0_begin, Cond.initialized RX0, Cond.code yX0_begin cX0_begin 2 none, Cond.fieldLink RX0 18 "Particleway$Beliefs" "now" "LParticleway$Chart;", Cond.fieldLink RX0 9 "Particleway$Beliefs" "field" "LParticleway$Field;", Cond.methodLink RX0 25 yX3_isFree, Cond.instanceMethod yX3_isFree, Cond.selects RX3 yX3_isFree yX3_isFree, Cond.initialized RX3, Cond.code yX3_isFree cX3_isFree 2 (some .boolean), Cond.fieldLink RX3 9 "Particleway$Field" "walls" "[Z", Cond.static yX5_isCell, Cond.initialized RX5, Cond.code yX5_isCell cX5_isCell 1 (some .boolean), Cond.methodLink RX0 31 yX2_put, Cond.instanceMethod yX2_put, Cond.selects RX2 yX2_put yX2_put, Cond.initialized RX2]
def wsX5_repeatAllTold_r2 : List Cond := [Cond.code yX2_put cX2_put 4 none, Cond.fieldLink RX2 9 "Particleway$Chart" "numbers" "[J", Cond.methodLink RX5 185 yX0_fetch, Cond.instanceMethod yX0_fetch, Cond.selects RX0 yX0_fetch yX0_fetch, Cond.code yX0_fetch cX0_fetch 3 none, Cond.fieldLink RX0 22 "Particleway$Beliefs" "before" "LParticleway$Chart;", Cond.methodLink RX0 35 yX2_copy, Cond.instanceMethod yX2_copy, Cond.selects RX2 yX2_copy yX2_copy, Cond.code yX2_copy cX2_copy 2 none, Cond.methodLink RX2 21 arraycopyName, Cond.native arraycopyName, Cond.static arraycopyName, Cond.initialized "java/lang/System", Cond.methodLink RX0 60 yX0_fetched, Cond.instanceMethod yX0_fetched, Cond.selects RX0 yX0_fetched yX0_fetched, Cond.code yX0_fetched cX0_fetched 7 (some .long), Cond.constantLong RX0 42 (3), Cond.constantLong RX0 55 (12), Cond.methodLink RX0 44 yX2_at, Cond.instanceMethod yX2_at, Cond.selects RX2 yX2_at yX2_at]
def wsX5_repeatAllTold_r3 : List Cond := [Cond.code yX2_at cX2_at 2 (some .long), Cond.methodLink RX0 64 yX3_shifted, Cond.static yX3_shifted, Cond.code yX3_shifted cX3_shifted 5 (some .int), Cond.fieldLink RX3 55 "Particleway$Field" "STEP_X" "[I", Cond.fieldLink RX3 58 "Particleway$Field" "STEP_Y" "[I", Cond.static yX5_isDirection, Cond.code yX5_isDirection cX5_isDirection 1 (some .boolean), Cond.static yX5_isInField, Cond.code yX5_isInField cX5_isInField 2 (some .boolean), Cond.static yX5_numberOf, Cond.code yX5_numberOf cX5_numberOf 2 (some .int), Cond.methodLink RX0 51 yX3_led, Cond.instanceMethod yX3_led, Cond.selects RX3 yX3_led yX3_led, Cond.code yX3_led cX3_led 4 (some .int), Cond.methodLink RX3 43 Lib.Math.min.name, Cond.static Lib.Math.min.name, Cond.initialized "java/lang/Math", Cond.code Lib.Math.min.name Lib.Math.min.code 2 (some .int), Cond.methodLink RX3 39 yX3_stepsAhead, Cond.instanceMethod yX3_stepsAhead, Cond.selects RX3 yX3_stepsAhead yX3_stepsAhead, Cond.code yX3_stepsAhead cX3_stepsAhead 3 (some .int)]
def wsX5_repeatAllTold_r4 : List Cond := [Cond.fieldLink RX3 15 "Particleway$Field" "ahead" "[I", Cond.methodLink RX3 48 yX3_shifted, Cond.methodLink RX0 57 yX0_halveGreat, Cond.instanceMethod yX0_halveGreat, Cond.selects RX0 yX0_halveGreat yX0_halveGreat, Cond.code yX0_halveGreat cX0_halveGreat 2 none, Cond.constantLong RX0 77 (1099511627776), Cond.methodLink RX0 70 yX2_greatest, Cond.instanceMethod yX2_greatest, Cond.selects RX2 yX2_greatest yX2_greatest, Cond.code yX2_greatest cX2_greatest 4 (some .long), Cond.methodLink RX2 27 Lib.MathLoose.max_long.x, Cond.static Lib.MathLoose.max_long.x, Cond.code Lib.MathLoose.max_long.x Lib.MathLoose.max_long.code 4 (some .long), Cond.methodLink RX0 79 yX2_halve, Cond.instanceMethod yX2_halve, Cond.selects RX2 yX2_halve yX2_halve, Cond.code yX2_halve cX2_halve 2 none, Cond.constantLong RX2 19 (2), Cond.methodLink RX5 114 yX0_weigh, Cond.instanceMethod yX0_weigh, Cond.selects RX0 yX0_weigh yX0_weigh, Cond.code yX0_weigh cX0_weigh 4 none, Cond.methodLink RX0 67 yX3_weight]
def wsX5_repeatAllTold_r5 : List Cond := [Cond.instanceMethod yX3_weight, Cond.selects RX3 yX3_weight yX3_weight, Cond.code yX3_weight cX3_weight 4 (some .int), Cond.methodLink RX3 52 Lib.Math.abs.name, Cond.static Lib.Math.abs.name, Cond.code Lib.Math.abs.name Lib.Math.abs.code 1 (some .int), Cond.methodLink RX0 74 yX0_begin]
def wsX5_repeatAllTold : List Cond := .code yX5_repeatAllTold cX5_repeatAllTold 2 none :: ((wsX5_repeatAllTold_r1 ++ (wsX5_repeatAllTold_r2 ++ (wsX5_repeatAllTold_r3 ++ (wsX5_repeatAllTold_r4 ++ wsX5_repeatAllTold_r5)))) ++ wsX50 ++ wsX00 ++ wsX30 ++ wsX20)
def wsX5_beliefAnew_r1 : List Cond := [Cond.fieldLink RX5 41 "Particleway" "beliefsAnew" "LParticleway$Beliefs;", Cond.methodLink RX5 59 yX5_checkCell, Cond.static yX5_checkCell, Cond.initialized RX5, Cond.code yX5_checkCell cX5_checkCell 2 none, Cond.classLink RX5 125 "java/lang/IndexOutOfBoundsException", Cond.initialized "java/lang/IndexOutOfBoundsException", Cond.methodLink RX5 178 yX5_isInField, Cond.static yX5_isInField, Cond.code yX5_isInField cX5_isInField 2 (some .boolean), Cond.methodLink RX5 119 yX5_checkSpread, Cond.instanceMethod yX5_checkSpread, Cond.selects RX5 yX5_checkSpread yX5_checkSpread, Cond.code yX5_checkSpread cX5_checkSpread 1 none, Cond.classLink RX5 75 "java/lang/IllegalStateException", Cond.initialized "java/lang/IllegalStateException", Cond.fieldLink RX5 55 "Particleway" "isSpread" "Z", Cond.methodLink RX5 142 yX5_repeatAllTold, Cond.instanceMethod yX5_repeatAllTold, Cond.selects RX5 yX5_repeatAllTold yX5_repeatAllTold, Cond.code yX5_repeatAllTold cX5_repeatAllTold 2 none, Cond.fieldLink RX5 51 "Particleway" "told" "I", Cond.fieldLink RX5 48 "Particleway" "toldReadings" "[I", Cond.fieldLink RX5 44 "Particleway" "toldDirections" "[I"]
def wsX5_beliefAnew_r2 : List Cond := [Cond.methodLink RX5 94 yX0_begin, Cond.instanceMethod yX0_begin, Cond.selects RX0 yX0_begin yX0_begin, Cond.initialized RX0, Cond.code yX0_begin cX0_begin 2 none, Cond.fieldLink RX0 18 "Particleway$Beliefs" "now" "LParticleway$Chart;", Cond.fieldLink RX0 9 "Particleway$Beliefs" "field" "LParticleway$Field;", Cond.methodLink RX0 25 yX3_isFree, Cond.instanceMethod yX3_isFree, Cond.selects RX3 yX3_isFree yX3_isFree, Cond.initialized RX3, Cond.code yX3_isFree cX3_isFree 2 (some .boolean), Cond.fieldLink RX3 9 "Particleway$Field" "walls" "[Z", Cond.static yX5_isCell, Cond.code yX5_isCell cX5_isCell 1 (some .boolean), Cond.methodLink RX0 31 yX2_put, Cond.instanceMethod yX2_put, Cond.selects RX2 yX2_put yX2_put, Cond.initialized RX2, Cond.code yX2_put cX2_put 4 none, Cond.fieldLink RX2 9 "Particleway$Chart" "numbers" "[J", Cond.methodLink RX5 185 yX0_fetch, Cond.instanceMethod yX0_fetch, Cond.selects RX0 yX0_fetch yX0_fetch]
def wsX5_beliefAnew_r3 : List Cond := [Cond.code yX0_fetch cX0_fetch 3 none, Cond.fieldLink RX0 22 "Particleway$Beliefs" "before" "LParticleway$Chart;", Cond.methodLink RX0 35 yX2_copy, Cond.instanceMethod yX2_copy, Cond.selects RX2 yX2_copy yX2_copy, Cond.code yX2_copy cX2_copy 2 none, Cond.methodLink RX2 21 arraycopyName, Cond.native arraycopyName, Cond.static arraycopyName, Cond.initialized "java/lang/System", Cond.methodLink RX0 60 yX0_fetched, Cond.instanceMethod yX0_fetched, Cond.selects RX0 yX0_fetched yX0_fetched, Cond.code yX0_fetched cX0_fetched 7 (some .long), Cond.constantLong RX0 42 (3), Cond.constantLong RX0 55 (12), Cond.methodLink RX0 44 yX2_at, Cond.instanceMethod yX2_at, Cond.selects RX2 yX2_at yX2_at, Cond.code yX2_at cX2_at 2 (some .long), Cond.methodLink RX0 64 yX3_shifted, Cond.static yX3_shifted, Cond.code yX3_shifted cX3_shifted 5 (some .int), Cond.fieldLink RX3 55 "Particleway$Field" "STEP_X" "[I"]
def wsX5_beliefAnew_r4 : List Cond := [Cond.fieldLink RX3 58 "Particleway$Field" "STEP_Y" "[I", Cond.static yX5_isDirection, Cond.code yX5_isDirection cX5_isDirection 1 (some .boolean), Cond.static yX5_numberOf, Cond.code yX5_numberOf cX5_numberOf 2 (some .int), Cond.methodLink RX0 51 yX3_led, Cond.instanceMethod yX3_led, Cond.selects RX3 yX3_led yX3_led, Cond.code yX3_led cX3_led 4 (some .int), Cond.methodLink RX3 43 Lib.Math.min.name, Cond.static Lib.Math.min.name, Cond.initialized "java/lang/Math", Cond.code Lib.Math.min.name Lib.Math.min.code 2 (some .int), Cond.methodLink RX3 39 yX3_stepsAhead, Cond.instanceMethod yX3_stepsAhead, Cond.selects RX3 yX3_stepsAhead yX3_stepsAhead, Cond.code yX3_stepsAhead cX3_stepsAhead 3 (some .int), Cond.fieldLink RX3 15 "Particleway$Field" "ahead" "[I", Cond.methodLink RX3 48 yX3_shifted, Cond.methodLink RX0 57 yX0_halveGreat, Cond.instanceMethod yX0_halveGreat, Cond.selects RX0 yX0_halveGreat yX0_halveGreat, Cond.code yX0_halveGreat cX0_halveGreat 2 none, Cond.constantLong RX0 77 (1099511627776)]
def wsX5_beliefAnew_r5 : List Cond := [Cond.methodLink RX0 70 yX2_greatest, Cond.instanceMethod yX2_greatest, Cond.selects RX2 yX2_greatest yX2_greatest, Cond.code yX2_greatest cX2_greatest 4 (some .long), Cond.methodLink RX2 27 Lib.MathLoose.max_long.x, Cond.static Lib.MathLoose.max_long.x, Cond.code Lib.MathLoose.max_long.x Lib.MathLoose.max_long.code 4 (some .long), Cond.methodLink RX0 79 yX2_halve, Cond.instanceMethod yX2_halve, Cond.selects RX2 yX2_halve yX2_halve, Cond.code yX2_halve cX2_halve 2 none, Cond.constantLong RX2 19 (2), Cond.methodLink RX5 114 yX0_weigh, Cond.instanceMethod yX0_weigh, Cond.selects RX0 yX0_weigh yX0_weigh, Cond.code yX0_weigh cX0_weigh 4 none, Cond.methodLink RX0 67 yX3_weight, Cond.instanceMethod yX3_weight, Cond.selects RX3 yX3_weight yX3_weight, Cond.code yX3_weight cX3_weight 4 (some .int), Cond.methodLink RX3 52 Lib.Math.abs.name, Cond.static Lib.Math.abs.name, Cond.code Lib.Math.abs.name Lib.Math.abs.code 1 (some .int), Cond.methodLink RX0 74 yX0_begin]
def wsX5_beliefAnew_r6 : List Cond := [Cond.methodLink RX5 141 yX0_chart, Cond.instanceMethod yX0_chart, Cond.selects RX0 yX0_chart yX0_chart, Cond.code yX0_chart cX0_chart 1 (some (.object "Particleway$Chart")), Cond.methodLink RX5 63 yX5_numberOf, Cond.methodLink RX5 135 yX2_at]
def wsX5_beliefAnew : List Cond := .code yX5_beliefAnew cX5_beliefAnew 3 (some .long) :: ((wsX5_beliefAnew_r1 ++ (wsX5_beliefAnew_r2 ++ (wsX5_beliefAnew_r3 ++ (wsX5_beliefAnew_r4 ++ (wsX5_beliefAnew_r5 ++ wsX5_beliefAnew_r6))))) ++ wsX50 ++ wsX00 ++ wsX30 ++ wsX20 ++ (vx_at0 RX5 127 "java/lang/IndexOutOfBoundsException" ["java/lang/RuntimeException", "java/lang/Exception"]).filter goodWord ++ (vx_at0 RX5 77 "java/lang/IllegalStateException" ["java/lang/RuntimeException", "java/lang/Exception"]).filter goodWord)
def wsX5_chartOf_r1 : List Cond := [Cond.fieldLink RX5 28 "Particleway" "samples" "LParticleway$Samples;", Cond.fieldLink RX5 37 "Particleway" "beliefs" "LParticleway$Beliefs;", Cond.methodLink RX5 131 yX4_chart, Cond.instanceMethod yX4_chart, Cond.selects RX4 yX4_chart yX4_chart, Cond.initialized RX4, Cond.code yX4_chart cX4_chart 2 (some (.object "Particleway$Chart")), Cond.fieldLink RX4 32 "Particleway$Samples" "counts" "LParticleway$Chart;", Cond.fieldLink RX4 36 "Particleway$Samples" "many" "I", Cond.fieldLink RX4 19 "Particleway$Samples" "cells" "[I", Cond.methodLink RX4 43 yX2_clear, Cond.instanceMethod yX2_clear, Cond.selects RX2 yX2_clear yX2_clear, Cond.initialized RX2, Cond.code yX2_clear cX2_clear 2 none, Cond.fieldLink RX2 9 "Particleway$Chart" "numbers" "[J", Cond.methodLink RX4 46 yX2_add, Cond.instanceMethod yX2_add, Cond.selects RX2 yX2_add yX2_add, Cond.code yX2_add cX2_add 4 none, Cond.static yX5_isCell, Cond.initialized RX5, Cond.code yX5_isCell cX5_isCell 1 (some .boolean), Cond.methodLink RX5 141 yX0_chart]
def wsX5_chartOf_r2 : List Cond := [Cond.instanceMethod yX0_chart, Cond.selects RX0 yX0_chart yX0_chart, Cond.initialized RX0, Cond.code yX0_chart cX0_chart 1 (some (.object "Particleway$Chart")), Cond.fieldLink RX0 18 "Particleway$Beliefs" "now" "LParticleway$Chart;"]
def wsX5_chartOf : List Cond := .code yX5_chartOf cX5_chartOf 2 (some (.object "Particleway$Chart")) :: ((wsX5_chartOf_r1 ++ wsX5_chartOf_r2) ++ wsX50 ++ wsX40 ++ wsX20 ++ wsX00)
def wsX5_mode_r1 : List Cond := [Cond.methodLink RX5 119 yX5_checkSpread, Cond.instanceMethod yX5_checkSpread, Cond.selects RX5 yX5_checkSpread yX5_checkSpread, Cond.initialized RX5, Cond.code yX5_checkSpread cX5_checkSpread 1 none, Cond.classLink RX5 75 "java/lang/IllegalStateException", Cond.initialized "java/lang/IllegalStateException", Cond.fieldLink RX5 55 "Particleway" "isSpread" "Z", Cond.methodLink RX5 145 yX5_chartOf, Cond.instanceMethod yX5_chartOf, Cond.selects RX5 yX5_chartOf yX5_chartOf, Cond.code yX5_chartOf cX5_chartOf 2 (some (.object "Particleway$Chart")), Cond.fieldLink RX5 28 "Particleway" "samples" "LParticleway$Samples;", Cond.fieldLink RX5 37 "Particleway" "beliefs" "LParticleway$Beliefs;", Cond.methodLink RX5 131 yX4_chart, Cond.instanceMethod yX4_chart, Cond.selects RX4 yX4_chart yX4_chart, Cond.initialized RX4, Cond.code yX4_chart cX4_chart 2 (some (.object "Particleway$Chart")), Cond.fieldLink RX4 32 "Particleway$Samples" "counts" "LParticleway$Chart;", Cond.fieldLink RX4 36 "Particleway$Samples" "many" "I", Cond.fieldLink RX4 19 "Particleway$Samples" "cells" "[I", Cond.methodLink RX4 43 yX2_clear, Cond.instanceMethod yX2_clear]
def wsX5_mode_r2 : List Cond := [Cond.selects RX2 yX2_clear yX2_clear, Cond.initialized RX2, Cond.code yX2_clear cX2_clear 2 none, Cond.fieldLink RX2 9 "Particleway$Chart" "numbers" "[J", Cond.methodLink RX4 46 yX2_add, Cond.instanceMethod yX2_add, Cond.selects RX2 yX2_add yX2_add, Cond.code yX2_add cX2_add 4 none, Cond.static yX5_isCell, Cond.code yX5_isCell cX5_isCell 1 (some .boolean), Cond.methodLink RX5 141 yX0_chart, Cond.instanceMethod yX0_chart, Cond.selects RX0 yX0_chart yX0_chart, Cond.initialized RX0, Cond.code yX0_chart cX0_chart 1 (some (.object "Particleway$Chart")), Cond.fieldLink RX0 18 "Particleway$Beliefs" "now" "LParticleway$Chart;", Cond.methodLink RX5 149 yX2_greatestCell, Cond.instanceMethod yX2_greatestCell, Cond.selects RX2 yX2_greatestCell yX2_greatestCell, Cond.code yX2_greatestCell cX2_greatestCell 4 (some .int), Cond.methodLink RX2 33 yX2_greatest, Cond.instanceMethod yX2_greatest, Cond.selects RX2 yX2_greatest yX2_greatest, Cond.code yX2_greatest cX2_greatest 4 (some .long)]
def wsX5_mode_r3 : List Cond := [Cond.methodLink RX2 27 Lib.MathLoose.max_long.x, Cond.static Lib.MathLoose.max_long.x, Cond.initialized "java/lang/Math", Cond.code Lib.MathLoose.max_long.x Lib.MathLoose.max_long.code 4 (some .long)]
def wsX5_mode : List Cond := .code yX5_mode cX5_mode 2 (some .int) :: ((wsX5_mode_r1 ++ (wsX5_mode_r2 ++ wsX5_mode_r3)) ++ wsX50 ++ wsX40 ++ wsX20 ++ wsX00 ++ (vx_at0 RX5 77 "java/lang/IllegalStateException" ["java/lang/RuntimeException", "java/lang/Exception"]).filter goodWord)
def wsX5_mean_r1 : List Cond := [Cond.constantLong RX5 152 (100), Cond.methodLink RX5 119 yX5_checkSpread, Cond.instanceMethod yX5_checkSpread, Cond.selects RX5 yX5_checkSpread yX5_checkSpread, Cond.initialized RX5, Cond.code yX5_checkSpread cX5_checkSpread 1 none, Cond.classLink RX5 75 "java/lang/IllegalStateException", Cond.initialized "java/lang/IllegalStateException", Cond.fieldLink RX5 55 "Particleway" "isSpread" "Z", Cond.methodLink RX5 145 yX5_chartOf, Cond.instanceMethod yX5_chartOf, Cond.selects RX5 yX5_chartOf yX5_chartOf, Cond.code yX5_chartOf cX5_chartOf 2 (some (.object "Particleway$Chart")), Cond.fieldLink RX5 28 "Particleway" "samples" "LParticleway$Samples;", Cond.fieldLink RX5 37 "Particleway" "beliefs" "LParticleway$Beliefs;", Cond.methodLink RX5 131 yX4_chart, Cond.instanceMethod yX4_chart, Cond.selects RX4 yX4_chart yX4_chart, Cond.initialized RX4, Cond.code yX4_chart cX4_chart 2 (some (.object "Particleway$Chart")), Cond.fieldLink RX4 32 "Particleway$Samples" "counts" "LParticleway$Chart;", Cond.fieldLink RX4 36 "Particleway$Samples" "many" "I", Cond.fieldLink RX4 19 "Particleway$Samples" "cells" "[I", Cond.methodLink RX4 43 yX2_clear]
def wsX5_mean_r2 : List Cond := [Cond.instanceMethod yX2_clear, Cond.selects RX2 yX2_clear yX2_clear, Cond.initialized RX2, Cond.code yX2_clear cX2_clear 2 none, Cond.fieldLink RX2 9 "Particleway$Chart" "numbers" "[J", Cond.methodLink RX4 46 yX2_add, Cond.instanceMethod yX2_add, Cond.selects RX2 yX2_add yX2_add, Cond.code yX2_add cX2_add 4 none, Cond.static yX5_isCell, Cond.code yX5_isCell cX5_isCell 1 (some .boolean), Cond.methodLink RX5 141 yX0_chart, Cond.instanceMethod yX0_chart, Cond.selects RX0 yX0_chart yX0_chart, Cond.initialized RX0, Cond.code yX0_chart cX0_chart 1 (some (.object "Particleway$Chart")), Cond.fieldLink RX0 18 "Particleway$Beliefs" "now" "LParticleway$Chart;", Cond.methodLink RX5 154 yX2_coordinateSum, Cond.instanceMethod yX2_coordinateSum, Cond.selects RX2 yX2_coordinateSum yX2_coordinateSum, Cond.code yX2_coordinateSum cX2_coordinateSum 5 (some .long), Cond.methodLink RX5 158 yX2_sum, Cond.instanceMethod yX2_sum, Cond.selects RX2 yX2_sum yX2_sum]
def wsX5_mean_r3 : List Cond := [Cond.code yX2_sum cX2_sum 1 (some .long), Cond.methodLink RX2 37 yX2_sumOf, Cond.instanceMethod yX2_sumOf, Cond.selects RX2 yX2_sumOf yX2_sumOf, Cond.code yX2_sumOf cX2_sumOf 10 (some .long), Cond.methodLink RX5 162 yX5_quotient, Cond.static yX5_quotient, Cond.code yX5_quotient cX5_quotient 4 (some .long)]
def wsX5_mean : List Cond := .code yX5_mean cX5_mean 4 (some .int) :: ((wsX5_mean_r1 ++ (wsX5_mean_r2 ++ wsX5_mean_r3)) ++ wsX50 ++ wsX40 ++ wsX20 ++ wsX00 ++ (vx_at0 RX5 77 "java/lang/IllegalStateException" ["java/lang/RuntimeException", "java/lang/Exception"]).filter goodWord)
def wsX5_share_r1 : List Cond := [Cond.classLink RX5 83 "java/lang/IllegalArgumentException", Cond.initialized "java/lang/IllegalArgumentException", Cond.constantLong RX5 166 (1000), Cond.methodLink RX5 59 yX5_checkCell, Cond.static yX5_checkCell, Cond.initialized RX5, Cond.code yX5_checkCell cX5_checkCell 2 none, Cond.classLink RX5 125 "java/lang/IndexOutOfBoundsException", Cond.initialized "java/lang/IndexOutOfBoundsException", Cond.methodLink RX5 178 yX5_isInField, Cond.static yX5_isInField, Cond.code yX5_isInField cX5_isInField 2 (some .boolean), Cond.methodLink RX5 119 yX5_checkSpread, Cond.instanceMethod yX5_checkSpread, Cond.selects RX5 yX5_checkSpread yX5_checkSpread, Cond.code yX5_checkSpread cX5_checkSpread 1 none, Cond.classLink RX5 75 "java/lang/IllegalStateException", Cond.initialized "java/lang/IllegalStateException", Cond.fieldLink RX5 55 "Particleway" "isSpread" "Z", Cond.methodLink RX5 145 yX5_chartOf, Cond.instanceMethod yX5_chartOf, Cond.selects RX5 yX5_chartOf yX5_chartOf, Cond.code yX5_chartOf cX5_chartOf 2 (some (.object "Particleway$Chart")), Cond.fieldLink RX5 28 "Particleway" "samples" "LParticleway$Samples;"]
def wsX5_share_r2 : List Cond := [Cond.fieldLink RX5 37 "Particleway" "beliefs" "LParticleway$Beliefs;", Cond.methodLink RX5 131 yX4_chart, Cond.instanceMethod yX4_chart, Cond.selects RX4 yX4_chart yX4_chart, Cond.initialized RX4, Cond.code yX4_chart cX4_chart 2 (some (.object "Particleway$Chart")), Cond.fieldLink RX4 32 "Particleway$Samples" "counts" "LParticleway$Chart;", Cond.fieldLink RX4 36 "Particleway$Samples" "many" "I", Cond.fieldLink RX4 19 "Particleway$Samples" "cells" "[I", Cond.methodLink RX4 43 yX2_clear, Cond.instanceMethod yX2_clear, Cond.selects RX2 yX2_clear yX2_clear, Cond.initialized RX2, Cond.code yX2_clear cX2_clear 2 none, Cond.fieldLink RX2 9 "Particleway$Chart" "numbers" "[J", Cond.methodLink RX4 46 yX2_add, Cond.instanceMethod yX2_add, Cond.selects RX2 yX2_add yX2_add, Cond.code yX2_add cX2_add 4 none, Cond.static yX5_isCell, Cond.code yX5_isCell cX5_isCell 1 (some .boolean), Cond.methodLink RX5 141 yX0_chart, Cond.instanceMethod yX0_chart, Cond.selects RX0 yX0_chart yX0_chart]
def wsX5_share_r3 : List Cond := [Cond.initialized RX0, Cond.code yX0_chart cX0_chart 1 (some (.object "Particleway$Chart")), Cond.fieldLink RX0 18 "Particleway$Beliefs" "now" "LParticleway$Chart;", Cond.methodLink RX5 168 yX2_sumOf, Cond.instanceMethod yX2_sumOf, Cond.selects RX2 yX2_sumOf yX2_sumOf, Cond.code yX2_sumOf cX2_sumOf 10 (some .long), Cond.methodLink RX5 158 yX2_sum, Cond.instanceMethod yX2_sum, Cond.selects RX2 yX2_sum yX2_sum, Cond.code yX2_sum cX2_sum 1 (some .long), Cond.methodLink RX2 37 yX2_sumOf, Cond.methodLink RX5 162 yX5_quotient, Cond.static yX5_quotient, Cond.code yX5_quotient cX5_quotient 4 (some .long)]
def wsX5_share : List Cond := .code yX5_share cX5_share 7 (some .int) :: ((wsX5_share_r1 ++ (wsX5_share_r2 ++ wsX5_share_r3)) ++ wsX50 ++ wsX40 ++ wsX20 ++ wsX00 ++ (vx_at0 RX5 85 "java/lang/IllegalArgumentException" ["java/lang/RuntimeException", "java/lang/Exception"]).filter goodWord ++ (vx_at0 RX5 127 "java/lang/IndexOutOfBoundsException" ["java/lang/RuntimeException", "java/lang/Exception"]).filter goodWord ++ (vx_at0 RX5 77 "java/lang/IllegalStateException" ["java/lang/RuntimeException", "java/lang/Exception"]).filter goodWord)
def wsX5_best_r1 : List Cond := [Cond.classLink RX5 125 "java/lang/IndexOutOfBoundsException", Cond.initialized "java/lang/IndexOutOfBoundsException", Cond.fieldLink RX5 37 "Particleway" "beliefs" "LParticleway$Beliefs;", Cond.methodLink RX5 119 yX5_checkSpread, Cond.instanceMethod yX5_checkSpread, Cond.selects RX5 yX5_checkSpread yX5_checkSpread, Cond.initialized RX5, Cond.code yX5_checkSpread cX5_checkSpread 1 none, Cond.classLink RX5 75 "java/lang/IllegalStateException", Cond.initialized "java/lang/IllegalStateException", Cond.fieldLink RX5 55 "Particleway" "isSpread" "Z", Cond.methodLink RX5 141 yX0_chart, Cond.instanceMethod yX0_chart, Cond.selects RX0 yX0_chart yX0_chart, Cond.initialized RX0, Cond.code yX0_chart cX0_chart 1 (some (.object "Particleway$Chart")), Cond.fieldLink RX0 18 "Particleway$Beliefs" "now" "LParticleway$Chart;", Cond.methodLink RX5 172 yX2_cellAtPlace, Cond.instanceMethod yX2_cellAtPlace, Cond.selects RX2 yX2_cellAtPlace yX2_cellAtPlace, Cond.initialized RX2, Cond.code yX2_cellAtPlace cX2_cellAtPlace 3 (some .int), Cond.fieldLink RX2 9 "Particleway$Chart" "numbers" "[J", Cond.methodLink RX2 41 yX2_placeOf]
def wsX5_best_r2 : List Cond := [Cond.instanceMethod yX2_placeOf, Cond.selects RX2 yX2_placeOf yX2_placeOf, Cond.code yX2_placeOf cX2_placeOf 5 (some .int), Cond.methodLink RX2 45 yX2_at, Cond.instanceMethod yX2_at, Cond.selects RX2 yX2_at yX2_at, Cond.code yX2_at cX2_at 2 (some .long), Cond.static yX5_isCell, Cond.code yX5_isCell cX5_isCell 1 (some .boolean)]
def wsX5_best : List Cond := .code yX5_best cX5_best 2 (some .int) :: ((wsX5_best_r1 ++ wsX5_best_r2) ++ wsX50 ++ wsX00 ++ wsX20 ++ (vx_at0 RX5 127 "java/lang/IndexOutOfBoundsException" ["java/lang/RuntimeException", "java/lang/Exception"]).filter goodWord ++ (vx_at0 RX5 77 "java/lang/IllegalStateException" ["java/lang/RuntimeException", "java/lang/Exception"]).filter goodWord)
def wsX5_doubt : List Cond := .code yX5_doubt cX5_doubt 1 (some .int) :: ([.fieldLink RX5 28 "Particleway" "samples" "LParticleway$Samples;", .methodLink RX5 119 yX5_checkSpread, .instanceMethod yX5_checkSpread, .selects RX5 yX5_checkSpread yX5_checkSpread, .initialized RX5, .code yX5_checkSpread cX5_checkSpread 1 none, .classLink RX5 75 "java/lang/IllegalStateException", .initialized "java/lang/IllegalStateException", .fieldLink RX5 55 "Particleway" "isSpread" "Z", .methodLink RX5 175 yX4_lastDoubt, .instanceMethod yX4_lastDoubt, .selects RX4 yX4_lastDoubt yX4_lastDoubt, .initialized RX4, .code yX4_lastDoubt cX4_lastDoubt 1 (some .int), .fieldLink RX4 40 "Particleway$Samples" "doubt" "I"] ++ wsX50 ++ wsX40 ++ (vx_at0 RX5 77 "java/lang/IllegalStateException" ["java/lang/RuntimeException", "java/lang/Exception"]).filter goodWord)
def wsJ9_abs_0f7a4 : List Cond := .code yJ9_abs_0f7a4 cJ9_abs_0f7a4 1 (some .int) :: ([])
def wsJ9_max_7cf53 : List Cond := .code yJ9_max_7cf53 cJ9_max_7cf53 2 (some .int) :: ([])
def wsJ9_max_f86c9 : List Cond := .code yJ9_max_f86c9 cJ9_max_f86c9 4 (some .long) :: ([])
def wsJ9_min_7cf53 : List Cond := .code yJ9_min_7cf53 cJ9_min_7cf53 2 (some .int) :: ([])
def wsL_cell : List Cond := .code yL_cell cL_cell 2 (some .int) :: ([])
def wsL_low : List Cond := .code yL_low cL_low 2 (some .int) :: ([.constant RL 7 (2147483647)])
def wsL_wall_r1 : List Cond := [Cond.classLink RL 14 "java/lang/IndexOutOfBoundsException", Cond.classLink RL 18 "java/lang/IllegalStateException", Cond.constantLong RL 16 (-9000000000000000), Cond.methodLink RL 8 yX5_wall, Cond.instanceMethod yX5_wall, Cond.selects RX5 yX5_wall yX5_wall, Cond.initialized RX5, Cond.code yX5_wall cX5_wall 7 (some .boolean), Cond.classLink RX5 75 "java/lang/IllegalStateException", Cond.initialized "java/lang/IllegalStateException", Cond.fieldLink RX5 10 "Particleway" "field" "LParticleway$Field;", Cond.fieldLink RX5 55 "Particleway" "isSpread" "Z", Cond.methodLink RX5 59 yX5_checkCell, Cond.static yX5_checkCell, Cond.code yX5_checkCell cX5_checkCell 2 none, Cond.classLink RX5 125 "java/lang/IndexOutOfBoundsException", Cond.initialized "java/lang/IndexOutOfBoundsException", Cond.methodLink RX5 178 yX5_isInField, Cond.static yX5_isInField, Cond.code yX5_isInField cX5_isInField 2 (some .boolean), Cond.methodLink RX5 63 yX5_numberOf, Cond.static yX5_numberOf, Cond.code yX5_numberOf cX5_numberOf 2 (some .int), Cond.methodLink RX5 67 yX3_isFree]
def wsL_wall_r2 : List Cond := [Cond.instanceMethod yX3_isFree, Cond.selects RX3 yX3_isFree yX3_isFree, Cond.initialized RX3, Cond.code yX3_isFree cX3_isFree 2 (some .boolean), Cond.fieldLink RX3 9 "Particleway$Field" "walls" "[Z", Cond.static yX5_isCell, Cond.code yX5_isCell cX5_isCell 1 (some .boolean), Cond.methodLink RX5 71 yX3_freeCells, Cond.instanceMethod yX3_freeCells, Cond.selects RX3 yX3_freeCells yX3_freeCells, Cond.code yX3_freeCells cX3_freeCells 1 (some .int), Cond.fieldLink RX3 26 "Particleway$Field" "free" "I", Cond.methodLink RX5 78 yX3_build, Cond.instanceMethod yX3_build, Cond.selects RX3 yX3_build yX3_build, Cond.code yX3_build cX3_build 3 none, Cond.methodLink RX3 19 yX3_measure, Cond.instanceMethod yX3_measure, Cond.selects RX3 yX3_measure yX3_measure, Cond.code yX3_measure cX3_measure 3 none, Cond.fieldLink RX3 15 "Particleway$Field" "ahead" "[I", Cond.methodLink RX3 68 yX3_countedSteps, Cond.instanceMethod yX3_countedSteps, Cond.selects RX3 yX3_countedSteps yX3_countedSteps]
def wsL_wall_r3 : List Cond := [Cond.code yX3_countedSteps cX3_countedSteps 4 (some .int), Cond.methodLink RX3 48 yX3_shifted, Cond.static yX3_shifted, Cond.code yX3_shifted cX3_shifted 5 (some .int), Cond.fieldLink RX3 55 "Particleway$Field" "STEP_X" "[I", Cond.fieldLink RX3 58 "Particleway$Field" "STEP_Y" "[I", Cond.static yX5_isDirection, Cond.code yX5_isDirection cX5_isDirection 1 (some .boolean), Cond.methodLink RX3 71 yX3_isFree]
def wsL_wall : List Cond := .codeWith yL_wall cL_wall 5 (some .long) [(0, 15, 16, 14), (0, 15, 22, 18)] :: ((wsL_wall_r1 ++ (wsL_wall_r2 ++ wsL_wall_r3)) ++ wsX50 ++ wsX30 ++ (vx_at0 RX5 77 "java/lang/IllegalStateException" ["java/lang/RuntimeException", "java/lang/Exception"]).filter goodWord ++ (vx_at0 RX5 127 "java/lang/IndexOutOfBoundsException" ["java/lang/RuntimeException", "java/lang/Exception"]).filter goodWord)
def wsL_draw : List Cond := .codeWith yL_draw cL_draw 3 (some .long) [(0, 6, 7, 24)] :: ([.classLink RL 24 "java/lang/IllegalArgumentException", .constantLong RL 16 (-9000000000000000), .methodLink RL 20 yX5_draw, .instanceMethod yX5_draw, .selects RX5 yX5_draw yX5_draw, .initialized RX5, .code yX5_draw cX5_draw 2 (some .int), .classLink RX5 83 "java/lang/IllegalArgumentException", .initialized "java/lang/IllegalArgumentException", .constant RX5 82 (65536), .fieldLink RX5 19 "Particleway" "chance" "LParticleway$Chance;", .methodLink RX5 86 yX1_change, .instanceMethod yX1_change, .selects RX1 yX1_change yX1_change, .initialized RX1, .code yX1_change cX1_change 3 (some .int), .fieldLink RX1 7 "Particleway$Chance" "x" "I"] ++ wsX50 ++ wsX10 ++ (vx_at0 RX5 85 "java/lang/IllegalArgumentException" ["java/lang/RuntimeException", "java/lang/Exception"]).filter goodWord)
def wsL_spread_r1 : List Cond := [Cond.classLink RL 24 "java/lang/IllegalArgumentException", Cond.constantLong RL 16 (-9000000000000000), Cond.methodLink RL 26 yX5_spread, Cond.instanceMethod yX5_spread, Cond.selects RX5 yX5_spread yX5_spread, Cond.initialized RX5, Cond.code yX5_spread cX5_spread 2 none, Cond.classLink RX5 83 "java/lang/IllegalArgumentException", Cond.initialized "java/lang/IllegalArgumentException", Cond.fieldLink RX5 28 "Particleway" "samples" "LParticleway$Samples;", Cond.fieldLink RX5 37 "Particleway" "beliefs" "LParticleway$Beliefs;", Cond.fieldLink RX5 51 "Particleway" "told" "I", Cond.fieldLink RX5 55 "Particleway" "isSpread" "Z", Cond.methodLink RX5 90 yX4_begin, Cond.instanceMethod yX4_begin, Cond.selects RX4 yX4_begin yX4_begin, Cond.initialized RX4, Cond.code yX4_begin cX4_begin 3 none, Cond.fieldLink RX4 36 "Particleway$Samples" "many" "I", Cond.fieldLink RX4 19 "Particleway$Samples" "cells" "[I", Cond.fieldLink RX4 9 "Particleway$Samples" "field" "LParticleway$Field;", Cond.fieldLink RX4 15 "Particleway$Samples" "chance" "LParticleway$Chance;", Cond.fieldLink RX4 56 "Particleway$Samples" "isRead" "Z", Cond.fieldLink RX4 60 "Particleway$Samples" "slow" "I"]
def wsL_spread_r2 : List Cond := [Cond.fieldLink RX4 63 "Particleway$Samples" "fast" "I", Cond.fieldLink RX4 40 "Particleway$Samples" "doubt" "I", Cond.methodLink RX4 50 yX3_drawnCell, Cond.instanceMethod yX3_drawnCell, Cond.selects RX3 yX3_drawnCell yX3_drawnCell, Cond.initialized RX3, Cond.code yX3_drawnCell cX3_drawnCell 4 (some .int), Cond.fieldLink RX3 26 "Particleway$Field" "free" "I", Cond.fieldLink RX3 9 "Particleway$Field" "walls" "[Z", Cond.methodLink RX3 30 yX1_remainder, Cond.instanceMethod yX1_remainder, Cond.selects RX1 yX1_remainder yX1_remainder, Cond.initialized RX1, Cond.code yX1_remainder cX1_remainder 2 (some .int), Cond.fieldLink RX1 7 "Particleway$Chance" "x" "I", Cond.constant RX1 13 (65537), Cond.methodLink RX5 94 yX0_begin, Cond.instanceMethod yX0_begin, Cond.selects RX0 yX0_begin yX0_begin, Cond.initialized RX0, Cond.code yX0_begin cX0_begin 2 none, Cond.fieldLink RX0 18 "Particleway$Beliefs" "now" "LParticleway$Chart;", Cond.fieldLink RX0 9 "Particleway$Beliefs" "field" "LParticleway$Field;", Cond.methodLink RX0 25 yX3_isFree]
def wsL_spread_r3 : List Cond := [Cond.instanceMethod yX3_isFree, Cond.selects RX3 yX3_isFree yX3_isFree, Cond.code yX3_isFree cX3_isFree 2 (some .boolean), Cond.static yX5_isCell, Cond.code yX5_isCell cX5_isCell 1 (some .boolean), Cond.methodLink RX0 31 yX2_put, Cond.instanceMethod yX2_put, Cond.selects RX2 yX2_put yX2_put, Cond.initialized RX2, Cond.code yX2_put cX2_put 4 none, Cond.fieldLink RX2 9 "Particleway$Chart" "numbers" "[J"]
def wsL_spread : List Cond := .codeWith yL_spread cL_spread 3 (some .long) [(0, 6, 7, 24)] :: ((wsL_spread_r1 ++ (wsL_spread_r2 ++ wsL_spread_r3)) ++ wsX50 ++ wsX40 ++ wsX30 ++ wsX10 ++ wsX00 ++ wsX20 ++ (vx_at0 RX5 85 "java/lang/IllegalArgumentException" ["java/lang/RuntimeException", "java/lang/Exception"]).filter goodWord)
def wsL_drive_r1 : List Cond := [Cond.classLink RL 14 "java/lang/IndexOutOfBoundsException", Cond.classLink RL 18 "java/lang/IllegalStateException", Cond.constantLong RL 16 (-9000000000000000), Cond.methodLink RL 30 yX5_drive, Cond.instanceMethod yX5_drive, Cond.selects RX5 yX5_drive yX5_drive, Cond.initialized RX5, Cond.code yX5_drive cX5_drive 2 none, Cond.fieldLink RX5 28 "Particleway" "samples" "LParticleway$Samples;", Cond.fieldLink RX5 37 "Particleway" "beliefs" "LParticleway$Beliefs;", Cond.methodLink RX5 96 yX5_checkDirection, Cond.static yX5_checkDirection, Cond.code yX5_checkDirection cX5_checkDirection 1 none, Cond.classLink RX5 125 "java/lang/IndexOutOfBoundsException", Cond.initialized "java/lang/IndexOutOfBoundsException", Cond.methodLink RX5 182 yX5_isDirection, Cond.static yX5_isDirection, Cond.code yX5_isDirection cX5_isDirection 1 (some .boolean), Cond.methodLink RX5 99 yX5_checkMayTell, Cond.instanceMethod yX5_checkMayTell, Cond.selects RX5 yX5_checkMayTell yX5_checkMayTell, Cond.code yX5_checkMayTell cX5_checkMayTell 1 none, Cond.classLink RX5 75 "java/lang/IllegalStateException", Cond.initialized "java/lang/IllegalStateException"]
def wsL_drive_r2 : List Cond := [Cond.fieldLink RX5 55 "Particleway" "isSpread" "Z", Cond.fieldLink RX5 51 "Particleway" "told" "I", Cond.methodLink RX5 102 yX4_move, Cond.instanceMethod yX4_move, Cond.selects RX4 yX4_move yX4_move, Cond.initialized RX4, Cond.code yX4_move cX4_move 3 none, Cond.fieldLink RX4 36 "Particleway$Samples" "many" "I", Cond.fieldLink RX4 19 "Particleway$Samples" "cells" "[I", Cond.fieldLink RX4 9 "Particleway$Samples" "field" "LParticleway$Field;", Cond.methodLink RX4 66 yX4_drawnSteps, Cond.instanceMethod yX4_drawnSteps, Cond.selects RX4 yX4_drawnSteps yX4_drawnSteps, Cond.code yX4_drawnSteps cX4_drawnSteps 2 (some .int), Cond.fieldLink RX4 15 "Particleway$Samples" "chance" "LParticleway$Chance;", Cond.methodLink RX4 74 yX1_remainder, Cond.instanceMethod yX1_remainder, Cond.selects RX1 yX1_remainder yX1_remainder, Cond.initialized RX1, Cond.code yX1_remainder cX1_remainder 2 (some .int), Cond.fieldLink RX1 7 "Particleway$Chance" "x" "I", Cond.constant RX1 13 (65537), Cond.methodLink RX4 70 yX3_led, Cond.instanceMethod yX3_led]
def wsL_drive_r3 : List Cond := [Cond.selects RX3 yX3_led yX3_led, Cond.initialized RX3, Cond.code yX3_led cX3_led 4 (some .int), Cond.methodLink RX3 43 Lib.Math.min.name, Cond.static Lib.Math.min.name, Cond.initialized "java/lang/Math", Cond.code Lib.Math.min.name Lib.Math.min.code 2 (some .int), Cond.methodLink RX3 39 yX3_stepsAhead, Cond.instanceMethod yX3_stepsAhead, Cond.selects RX3 yX3_stepsAhead yX3_stepsAhead, Cond.code yX3_stepsAhead cX3_stepsAhead 3 (some .int), Cond.fieldLink RX3 15 "Particleway$Field" "ahead" "[I", Cond.static yX5_isCell, Cond.code yX5_isCell cX5_isCell 1 (some .boolean), Cond.methodLink RX3 48 yX3_shifted, Cond.static yX3_shifted, Cond.code yX3_shifted cX3_shifted 5 (some .int), Cond.fieldLink RX3 55 "Particleway$Field" "STEP_X" "[I", Cond.fieldLink RX3 58 "Particleway$Field" "STEP_Y" "[I", Cond.static yX5_isInField, Cond.code yX5_isInField cX5_isInField 2 (some .boolean), Cond.static yX5_numberOf, Cond.code yX5_numberOf cX5_numberOf 2 (some .int), Cond.methodLink RX5 105 yX0_push]
def wsL_drive_r4 : List Cond := [Cond.instanceMethod yX0_push, Cond.selects RX0 yX0_push yX0_push, Cond.initialized RX0, Cond.code yX0_push cX0_push 3 none, Cond.fieldLink RX0 22 "Particleway$Beliefs" "before" "LParticleway$Chart;", Cond.fieldLink RX0 18 "Particleway$Beliefs" "now" "LParticleway$Chart;", Cond.fieldLink RX0 9 "Particleway$Beliefs" "field" "LParticleway$Field;", Cond.constantLong RX0 42 (3), Cond.constantLong RX0 55 (12), Cond.methodLink RX0 35 yX2_copy, Cond.instanceMethod yX2_copy, Cond.selects RX2 yX2_copy yX2_copy, Cond.initialized RX2, Cond.code yX2_copy cX2_copy 2 none, Cond.fieldLink RX2 9 "Particleway$Chart" "numbers" "[J", Cond.methodLink RX2 21 arraycopyName, Cond.native arraycopyName, Cond.static arraycopyName, Cond.initialized "java/lang/System", Cond.methodLink RX0 39 yX2_clear, Cond.instanceMethod yX2_clear, Cond.selects RX2 yX2_clear yX2_clear, Cond.code yX2_clear cX2_clear 2 none, Cond.methodLink RX0 25 yX3_isFree]
def wsL_drive_r5 : List Cond := [Cond.instanceMethod yX3_isFree, Cond.selects RX3 yX3_isFree yX3_isFree, Cond.code yX3_isFree cX3_isFree 2 (some .boolean), Cond.fieldLink RX3 9 "Particleway$Field" "walls" "[Z", Cond.methodLink RX0 44 yX2_at, Cond.instanceMethod yX2_at, Cond.selects RX2 yX2_at yX2_at, Cond.code yX2_at cX2_at 2 (some .long), Cond.methodLink RX0 48 yX2_add, Cond.instanceMethod yX2_add, Cond.selects RX2 yX2_add yX2_add, Cond.code yX2_add cX2_add 4 none, Cond.methodLink RX0 51 yX3_led, Cond.methodLink RX0 57 yX0_halveGreat, Cond.instanceMethod yX0_halveGreat, Cond.selects RX0 yX0_halveGreat yX0_halveGreat, Cond.code yX0_halveGreat cX0_halveGreat 2 none, Cond.constantLong RX0 77 (1099511627776), Cond.methodLink RX0 70 yX2_greatest, Cond.instanceMethod yX2_greatest, Cond.selects RX2 yX2_greatest yX2_greatest, Cond.code yX2_greatest cX2_greatest 4 (some .long), Cond.methodLink RX2 27 Lib.MathLoose.max_long.x, Cond.static Lib.MathLoose.max_long.x]
def wsL_drive_r6 : List Cond := [Cond.code Lib.MathLoose.max_long.x Lib.MathLoose.max_long.code 4 (some .long), Cond.methodLink RX0 79 yX2_halve, Cond.instanceMethod yX2_halve, Cond.selects RX2 yX2_halve yX2_halve, Cond.code yX2_halve cX2_halve 2 none, Cond.constantLong RX2 19 (2), Cond.methodLink RX5 108 yX5_keep, Cond.instanceMethod yX5_keep, Cond.selects RX5 yX5_keep yX5_keep, Cond.code yX5_keep cX5_keep 3 none, Cond.fieldLink RX5 44 "Particleway" "toldDirections" "[I", Cond.fieldLink RX5 48 "Particleway" "toldReadings" "[I"]
def wsL_drive : List Cond := .codeWith yL_drive cL_drive 3 (some .long) [(0, 6, 7, 14), (0, 6, 12, 18)] :: ((wsL_drive_r1 ++ (wsL_drive_r2 ++ (wsL_drive_r3 ++ (wsL_drive_r4 ++ (wsL_drive_r5 ++ wsL_drive_r6))))) ++ wsX50 ++ wsX40 ++ wsX10 ++ wsX30 ++ wsX00 ++ wsX20 ++ (vx_at0 RX5 127 "java/lang/IndexOutOfBoundsException" ["java/lang/RuntimeException", "java/lang/Exception"]).filter goodWord ++ (vx_at0 RX5 77 "java/lang/IllegalStateException" ["java/lang/RuntimeException", "java/lang/Exception"]).filter goodWord)
def wsL_read_r1 : List Cond := [Cond.classLink RL 14 "java/lang/IndexOutOfBoundsException", Cond.classLink RL 24 "java/lang/IllegalArgumentException", Cond.classLink RL 18 "java/lang/IllegalStateException", Cond.constantLong RL 16 (-9000000000000000), Cond.methodLink RL 33 yX5_read, Cond.instanceMethod yX5_read, Cond.selects RX5 yX5_read yX5_read, Cond.initialized RX5, Cond.code yX5_read cX5_read 4 (some .int), Cond.classLink RX5 83 "java/lang/IllegalArgumentException", Cond.initialized "java/lang/IllegalArgumentException", Cond.fieldLink RX5 28 "Particleway" "samples" "LParticleway$Samples;", Cond.fieldLink RX5 37 "Particleway" "beliefs" "LParticleway$Beliefs;", Cond.methodLink RX5 96 yX5_checkDirection, Cond.static yX5_checkDirection, Cond.code yX5_checkDirection cX5_checkDirection 1 none, Cond.classLink RX5 125 "java/lang/IndexOutOfBoundsException", Cond.initialized "java/lang/IndexOutOfBoundsException", Cond.methodLink RX5 182 yX5_isDirection, Cond.static yX5_isDirection, Cond.code yX5_isDirection cX5_isDirection 1 (some .boolean), Cond.methodLink RX5 99 yX5_checkMayTell, Cond.instanceMethod yX5_checkMayTell, Cond.selects RX5 yX5_checkMayTell yX5_checkMayTell]
def wsL_read_r2 : List Cond := [Cond.code yX5_checkMayTell cX5_checkMayTell 1 none, Cond.classLink RX5 75 "java/lang/IllegalStateException", Cond.initialized "java/lang/IllegalStateException", Cond.fieldLink RX5 55 "Particleway" "isSpread" "Z", Cond.fieldLink RX5 51 "Particleway" "told" "I", Cond.methodLink RX5 111 yX4_weigh, Cond.instanceMethod yX4_weigh, Cond.selects RX4 yX4_weigh yX4_weigh, Cond.initialized RX4, Cond.code yX4_weigh cX4_weigh 5 (some .int), Cond.fieldLink RX4 36 "Particleway$Samples" "many" "I", Cond.fieldLink RX4 26 "Particleway$Samples" "weights" "[I", Cond.fieldLink RX4 9 "Particleway$Samples" "field" "LParticleway$Field;", Cond.fieldLink RX4 19 "Particleway$Samples" "cells" "[I", Cond.methodLink RX4 80 yX3_weight, Cond.instanceMethod yX3_weight, Cond.selects RX3 yX3_weight yX3_weight, Cond.initialized RX3, Cond.code yX3_weight cX3_weight 4 (some .int), Cond.methodLink RX3 52 Lib.Math.abs.name, Cond.static Lib.Math.abs.name, Cond.initialized "java/lang/Math", Cond.code Lib.Math.abs.name Lib.Math.abs.code 1 (some .int), Cond.methodLink RX3 39 yX3_stepsAhead]
def wsL_read_r3 : List Cond := [Cond.instanceMethod yX3_stepsAhead, Cond.selects RX3 yX3_stepsAhead yX3_stepsAhead, Cond.code yX3_stepsAhead cX3_stepsAhead 3 (some .int), Cond.fieldLink RX3 15 "Particleway$Field" "ahead" "[I", Cond.static yX5_isCell, Cond.code yX5_isCell cX5_isCell 1 (some .boolean), Cond.static yX5_quotient, Cond.code yX5_quotient cX5_quotient 4 (some .long), Cond.methodLink RX4 87 yX4_compareFit, Cond.instanceMethod yX4_compareFit, Cond.selects RX4 yX4_compareFit yX4_compareFit, Cond.code yX4_compareFit cX4_compareFit 2 none, Cond.fieldLink RX4 56 "Particleway$Samples" "isRead" "Z", Cond.fieldLink RX4 60 "Particleway$Samples" "slow" "I", Cond.fieldLink RX4 63 "Particleway$Samples" "fast" "I", Cond.methodLink RX4 99 Lib.Math.max.name, Cond.static Lib.Math.max.name, Cond.code Lib.Math.max.name Lib.Math.max.code 2 (some .int), Cond.fieldLink RX4 40 "Particleway$Samples" "doubt" "I", Cond.methodLink RX4 91 yX4_manyAnew, Cond.instanceMethod yX4_manyAnew, Cond.selects RX4 yX4_manyAnew yX4_manyAnew, Cond.code yX4_manyAnew cX4_manyAnew 6 (some .int), Cond.methodLink RX4 112 Lib.Math.min.name]
def wsL_read_r4 : List Cond := [Cond.static Lib.Math.min.name, Cond.code Lib.Math.min.name Lib.Math.min.code 2 (some .int), Cond.methodLink RX4 104 yX4_chart, Cond.instanceMethod yX4_chart, Cond.selects RX4 yX4_chart yX4_chart, Cond.code yX4_chart cX4_chart 2 (some (.object "Particleway$Chart")), Cond.fieldLink RX4 32 "Particleway$Samples" "counts" "LParticleway$Chart;", Cond.methodLink RX4 43 yX2_clear, Cond.instanceMethod yX2_clear, Cond.selects RX2 yX2_clear yX2_clear, Cond.initialized RX2, Cond.code yX2_clear cX2_clear 2 none, Cond.fieldLink RX2 9 "Particleway$Chart" "numbers" "[J", Cond.methodLink RX4 46 yX2_add, Cond.instanceMethod yX2_add, Cond.selects RX2 yX2_add yX2_add, Cond.code yX2_add cX2_add 4 none, Cond.methodLink RX4 108 yX2_at, Cond.instanceMethod yX2_at, Cond.selects RX2 yX2_at yX2_at, Cond.code yX2_at cX2_at 2 (some .long), Cond.methodLink RX4 95 yX4_drawAnew, Cond.instanceMethod yX4_drawAnew, Cond.selects RX4 yX4_drawAnew yX4_drawAnew]
def wsL_read_r5 : List Cond := [Cond.code yX4_drawAnew cX4_drawAnew 6 none, Cond.fieldLink RX4 23 "Particleway$Samples" "oldCells" "[I", Cond.methodLink RX4 115 arraycopyName, Cond.native arraycopyName, Cond.static arraycopyName, Cond.initialized "java/lang/System", Cond.fieldLink RX4 15 "Particleway$Samples" "chance" "LParticleway$Chance;", Cond.methodLink RX4 74 yX1_remainder, Cond.instanceMethod yX1_remainder, Cond.selects RX1 yX1_remainder yX1_remainder, Cond.initialized RX1, Cond.code yX1_remainder cX1_remainder 2 (some .int), Cond.fieldLink RX1 7 "Particleway$Chance" "x" "I", Cond.constant RX1 13 (65537), Cond.methodLink RX4 50 yX3_drawnCell, Cond.instanceMethod yX3_drawnCell, Cond.selects RX3 yX3_drawnCell yX3_drawnCell, Cond.code yX3_drawnCell cX3_drawnCell 4 (some .int), Cond.fieldLink RX3 26 "Particleway$Field" "free" "I", Cond.fieldLink RX3 9 "Particleway$Field" "walls" "[Z", Cond.methodLink RX3 30 yX1_remainder, Cond.methodLink RX4 121 yX4_oldCellBeyond, Cond.instanceMethod yX4_oldCellBeyond, Cond.selects RX4 yX4_oldCellBeyond yX4_oldCellBeyond]
def wsL_read_r6 : List Cond := [Cond.code yX4_oldCellBeyond cX4_oldCellBeyond 5 (some .int), Cond.methodLink RX5 114 yX0_weigh, Cond.instanceMethod yX0_weigh, Cond.selects RX0 yX0_weigh yX0_weigh, Cond.initialized RX0, Cond.code yX0_weigh cX0_weigh 4 none, Cond.fieldLink RX0 18 "Particleway$Beliefs" "now" "LParticleway$Chart;", Cond.fieldLink RX0 9 "Particleway$Beliefs" "field" "LParticleway$Field;", Cond.methodLink RX0 44 yX2_at, Cond.methodLink RX0 67 yX3_weight, Cond.methodLink RX0 31 yX2_put, Cond.instanceMethod yX2_put, Cond.selects RX2 yX2_put yX2_put, Cond.code yX2_put cX2_put 4 none, Cond.methodLink RX0 70 yX2_greatest, Cond.instanceMethod yX2_greatest, Cond.selects RX2 yX2_greatest yX2_greatest, Cond.code yX2_greatest cX2_greatest 4 (some .long), Cond.methodLink RX2 27 Lib.MathLoose.max_long.x, Cond.static Lib.MathLoose.max_long.x, Cond.code Lib.MathLoose.max_long.x Lib.MathLoose.max_long.code 4 (some .long), Cond.methodLink RX0 74 yX0_begin, Cond.instanceMethod yX0_begin, Cond.selects RX0 yX0_begin yX0_begin]
def wsL_read_r7 : List Cond := [Cond.code yX0_begin cX0_begin 2 none, Cond.methodLink RX0 25 yX3_isFree, Cond.instanceMethod yX3_isFree, Cond.selects RX3 yX3_isFree yX3_isFree, Cond.code yX3_isFree cX3_isFree 2 (some .boolean), Cond.methodLink RX0 57 yX0_halveGreat, Cond.instanceMethod yX0_halveGreat, Cond.selects RX0 yX0_halveGreat yX0_halveGreat, Cond.code yX0_halveGreat cX0_halveGreat 2 none, Cond.constantLong RX0 77 (1099511627776), Cond.methodLink RX0 79 yX2_halve, Cond.instanceMethod yX2_halve, Cond.selects RX2 yX2_halve yX2_halve, Cond.code yX2_halve cX2_halve 2 none, Cond.constantLong RX2 19 (2), Cond.methodLink RX5 108 yX5_keep, Cond.instanceMethod yX5_keep, Cond.selects RX5 yX5_keep yX5_keep, Cond.code yX5_keep cX5_keep 3 none, Cond.fieldLink RX5 44 "Particleway" "toldDirections" "[I", Cond.fieldLink RX5 48 "Particleway" "toldReadings" "[I"]
def wsL_read : List Cond := .codeWith yL_read cL_read 4 (some .long) [(0, 7, 8, 14), (0, 7, 13, 24), (0, 7, 18, 18)] :: ((wsL_read_r1 ++ (wsL_read_r2 ++ (wsL_read_r3 ++ (wsL_read_r4 ++ (wsL_read_r5 ++ (wsL_read_r6 ++ wsL_read_r7)))))) ++ wsX50 ++ wsX40 ++ wsX30 ++ wsX20 ++ wsX10 ++ wsX00 ++ (vx_at0 RX5 85 "java/lang/IllegalArgumentException" ["java/lang/RuntimeException", "java/lang/Exception"]).filter goodWord ++ (vx_at0 RX5 127 "java/lang/IndexOutOfBoundsException" ["java/lang/RuntimeException", "java/lang/Exception"]).filter goodWord ++ (vx_at0 RX5 77 "java/lang/IllegalStateException" ["java/lang/RuntimeException", "java/lang/Exception"]).filter goodWord)
def wsL_toRead_r1 : List Cond := [Cond.classLink RL 14 "java/lang/IndexOutOfBoundsException", Cond.constantLong RL 16 (-9000000000000000), Cond.methodLink RL 37 yX5_toRead, Cond.instanceMethod yX5_toRead, Cond.selects RX5 yX5_toRead yX5_toRead, Cond.initialized RX5, Cond.code yX5_toRead cX5_toRead 4 (some .int), Cond.fieldLink RX5 10 "Particleway" "field" "LParticleway$Field;", Cond.methodLink RX5 59 yX5_checkCell, Cond.static yX5_checkCell, Cond.code yX5_checkCell cX5_checkCell 2 none, Cond.classLink RX5 125 "java/lang/IndexOutOfBoundsException", Cond.initialized "java/lang/IndexOutOfBoundsException", Cond.methodLink RX5 178 yX5_isInField, Cond.static yX5_isInField, Cond.code yX5_isInField cX5_isInField 2 (some .boolean), Cond.methodLink RX5 96 yX5_checkDirection, Cond.static yX5_checkDirection, Cond.code yX5_checkDirection cX5_checkDirection 1 none, Cond.methodLink RX5 182 yX5_isDirection, Cond.static yX5_isDirection, Cond.code yX5_isDirection cX5_isDirection 1 (some .boolean), Cond.methodLink RX5 63 yX5_numberOf, Cond.static yX5_numberOf]
def wsL_toRead_r2 : List Cond := [Cond.code yX5_numberOf cX5_numberOf 2 (some .int), Cond.methodLink RX5 116 yX3_stepsAhead, Cond.instanceMethod yX3_stepsAhead, Cond.selects RX3 yX3_stepsAhead yX3_stepsAhead, Cond.initialized RX3, Cond.code yX3_stepsAhead cX3_stepsAhead 3 (some .int), Cond.fieldLink RX3 15 "Particleway$Field" "ahead" "[I", Cond.static yX5_isCell, Cond.code yX5_isCell cX5_isCell 1 (some .boolean)]
def wsL_toRead : List Cond := .codeWith yL_toRead cL_toRead 5 (some .long) [(0, 8, 9, 14)] :: ((wsL_toRead_r1 ++ wsL_toRead_r2) ++ wsX50 ++ wsX30 ++ (vx_at0 RX5 127 "java/lang/IndexOutOfBoundsException" ["java/lang/RuntimeException", "java/lang/Exception"]).filter goodWord)
def wsL_samples : List Cond := .codeWith yL_samples cL_samples 2 (some .long) [(0, 5, 6, 18)] :: ([.classLink RL 18 "java/lang/IllegalStateException", .constantLong RL 16 (-9000000000000000), .methodLink RL 41 yX5_samples, .instanceMethod yX5_samples, .selects RX5 yX5_samples yX5_samples, .initialized RX5, .code yX5_samples cX5_samples 1 (some .int), .fieldLink RX5 28 "Particleway" "samples" "LParticleway$Samples;", .methodLink RX5 119 yX5_checkSpread, .instanceMethod yX5_checkSpread, .selects RX5 yX5_checkSpread yX5_checkSpread, .code yX5_checkSpread cX5_checkSpread 1 none, .classLink RX5 75 "java/lang/IllegalStateException", .initialized "java/lang/IllegalStateException", .fieldLink RX5 55 "Particleway" "isSpread" "Z", .methodLink RX5 122 yX4_size, .instanceMethod yX4_size, .selects RX4 yX4_size yX4_size, .initialized RX4, .code yX4_size cX4_size 1 (some .int), .fieldLink RX4 36 "Particleway$Samples" "many" "I"] ++ wsX50 ++ wsX40 ++ (vx_at0 RX5 77 "java/lang/IllegalStateException" ["java/lang/RuntimeException", "java/lang/Exception"]).filter goodWord)
def wsL_sample : List Cond := .codeWith yL_sample cL_sample 3 (some .long) [(0, 6, 7, 14)] :: ([.classLink RL 14 "java/lang/IndexOutOfBoundsException", .constantLong RL 16 (-9000000000000000), .methodLink RL 45 yX5_sample, .instanceMethod yX5_sample, .selects RX5 yX5_sample yX5_sample, .initialized RX5, .code yX5_sample cX5_sample 2 (some .int), .classLink RX5 125 "java/lang/IndexOutOfBoundsException", .initialized "java/lang/IndexOutOfBoundsException", .fieldLink RX5 28 "Particleway" "samples" "LParticleway$Samples;", .methodLink RX5 122 yX4_size, .instanceMethod yX4_size, .selects RX4 yX4_size yX4_size, .initialized RX4, .code yX4_size cX4_size 1 (some .int), .fieldLink RX4 36 "Particleway$Samples" "many" "I", .methodLink RX5 128 yX4_cellOf, .instanceMethod yX4_cellOf, .selects RX4 yX4_cellOf yX4_cellOf, .code yX4_cellOf cX4_cellOf 2 (some .int), .fieldLink RX4 19 "Particleway$Samples" "cells" "[I"] ++ wsX50 ++ wsX40 ++ (vx_at0 RX5 127 "java/lang/IndexOutOfBoundsException" ["java/lang/RuntimeException", "java/lang/Exception"]).filter goodWord)
def wsL_belief_r1 : List Cond := [Cond.classLink RL 14 "java/lang/IndexOutOfBoundsException", Cond.classLink RL 18 "java/lang/IllegalStateException", Cond.constantLong RL 16 (-9000000000000000), Cond.methodLink RL 51 yX5_belief, Cond.instanceMethod yX5_belief, Cond.selects RX5 yX5_belief yX5_belief, Cond.initialized RX5, Cond.code yX5_belief cX5_belief 3 (some .long), Cond.fieldLink RX5 37 "Particleway" "beliefs" "LParticleway$Beliefs;", Cond.methodLink RX5 59 yX5_checkCell, Cond.static yX5_checkCell, Cond.code yX5_checkCell cX5_checkCell 2 none, Cond.classLink RX5 125 "java/lang/IndexOutOfBoundsException", Cond.initialized "java/lang/IndexOutOfBoundsException", Cond.methodLink RX5 178 yX5_isInField, Cond.static yX5_isInField, Cond.code yX5_isInField cX5_isInField 2 (some .boolean), Cond.methodLink RX5 119 yX5_checkSpread, Cond.instanceMethod yX5_checkSpread, Cond.selects RX5 yX5_checkSpread yX5_checkSpread, Cond.code yX5_checkSpread cX5_checkSpread 1 none, Cond.classLink RX5 75 "java/lang/IllegalStateException", Cond.initialized "java/lang/IllegalStateException", Cond.fieldLink RX5 55 "Particleway" "isSpread" "Z"]
def wsL_belief_r2 : List Cond := [Cond.methodLink RX5 141 yX0_chart, Cond.instanceMethod yX0_chart, Cond.selects RX0 yX0_chart yX0_chart, Cond.initialized RX0, Cond.code yX0_chart cX0_chart 1 (some (.object "Particleway$Chart")), Cond.fieldLink RX0 18 "Particleway$Beliefs" "now" "LParticleway$Chart;", Cond.methodLink RX5 63 yX5_numberOf, Cond.static yX5_numberOf, Cond.code yX5_numberOf cX5_numberOf 2 (some .int), Cond.methodLink RX5 135 yX2_at, Cond.instanceMethod yX2_at, Cond.selects RX2 yX2_at yX2_at, Cond.initialized RX2, Cond.code yX2_at cX2_at 2 (some .long), Cond.fieldLink RX2 9 "Particleway$Chart" "numbers" "[J", Cond.static yX5_isCell, Cond.code yX5_isCell cX5_isCell 1 (some .boolean)]
def wsL_belief : List Cond := .codeWith yL_belief cL_belief 4 (some .long) [(0, 6, 7, 14), (0, 6, 12, 18)] :: ((wsL_belief_r1 ++ wsL_belief_r2) ++ wsX50 ++ wsX00 ++ wsX20 ++ (vx_at0 RX5 127 "java/lang/IndexOutOfBoundsException" ["java/lang/RuntimeException", "java/lang/Exception"]).filter goodWord ++ (vx_at0 RX5 77 "java/lang/IllegalStateException" ["java/lang/RuntimeException", "java/lang/Exception"]).filter goodWord)
def wsL_mode_r1 : List Cond := [Cond.classLink RL 18 "java/lang/IllegalStateException", Cond.constantLong RL 16 (-9000000000000000), Cond.methodLink RL 58 yX5_mode, Cond.instanceMethod yX5_mode, Cond.selects RX5 yX5_mode yX5_mode, Cond.initialized RX5, Cond.code yX5_mode cX5_mode 2 (some .int), Cond.methodLink RX5 119 yX5_checkSpread, Cond.instanceMethod yX5_checkSpread, Cond.selects RX5 yX5_checkSpread yX5_checkSpread, Cond.code yX5_checkSpread cX5_checkSpread 1 none, Cond.classLink RX5 75 "java/lang/IllegalStateException", Cond.initialized "java/lang/IllegalStateException", Cond.fieldLink RX5 55 "Particleway" "isSpread" "Z", Cond.methodLink RX5 145 yX5_chartOf, Cond.instanceMethod yX5_chartOf, Cond.selects RX5 yX5_chartOf yX5_chartOf, Cond.code yX5_chartOf cX5_chartOf 2 (some (.object "Particleway$Chart")), Cond.fieldLink RX5 28 "Particleway" "samples" "LParticleway$Samples;", Cond.fieldLink RX5 37 "Particleway" "beliefs" "LParticleway$Beliefs;", Cond.methodLink RX5 131 yX4_chart, Cond.instanceMethod yX4_chart, Cond.selects RX4 yX4_chart yX4_chart, Cond.initialized RX4]
def wsL_mode_r2 : List Cond := [Cond.code yX4_chart cX4_chart 2 (some (.object "Particleway$Chart")), Cond.fieldLink RX4 32 "Particleway$Samples" "counts" "LParticleway$Chart;", Cond.fieldLink RX4 36 "Particleway$Samples" "many" "I", Cond.fieldLink RX4 19 "Particleway$Samples" "cells" "[I", Cond.methodLink RX4 43 yX2_clear, Cond.instanceMethod yX2_clear, Cond.selects RX2 yX2_clear yX2_clear, Cond.initialized RX2, Cond.code yX2_clear cX2_clear 2 none, Cond.fieldLink RX2 9 "Particleway$Chart" "numbers" "[J", Cond.methodLink RX4 46 yX2_add, Cond.instanceMethod yX2_add, Cond.selects RX2 yX2_add yX2_add, Cond.code yX2_add cX2_add 4 none, Cond.static yX5_isCell, Cond.code yX5_isCell cX5_isCell 1 (some .boolean), Cond.methodLink RX5 141 yX0_chart, Cond.instanceMethod yX0_chart, Cond.selects RX0 yX0_chart yX0_chart, Cond.initialized RX0, Cond.code yX0_chart cX0_chart 1 (some (.object "Particleway$Chart")), Cond.fieldLink RX0 18 "Particleway$Beliefs" "now" "LParticleway$Chart;", Cond.methodLink RX5 149 yX2_greatestCell, Cond.instanceMethod yX2_greatestCell]
def wsL_mode_r3 : List Cond := [Cond.selects RX2 yX2_greatestCell yX2_greatestCell, Cond.code yX2_greatestCell cX2_greatestCell 4 (some .int), Cond.methodLink RX2 33 yX2_greatest, Cond.instanceMethod yX2_greatest, Cond.selects RX2 yX2_greatest yX2_greatest, Cond.code yX2_greatest cX2_greatest 4 (some .long), Cond.methodLink RX2 27 Lib.MathLoose.max_long.x, Cond.static Lib.MathLoose.max_long.x, Cond.initialized "java/lang/Math", Cond.code Lib.MathLoose.max_long.x Lib.MathLoose.max_long.code 4 (some .long)]
def wsL_mode : List Cond := .codeWith yL_mode cL_mode 3 (some .long) [(0, 6, 7, 18)] :: ((wsL_mode_r1 ++ (wsL_mode_r2 ++ wsL_mode_r3)) ++ wsX50 ++ wsX40 ++ wsX20 ++ wsX00 ++ (vx_at0 RX5 77 "java/lang/IllegalStateException" ["java/lang/RuntimeException", "java/lang/Exception"]).filter goodWord)
def wsL_mean_r1 : List Cond := [Cond.classLink RL 18 "java/lang/IllegalStateException", Cond.constantLong RL 16 (-9000000000000000), Cond.methodLink RL 62 yX5_mean, Cond.instanceMethod yX5_mean, Cond.selects RX5 yX5_mean yX5_mean, Cond.initialized RX5, Cond.code yX5_mean cX5_mean 4 (some .int), Cond.constantLong RX5 152 (100), Cond.methodLink RX5 119 yX5_checkSpread, Cond.instanceMethod yX5_checkSpread, Cond.selects RX5 yX5_checkSpread yX5_checkSpread, Cond.code yX5_checkSpread cX5_checkSpread 1 none, Cond.classLink RX5 75 "java/lang/IllegalStateException", Cond.initialized "java/lang/IllegalStateException", Cond.fieldLink RX5 55 "Particleway" "isSpread" "Z", Cond.methodLink RX5 145 yX5_chartOf, Cond.instanceMethod yX5_chartOf, Cond.selects RX5 yX5_chartOf yX5_chartOf, Cond.code yX5_chartOf cX5_chartOf 2 (some (.object "Particleway$Chart")), Cond.fieldLink RX5 28 "Particleway" "samples" "LParticleway$Samples;", Cond.fieldLink RX5 37 "Particleway" "beliefs" "LParticleway$Beliefs;", Cond.methodLink RX5 131 yX4_chart, Cond.instanceMethod yX4_chart, Cond.selects RX4 yX4_chart yX4_chart]
def wsL_mean_r2 : List Cond := [Cond.initialized RX4, Cond.code yX4_chart cX4_chart 2 (some (.object "Particleway$Chart")), Cond.fieldLink RX4 32 "Particleway$Samples" "counts" "LParticleway$Chart;", Cond.fieldLink RX4 36 "Particleway$Samples" "many" "I", Cond.fieldLink RX4 19 "Particleway$Samples" "cells" "[I", Cond.methodLink RX4 43 yX2_clear, Cond.instanceMethod yX2_clear, Cond.selects RX2 yX2_clear yX2_clear, Cond.initialized RX2, Cond.code yX2_clear cX2_clear 2 none, Cond.fieldLink RX2 9 "Particleway$Chart" "numbers" "[J", Cond.methodLink RX4 46 yX2_add, Cond.instanceMethod yX2_add, Cond.selects RX2 yX2_add yX2_add, Cond.code yX2_add cX2_add 4 none, Cond.static yX5_isCell, Cond.code yX5_isCell cX5_isCell 1 (some .boolean), Cond.methodLink RX5 141 yX0_chart, Cond.instanceMethod yX0_chart, Cond.selects RX0 yX0_chart yX0_chart, Cond.initialized RX0, Cond.code yX0_chart cX0_chart 1 (some (.object "Particleway$Chart")), Cond.fieldLink RX0 18 "Particleway$Beliefs" "now" "LParticleway$Chart;", Cond.methodLink RX5 154 yX2_coordinateSum]
def wsL_mean_r3 : List Cond := [Cond.instanceMethod yX2_coordinateSum, Cond.selects RX2 yX2_coordinateSum yX2_coordinateSum, Cond.code yX2_coordinateSum cX2_coordinateSum 5 (some .long), Cond.methodLink RX5 158 yX2_sum, Cond.instanceMethod yX2_sum, Cond.selects RX2 yX2_sum yX2_sum, Cond.code yX2_sum cX2_sum 1 (some .long), Cond.methodLink RX2 37 yX2_sumOf, Cond.instanceMethod yX2_sumOf, Cond.selects RX2 yX2_sumOf yX2_sumOf, Cond.code yX2_sumOf cX2_sumOf 10 (some .long), Cond.methodLink RX5 162 yX5_quotient, Cond.static yX5_quotient, Cond.code yX5_quotient cX5_quotient 4 (some .long)]
def wsL_mean : List Cond := .codeWith yL_mean cL_mean 4 (some .long) [(0, 7, 8, 18)] :: ((wsL_mean_r1 ++ (wsL_mean_r2 ++ wsL_mean_r3)) ++ wsX50 ++ wsX40 ++ wsX20 ++ wsX00 ++ (vx_at0 RX5 77 "java/lang/IllegalStateException" ["java/lang/RuntimeException", "java/lang/Exception"]).filter goodWord)
def wsL_share_r1 : List Cond := [Cond.classLink RL 14 "java/lang/IndexOutOfBoundsException", Cond.classLink RL 24 "java/lang/IllegalArgumentException", Cond.classLink RL 18 "java/lang/IllegalStateException", Cond.constantLong RL 16 (-9000000000000000), Cond.methodLink RL 66 yX5_share, Cond.instanceMethod yX5_share, Cond.selects RX5 yX5_share yX5_share, Cond.initialized RX5, Cond.code yX5_share cX5_share 7 (some .int), Cond.classLink RX5 83 "java/lang/IllegalArgumentException", Cond.initialized "java/lang/IllegalArgumentException", Cond.constantLong RX5 166 (1000), Cond.methodLink RX5 59 yX5_checkCell, Cond.static yX5_checkCell, Cond.code yX5_checkCell cX5_checkCell 2 none, Cond.classLink RX5 125 "java/lang/IndexOutOfBoundsException", Cond.initialized "java/lang/IndexOutOfBoundsException", Cond.methodLink RX5 178 yX5_isInField, Cond.static yX5_isInField, Cond.code yX5_isInField cX5_isInField 2 (some .boolean), Cond.methodLink RX5 119 yX5_checkSpread, Cond.instanceMethod yX5_checkSpread, Cond.selects RX5 yX5_checkSpread yX5_checkSpread, Cond.code yX5_checkSpread cX5_checkSpread 1 none]
def wsL_share_r2 : List Cond := [Cond.classLink RX5 75 "java/lang/IllegalStateException", Cond.initialized "java/lang/IllegalStateException", Cond.fieldLink RX5 55 "Particleway" "isSpread" "Z", Cond.methodLink RX5 145 yX5_chartOf, Cond.instanceMethod yX5_chartOf, Cond.selects RX5 yX5_chartOf yX5_chartOf, Cond.code yX5_chartOf cX5_chartOf 2 (some (.object "Particleway$Chart")), Cond.fieldLink RX5 28 "Particleway" "samples" "LParticleway$Samples;", Cond.fieldLink RX5 37 "Particleway" "beliefs" "LParticleway$Beliefs;", Cond.methodLink RX5 131 yX4_chart, Cond.instanceMethod yX4_chart, Cond.selects RX4 yX4_chart yX4_chart, Cond.initialized RX4, Cond.code yX4_chart cX4_chart 2 (some (.object "Particleway$Chart")), Cond.fieldLink RX4 32 "Particleway$Samples" "counts" "LParticleway$Chart;", Cond.fieldLink RX4 36 "Particleway$Samples" "many" "I", Cond.fieldLink RX4 19 "Particleway$Samples" "cells" "[I", Cond.methodLink RX4 43 yX2_clear, Cond.instanceMethod yX2_clear, Cond.selects RX2 yX2_clear yX2_clear, Cond.initialized RX2, Cond.code yX2_clear cX2_clear 2 none, Cond.fieldLink RX2 9 "Particleway$Chart" "numbers" "[J", Cond.methodLink RX4 46 yX2_add]
def wsL_share_r3 : List Cond := [Cond.instanceMethod yX2_add, Cond.selects RX2 yX2_add yX2_add, Cond.code yX2_add cX2_add 4 none, Cond.static yX5_isCell, Cond.code yX5_isCell cX5_isCell 1 (some .boolean), Cond.methodLink RX5 141 yX0_chart, Cond.instanceMethod yX0_chart, Cond.selects RX0 yX0_chart yX0_chart, Cond.initialized RX0, Cond.code yX0_chart cX0_chart 1 (some (.object "Particleway$Chart")), Cond.fieldLink RX0 18 "Particleway$Beliefs" "now" "LParticleway$Chart;", Cond.methodLink RX5 168 yX2_sumOf, Cond.instanceMethod yX2_sumOf, Cond.selects RX2 yX2_sumOf yX2_sumOf, Cond.code yX2_sumOf cX2_sumOf 10 (some .long), Cond.methodLink RX5 158 yX2_sum, Cond.instanceMethod yX2_sum, Cond.selects RX2 yX2_sum yX2_sum, Cond.code yX2_sum cX2_sum 1 (some .long), Cond.methodLink RX2 37 yX2_sumOf, Cond.methodLink RX5 162 yX5_quotient, Cond.static yX5_quotient, Cond.code yX5_quotient cX5_quotient 4 (some .long)]
def wsL_share : List Cond := .codeWith yL_share cL_share 7 (some .long) [(0, 12, 13, 14), (0, 12, 19, 24), (0, 12, 25, 18)] :: ((wsL_share_r1 ++ (wsL_share_r2 ++ wsL_share_r3)) ++ wsX50 ++ wsX40 ++ wsX20 ++ wsX00 ++ (vx_at0 RX5 85 "java/lang/IllegalArgumentException" ["java/lang/RuntimeException", "java/lang/Exception"]).filter goodWord ++ (vx_at0 RX5 127 "java/lang/IndexOutOfBoundsException" ["java/lang/RuntimeException", "java/lang/Exception"]).filter goodWord ++ (vx_at0 RX5 77 "java/lang/IllegalStateException" ["java/lang/RuntimeException", "java/lang/Exception"]).filter goodWord)
def wsL_best_r1 : List Cond := [Cond.classLink RL 14 "java/lang/IndexOutOfBoundsException", Cond.classLink RL 18 "java/lang/IllegalStateException", Cond.constantLong RL 16 (-9000000000000000), Cond.methodLink RL 70 yX5_best, Cond.instanceMethod yX5_best, Cond.selects RX5 yX5_best yX5_best, Cond.initialized RX5, Cond.code yX5_best cX5_best 2 (some .int), Cond.classLink RX5 125 "java/lang/IndexOutOfBoundsException", Cond.initialized "java/lang/IndexOutOfBoundsException", Cond.fieldLink RX5 37 "Particleway" "beliefs" "LParticleway$Beliefs;", Cond.methodLink RX5 119 yX5_checkSpread, Cond.instanceMethod yX5_checkSpread, Cond.selects RX5 yX5_checkSpread yX5_checkSpread, Cond.code yX5_checkSpread cX5_checkSpread 1 none, Cond.classLink RX5 75 "java/lang/IllegalStateException", Cond.initialized "java/lang/IllegalStateException", Cond.fieldLink RX5 55 "Particleway" "isSpread" "Z", Cond.methodLink RX5 141 yX0_chart, Cond.instanceMethod yX0_chart, Cond.selects RX0 yX0_chart yX0_chart, Cond.initialized RX0, Cond.code yX0_chart cX0_chart 1 (some (.object "Particleway$Chart")), Cond.fieldLink RX0 18 "Particleway$Beliefs" "now" "LParticleway$Chart;"]
def wsL_best_r2 : List Cond := [Cond.methodLink RX5 172 yX2_cellAtPlace, Cond.instanceMethod yX2_cellAtPlace, Cond.selects RX2 yX2_cellAtPlace yX2_cellAtPlace, Cond.initialized RX2, Cond.code yX2_cellAtPlace cX2_cellAtPlace 3 (some .int), Cond.fieldLink RX2 9 "Particleway$Chart" "numbers" "[J", Cond.methodLink RX2 41 yX2_placeOf, Cond.instanceMethod yX2_placeOf, Cond.selects RX2 yX2_placeOf yX2_placeOf, Cond.code yX2_placeOf cX2_placeOf 5 (some .int), Cond.methodLink RX2 45 yX2_at, Cond.instanceMethod yX2_at, Cond.selects RX2 yX2_at yX2_at, Cond.code yX2_at cX2_at 2 (some .long), Cond.static yX5_isCell, Cond.code yX5_isCell cX5_isCell 1 (some .boolean)]
def wsL_best : List Cond := .codeWith yL_best cL_best 3 (some .long) [(0, 6, 7, 14), (0, 6, 12, 18)] :: ((wsL_best_r1 ++ wsL_best_r2) ++ wsX50 ++ wsX00 ++ wsX20 ++ (vx_at0 RX5 127 "java/lang/IndexOutOfBoundsException" ["java/lang/RuntimeException", "java/lang/Exception"]).filter goodWord ++ (vx_at0 RX5 77 "java/lang/IllegalStateException" ["java/lang/RuntimeException", "java/lang/Exception"]).filter goodWord)
def wsL_doubt : List Cond := .codeWith yL_doubt cL_doubt 2 (some .long) [(0, 5, 6, 18)] :: ([.classLink RL 18 "java/lang/IllegalStateException", .constantLong RL 16 (-9000000000000000), .methodLink RL 73 yX5_doubt, .instanceMethod yX5_doubt, .selects RX5 yX5_doubt yX5_doubt, .initialized RX5, .code yX5_doubt cX5_doubt 1 (some .int), .fieldLink RX5 28 "Particleway" "samples" "LParticleway$Samples;", .methodLink RX5 119 yX5_checkSpread, .instanceMethod yX5_checkSpread, .selects RX5 yX5_checkSpread yX5_checkSpread, .code yX5_checkSpread cX5_checkSpread 1 none, .classLink RX5 75 "java/lang/IllegalStateException", .initialized "java/lang/IllegalStateException", .fieldLink RX5 55 "Particleway" "isSpread" "Z", .methodLink RX5 175 yX4_lastDoubt, .instanceMethod yX4_lastDoubt, .selects RX4 yX4_lastDoubt yX4_lastDoubt, .initialized RX4, .code yX4_lastDoubt cX4_lastDoubt 1 (some .int), .fieldLink RX4 40 "Particleway$Samples" "doubt" "I"] ++ wsX50 ++ wsX40 ++ (vx_at0 RX5 77 "java/lang/IllegalStateException" ["java/lang/RuntimeException", "java/lang/Exception"]).filter goodWord)
def wsL_act_r1 : List Cond := [Cond.constant RL 84 (65536), Cond.methodLink RL 76 yL_low, Cond.static yL_low, Cond.initialized RL, Cond.code yL_low cL_low 2 (some .int), Cond.constant RL 7 (2147483647), Cond.methodLink RL 81 yL_wall, Cond.static yL_wall, Cond.codeWith yL_wall cL_wall 5 (some .long) [(0, 15, 16, 14), (0, 15, 22, 18)], Cond.classLink RL 14 "java/lang/IndexOutOfBoundsException", Cond.classLink RL 18 "java/lang/IllegalStateException", Cond.constantLong RL 16 (-9000000000000000), Cond.methodLink RL 8 yX5_wall, Cond.instanceMethod yX5_wall, Cond.selects RX5 yX5_wall yX5_wall, Cond.initialized RX5, Cond.code yX5_wall cX5_wall 7 (some .boolean), Cond.classLink RX5 75 "java/lang/IllegalStateException", Cond.initialized "java/lang/IllegalStateException", Cond.fieldLink RX5 10 "Particleway" "field" "LParticleway$Field;", Cond.fieldLink RX5 55 "Particleway" "isSpread" "Z", Cond.methodLink RX5 59 yX5_checkCell, Cond.static yX5_checkCell, Cond.code yX5_checkCell cX5_checkCell 2 none]
def wsL_act_r2 : List Cond := [Cond.classLink RX5 125 "java/lang/IndexOutOfBoundsException", Cond.initialized "java/lang/IndexOutOfBoundsException", Cond.methodLink RX5 178 yX5_isInField, Cond.static yX5_isInField, Cond.code yX5_isInField cX5_isInField 2 (some .boolean), Cond.methodLink RX5 63 yX5_numberOf, Cond.static yX5_numberOf, Cond.code yX5_numberOf cX5_numberOf 2 (some .int), Cond.methodLink RX5 67 yX3_isFree, Cond.instanceMethod yX3_isFree, Cond.selects RX3 yX3_isFree yX3_isFree, Cond.initialized RX3, Cond.code yX3_isFree cX3_isFree 2 (some .boolean), Cond.fieldLink RX3 9 "Particleway$Field" "walls" "[Z", Cond.static yX5_isCell, Cond.code yX5_isCell cX5_isCell 1 (some .boolean), Cond.methodLink RX5 71 yX3_freeCells, Cond.instanceMethod yX3_freeCells, Cond.selects RX3 yX3_freeCells yX3_freeCells, Cond.code yX3_freeCells cX3_freeCells 1 (some .int), Cond.fieldLink RX3 26 "Particleway$Field" "free" "I", Cond.methodLink RX5 78 yX3_build, Cond.instanceMethod yX3_build, Cond.selects RX3 yX3_build yX3_build]
def wsL_act_r3 : List Cond := [Cond.code yX3_build cX3_build 3 none, Cond.methodLink RX3 19 yX3_measure, Cond.instanceMethod yX3_measure, Cond.selects RX3 yX3_measure yX3_measure, Cond.code yX3_measure cX3_measure 3 none, Cond.fieldLink RX3 15 "Particleway$Field" "ahead" "[I", Cond.methodLink RX3 68 yX3_countedSteps, Cond.instanceMethod yX3_countedSteps, Cond.selects RX3 yX3_countedSteps yX3_countedSteps, Cond.code yX3_countedSteps cX3_countedSteps 4 (some .int), Cond.methodLink RX3 48 yX3_shifted, Cond.static yX3_shifted, Cond.code yX3_shifted cX3_shifted 5 (some .int), Cond.fieldLink RX3 55 "Particleway$Field" "STEP_X" "[I", Cond.fieldLink RX3 58 "Particleway$Field" "STEP_Y" "[I", Cond.static yX5_isDirection, Cond.code yX5_isDirection cX5_isDirection 1 (some .boolean), Cond.methodLink RX3 71 yX3_isFree, Cond.methodLink RL 85 yL_draw, Cond.static yL_draw, Cond.codeWith yL_draw cL_draw 3 (some .long) [(0, 6, 7, 24)], Cond.classLink RL 24 "java/lang/IllegalArgumentException", Cond.methodLink RL 20 yX5_draw, Cond.instanceMethod yX5_draw]
def wsL_act_r4 : List Cond := [Cond.selects RX5 yX5_draw yX5_draw, Cond.code yX5_draw cX5_draw 2 (some .int), Cond.classLink RX5 83 "java/lang/IllegalArgumentException", Cond.initialized "java/lang/IllegalArgumentException", Cond.constant RX5 82 (65536), Cond.fieldLink RX5 19 "Particleway" "chance" "LParticleway$Chance;", Cond.methodLink RX5 86 yX1_change, Cond.instanceMethod yX1_change, Cond.selects RX1 yX1_change yX1_change, Cond.initialized RX1, Cond.code yX1_change cX1_change 3 (some .int), Cond.fieldLink RX1 7 "Particleway$Chance" "x" "I", Cond.methodLink RL 88 yL_spread, Cond.static yL_spread, Cond.codeWith yL_spread cL_spread 3 (some .long) [(0, 6, 7, 24)], Cond.methodLink RL 26 yX5_spread, Cond.instanceMethod yX5_spread, Cond.selects RX5 yX5_spread yX5_spread, Cond.code yX5_spread cX5_spread 2 none, Cond.fieldLink RX5 28 "Particleway" "samples" "LParticleway$Samples;", Cond.fieldLink RX5 37 "Particleway" "beliefs" "LParticleway$Beliefs;", Cond.fieldLink RX5 51 "Particleway" "told" "I", Cond.methodLink RX5 90 yX4_begin, Cond.instanceMethod yX4_begin]
def wsL_act_r5 : List Cond := [Cond.selects RX4 yX4_begin yX4_begin, Cond.initialized RX4, Cond.code yX4_begin cX4_begin 3 none, Cond.fieldLink RX4 36 "Particleway$Samples" "many" "I", Cond.fieldLink RX4 19 "Particleway$Samples" "cells" "[I", Cond.fieldLink RX4 9 "Particleway$Samples" "field" "LParticleway$Field;", Cond.fieldLink RX4 15 "Particleway$Samples" "chance" "LParticleway$Chance;", Cond.fieldLink RX4 56 "Particleway$Samples" "isRead" "Z", Cond.fieldLink RX4 60 "Particleway$Samples" "slow" "I", Cond.fieldLink RX4 63 "Particleway$Samples" "fast" "I", Cond.fieldLink RX4 40 "Particleway$Samples" "doubt" "I", Cond.methodLink RX4 50 yX3_drawnCell, Cond.instanceMethod yX3_drawnCell, Cond.selects RX3 yX3_drawnCell yX3_drawnCell, Cond.code yX3_drawnCell cX3_drawnCell 4 (some .int), Cond.methodLink RX3 30 yX1_remainder, Cond.instanceMethod yX1_remainder, Cond.selects RX1 yX1_remainder yX1_remainder, Cond.code yX1_remainder cX1_remainder 2 (some .int), Cond.constant RX1 13 (65537), Cond.methodLink RX5 94 yX0_begin, Cond.instanceMethod yX0_begin, Cond.selects RX0 yX0_begin yX0_begin, Cond.initialized RX0]
def wsL_act_r6 : List Cond := [Cond.code yX0_begin cX0_begin 2 none, Cond.fieldLink RX0 18 "Particleway$Beliefs" "now" "LParticleway$Chart;", Cond.fieldLink RX0 9 "Particleway$Beliefs" "field" "LParticleway$Field;", Cond.methodLink RX0 25 yX3_isFree, Cond.methodLink RX0 31 yX2_put, Cond.instanceMethod yX2_put, Cond.selects RX2 yX2_put yX2_put, Cond.initialized RX2, Cond.code yX2_put cX2_put 4 none, Cond.fieldLink RX2 9 "Particleway$Chart" "numbers" "[J", Cond.methodLink RL 90 yL_drive, Cond.static yL_drive, Cond.codeWith yL_drive cL_drive 3 (some .long) [(0, 6, 7, 14), (0, 6, 12, 18)], Cond.methodLink RL 30 yX5_drive, Cond.instanceMethod yX5_drive, Cond.selects RX5 yX5_drive yX5_drive, Cond.code yX5_drive cX5_drive 2 none, Cond.methodLink RX5 96 yX5_checkDirection, Cond.static yX5_checkDirection, Cond.code yX5_checkDirection cX5_checkDirection 1 none, Cond.methodLink RX5 182 yX5_isDirection, Cond.methodLink RX5 99 yX5_checkMayTell, Cond.instanceMethod yX5_checkMayTell, Cond.selects RX5 yX5_checkMayTell yX5_checkMayTell]
def wsL_act_r7 : List Cond := [Cond.code yX5_checkMayTell cX5_checkMayTell 1 none, Cond.methodLink RX5 102 yX4_move, Cond.instanceMethod yX4_move, Cond.selects RX4 yX4_move yX4_move, Cond.code yX4_move cX4_move 3 none, Cond.methodLink RX4 66 yX4_drawnSteps, Cond.instanceMethod yX4_drawnSteps, Cond.selects RX4 yX4_drawnSteps yX4_drawnSteps, Cond.code yX4_drawnSteps cX4_drawnSteps 2 (some .int), Cond.methodLink RX4 74 yX1_remainder, Cond.methodLink RX4 70 yX3_led, Cond.instanceMethod yX3_led, Cond.selects RX3 yX3_led yX3_led, Cond.code yX3_led cX3_led 4 (some .int), Cond.methodLink RX3 43 Lib.Math.min.name, Cond.static Lib.Math.min.name, Cond.initialized "java/lang/Math", Cond.code Lib.Math.min.name Lib.Math.min.code 2 (some .int), Cond.methodLink RX3 39 yX3_stepsAhead, Cond.instanceMethod yX3_stepsAhead, Cond.selects RX3 yX3_stepsAhead yX3_stepsAhead, Cond.code yX3_stepsAhead cX3_stepsAhead 3 (some .int), Cond.methodLink RX5 105 yX0_push, Cond.instanceMethod yX0_push]
def wsL_act_r8 : List Cond := [Cond.selects RX0 yX0_push yX0_push, Cond.code yX0_push cX0_push 3 none, Cond.fieldLink RX0 22 "Particleway$Beliefs" "before" "LParticleway$Chart;", Cond.constantLong RX0 42 (3), Cond.constantLong RX0 55 (12), Cond.methodLink RX0 35 yX2_copy, Cond.instanceMethod yX2_copy, Cond.selects RX2 yX2_copy yX2_copy, Cond.code yX2_copy cX2_copy 2 none, Cond.methodLink RX2 21 arraycopyName, Cond.native arraycopyName, Cond.static arraycopyName, Cond.initialized "java/lang/System", Cond.methodLink RX0 39 yX2_clear, Cond.instanceMethod yX2_clear, Cond.selects RX2 yX2_clear yX2_clear, Cond.code yX2_clear cX2_clear 2 none, Cond.methodLink RX0 44 yX2_at, Cond.instanceMethod yX2_at, Cond.selects RX2 yX2_at yX2_at, Cond.code yX2_at cX2_at 2 (some .long), Cond.methodLink RX0 48 yX2_add, Cond.instanceMethod yX2_add, Cond.selects RX2 yX2_add yX2_add]
def wsL_act_r9 : List Cond := [Cond.code yX2_add cX2_add 4 none, Cond.methodLink RX0 51 yX3_led, Cond.methodLink RX0 57 yX0_halveGreat, Cond.instanceMethod yX0_halveGreat, Cond.selects RX0 yX0_halveGreat yX0_halveGreat, Cond.code yX0_halveGreat cX0_halveGreat 2 none, Cond.constantLong RX0 77 (1099511627776), Cond.methodLink RX0 70 yX2_greatest, Cond.instanceMethod yX2_greatest, Cond.selects RX2 yX2_greatest yX2_greatest, Cond.code yX2_greatest cX2_greatest 4 (some .long), Cond.methodLink RX2 27 Lib.MathLoose.max_long.x, Cond.static Lib.MathLoose.max_long.x, Cond.code Lib.MathLoose.max_long.x Lib.MathLoose.max_long.code 4 (some .long), Cond.methodLink RX0 79 yX2_halve, Cond.instanceMethod yX2_halve, Cond.selects RX2 yX2_halve yX2_halve, Cond.code yX2_halve cX2_halve 2 none, Cond.constantLong RX2 19 (2), Cond.methodLink RX5 108 yX5_keep, Cond.instanceMethod yX5_keep, Cond.selects RX5 yX5_keep yX5_keep, Cond.code yX5_keep cX5_keep 3 none, Cond.fieldLink RX5 44 "Particleway" "toldDirections" "[I"]
def wsL_act_r10 : List Cond := [Cond.fieldLink RX5 48 "Particleway" "toldReadings" "[I", Cond.methodLink RL 92 yL_read, Cond.static yL_read, Cond.codeWith yL_read cL_read 4 (some .long) [(0, 7, 8, 14), (0, 7, 13, 24), (0, 7, 18, 18)], Cond.methodLink RL 33 yX5_read, Cond.instanceMethod yX5_read, Cond.selects RX5 yX5_read yX5_read, Cond.code yX5_read cX5_read 4 (some .int), Cond.methodLink RX5 111 yX4_weigh, Cond.instanceMethod yX4_weigh, Cond.selects RX4 yX4_weigh yX4_weigh, Cond.code yX4_weigh cX4_weigh 5 (some .int), Cond.fieldLink RX4 26 "Particleway$Samples" "weights" "[I", Cond.methodLink RX4 80 yX3_weight, Cond.instanceMethod yX3_weight, Cond.selects RX3 yX3_weight yX3_weight, Cond.code yX3_weight cX3_weight 4 (some .int), Cond.methodLink RX3 52 Lib.Math.abs.name, Cond.static Lib.Math.abs.name, Cond.code Lib.Math.abs.name Lib.Math.abs.code 1 (some .int), Cond.static yX5_quotient, Cond.code yX5_quotient cX5_quotient 4 (some .long), Cond.methodLink RX4 87 yX4_compareFit, Cond.instanceMethod yX4_compareFit]
def wsL_act_r11 : List Cond := [Cond.selects RX4 yX4_compareFit yX4_compareFit, Cond.code yX4_compareFit cX4_compareFit 2 none, Cond.methodLink RX4 99 Lib.Math.max.name, Cond.static Lib.Math.max.name, Cond.code Lib.Math.max.name Lib.Math.max.code 2 (some .int), Cond.methodLink RX4 91 yX4_manyAnew, Cond.instanceMethod yX4_manyAnew, Cond.selects RX4 yX4_manyAnew yX4_manyAnew, Cond.code yX4_manyAnew cX4_manyAnew 6 (some .int), Cond.methodLink RX4 112 Lib.Math.min.name, Cond.methodLink RX4 104 yX4_chart, Cond.instanceMethod yX4_chart, Cond.selects RX4 yX4_chart yX4_chart, Cond.code yX4_chart cX4_chart 2 (some (.object "Particleway$Chart")), Cond.fieldLink RX4 32 "Particleway$Samples" "counts" "LParticleway$Chart;", Cond.methodLink RX4 43 yX2_clear, Cond.methodLink RX4 46 yX2_add, Cond.methodLink RX4 108 yX2_at, Cond.methodLink RX4 95 yX4_drawAnew, Cond.instanceMethod yX4_drawAnew, Cond.selects RX4 yX4_drawAnew yX4_drawAnew, Cond.code yX4_drawAnew cX4_drawAnew 6 none, Cond.fieldLink RX4 23 "Particleway$Samples" "oldCells" "[I", Cond.methodLink RX4 115 arraycopyName]
def wsL_act_r12 : List Cond := [Cond.methodLink RX4 121 yX4_oldCellBeyond, Cond.instanceMethod yX4_oldCellBeyond, Cond.selects RX4 yX4_oldCellBeyond yX4_oldCellBeyond, Cond.code yX4_oldCellBeyond cX4_oldCellBeyond 5 (some .int), Cond.methodLink RX5 114 yX0_weigh, Cond.instanceMethod yX0_weigh, Cond.selects RX0 yX0_weigh yX0_weigh, Cond.code yX0_weigh cX0_weigh 4 none, Cond.methodLink RX0 67 yX3_weight, Cond.methodLink RX0 74 yX0_begin, Cond.methodLink RL 95 yL_toRead, Cond.static yL_toRead, Cond.codeWith yL_toRead cL_toRead 5 (some .long) [(0, 8, 9, 14)], Cond.methodLink RL 37 yX5_toRead, Cond.instanceMethod yX5_toRead, Cond.selects RX5 yX5_toRead yX5_toRead, Cond.code yX5_toRead cX5_toRead 4 (some .int), Cond.methodLink RX5 116 yX3_stepsAhead, Cond.methodLink RL 98 yL_sample, Cond.static yL_sample, Cond.codeWith yL_sample cL_sample 3 (some .long) [(0, 6, 7, 14)], Cond.methodLink RL 45 yX5_sample, Cond.instanceMethod yX5_sample, Cond.selects RX5 yX5_sample yX5_sample]
def wsL_act_r13 : List Cond := [Cond.code yX5_sample cX5_sample 2 (some .int), Cond.methodLink RX5 122 yX4_size, Cond.instanceMethod yX4_size, Cond.selects RX4 yX4_size yX4_size, Cond.code yX4_size cX4_size 1 (some .int), Cond.methodLink RX5 128 yX4_cellOf, Cond.instanceMethod yX4_cellOf, Cond.selects RX4 yX4_cellOf yX4_cellOf, Cond.code yX4_cellOf cX4_cellOf 2 (some .int), Cond.methodLink RL 100 yL_mode, Cond.static yL_mode, Cond.codeWith yL_mode cL_mode 3 (some .long) [(0, 6, 7, 18)], Cond.methodLink RL 58 yX5_mode, Cond.instanceMethod yX5_mode, Cond.selects RX5 yX5_mode yX5_mode, Cond.code yX5_mode cX5_mode 2 (some .int), Cond.methodLink RX5 119 yX5_checkSpread, Cond.instanceMethod yX5_checkSpread, Cond.selects RX5 yX5_checkSpread yX5_checkSpread, Cond.code yX5_checkSpread cX5_checkSpread 1 none, Cond.methodLink RX5 145 yX5_chartOf, Cond.instanceMethod yX5_chartOf, Cond.selects RX5 yX5_chartOf yX5_chartOf, Cond.code yX5_chartOf cX5_chartOf 2 (some (.object "Particleway$Chart"))]
def wsL_act_r14 : List Cond := [Cond.methodLink RX5 131 yX4_chart, Cond.methodLink RX5 141 yX0_chart, Cond.instanceMethod yX0_chart, Cond.selects RX0 yX0_chart yX0_chart, Cond.code yX0_chart cX0_chart 1 (some (.object "Particleway$Chart")), Cond.methodLink RX5 149 yX2_greatestCell, Cond.instanceMethod yX2_greatestCell, Cond.selects RX2 yX2_greatestCell yX2_greatestCell, Cond.code yX2_greatestCell cX2_greatestCell 4 (some .int), Cond.methodLink RX2 33 yX2_greatest, Cond.methodLink RL 103 yL_mean, Cond.static yL_mean, Cond.codeWith yL_mean cL_mean 4 (some .long) [(0, 7, 8, 18)], Cond.methodLink RL 62 yX5_mean, Cond.instanceMethod yX5_mean, Cond.selects RX5 yX5_mean yX5_mean, Cond.code yX5_mean cX5_mean 4 (some .int), Cond.constantLong RX5 152 (100), Cond.methodLink RX5 154 yX2_coordinateSum, Cond.instanceMethod yX2_coordinateSum, Cond.selects RX2 yX2_coordinateSum yX2_coordinateSum, Cond.code yX2_coordinateSum cX2_coordinateSum 5 (some .long), Cond.methodLink RX5 158 yX2_sum, Cond.instanceMethod yX2_sum]
def wsL_act_r15 : List Cond := [Cond.selects RX2 yX2_sum yX2_sum, Cond.code yX2_sum cX2_sum 1 (some .long), Cond.methodLink RX2 37 yX2_sumOf, Cond.instanceMethod yX2_sumOf, Cond.selects RX2 yX2_sumOf yX2_sumOf, Cond.code yX2_sumOf cX2_sumOf 10 (some .long), Cond.methodLink RX5 162 yX5_quotient, Cond.methodLink RL 106 yL_share, Cond.static yL_share, Cond.codeWith yL_share cL_share 7 (some .long) [(0, 12, 13, 14), (0, 12, 19, 24), (0, 12, 25, 18)], Cond.methodLink RL 66 yX5_share, Cond.instanceMethod yX5_share, Cond.selects RX5 yX5_share yX5_share, Cond.code yX5_share cX5_share 7 (some .int), Cond.constantLong RX5 166 (1000), Cond.methodLink RX5 168 yX2_sumOf, Cond.methodLink RL 109 yL_best, Cond.static yL_best, Cond.codeWith yL_best cL_best 3 (some .long) [(0, 6, 7, 14), (0, 6, 12, 18)], Cond.methodLink RL 70 yX5_best, Cond.instanceMethod yX5_best, Cond.selects RX5 yX5_best yX5_best, Cond.code yX5_best cX5_best 2 (some .int), Cond.methodLink RX5 172 yX2_cellAtPlace]
def wsL_act_r16 : List Cond := [Cond.instanceMethod yX2_cellAtPlace, Cond.selects RX2 yX2_cellAtPlace yX2_cellAtPlace, Cond.code yX2_cellAtPlace cX2_cellAtPlace 3 (some .int), Cond.methodLink RX2 41 yX2_placeOf, Cond.instanceMethod yX2_placeOf, Cond.selects RX2 yX2_placeOf yX2_placeOf, Cond.code yX2_placeOf cX2_placeOf 5 (some .int), Cond.methodLink RX2 45 yX2_at, Cond.methodLink RL 111 yL_doubt, Cond.static yL_doubt, Cond.codeWith yL_doubt cL_doubt 2 (some .long) [(0, 5, 6, 18)], Cond.methodLink RL 73 yX5_doubt, Cond.instanceMethod yX5_doubt, Cond.selects RX5 yX5_doubt yX5_doubt, Cond.code yX5_doubt cX5_doubt 1 (some .int), Cond.methodLink RX5 175 yX4_lastDoubt, Cond.instanceMethod yX4_lastDoubt, Cond.selects RX4 yX4_lastDoubt yX4_lastDoubt, Cond.code yX4_lastDoubt cX4_lastDoubt 1 (some .int), Cond.methodLink RL 114 yL_belief, Cond.static yL_belief, Cond.codeWith yL_belief cL_belief 4 (some .long) [(0, 6, 7, 14), (0, 6, 12, 18)], Cond.methodLink RL 51 yX5_belief, Cond.instanceMethod yX5_belief]
def wsL_act_r17 : List Cond := [Cond.selects RX5 yX5_belief yX5_belief, Cond.code yX5_belief cX5_belief 3 (some .long), Cond.methodLink RX5 135 yX2_at]
def wsL_act : List Cond := .code yL_act cL_act 8 (some .long) :: ((wsL_act_r1 ++ (wsL_act_r2 ++ (wsL_act_r3 ++ (wsL_act_r4 ++ (wsL_act_r5 ++ (wsL_act_r6 ++ (wsL_act_r7 ++ (wsL_act_r8 ++ (wsL_act_r9 ++ (wsL_act_r10 ++ (wsL_act_r11 ++ (wsL_act_r12 ++ (wsL_act_r13 ++ (wsL_act_r14 ++ (wsL_act_r15 ++ (wsL_act_r16 ++ wsL_act_r17)))))))))))))))) ++ wsX50 ++ wsX30 ++ wsX10 ++ wsX40 ++ wsX00 ++ wsX20 ++ (vx_at0 RX5 77 "java/lang/IllegalStateException" ["java/lang/RuntimeException", "java/lang/Exception"]).filter goodWord ++ (vx_at0 RX5 127 "java/lang/IndexOutOfBoundsException" ["java/lang/RuntimeException", "java/lang/Exception"]).filter goodWord ++ (vx_at0 RX5 85 "java/lang/IllegalArgumentException" ["java/lang/RuntimeException", "java/lang/Exception"]).filter goodWord)
def wsL_areAlike_r1 : List Cond := [Cond.methodLink RL 116 yL_samples, Cond.static yL_samples, Cond.initialized RL, Cond.codeWith yL_samples cL_samples 2 (some .long) [(0, 5, 6, 18)], Cond.classLink RL 18 "java/lang/IllegalStateException", Cond.constantLong RL 16 (-9000000000000000), Cond.methodLink RL 41 yX5_samples, Cond.instanceMethod yX5_samples, Cond.selects RX5 yX5_samples yX5_samples, Cond.initialized RX5, Cond.code yX5_samples cX5_samples 1 (some .int), Cond.fieldLink RX5 28 "Particleway" "samples" "LParticleway$Samples;", Cond.methodLink RX5 119 yX5_checkSpread, Cond.instanceMethod yX5_checkSpread, Cond.selects RX5 yX5_checkSpread yX5_checkSpread, Cond.code yX5_checkSpread cX5_checkSpread 1 none, Cond.classLink RX5 75 "java/lang/IllegalStateException", Cond.initialized "java/lang/IllegalStateException", Cond.fieldLink RX5 55 "Particleway" "isSpread" "Z", Cond.methodLink RX5 122 yX4_size, Cond.instanceMethod yX4_size, Cond.selects RX4 yX4_size yX4_size, Cond.initialized RX4, Cond.code yX4_size cX4_size 1 (some .int)]
def wsL_areAlike_r2 : List Cond := [Cond.fieldLink RX4 36 "Particleway$Samples" "many" "I", Cond.methodLink RL 111 yL_doubt, Cond.static yL_doubt, Cond.codeWith yL_doubt cL_doubt 2 (some .long) [(0, 5, 6, 18)], Cond.methodLink RL 73 yX5_doubt, Cond.instanceMethod yX5_doubt, Cond.selects RX5 yX5_doubt yX5_doubt, Cond.code yX5_doubt cX5_doubt 1 (some .int), Cond.methodLink RX5 175 yX4_lastDoubt, Cond.instanceMethod yX4_lastDoubt, Cond.selects RX4 yX4_lastDoubt yX4_lastDoubt, Cond.code yX4_lastDoubt cX4_lastDoubt 1 (some .int), Cond.fieldLink RX4 40 "Particleway$Samples" "doubt" "I", Cond.methodLink RL 100 yL_mode, Cond.static yL_mode, Cond.codeWith yL_mode cL_mode 3 (some .long) [(0, 6, 7, 18)], Cond.methodLink RL 58 yX5_mode, Cond.instanceMethod yX5_mode, Cond.selects RX5 yX5_mode yX5_mode, Cond.code yX5_mode cX5_mode 2 (some .int), Cond.methodLink RX5 145 yX5_chartOf, Cond.instanceMethod yX5_chartOf, Cond.selects RX5 yX5_chartOf yX5_chartOf, Cond.code yX5_chartOf cX5_chartOf 2 (some (.object "Particleway$Chart"))]
def wsL_areAlike_r3 : List Cond := [Cond.fieldLink RX5 37 "Particleway" "beliefs" "LParticleway$Beliefs;", Cond.methodLink RX5 131 yX4_chart, Cond.instanceMethod yX4_chart, Cond.selects RX4 yX4_chart yX4_chart, Cond.code yX4_chart cX4_chart 2 (some (.object "Particleway$Chart")), Cond.fieldLink RX4 32 "Particleway$Samples" "counts" "LParticleway$Chart;", Cond.fieldLink RX4 19 "Particleway$Samples" "cells" "[I", Cond.methodLink RX4 43 yX2_clear, Cond.instanceMethod yX2_clear, Cond.selects RX2 yX2_clear yX2_clear, Cond.initialized RX2, Cond.code yX2_clear cX2_clear 2 none, Cond.fieldLink RX2 9 "Particleway$Chart" "numbers" "[J", Cond.methodLink RX4 46 yX2_add, Cond.instanceMethod yX2_add, Cond.selects RX2 yX2_add yX2_add, Cond.code yX2_add cX2_add 4 none, Cond.static yX5_isCell, Cond.code yX5_isCell cX5_isCell 1 (some .boolean), Cond.methodLink RX5 141 yX0_chart, Cond.instanceMethod yX0_chart, Cond.selects RX0 yX0_chart yX0_chart, Cond.initialized RX0, Cond.code yX0_chart cX0_chart 1 (some (.object "Particleway$Chart"))]
def wsL_areAlike_r4 : List Cond := [Cond.fieldLink RX0 18 "Particleway$Beliefs" "now" "LParticleway$Chart;", Cond.methodLink RX5 149 yX2_greatestCell, Cond.instanceMethod yX2_greatestCell, Cond.selects RX2 yX2_greatestCell yX2_greatestCell, Cond.code yX2_greatestCell cX2_greatestCell 4 (some .int), Cond.methodLink RX2 33 yX2_greatest, Cond.instanceMethod yX2_greatest, Cond.selects RX2 yX2_greatest yX2_greatest, Cond.code yX2_greatest cX2_greatest 4 (some .long), Cond.methodLink RX2 27 Lib.MathLoose.max_long.x, Cond.static Lib.MathLoose.max_long.x, Cond.initialized "java/lang/Math", Cond.code Lib.MathLoose.max_long.x Lib.MathLoose.max_long.code 4 (some .long), Cond.methodLink RL 76 yL_low, Cond.static yL_low, Cond.code yL_low cL_low 2 (some .int), Cond.constant RL 7 (2147483647), Cond.methodLink RL 98 yL_sample, Cond.static yL_sample, Cond.codeWith yL_sample cL_sample 3 (some .long) [(0, 6, 7, 14)], Cond.classLink RL 14 "java/lang/IndexOutOfBoundsException", Cond.methodLink RL 45 yX5_sample, Cond.instanceMethod yX5_sample, Cond.selects RX5 yX5_sample yX5_sample]
def wsL_areAlike_r5 : List Cond := [Cond.code yX5_sample cX5_sample 2 (some .int), Cond.classLink RX5 125 "java/lang/IndexOutOfBoundsException", Cond.initialized "java/lang/IndexOutOfBoundsException", Cond.methodLink RX5 128 yX4_cellOf, Cond.instanceMethod yX4_cellOf, Cond.selects RX4 yX4_cellOf yX4_cellOf, Cond.code yX4_cellOf cX4_cellOf 2 (some .int), Cond.methodLink RL 114 yL_belief, Cond.static yL_belief, Cond.codeWith yL_belief cL_belief 4 (some .long) [(0, 6, 7, 14), (0, 6, 12, 18)], Cond.methodLink RL 51 yX5_belief, Cond.instanceMethod yX5_belief, Cond.selects RX5 yX5_belief yX5_belief, Cond.code yX5_belief cX5_belief 3 (some .long), Cond.methodLink RX5 59 yX5_checkCell, Cond.static yX5_checkCell, Cond.code yX5_checkCell cX5_checkCell 2 none, Cond.methodLink RX5 178 yX5_isInField, Cond.static yX5_isInField, Cond.code yX5_isInField cX5_isInField 2 (some .boolean), Cond.methodLink RX5 63 yX5_numberOf, Cond.static yX5_numberOf, Cond.code yX5_numberOf cX5_numberOf 2 (some .int), Cond.methodLink RX5 135 yX2_at]
def wsL_areAlike_r6 : List Cond := [Cond.instanceMethod yX2_at, Cond.selects RX2 yX2_at yX2_at, Cond.code yX2_at cX2_at 2 (some .long), Cond.methodLink RL 109 yL_best, Cond.static yL_best, Cond.codeWith yL_best cL_best 3 (some .long) [(0, 6, 7, 14), (0, 6, 12, 18)], Cond.methodLink RL 70 yX5_best, Cond.instanceMethod yX5_best, Cond.selects RX5 yX5_best yX5_best, Cond.code yX5_best cX5_best 2 (some .int), Cond.methodLink RX5 172 yX2_cellAtPlace, Cond.instanceMethod yX2_cellAtPlace, Cond.selects RX2 yX2_cellAtPlace yX2_cellAtPlace, Cond.code yX2_cellAtPlace cX2_cellAtPlace 3 (some .int), Cond.methodLink RX2 41 yX2_placeOf, Cond.instanceMethod yX2_placeOf, Cond.selects RX2 yX2_placeOf yX2_placeOf, Cond.code yX2_placeOf cX2_placeOf 5 (some .int), Cond.methodLink RX2 45 yX2_at]
def wsL_areAlike : List Cond := .code yL_areAlike cL_areAlike 5 (some .boolean) :: ((wsL_areAlike_r1 ++ (wsL_areAlike_r2 ++ (wsL_areAlike_r3 ++ (wsL_areAlike_r4 ++ (wsL_areAlike_r5 ++ wsL_areAlike_r6))))) ++ wsX50 ++ wsX40 ++ wsX20 ++ wsX00 ++ (vx_at0 RX5 77 "java/lang/IllegalStateException" ["java/lang/RuntimeException", "java/lang/Exception"]).filter goodWord ++ (vx_at0 RX5 127 "java/lang/IndexOutOfBoundsException" ["java/lang/RuntimeException", "java/lang/Exception"]).filter goodWord)
def wsL_isSo_r1 : List Cond := [Cond.constantLong RL 118 (1099511627776), Cond.constantLong RL 16 (-9000000000000000), Cond.methodLink RL 37 yX5_toRead, Cond.instanceMethod yX5_toRead, Cond.selects RX5 yX5_toRead yX5_toRead, Cond.initialized RX5, Cond.code yX5_toRead cX5_toRead 4 (some .int), Cond.fieldLink RX5 10 "Particleway" "field" "LParticleway$Field;", Cond.methodLink RX5 59 yX5_checkCell, Cond.static yX5_checkCell, Cond.code yX5_checkCell cX5_checkCell 2 none, Cond.classLink RX5 125 "java/lang/IndexOutOfBoundsException", Cond.initialized "java/lang/IndexOutOfBoundsException", Cond.methodLink RX5 178 yX5_isInField, Cond.static yX5_isInField, Cond.code yX5_isInField cX5_isInField 2 (some .boolean), Cond.methodLink RX5 96 yX5_checkDirection, Cond.static yX5_checkDirection, Cond.code yX5_checkDirection cX5_checkDirection 1 none, Cond.methodLink RX5 182 yX5_isDirection, Cond.static yX5_isDirection, Cond.code yX5_isDirection cX5_isDirection 1 (some .boolean), Cond.methodLink RX5 63 yX5_numberOf, Cond.static yX5_numberOf]
def wsL_isSo_r2 : List Cond := [Cond.code yX5_numberOf cX5_numberOf 2 (some .int), Cond.methodLink RX5 116 yX3_stepsAhead, Cond.instanceMethod yX3_stepsAhead, Cond.selects RX3 yX3_stepsAhead yX3_stepsAhead, Cond.initialized RX3, Cond.code yX3_stepsAhead cX3_stepsAhead 3 (some .int), Cond.fieldLink RX3 15 "Particleway$Field" "ahead" "[I", Cond.static yX5_isCell, Cond.code yX5_isCell cX5_isCell 1 (some .boolean), Cond.methodLink RL 48 yX5_count, Cond.instanceMethod yX5_count, Cond.selects RX5 yX5_count yX5_count, Cond.code yX5_count cX5_count 3 (some .int), Cond.fieldLink RX5 28 "Particleway" "samples" "LParticleway$Samples;", Cond.methodLink RX5 119 yX5_checkSpread, Cond.instanceMethod yX5_checkSpread, Cond.selects RX5 yX5_checkSpread yX5_checkSpread, Cond.code yX5_checkSpread cX5_checkSpread 1 none, Cond.classLink RX5 75 "java/lang/IllegalStateException", Cond.initialized "java/lang/IllegalStateException", Cond.fieldLink RX5 55 "Particleway" "isSpread" "Z", Cond.methodLink RX5 131 yX4_chart, Cond.instanceMethod yX4_chart, Cond.selects RX4 yX4_chart yX4_chart]
def wsL_isSo_r3 : List Cond := [Cond.initialized RX4, Cond.code yX4_chart cX4_chart 2 (some (.object "Particleway$Chart")), Cond.fieldLink RX4 32 "Particleway$Samples" "counts" "LParticleway$Chart;", Cond.fieldLink RX4 36 "Particleway$Samples" "many" "I", Cond.fieldLink RX4 19 "Particleway$Samples" "cells" "[I", Cond.methodLink RX4 43 yX2_clear, Cond.instanceMethod yX2_clear, Cond.selects RX2 yX2_clear yX2_clear, Cond.initialized RX2, Cond.code yX2_clear cX2_clear 2 none, Cond.fieldLink RX2 9 "Particleway$Chart" "numbers" "[J", Cond.methodLink RX4 46 yX2_add, Cond.instanceMethod yX2_add, Cond.selects RX2 yX2_add yX2_add, Cond.code yX2_add cX2_add 4 none, Cond.methodLink RX5 135 yX2_at, Cond.instanceMethod yX2_at, Cond.selects RX2 yX2_at yX2_at, Cond.code yX2_at cX2_at 2 (some .long), Cond.methodLink RL 51 yX5_belief, Cond.instanceMethod yX5_belief, Cond.selects RX5 yX5_belief yX5_belief, Cond.code yX5_belief cX5_belief 3 (some .long), Cond.fieldLink RX5 37 "Particleway" "beliefs" "LParticleway$Beliefs;"]
def wsL_isSo_r4 : List Cond := [Cond.methodLink RX5 141 yX0_chart, Cond.instanceMethod yX0_chart, Cond.selects RX0 yX0_chart yX0_chart, Cond.initialized RX0, Cond.code yX0_chart cX0_chart 1 (some (.object "Particleway$Chart")), Cond.fieldLink RX0 18 "Particleway$Beliefs" "now" "LParticleway$Chart;", Cond.methodLink RL 55 yX5_beliefAnew, Cond.instanceMethod yX5_beliefAnew, Cond.selects RX5 yX5_beliefAnew yX5_beliefAnew, Cond.code yX5_beliefAnew cX5_beliefAnew 3 (some .long), Cond.fieldLink RX5 41 "Particleway" "beliefsAnew" "LParticleway$Beliefs;", Cond.methodLink RX5 142 yX5_repeatAllTold, Cond.instanceMethod yX5_repeatAllTold, Cond.selects RX5 yX5_repeatAllTold yX5_repeatAllTold, Cond.code yX5_repeatAllTold cX5_repeatAllTold 2 none, Cond.fieldLink RX5 51 "Particleway" "told" "I", Cond.fieldLink RX5 48 "Particleway" "toldReadings" "[I", Cond.fieldLink RX5 44 "Particleway" "toldDirections" "[I", Cond.methodLink RX5 94 yX0_begin, Cond.instanceMethod yX0_begin, Cond.selects RX0 yX0_begin yX0_begin, Cond.code yX0_begin cX0_begin 2 none, Cond.fieldLink RX0 9 "Particleway$Beliefs" "field" "LParticleway$Field;", Cond.methodLink RX0 25 yX3_isFree]
def wsL_isSo_r5 : List Cond := [Cond.instanceMethod yX3_isFree, Cond.selects RX3 yX3_isFree yX3_isFree, Cond.code yX3_isFree cX3_isFree 2 (some .boolean), Cond.fieldLink RX3 9 "Particleway$Field" "walls" "[Z", Cond.methodLink RX0 31 yX2_put, Cond.instanceMethod yX2_put, Cond.selects RX2 yX2_put yX2_put, Cond.code yX2_put cX2_put 4 none, Cond.methodLink RX5 185 yX0_fetch, Cond.instanceMethod yX0_fetch, Cond.selects RX0 yX0_fetch yX0_fetch, Cond.code yX0_fetch cX0_fetch 3 none, Cond.fieldLink RX0 22 "Particleway$Beliefs" "before" "LParticleway$Chart;", Cond.methodLink RX0 35 yX2_copy, Cond.instanceMethod yX2_copy, Cond.selects RX2 yX2_copy yX2_copy, Cond.code yX2_copy cX2_copy 2 none, Cond.methodLink RX2 21 arraycopyName, Cond.native arraycopyName, Cond.static arraycopyName, Cond.initialized "java/lang/System", Cond.methodLink RX0 60 yX0_fetched, Cond.instanceMethod yX0_fetched, Cond.selects RX0 yX0_fetched yX0_fetched]
def wsL_isSo_r6 : List Cond := [Cond.code yX0_fetched cX0_fetched 7 (some .long), Cond.constantLong RX0 42 (3), Cond.constantLong RX0 55 (12), Cond.methodLink RX0 44 yX2_at, Cond.methodLink RX0 64 yX3_shifted, Cond.static yX3_shifted, Cond.code yX3_shifted cX3_shifted 5 (some .int), Cond.fieldLink RX3 55 "Particleway$Field" "STEP_X" "[I", Cond.fieldLink RX3 58 "Particleway$Field" "STEP_Y" "[I", Cond.methodLink RX0 51 yX3_led, Cond.instanceMethod yX3_led, Cond.selects RX3 yX3_led yX3_led, Cond.code yX3_led cX3_led 4 (some .int), Cond.methodLink RX3 43 Lib.Math.min.name, Cond.static Lib.Math.min.name, Cond.initialized "java/lang/Math", Cond.code Lib.Math.min.name Lib.Math.min.code 2 (some .int), Cond.methodLink RX3 39 yX3_stepsAhead, Cond.methodLink RX3 48 yX3_shifted, Cond.methodLink RX0 57 yX0_halveGreat, Cond.instanceMethod yX0_halveGreat, Cond.selects RX0 yX0_halveGreat yX0_halveGreat, Cond.code yX0_halveGreat cX0_halveGreat 2 none, Cond.constantLong RX0 77 (1099511627776)]
def wsL_isSo_r7 : List Cond := [Cond.methodLink RX0 70 yX2_greatest, Cond.instanceMethod yX2_greatest, Cond.selects RX2 yX2_greatest yX2_greatest, Cond.code yX2_greatest cX2_greatest 4 (some .long), Cond.methodLink RX2 27 Lib.MathLoose.max_long.x, Cond.static Lib.MathLoose.max_long.x, Cond.code Lib.MathLoose.max_long.x Lib.MathLoose.max_long.code 4 (some .long), Cond.methodLink RX0 79 yX2_halve, Cond.instanceMethod yX2_halve, Cond.selects RX2 yX2_halve yX2_halve, Cond.code yX2_halve cX2_halve 2 none, Cond.constantLong RX2 19 (2), Cond.methodLink RX5 114 yX0_weigh, Cond.instanceMethod yX0_weigh, Cond.selects RX0 yX0_weigh yX0_weigh, Cond.code yX0_weigh cX0_weigh 4 none, Cond.methodLink RX0 67 yX3_weight, Cond.instanceMethod yX3_weight, Cond.selects RX3 yX3_weight yX3_weight, Cond.code yX3_weight cX3_weight 4 (some .int), Cond.methodLink RX3 52 Lib.Math.abs.name, Cond.static Lib.Math.abs.name, Cond.code Lib.Math.abs.name Lib.Math.abs.code 1 (some .int), Cond.methodLink RX0 74 yX0_begin]
def wsL_isSo_r8 : List Cond := [Cond.methodLink RL 70 yX5_best, Cond.instanceMethod yX5_best, Cond.selects RX5 yX5_best yX5_best, Cond.code yX5_best cX5_best 2 (some .int), Cond.methodLink RX5 172 yX2_cellAtPlace, Cond.instanceMethod yX2_cellAtPlace, Cond.selects RX2 yX2_cellAtPlace yX2_cellAtPlace, Cond.code yX2_cellAtPlace cX2_cellAtPlace 3 (some .int), Cond.methodLink RX2 41 yX2_placeOf, Cond.instanceMethod yX2_placeOf, Cond.selects RX2 yX2_placeOf yX2_placeOf, Cond.code yX2_placeOf cX2_placeOf 5 (some .int), Cond.methodLink RX2 45 yX2_at, Cond.methodLink RL 41 yX5_samples, Cond.instanceMethod yX5_samples, Cond.selects RX5 yX5_samples yX5_samples, Cond.code yX5_samples cX5_samples 1 (some .int), Cond.methodLink RX5 122 yX4_size, Cond.instanceMethod yX4_size, Cond.selects RX4 yX4_size yX4_size, Cond.code yX4_size cX4_size 1 (some .int), Cond.methodLink RL 58 yX5_mode, Cond.instanceMethod yX5_mode, Cond.selects RX5 yX5_mode yX5_mode]
def wsL_isSo_r9 : List Cond := [Cond.code yX5_mode cX5_mode 2 (some .int), Cond.methodLink RX5 145 yX5_chartOf, Cond.instanceMethod yX5_chartOf, Cond.selects RX5 yX5_chartOf yX5_chartOf, Cond.code yX5_chartOf cX5_chartOf 2 (some (.object "Particleway$Chart")), Cond.methodLink RX5 149 yX2_greatestCell, Cond.instanceMethod yX2_greatestCell, Cond.selects RX2 yX2_greatestCell yX2_greatestCell, Cond.code yX2_greatestCell cX2_greatestCell 4 (some .int), Cond.methodLink RX2 33 yX2_greatest, Cond.methodLink RL 66 yX5_share, Cond.instanceMethod yX5_share, Cond.selects RX5 yX5_share yX5_share, Cond.code yX5_share cX5_share 7 (some .int), Cond.classLink RX5 83 "java/lang/IllegalArgumentException", Cond.initialized "java/lang/IllegalArgumentException", Cond.constantLong RX5 166 (1000), Cond.methodLink RX5 168 yX2_sumOf, Cond.instanceMethod yX2_sumOf, Cond.selects RX2 yX2_sumOf yX2_sumOf, Cond.code yX2_sumOf cX2_sumOf 10 (some .long), Cond.methodLink RX5 158 yX2_sum, Cond.instanceMethod yX2_sum, Cond.selects RX2 yX2_sum yX2_sum]
def wsL_isSo_r10 : List Cond := [Cond.code yX2_sum cX2_sum 1 (some .long), Cond.methodLink RX2 37 yX2_sumOf, Cond.methodLink RX5 162 yX5_quotient, Cond.static yX5_quotient, Cond.code yX5_quotient cX5_quotient 4 (some .long), Cond.methodLink RL 73 yX5_doubt, Cond.instanceMethod yX5_doubt, Cond.selects RX5 yX5_doubt yX5_doubt, Cond.code yX5_doubt cX5_doubt 1 (some .int), Cond.methodLink RX5 175 yX4_lastDoubt, Cond.instanceMethod yX4_lastDoubt, Cond.selects RX4 yX4_lastDoubt yX4_lastDoubt, Cond.code yX4_lastDoubt cX4_lastDoubt 1 (some .int), Cond.fieldLink RX4 40 "Particleway$Samples" "doubt" "I", Cond.methodLink RL 98 yL_sample, Cond.static yL_sample, Cond.initialized RL, Cond.codeWith yL_sample cL_sample 3 (some .long) [(0, 6, 7, 14)], Cond.classLink RL 14 "java/lang/IndexOutOfBoundsException", Cond.methodLink RL 45 yX5_sample, Cond.instanceMethod yX5_sample, Cond.selects RX5 yX5_sample yX5_sample, Cond.code yX5_sample cX5_sample 2 (some .int), Cond.methodLink RX5 128 yX4_cellOf]
def wsL_isSo_r11 : List Cond := [Cond.instanceMethod yX4_cellOf, Cond.selects RX4 yX4_cellOf yX4_cellOf, Cond.code yX4_cellOf cX4_cellOf 2 (some .int)]
def wsL_isSo : List Cond := .code yL_isSo cL_isSo 7 (some .boolean) :: ((wsL_isSo_r1 ++ (wsL_isSo_r2 ++ (wsL_isSo_r3 ++ (wsL_isSo_r4 ++ (wsL_isSo_r5 ++ (wsL_isSo_r6 ++ (wsL_isSo_r7 ++ (wsL_isSo_r8 ++ (wsL_isSo_r9 ++ (wsL_isSo_r10 ++ wsL_isSo_r11)))))))))) ++ wsX50 ++ wsX30 ++ wsX40 ++ wsX20 ++ wsX00 ++ (vx_at0 RX5 127 "java/lang/IndexOutOfBoundsException" ["java/lang/RuntimeException", "java/lang/Exception"]).filter goodWord ++ (vx_at0 RX5 77 "java/lang/IllegalStateException" ["java/lang/RuntimeException", "java/lang/Exception"]).filter goodWord ++ (vx_at0 RX5 85 "java/lang/IllegalArgumentException" ["java/lang/RuntimeException", "java/lang/Exception"]).filter goodWord)
def wsL_law0_r1 : List Cond := [Cond.classLink RL 9 RX5, Cond.instantiable RX5 9, Cond.initialized RX5, Cond.constantLong RL 16 (-9000000000000000), Cond.methodLink RL 120 yX5_init, Cond.instanceMethod yX5_init, Cond.code yX5_init cX5_init 1 none, Cond.methodLink RX5 1 objectInit, Cond.instanceMethod objectInit, Cond.code objectInit ⟨#[0xb1]⟩ 1 none, Cond.classLink RX5 7 RX3, Cond.instantiable RX3 3, Cond.initialized RX3, Cond.fieldLink RX5 10 "Particleway" "field" "LParticleway$Field;", Cond.classLink RX5 16 RX1, Cond.instantiable RX1 1, Cond.initialized RX1, Cond.fieldLink RX5 19 "Particleway" "chance" "LParticleway$Chance;", Cond.classLink RX5 23 RX4, Cond.instantiable RX4 11, Cond.initialized RX4, Cond.fieldLink RX5 28 "Particleway" "samples" "LParticleway$Samples;", Cond.classLink RX5 32 RX0, Cond.instantiable RX0 3]
def wsL_law0_r2 : List Cond := [Cond.initialized RX0, Cond.fieldLink RX5 37 "Particleway" "beliefs" "LParticleway$Beliefs;", Cond.fieldLink RX5 41 "Particleway" "beliefsAnew" "LParticleway$Beliefs;", Cond.arrayClass .int, Cond.fieldLink RX5 44 "Particleway" "toldDirections" "[I", Cond.fieldLink RX5 48 "Particleway" "toldReadings" "[I", Cond.fieldLink RX5 51 "Particleway" "told" "I", Cond.fieldLink RX5 55 "Particleway" "isSpread" "Z", Cond.methodLink RX5 9 yX3_init, Cond.instanceMethod yX3_init, Cond.code yX3_init cX3_init 1 none, Cond.methodLink RX3 3 objectInit, Cond.arrayClass .boolean, Cond.fieldLink RX3 9 "Particleway$Field" "walls" "[Z", Cond.fieldLink RX3 15 "Particleway$Field" "ahead" "[I", Cond.methodLink RX3 19 yX3_measure, Cond.instanceMethod yX3_measure, Cond.selects RX3 yX3_measure yX3_measure, Cond.code yX3_measure cX3_measure 3 none, Cond.fieldLink RX3 26 "Particleway$Field" "free" "I", Cond.methodLink RX3 68 yX3_countedSteps, Cond.instanceMethod yX3_countedSteps, Cond.selects RX3 yX3_countedSteps yX3_countedSteps, Cond.code yX3_countedSteps cX3_countedSteps 4 (some .int)]
def wsL_law0_r3 : List Cond := [Cond.methodLink RX3 48 yX3_shifted, Cond.static yX3_shifted, Cond.code yX3_shifted cX3_shifted 5 (some .int), Cond.fieldLink RX3 55 "Particleway$Field" "STEP_X" "[I", Cond.fieldLink RX3 58 "Particleway$Field" "STEP_Y" "[I", Cond.static yX5_isCell, Cond.code yX5_isCell cX5_isCell 1 (some .boolean), Cond.static yX5_isDirection, Cond.code yX5_isDirection cX5_isDirection 1 (some .boolean), Cond.static yX5_isInField, Cond.code yX5_isInField cX5_isInField 2 (some .boolean), Cond.static yX5_numberOf, Cond.code yX5_numberOf cX5_numberOf 2 (some .int), Cond.methodLink RX3 71 yX3_isFree, Cond.instanceMethod yX3_isFree, Cond.selects RX3 yX3_isFree yX3_isFree, Cond.code yX3_isFree cX3_isFree 2 (some .boolean), Cond.methodLink RX5 18 yX1_init, Cond.instanceMethod yX1_init, Cond.code yX1_init cX1_init 1 none, Cond.methodLink RX1 1 objectInit, Cond.fieldLink RX1 7 "Particleway$Chance" "x" "I", Cond.methodLink RX5 25 yX4_init, Cond.instanceMethod yX4_init]
def wsL_law0_r4 : List Cond := [Cond.code yX4_init cX4_init 3 none, Cond.methodLink RX4 3 objectInit, Cond.fieldLink RX4 9 "Particleway$Samples" "field" "LParticleway$Field;", Cond.fieldLink RX4 15 "Particleway$Samples" "chance" "LParticleway$Chance;", Cond.fieldLink RX4 19 "Particleway$Samples" "cells" "[I", Cond.fieldLink RX4 23 "Particleway$Samples" "oldCells" "[I", Cond.fieldLink RX4 26 "Particleway$Samples" "weights" "[I", Cond.classLink RX4 29 RX2, Cond.instantiable RX2 1, Cond.initialized RX2, Cond.fieldLink RX4 32 "Particleway$Samples" "counts" "LParticleway$Chart;", Cond.fieldLink RX4 36 "Particleway$Samples" "many" "I", Cond.methodLink RX4 31 yX2_init, Cond.instanceMethod yX2_init, Cond.code yX2_init cX2_init 1 none, Cond.methodLink RX2 3 objectInit, Cond.arrayClass .long, Cond.fieldLink RX2 9 "Particleway$Chart" "numbers" "[J", Cond.methodLink RX5 34 yX0_init, Cond.instanceMethod yX0_init, Cond.code yX0_init cX0_init 2 none, Cond.methodLink RX0 3 objectInit, Cond.fieldLink RX0 9 "Particleway$Beliefs" "field" "LParticleway$Field;", Cond.classLink RX0 15 RX2]
def wsL_law0_r5 : List Cond := [Cond.fieldLink RX0 18 "Particleway$Beliefs" "now" "LParticleway$Chart;", Cond.fieldLink RX0 22 "Particleway$Beliefs" "before" "LParticleway$Chart;", Cond.methodLink RX0 17 yX2_init, Cond.methodLink RL 121 yL_cell, Cond.static yL_cell, Cond.initialized RL, Cond.code yL_cell cL_cell 2 (some .int), Cond.methodLink RL 125 yL_act, Cond.static yL_act, Cond.code yL_act cL_act 8 (some .long), Cond.constant RL 84 (65536), Cond.methodLink RL 76 yL_low, Cond.static yL_low, Cond.code yL_low cL_low 2 (some .int), Cond.constant RL 7 (2147483647), Cond.methodLink RL 81 yL_wall, Cond.static yL_wall, Cond.codeWith yL_wall cL_wall 5 (some .long) [(0, 15, 16, 14), (0, 15, 22, 18)], Cond.classLink RL 14 "java/lang/IndexOutOfBoundsException", Cond.classLink RL 18 "java/lang/IllegalStateException", Cond.methodLink RL 8 yX5_wall, Cond.instanceMethod yX5_wall, Cond.selects RX5 yX5_wall yX5_wall, Cond.code yX5_wall cX5_wall 7 (some .boolean)]
def wsL_law0_r6 : List Cond := [Cond.classLink RX5 75 "java/lang/IllegalStateException", Cond.initialized "java/lang/IllegalStateException", Cond.methodLink RX5 59 yX5_checkCell, Cond.static yX5_checkCell, Cond.code yX5_checkCell cX5_checkCell 2 none, Cond.classLink RX5 125 "java/lang/IndexOutOfBoundsException", Cond.initialized "java/lang/IndexOutOfBoundsException", Cond.methodLink RX5 178 yX5_isInField, Cond.methodLink RX5 63 yX5_numberOf, Cond.methodLink RX5 67 yX3_isFree, Cond.methodLink RX5 71 yX3_freeCells, Cond.instanceMethod yX3_freeCells, Cond.selects RX3 yX3_freeCells yX3_freeCells, Cond.code yX3_freeCells cX3_freeCells 1 (some .int), Cond.methodLink RX5 78 yX3_build, Cond.instanceMethod yX3_build, Cond.selects RX3 yX3_build yX3_build, Cond.code yX3_build cX3_build 3 none, Cond.methodLink RL 85 yL_draw, Cond.static yL_draw, Cond.codeWith yL_draw cL_draw 3 (some .long) [(0, 6, 7, 24)], Cond.classLink RL 24 "java/lang/IllegalArgumentException", Cond.methodLink RL 20 yX5_draw, Cond.instanceMethod yX5_draw]
def wsL_law0_r7 : List Cond := [Cond.selects RX5 yX5_draw yX5_draw, Cond.code yX5_draw cX5_draw 2 (some .int), Cond.classLink RX5 83 "java/lang/IllegalArgumentException", Cond.initialized "java/lang/IllegalArgumentException", Cond.constant RX5 82 (65536), Cond.methodLink RX5 86 yX1_change, Cond.instanceMethod yX1_change, Cond.selects RX1 yX1_change yX1_change, Cond.code yX1_change cX1_change 3 (some .int), Cond.methodLink RL 88 yL_spread, Cond.static yL_spread, Cond.codeWith yL_spread cL_spread 3 (some .long) [(0, 6, 7, 24)], Cond.methodLink RL 26 yX5_spread, Cond.instanceMethod yX5_spread, Cond.selects RX5 yX5_spread yX5_spread, Cond.code yX5_spread cX5_spread 2 none, Cond.methodLink RX5 90 yX4_begin, Cond.instanceMethod yX4_begin, Cond.selects RX4 yX4_begin yX4_begin, Cond.code yX4_begin cX4_begin 3 none, Cond.fieldLink RX4 56 "Particleway$Samples" "isRead" "Z", Cond.fieldLink RX4 60 "Particleway$Samples" "slow" "I", Cond.fieldLink RX4 63 "Particleway$Samples" "fast" "I", Cond.fieldLink RX4 40 "Particleway$Samples" "doubt" "I"]
def wsL_law0_r8 : List Cond := [Cond.methodLink RX4 50 yX3_drawnCell, Cond.instanceMethod yX3_drawnCell, Cond.selects RX3 yX3_drawnCell yX3_drawnCell, Cond.code yX3_drawnCell cX3_drawnCell 4 (some .int), Cond.methodLink RX3 30 yX1_remainder, Cond.instanceMethod yX1_remainder, Cond.selects RX1 yX1_remainder yX1_remainder, Cond.code yX1_remainder cX1_remainder 2 (some .int), Cond.constant RX1 13 (65537), Cond.methodLink RX5 94 yX0_begin, Cond.instanceMethod yX0_begin, Cond.selects RX0 yX0_begin yX0_begin, Cond.code yX0_begin cX0_begin 2 none, Cond.methodLink RX0 25 yX3_isFree, Cond.methodLink RX0 31 yX2_put, Cond.instanceMethod yX2_put, Cond.selects RX2 yX2_put yX2_put, Cond.code yX2_put cX2_put 4 none, Cond.methodLink RL 90 yL_drive, Cond.static yL_drive, Cond.codeWith yL_drive cL_drive 3 (some .long) [(0, 6, 7, 14), (0, 6, 12, 18)], Cond.methodLink RL 30 yX5_drive, Cond.instanceMethod yX5_drive, Cond.selects RX5 yX5_drive yX5_drive]
def wsL_law0_r9 : List Cond := [Cond.code yX5_drive cX5_drive 2 none, Cond.methodLink RX5 96 yX5_checkDirection, Cond.static yX5_checkDirection, Cond.code yX5_checkDirection cX5_checkDirection 1 none, Cond.methodLink RX5 182 yX5_isDirection, Cond.methodLink RX5 99 yX5_checkMayTell, Cond.instanceMethod yX5_checkMayTell, Cond.selects RX5 yX5_checkMayTell yX5_checkMayTell, Cond.code yX5_checkMayTell cX5_checkMayTell 1 none, Cond.methodLink RX5 102 yX4_move, Cond.instanceMethod yX4_move, Cond.selects RX4 yX4_move yX4_move, Cond.code yX4_move cX4_move 3 none, Cond.methodLink RX4 66 yX4_drawnSteps, Cond.instanceMethod yX4_drawnSteps, Cond.selects RX4 yX4_drawnSteps yX4_drawnSteps, Cond.code yX4_drawnSteps cX4_drawnSteps 2 (some .int), Cond.methodLink RX4 74 yX1_remainder, Cond.methodLink RX4 70 yX3_led, Cond.instanceMethod yX3_led, Cond.selects RX3 yX3_led yX3_led, Cond.code yX3_led cX3_led 4 (some .int), Cond.methodLink RX3 43 Lib.Math.min.name, Cond.static Lib.Math.min.name]
def wsL_law0_r10 : List Cond := [Cond.initialized "java/lang/Math", Cond.code Lib.Math.min.name Lib.Math.min.code 2 (some .int), Cond.methodLink RX3 39 yX3_stepsAhead, Cond.instanceMethod yX3_stepsAhead, Cond.selects RX3 yX3_stepsAhead yX3_stepsAhead, Cond.code yX3_stepsAhead cX3_stepsAhead 3 (some .int), Cond.methodLink RX5 105 yX0_push, Cond.instanceMethod yX0_push, Cond.selects RX0 yX0_push yX0_push, Cond.code yX0_push cX0_push 3 none, Cond.constantLong RX0 42 (3), Cond.constantLong RX0 55 (12), Cond.methodLink RX0 35 yX2_copy, Cond.instanceMethod yX2_copy, Cond.selects RX2 yX2_copy yX2_copy, Cond.code yX2_copy cX2_copy 2 none, Cond.methodLink RX2 21 arraycopyName, Cond.native arraycopyName, Cond.static arraycopyName, Cond.initialized "java/lang/System", Cond.methodLink RX0 39 yX2_clear, Cond.instanceMethod yX2_clear, Cond.selects RX2 yX2_clear yX2_clear, Cond.code yX2_clear cX2_clear 2 none]
def wsL_law0_r11 : List Cond := [Cond.methodLink RX0 44 yX2_at, Cond.instanceMethod yX2_at, Cond.selects RX2 yX2_at yX2_at, Cond.code yX2_at cX2_at 2 (some .long), Cond.methodLink RX0 48 yX2_add, Cond.instanceMethod yX2_add, Cond.selects RX2 yX2_add yX2_add, Cond.code yX2_add cX2_add 4 none, Cond.methodLink RX0 51 yX3_led, Cond.methodLink RX0 57 yX0_halveGreat, Cond.instanceMethod yX0_halveGreat, Cond.selects RX0 yX0_halveGreat yX0_halveGreat, Cond.code yX0_halveGreat cX0_halveGreat 2 none, Cond.constantLong RX0 77 (1099511627776), Cond.methodLink RX0 70 yX2_greatest, Cond.instanceMethod yX2_greatest, Cond.selects RX2 yX2_greatest yX2_greatest, Cond.code yX2_greatest cX2_greatest 4 (some .long), Cond.methodLink RX2 27 Lib.MathLoose.max_long.x, Cond.static Lib.MathLoose.max_long.x, Cond.code Lib.MathLoose.max_long.x Lib.MathLoose.max_long.code 4 (some .long), Cond.methodLink RX0 79 yX2_halve, Cond.instanceMethod yX2_halve, Cond.selects RX2 yX2_halve yX2_halve]
def wsL_law0_r12 : List Cond := [Cond.code yX2_halve cX2_halve 2 none, Cond.constantLong RX2 19 (2), Cond.methodLink RX5 108 yX5_keep, Cond.instanceMethod yX5_keep, Cond.selects RX5 yX5_keep yX5_keep, Cond.code yX5_keep cX5_keep 3 none, Cond.methodLink RL 92 yL_read, Cond.static yL_read, Cond.codeWith yL_read cL_read 4 (some .long) [(0, 7, 8, 14), (0, 7, 13, 24), (0, 7, 18, 18)], Cond.methodLink RL 33 yX5_read, Cond.instanceMethod yX5_read, Cond.selects RX5 yX5_read yX5_read, Cond.code yX5_read cX5_read 4 (some .int), Cond.methodLink RX5 111 yX4_weigh, Cond.instanceMethod yX4_weigh, Cond.selects RX4 yX4_weigh yX4_weigh, Cond.code yX4_weigh cX4_weigh 5 (some .int), Cond.methodLink RX4 80 yX3_weight, Cond.instanceMethod yX3_weight, Cond.selects RX3 yX3_weight yX3_weight, Cond.code yX3_weight cX3_weight 4 (some .int), Cond.methodLink RX3 52 Lib.Math.abs.name, Cond.static Lib.Math.abs.name, Cond.code Lib.Math.abs.name Lib.Math.abs.code 1 (some .int)]
def wsL_law0_r13 : List Cond := [Cond.static yX5_quotient, Cond.code yX5_quotient cX5_quotient 4 (some .long), Cond.methodLink RX4 87 yX4_compareFit, Cond.instanceMethod yX4_compareFit, Cond.selects RX4 yX4_compareFit yX4_compareFit, Cond.code yX4_compareFit cX4_compareFit 2 none, Cond.methodLink RX4 99 Lib.Math.max.name, Cond.static Lib.Math.max.name, Cond.code Lib.Math.max.name Lib.Math.max.code 2 (some .int), Cond.methodLink RX4 91 yX4_manyAnew, Cond.instanceMethod yX4_manyAnew, Cond.selects RX4 yX4_manyAnew yX4_manyAnew, Cond.code yX4_manyAnew cX4_manyAnew 6 (some .int), Cond.methodLink RX4 112 Lib.Math.min.name, Cond.methodLink RX4 104 yX4_chart, Cond.instanceMethod yX4_chart, Cond.selects RX4 yX4_chart yX4_chart, Cond.code yX4_chart cX4_chart 2 (some (.object "Particleway$Chart")), Cond.methodLink RX4 43 yX2_clear, Cond.methodLink RX4 46 yX2_add, Cond.methodLink RX4 108 yX2_at, Cond.methodLink RX4 95 yX4_drawAnew, Cond.instanceMethod yX4_drawAnew, Cond.selects RX4 yX4_drawAnew yX4_drawAnew]
def wsL_law0_r14 : List Cond := [Cond.code yX4_drawAnew cX4_drawAnew 6 none, Cond.methodLink RX4 115 arraycopyName, Cond.methodLink RX4 121 yX4_oldCellBeyond, Cond.instanceMethod yX4_oldCellBeyond, Cond.selects RX4 yX4_oldCellBeyond yX4_oldCellBeyond, Cond.code yX4_oldCellBeyond cX4_oldCellBeyond 5 (some .int), Cond.methodLink RX5 114 yX0_weigh, Cond.instanceMethod yX0_weigh, Cond.selects RX0 yX0_weigh yX0_weigh, Cond.code yX0_weigh cX0_weigh 4 none, Cond.methodLink RX0 67 yX3_weight, Cond.methodLink RX0 74 yX0_begin, Cond.methodLink RL 95 yL_toRead, Cond.static yL_toRead, Cond.codeWith yL_toRead cL_toRead 5 (some .long) [(0, 8, 9, 14)], Cond.methodLink RL 37 yX5_toRead, Cond.instanceMethod yX5_toRead, Cond.selects RX5 yX5_toRead yX5_toRead, Cond.code yX5_toRead cX5_toRead 4 (some .int), Cond.methodLink RX5 116 yX3_stepsAhead, Cond.methodLink RL 98 yL_sample, Cond.static yL_sample, Cond.codeWith yL_sample cL_sample 3 (some .long) [(0, 6, 7, 14)], Cond.methodLink RL 45 yX5_sample]
def wsL_law0_r15 : List Cond := [Cond.instanceMethod yX5_sample, Cond.selects RX5 yX5_sample yX5_sample, Cond.code yX5_sample cX5_sample 2 (some .int), Cond.methodLink RX5 122 yX4_size, Cond.instanceMethod yX4_size, Cond.selects RX4 yX4_size yX4_size, Cond.code yX4_size cX4_size 1 (some .int), Cond.methodLink RX5 128 yX4_cellOf, Cond.instanceMethod yX4_cellOf, Cond.selects RX4 yX4_cellOf yX4_cellOf, Cond.code yX4_cellOf cX4_cellOf 2 (some .int), Cond.methodLink RL 100 yL_mode, Cond.static yL_mode, Cond.codeWith yL_mode cL_mode 3 (some .long) [(0, 6, 7, 18)], Cond.methodLink RL 58 yX5_mode, Cond.instanceMethod yX5_mode, Cond.selects RX5 yX5_mode yX5_mode, Cond.code yX5_mode cX5_mode 2 (some .int), Cond.methodLink RX5 119 yX5_checkSpread, Cond.instanceMethod yX5_checkSpread, Cond.selects RX5 yX5_checkSpread yX5_checkSpread, Cond.code yX5_checkSpread cX5_checkSpread 1 none, Cond.methodLink RX5 145 yX5_chartOf, Cond.instanceMethod yX5_chartOf]
def wsL_law0_r16 : List Cond := [Cond.selects RX5 yX5_chartOf yX5_chartOf, Cond.code yX5_chartOf cX5_chartOf 2 (some (.object "Particleway$Chart")), Cond.methodLink RX5 131 yX4_chart, Cond.methodLink RX5 141 yX0_chart, Cond.instanceMethod yX0_chart, Cond.selects RX0 yX0_chart yX0_chart, Cond.code yX0_chart cX0_chart 1 (some (.object "Particleway$Chart")), Cond.methodLink RX5 149 yX2_greatestCell, Cond.instanceMethod yX2_greatestCell, Cond.selects RX2 yX2_greatestCell yX2_greatestCell, Cond.code yX2_greatestCell cX2_greatestCell 4 (some .int), Cond.methodLink RX2 33 yX2_greatest, Cond.methodLink RL 103 yL_mean, Cond.static yL_mean, Cond.codeWith yL_mean cL_mean 4 (some .long) [(0, 7, 8, 18)], Cond.methodLink RL 62 yX5_mean, Cond.instanceMethod yX5_mean, Cond.selects RX5 yX5_mean yX5_mean, Cond.code yX5_mean cX5_mean 4 (some .int), Cond.constantLong RX5 152 (100), Cond.methodLink RX5 154 yX2_coordinateSum, Cond.instanceMethod yX2_coordinateSum, Cond.selects RX2 yX2_coordinateSum yX2_coordinateSum, Cond.code yX2_coordinateSum cX2_coordinateSum 5 (some .long)]
def wsL_law0_r17 : List Cond := [Cond.methodLink RX5 158 yX2_sum, Cond.instanceMethod yX2_sum, Cond.selects RX2 yX2_sum yX2_sum, Cond.code yX2_sum cX2_sum 1 (some .long), Cond.methodLink RX2 37 yX2_sumOf, Cond.instanceMethod yX2_sumOf, Cond.selects RX2 yX2_sumOf yX2_sumOf, Cond.code yX2_sumOf cX2_sumOf 10 (some .long), Cond.methodLink RX5 162 yX5_quotient, Cond.methodLink RL 106 yL_share, Cond.static yL_share, Cond.codeWith yL_share cL_share 7 (some .long) [(0, 12, 13, 14), (0, 12, 19, 24), (0, 12, 25, 18)], Cond.methodLink RL 66 yX5_share, Cond.instanceMethod yX5_share, Cond.selects RX5 yX5_share yX5_share, Cond.code yX5_share cX5_share 7 (some .int), Cond.constantLong RX5 166 (1000), Cond.methodLink RX5 168 yX2_sumOf, Cond.methodLink RL 109 yL_best, Cond.static yL_best, Cond.codeWith yL_best cL_best 3 (some .long) [(0, 6, 7, 14), (0, 6, 12, 18)], Cond.methodLink RL 70 yX5_best, Cond.instanceMethod yX5_best, Cond.selects RX5 yX5_best yX5_best]
def wsL_law0_r18 : List Cond := [Cond.code yX5_best cX5_best 2 (some .int), Cond.methodLink RX5 172 yX2_cellAtPlace, Cond.instanceMethod yX2_cellAtPlace, Cond.selects RX2 yX2_cellAtPlace yX2_cellAtPlace, Cond.code yX2_cellAtPlace cX2_cellAtPlace 3 (some .int), Cond.methodLink RX2 41 yX2_placeOf, Cond.instanceMethod yX2_placeOf, Cond.selects RX2 yX2_placeOf yX2_placeOf, Cond.code yX2_placeOf cX2_placeOf 5 (some .int), Cond.methodLink RX2 45 yX2_at, Cond.methodLink RL 111 yL_doubt, Cond.static yL_doubt, Cond.codeWith yL_doubt cL_doubt 2 (some .long) [(0, 5, 6, 18)], Cond.methodLink RL 73 yX5_doubt, Cond.instanceMethod yX5_doubt, Cond.selects RX5 yX5_doubt yX5_doubt, Cond.code yX5_doubt cX5_doubt 1 (some .int), Cond.methodLink RX5 175 yX4_lastDoubt, Cond.instanceMethod yX4_lastDoubt, Cond.selects RX4 yX4_lastDoubt yX4_lastDoubt, Cond.code yX4_lastDoubt cX4_lastDoubt 1 (some .int), Cond.methodLink RL 114 yL_belief, Cond.static yL_belief, Cond.codeWith yL_belief cL_belief 4 (some .long) [(0, 6, 7, 14), (0, 6, 12, 18)]]
def wsL_law0_r19 : List Cond := [Cond.methodLink RL 51 yX5_belief, Cond.instanceMethod yX5_belief, Cond.selects RX5 yX5_belief yX5_belief, Cond.code yX5_belief cX5_belief 3 (some .long), Cond.methodLink RX5 135 yX2_at, Cond.methodLink RL 128 yL_areAlike, Cond.static yL_areAlike, Cond.code yL_areAlike cL_areAlike 5 (some .boolean), Cond.methodLink RL 116 yL_samples, Cond.static yL_samples, Cond.codeWith yL_samples cL_samples 2 (some .long) [(0, 5, 6, 18)], Cond.methodLink RL 41 yX5_samples, Cond.instanceMethod yX5_samples, Cond.selects RX5 yX5_samples yX5_samples, Cond.code yX5_samples cX5_samples 1 (some .int), Cond.methodLink RL 132 yL_isSo, Cond.static yL_isSo, Cond.code yL_isSo cL_isSo 7 (some .boolean), Cond.constantLong RL 118 (1099511627776), Cond.methodLink RL 48 yX5_count, Cond.instanceMethod yX5_count, Cond.selects RX5 yX5_count yX5_count, Cond.code yX5_count cX5_count 3 (some .int), Cond.methodLink RL 55 yX5_beliefAnew]
def wsL_law0_r20 : List Cond := [Cond.instanceMethod yX5_beliefAnew, Cond.selects RX5 yX5_beliefAnew yX5_beliefAnew, Cond.code yX5_beliefAnew cX5_beliefAnew 3 (some .long), Cond.methodLink RX5 142 yX5_repeatAllTold, Cond.instanceMethod yX5_repeatAllTold, Cond.selects RX5 yX5_repeatAllTold yX5_repeatAllTold, Cond.code yX5_repeatAllTold cX5_repeatAllTold 2 none, Cond.methodLink RX5 185 yX0_fetch, Cond.instanceMethod yX0_fetch, Cond.selects RX0 yX0_fetch yX0_fetch, Cond.code yX0_fetch cX0_fetch 3 none, Cond.methodLink RX0 60 yX0_fetched, Cond.instanceMethod yX0_fetched, Cond.selects RX0 yX0_fetched yX0_fetched, Cond.code yX0_fetched cX0_fetched 7 (some .long), Cond.methodLink RX0 64 yX3_shifted]
def wsL_law0 : List Cond := (wsL_law0_r1 ++ (wsL_law0_r2 ++ (wsL_law0_r3 ++ (wsL_law0_r4 ++ (wsL_law0_r5 ++ (wsL_law0_r6 ++ (wsL_law0_r7 ++ (wsL_law0_r8 ++ (wsL_law0_r9 ++ (wsL_law0_r10 ++ (wsL_law0_r11 ++ (wsL_law0_r12 ++ (wsL_law0_r13 ++ (wsL_law0_r14 ++ (wsL_law0_r15 ++ (wsL_law0_r16 ++ (wsL_law0_r17 ++ (wsL_law0_r18 ++ (wsL_law0_r19 ++ wsL_law0_r20))))))))))))))))))) ++ wsX50 ++ wsX30 ++ wsX10 ++ wsX40 ++ wsX00 ++ wsX20 ++ ([] : List Cond)
def wsL_law : List Cond := wsL_law0 ++ (vx_at0 RX5 77 "java/lang/IllegalStateException" ["java/lang/RuntimeException", "java/lang/Exception"]).filter goodWord ++ (vx_at0 RX5 127 "java/lang/IndexOutOfBoundsException" ["java/lang/RuntimeException", "java/lang/Exception"]).filter goodWord ++ (vx_at0 RX5 85 "java/lang/IllegalArgumentException" ["java/lang/RuntimeException", "java/lang/Exception"]).filter goodWord
set_option maxRecDepth 20000 in
theorem wsL_law_in0_1 : ∀ w ∈ wsL_law0_r1, w ∈ lw_tbl := fun w h => (goodIn_p wsL_law0_r1 [35, 38] (by decide +kernel) (by decide +kernel) w h).1
set_option maxRecDepth 20000 in
theorem wsL_law_in0_2 : ∀ w ∈ wsL_law0_r2, w ∈ lw_tbl := fun w h => (goodIn_p wsL_law0_r2 [43, 48, 52] (by decide +kernel) (by decide +kernel) w h).1
set_option maxRecDepth 20000 in
theorem wsL_law_in0_3 : ∀ w ∈ wsL_law0_r3, w ∈ lw_tbl := fun w h => (goodIn_p wsL_law0_r3 [55, 58, 61, 68, 71, 75, 92] (by decide +kernel) (by decide +kernel) w h).1
set_option maxRecDepth 20000 in
theorem wsL_law_in0_4 : ∀ w ∈ wsL_law0_r4, w ∈ lw_tbl := fun w h => (goodIn_p wsL_law0_r4 [102, 108, 153] (by decide +kernel) (by decide +kernel) w h).1
set_option maxRecDepth 20000 in
theorem wsL_law_in0_5 : ∀ w ∈ wsL_law0_r5, w ∈ lw_tbl := fun w h => (goodIn_p wsL_law0_r5 [197, 433, 436, 444] (by decide +kernel) (by decide +kernel) w h).1
set_option maxRecDepth 20000 in
theorem wsL_law_in0_6 : ∀ w ∈ wsL_law0_r6, w ∈ lw_tbl := fun w h => (goodIn_p wsL_law0_r6 [447, 454, 458] (by decide +kernel) (by decide +kernel) w h).1
set_option maxRecDepth 20000 in
theorem wsL_law_in0_7 : ∀ w ∈ wsL_law0_r7, w ∈ lw_tbl := fun w h => (goodIn_p wsL_law0_r7 [466, 471, 478, 482] (by decide +kernel) (by decide +kernel) w h).1
set_option maxRecDepth 20000 in
theorem wsL_law_in0_8 : ∀ w ∈ wsL_law0_r8, w ∈ lw_tbl := fun w h => (goodIn_p wsL_law0_r8 [373, 368, 399, 388] (by decide +kernel) (by decide +kernel) w h).1
set_option maxRecDepth 20000 in
theorem wsL_law_in0_9 : ∀ w ∈ wsL_law0_r9, w ∈ lw_tbl := fun w h => (goodIn_p wsL_law0_r9 [490, 210, 293, 494, 498, 502] (by decide +kernel) (by decide +kernel) w h).1
set_option maxRecDepth 20000 in
theorem wsL_law_in0_10 : ∀ w ∈ wsL_law0_r10, w ∈ lw_tbl := fun w h => (goodIn_p wsL_law0_r10 [357, 320, 507, 511, 345] (by decide +kernel) (by decide +kernel) w h).1
set_option maxRecDepth 20000 in
theorem wsL_law_in0_11 : ∀ w ∈ wsL_law0_r11, w ∈ lw_tbl := fun w h => (goodIn_p wsL_law0_r11 [354, 349, 404, 392, 395] (by decide +kernel) (by decide +kernel) w h).1
set_option maxRecDepth 20000 in
theorem wsL_law_in0_12 : ∀ w ∈ wsL_law0_r12, w ∈ lw_tbl := fun w h => (goodIn_p wsL_law0_r12 [409, 414, 207, 312, 316, 323] (by decide +kernel) (by decide +kernel) w h).1
set_option maxRecDepth 20000 in
theorem wsL_law_in0_13 : ∀ w ∈ wsL_law0_r13, w ∈ lw_tbl := fun w h => (goodIn_p wsL_law0_r13 [326, 330, 333, 337, 341] (by decide +kernel) (by decide +kernel) w h).1
set_option maxRecDepth 20000 in
theorem wsL_law_in0_14 : ∀ w ∈ wsL_law0_r14, w ∈ lw_tbl := fun w h => (goodIn_p wsL_law0_r14 [361, 378, 382, 524] (by decide +kernel) (by decide +kernel) w h).1
set_option maxRecDepth 20000 in
theorem wsL_law_in0_15 : ∀ w ∈ wsL_law0_r15, w ∈ lw_tbl := fun w h => (goodIn_p wsL_law0_r15 [532, 430, 536, 543, 426] (by decide +kernel) (by decide +kernel) w h).1
set_option maxRecDepth 20000 in
theorem wsL_law_in0_16 : ∀ w ∈ wsL_law0_r16, w ∈ lw_tbl := fun w h => (goodIn_p wsL_law0_r16 [547, 552, 556, 564, 569] (by decide +kernel) (by decide +kernel) w h).1
set_option maxRecDepth 20000 in
theorem wsL_law_in0_17 : ∀ w ∈ wsL_law0_r17, w ∈ lw_tbl := fun w h => (goodIn_p wsL_law0_r17 [573, 577, 585] (by decide +kernel) (by decide +kernel) w h).1
set_option maxRecDepth 20000 in
theorem wsL_law_in0_18 : ∀ w ∈ wsL_law0_r18, w ∈ lw_tbl := fun w h => (goodIn_p wsL_law0_r18 [594, 598, 602, 610, 614] (by decide +kernel) (by decide +kernel) w h).1
set_option maxRecDepth 20000 in
theorem wsL_law_in0_19 : ∀ w ∈ wsL_law0_r19, w ∈ lw_tbl := fun w h => (goodIn_p wsL_law0_r19 [621, 625, 422, 628, 632] (by decide +kernel) (by decide +kernel) w h).1
set_option maxRecDepth 20000 in
theorem wsL_law_in0_20 : ∀ w ∈ wsL_law0_r20, w ∈ lw_tbl := fun w h => (goodIn_p wsL_law0_r20 [637, 641, 645, 649] (by decide +kernel) (by decide +kernel) w h).1
theorem wsL_in_wsX50 : ∀ w ∈ wsX50, w ∈ lw_tbl := by decide +kernel
theorem wsL_in_wsX30 : ∀ w ∈ wsX30, w ∈ lw_tbl := by decide +kernel
theorem wsL_in_wsX10 : ∀ w ∈ wsX10, w ∈ lw_tbl := by decide +kernel
theorem wsL_in_wsX40 : ∀ w ∈ wsX40, w ∈ lw_tbl := by decide +kernel
theorem wsL_in_wsX00 : ∀ w ∈ wsX00, w ∈ lw_tbl := by decide +kernel
theorem wsL_in_wsX20 : ∀ w ∈ wsX20, w ∈ lw_tbl := by decide +kernel
theorem wsL_law_in0 : ∀ w ∈ wsL_law0, w ∈ lw_tbl := List.forall_mem_append.mpr ⟨(List.forall_mem_append.mpr ⟨(List.forall_mem_append.mpr ⟨(List.forall_mem_append.mpr ⟨(List.forall_mem_append.mpr ⟨(List.forall_mem_append.mpr ⟨(List.forall_mem_append.mpr ⟨(List.forall_mem_append.mpr ⟨wsL_law_in0_1, List.forall_mem_append.mpr ⟨wsL_law_in0_2, List.forall_mem_append.mpr ⟨wsL_law_in0_3, List.forall_mem_append.mpr ⟨wsL_law_in0_4, List.forall_mem_append.mpr ⟨wsL_law_in0_5, List.forall_mem_append.mpr ⟨wsL_law_in0_6, List.forall_mem_append.mpr ⟨wsL_law_in0_7, List.forall_mem_append.mpr ⟨wsL_law_in0_8, List.forall_mem_append.mpr ⟨wsL_law_in0_9, List.forall_mem_append.mpr ⟨wsL_law_in0_10, List.forall_mem_append.mpr ⟨wsL_law_in0_11, List.forall_mem_append.mpr ⟨wsL_law_in0_12, List.forall_mem_append.mpr ⟨wsL_law_in0_13, List.forall_mem_append.mpr ⟨wsL_law_in0_14, List.forall_mem_append.mpr ⟨wsL_law_in0_15, List.forall_mem_append.mpr ⟨wsL_law_in0_16, List.forall_mem_append.mpr ⟨wsL_law_in0_17, List.forall_mem_append.mpr ⟨wsL_law_in0_18, List.forall_mem_append.mpr ⟨wsL_law_in0_19, wsL_law_in0_20⟩⟩⟩⟩⟩⟩⟩⟩⟩⟩⟩⟩⟩⟩⟩⟩⟩⟩⟩), wsL_in_wsX50⟩), wsL_in_wsX30⟩), wsL_in_wsX10⟩), wsL_in_wsX40⟩), wsL_in_wsX00⟩), wsL_in_wsX20⟩), fun _ h => absurd h List.not_mem_nil⟩
theorem wsL_law_x0 : ∀ w ∈ (vx_at0 RX5 77 "java/lang/IllegalStateException" ["java/lang/RuntimeException", "java/lang/Exception"]).filter goodWord, w ∈ lw_tbl := by decide +kernel
theorem wsL_law_x1 : ∀ w ∈ (vx_at0 RX5 127 "java/lang/IndexOutOfBoundsException" ["java/lang/RuntimeException", "java/lang/Exception"]).filter goodWord, w ∈ lw_tbl := by decide +kernel
theorem wsL_law_x2 : ∀ w ∈ (vx_at0 RX5 85 "java/lang/IllegalArgumentException" ["java/lang/RuntimeException", "java/lang/Exception"]).filter goodWord, w ∈ lw_tbl := by decide +kernel
theorem wsL_law_in : ∀ w ∈ wsL_law, w ∈ lw_tbl := fun w h => (List.mem_append.mp h).elim (fun h => (List.mem_append.mp h).elim (fun h => (List.mem_append.mp h).elim (fun h => wsL_law_in0 w h) (fun h => wsL_law_x0 w h)) (fun h => wsL_law_x1 w h)) (fun h => wsL_law_x2 w h)
theorem inlX0 : ∀ w ∈ wsX00, w ∈ wsL_law := fun _ h => List.mem_append_left _ (List.mem_append_left _ (List.mem_append_left _ (List.mem_append_left _ (List.mem_append_left _ (List.mem_append_right _ h)))))
theorem inX0 : ∀ w ∈ wsX00, w ∈ lw_tbl := fun w h => wsL_law_in w (inlX0 w h)
theorem inlX1 : ∀ w ∈ wsX10, w ∈ wsL_law := fun _ h => List.mem_append_left _ (List.mem_append_left _ (List.mem_append_left _ (List.mem_append_left _ (List.mem_append_left _ (List.mem_append_left _ (List.mem_append_left _ (List.mem_append_right _ h)))))))
theorem inX1 : ∀ w ∈ wsX10, w ∈ lw_tbl := fun w h => wsL_law_in w (inlX1 w h)
theorem inlX2 : ∀ w ∈ wsX20, w ∈ wsL_law := fun _ h => List.mem_append_left _ (List.mem_append_left _ (List.mem_append_left _ (List.mem_append_left _ (List.mem_append_right _ h))))
theorem inX2 : ∀ w ∈ wsX20, w ∈ lw_tbl := fun w h => wsL_law_in w (inlX2 w h)
theorem inlX3 : ∀ w ∈ wsX30, w ∈ wsL_law := fun _ h => List.mem_append_left _ (List.mem_append_left _ (List.mem_append_left _ (List.mem_append_left _ (List.mem_append_left _ (List.mem_append_left _ (List.mem_append_left _ (List.mem_append_left _ (List.mem_append_right _ h))))))))
theorem inX3 : ∀ w ∈ wsX30, w ∈ lw_tbl := fun w h => wsL_law_in w (inlX3 w h)
theorem inlX4 : ∀ w ∈ wsX40, w ∈ wsL_law := fun _ h => List.mem_append_left _ (List.mem_append_left _ (List.mem_append_left _ (List.mem_append_left _ (List.mem_append_left _ (List.mem_append_left _ (List.mem_append_right _ h))))))
theorem inX4 : ∀ w ∈ wsX40, w ∈ lw_tbl := fun w h => wsL_law_in w (inlX4 w h)
theorem inlX5 : ∀ w ∈ wsX50, w ∈ wsL_law := fun _ h => List.mem_append_left _ (List.mem_append_left _ (List.mem_append_left _ (List.mem_append_left _ (List.mem_append_left _ (List.mem_append_left _ (List.mem_append_left _ (List.mem_append_left _ (List.mem_append_left _ (List.mem_append_right _ h)))))))))
theorem inX5 : ∀ w ∈ wsX50, w ∈ lw_tbl := fun w h => wsL_law_in w (inlX5 w h)
theorem inX6 : ∀ w ∈ wsX60, w ∈ lw_tbl := by decide +kernel
theorem inJ9 : ∀ w ∈ wsJ90, w ∈ lw_tbl := by decide +kernel
theorem inJ10 : ∀ w ∈ wsJ100, w ∈ lw_tbl := by decide +kernel
end
section
set_option maxRecDepth 20000 in
theorem ggX0_init_X2_init : GoodIn wsX0_init wsX2_init := goodIn_r _ [12, 13, 2, 3, 14, 15, 19] (by decide +kernel) (by decide +kernel)
set_option maxRecDepth 20000 in
theorem gX0_init_X2_init : GoodIn wsX0_init (wsX2_init) := ggX0_init_X2_init
theorem dX0_init_0 : decode cX0_init 0 = .ok (.aload_n 0, 1) := by decide +kernel
theorem dX0_init_1 : decode cX0_init 1 = .ok (.invokespecial 3, 3) := by decide +kernel
theorem dX0_init_4 : decode cX0_init 4 = .ok (.aload_n 0, 1) := by decide +kernel
theorem dX0_init_5 : decode cX0_init 5 = .ok (.aload_n 1, 1) := by decide +kernel
theorem dX0_init_6 : decode cX0_init 6 = .ok (.putfield 9, 3) := by decide +kernel
theorem dX0_init_9 : decode cX0_init 9 = .ok (.aload_n 0, 1) := by decide +kernel
theorem dX0_init_10 : decode cX0_init 10 = .ok (.new 15, 3) := by decide +kernel
theorem dX0_init_13 : decode cX0_init 13 = .ok (.dup, 1) := by decide +kernel
theorem dX0_init_14 : decode cX0_init 14 = .ok (.invokespecial 17, 3) := by decide +kernel
theorem dX0_init_17 : decode cX0_init 17 = .ok (.putfield 18, 3) := by decide +kernel
theorem dX0_init_20 : decode cX0_init 20 = .ok (.aload_n 0, 1) := by decide +kernel
theorem dX0_init_21 : decode cX0_init 21 = .ok (.new 15, 3) := by decide +kernel
theorem dX0_init_24 : decode cX0_init 24 = .ok (.dup, 1) := by decide +kernel
theorem dX0_init_25 : decode cX0_init 25 = .ok (.invokespecial 17, 3) := by decide +kernel
theorem dX0_init_28 : decode cX0_init 28 = .ok (.putfield 22, 3) := by decide +kernel
theorem dX0_init_31 : decode cX0_init 31 = .ok (.return_, 1) := by decide +kernel
theorem dX0_chart_0 : decode cX0_chart 0 = .ok (.aload_n 0, 1) := by decide +kernel
theorem dX0_chart_1 : decode cX0_chart 1 = .ok (.getfield 18, 3) := by decide +kernel
theorem dX0_chart_4 : decode cX0_chart 4 = .ok (.areturn, 1) := by decide +kernel
set_option maxRecDepth 20000 in
theorem ggX0_begin_X3_isFree : GoodIn wsX0_begin wsX3_isFree := goodIn_r _ [7, 8, 9, 10, 11, 21, 22, 23] (by decide +kernel) (by decide +kernel)
set_option maxRecDepth 20000 in
theorem gX0_begin_X3_isFree : GoodIn wsX0_begin (wsV RX0 25 RX3 yX3_isFree wsX3_isFree) := goodIn_app (goodIn_of _ (by decide +kernel)) ggX0_begin_X3_isFree
set_option maxRecDepth 20000 in
theorem ggX0_begin_X2_put : GoodIn wsX0_begin wsX2_put := goodIn_r _ [16, 17, 9, 10, 11, 24] (by decide +kernel) (by decide +kernel)
set_option maxRecDepth 20000 in
theorem gX0_begin_X2_put : GoodIn wsX0_begin (wsV RX0 31 RX2 yX2_put wsX2_put) := goodIn_app (goodIn_of _ (by decide +kernel)) ggX0_begin_X2_put
theorem dX0_begin_0 : decode cX0_begin 0 = .ok (.iconst 0, 1) := by decide +kernel
theorem dX0_begin_1 : decode cX0_begin 1 = .ok (.istore_n 1, 1) := by decide +kernel
theorem dX0_begin_2 : decode cX0_begin 2 = .ok (.iload_n 1, 1) := by decide +kernel
theorem dX0_begin_3 : decode cX0_begin 3 = .ok (.bipush 64, 2) := by decide +kernel
theorem dX0_begin_5 : decode cX0_begin 5 = .ok (.if_icmp .ge 33, 3) := by decide +kernel
theorem dX0_begin_8 : decode cX0_begin 8 = .ok (.aload_n 0, 1) := by decide +kernel
theorem dX0_begin_9 : decode cX0_begin 9 = .ok (.getfield 18, 3) := by decide +kernel
theorem dX0_begin_12 : decode cX0_begin 12 = .ok (.iload_n 1, 1) := by decide +kernel
theorem dX0_begin_13 : decode cX0_begin 13 = .ok (.aload_n 0, 1) := by decide +kernel
theorem dX0_begin_14 : decode cX0_begin 14 = .ok (.getfield 9, 3) := by decide +kernel
theorem dX0_begin_17 : decode cX0_begin 17 = .ok (.iload_n 1, 1) := by decide +kernel
theorem dX0_begin_18 : decode cX0_begin 18 = .ok (.invokevirtual 25, 3) := by decide +kernel
theorem dX0_begin_21 : decode cX0_begin 21 = .ok (.ifCond .eq 7, 3) := by decide +kernel
theorem dX0_begin_24 : decode cX0_begin 24 = .ok (.lconst 1, 1) := by decide +kernel
theorem dX0_begin_25 : decode cX0_begin 25 = .ok (.goto 4, 3) := by decide +kernel
theorem dX0_begin_28 : decode cX0_begin 28 = .ok (.lconst 0, 1) := by decide +kernel
theorem dX0_begin_29 : decode cX0_begin 29 = .ok (.invokevirtual 31, 3) := by decide +kernel
theorem dX0_begin_32 : decode cX0_begin 32 = .ok (.iinc 1 1, 3) := by decide +kernel
theorem dX0_begin_35 : decode cX0_begin 35 = .ok (.goto (-33), 3) := by decide +kernel
theorem dX0_begin_38 : decode cX0_begin 38 = .ok (.return_, 1) := by decide +kernel
set_option maxRecDepth 20000 in
theorem ggX0_push_X2_copy : GoodIn wsX0_push wsX2_copy := goodIn_r _ [10, 11, 12, 13, 14, 15, 82] (by decide +kernel) (by decide +kernel)
set_option maxRecDepth 20000 in
theorem gX0_push_X2_copy : GoodIn wsX0_push (wsV RX0 35 RX2 yX2_copy wsX2_copy) := goodIn_app (goodIn_of _ (by decide +kernel)) ggX0_push_X2_copy
set_option maxRecDepth 20000 in
theorem ggX0_push_X2_clear : GoodIn wsX0_push wsX2_clear := goodIn_r _ [19, 11, 82] (by decide +kernel) (by decide +kernel)
set_option maxRecDepth 20000 in
theorem gX0_push_X2_clear : GoodIn wsX0_push (wsV RX0 39 RX2 yX2_clear wsX2_clear) := goodIn_app (goodIn_of _ (by decide +kernel)) ggX0_push_X2_clear
set_option maxRecDepth 20000 in
theorem ggX0_push_X3_isFree : GoodIn wsX0_push wsX3_isFree := goodIn_r _ [24, 25, 26, 27, 28, 83, 84, 85] (by decide +kernel) (by decide +kernel)
set_option maxRecDepth 20000 in
theorem gX0_push_X3_isFree : GoodIn wsX0_push (wsV RX0 25 RX3 yX3_isFree wsX3_isFree) := goodIn_app (goodIn_of _ (by decide +kernel)) ggX0_push_X3_isFree
set_option maxRecDepth 20000 in
theorem ggX0_push_X2_at : GoodIn wsX0_push wsX2_at := goodIn_r _ [32, 11, 26, 27, 28, 82] (by decide +kernel) (by decide +kernel)
set_option maxRecDepth 20000 in
theorem gX0_push_X2_at : GoodIn wsX0_push (wsV RX0 44 RX2 yX2_at wsX2_at) := goodIn_app (goodIn_of _ (by decide +kernel)) ggX0_push_X2_at
set_option maxRecDepth 20000 in
theorem ggX0_push_X2_add : GoodIn wsX0_push wsX2_add := goodIn_r _ [36, 11, 26, 27, 28, 82] (by decide +kernel) (by decide +kernel)
set_option maxRecDepth 20000 in
theorem gX0_push_X2_add : GoodIn wsX0_push (wsV RX0 48 RX2 yX2_add wsX2_add) := goodIn_app (goodIn_of _ (by decide +kernel)) ggX0_push_X2_add
set_option maxRecDepth 20000 in
theorem ggX0_push_X3_led : GoodIn wsX0_push wsX3_led := goodIn_r _ [40, 41, 42, 43, 44, 45, 46, 47, 23, 48, 49, 26, 27, 28, 50, 51, 52, 53, 54, 55, 56, 57, 58, 59, 60, 83, 84, 85] (by decide +kernel) (by decide +kernel)
set_option maxRecDepth 20000 in
theorem gX0_push_X3_led : GoodIn wsX0_push (wsV RX0 51 RX3 yX3_led wsX3_led) := goodIn_app (goodIn_of _ (by decide +kernel)) ggX0_push_X3_led
set_option maxRecDepth 20000 in
theorem ggX0_push_X0_halveGreat : GoodIn wsX0_push wsX0_halveGreat := goodIn_r _ [65, 2, 66, 67, 68, 69, 9, 70, 11, 71, 72, 43, 73, 74, 75, 76, 77, 78, 79, 80, 81, 82] (by decide +kernel) (by decide +kernel)
set_option maxRecDepth 20000 in
theorem gX0_push_X0_halveGreat : GoodIn wsX0_push (wsV RX0 57 RX0 yX0_halveGreat wsX0_halveGreat) := goodIn_app (goodIn_of _ (by decide +kernel)) ggX0_push_X0_halveGreat
theorem dX0_push_0 : decode cX0_push 0 = .ok (.aload_n 0, 1) := by decide +kernel
theorem dX0_push_1 : decode cX0_push 1 = .ok (.getfield 22, 3) := by decide +kernel
theorem dX0_push_4 : decode cX0_push 4 = .ok (.aload_n 0, 1) := by decide +kernel
theorem dX0_push_5 : decode cX0_push 5 = .ok (.getfield 18, 3) := by decide +kernel
theorem dX0_push_8 : decode cX0_push 8 = .ok (.invokevirtual 35, 3) := by decide +kernel
theorem dX0_push_11 : decode cX0_push 11 = .ok (.aload_n 0, 1) := by decide +kernel
theorem dX0_push_12 : decode cX0_push 12 = .ok (.getfield 18, 3) := by decide +kernel
theorem dX0_push_15 : decode cX0_push 15 = .ok (.invokevirtual 39, 3) := by decide +kernel
theorem dX0_push_18 : decode cX0_push 18 = .ok (.iconst 0, 1) := by decide +kernel
theorem dX0_push_19 : decode cX0_push 19 = .ok (.istore_n 2, 1) := by decide +kernel
theorem dX0_push_20 : decode cX0_push 20 = .ok (.iload_n 2, 1) := by decide +kernel
theorem dX0_push_21 : decode cX0_push 21 = .ok (.bipush 64, 2) := by decide +kernel
theorem dX0_push_23 : decode cX0_push 23 = .ok (.if_icmp .ge 94, 3) := by decide +kernel
theorem dX0_push_26 : decode cX0_push 26 = .ok (.aload_n 0, 1) := by decide +kernel
theorem dX0_push_27 : decode cX0_push 27 = .ok (.getfield 9, 3) := by decide +kernel
theorem dX0_push_30 : decode cX0_push 30 = .ok (.iload_n 2, 1) := by decide +kernel
theorem dX0_push_31 : decode cX0_push 31 = .ok (.invokevirtual 25, 3) := by decide +kernel
theorem dX0_push_34 : decode cX0_push 34 = .ok (.ifCond .eq 77, 3) := by decide +kernel
theorem dX0_push_37 : decode cX0_push 37 = .ok (.aload_n 0, 1) := by decide +kernel
theorem dX0_push_38 : decode cX0_push 38 = .ok (.getfield 18, 3) := by decide +kernel
theorem dX0_push_41 : decode cX0_push 41 = .ok (.iload_n 2, 1) := by decide +kernel
theorem dX0_push_42 : decode cX0_push 42 = .ok (.ldc2_w 42, 3) := by decide +kernel
theorem dX0_push_45 : decode cX0_push 45 = .ok (.aload_n 0, 1) := by decide +kernel
theorem dX0_push_46 : decode cX0_push 46 = .ok (.getfield 22, 3) := by decide +kernel
theorem dX0_push_49 : decode cX0_push 49 = .ok (.iload_n 2, 1) := by decide +kernel
theorem dX0_push_50 : decode cX0_push 50 = .ok (.invokevirtual 44, 3) := by decide +kernel
theorem dX0_push_53 : decode cX0_push 53 = .ok (.lmul, 1) := by decide +kernel
theorem dX0_push_54 : decode cX0_push 54 = .ok (.invokevirtual 48, 3) := by decide +kernel
theorem dX0_push_57 : decode cX0_push 57 = .ok (.aload_n 0, 1) := by decide +kernel
theorem dX0_push_58 : decode cX0_push 58 = .ok (.getfield 18, 3) := by decide +kernel
theorem dX0_push_61 : decode cX0_push 61 = .ok (.aload_n 0, 1) := by decide +kernel
theorem dX0_push_62 : decode cX0_push 62 = .ok (.getfield 9, 3) := by decide +kernel
theorem dX0_push_65 : decode cX0_push 65 = .ok (.iload_n 2, 1) := by decide +kernel
theorem dX0_push_66 : decode cX0_push 66 = .ok (.iload_n 1, 1) := by decide +kernel
theorem dX0_push_67 : decode cX0_push 67 = .ok (.iconst 1, 1) := by decide +kernel
theorem dX0_push_68 : decode cX0_push 68 = .ok (.invokevirtual 51, 3) := by decide +kernel
theorem dX0_push_71 : decode cX0_push 71 = .ok (.ldc2_w 55, 3) := by decide +kernel
theorem dX0_push_74 : decode cX0_push 74 = .ok (.aload_n 0, 1) := by decide +kernel
theorem dX0_push_75 : decode cX0_push 75 = .ok (.getfield 22, 3) := by decide +kernel
theorem dX0_push_78 : decode cX0_push 78 = .ok (.iload_n 2, 1) := by decide +kernel
theorem dX0_push_79 : decode cX0_push 79 = .ok (.invokevirtual 44, 3) := by decide +kernel
theorem dX0_push_82 : decode cX0_push 82 = .ok (.lmul, 1) := by decide +kernel
theorem dX0_push_83 : decode cX0_push 83 = .ok (.invokevirtual 48, 3) := by decide +kernel
theorem dX0_push_86 : decode cX0_push 86 = .ok (.aload_n 0, 1) := by decide +kernel
theorem dX0_push_87 : decode cX0_push 87 = .ok (.getfield 18, 3) := by decide +kernel
theorem dX0_push_90 : decode cX0_push 90 = .ok (.aload_n 0, 1) := by decide +kernel
theorem dX0_push_91 : decode cX0_push 91 = .ok (.getfield 9, 3) := by decide +kernel
theorem dX0_push_94 : decode cX0_push 94 = .ok (.iload_n 2, 1) := by decide +kernel
theorem dX0_push_95 : decode cX0_push 95 = .ok (.iload_n 1, 1) := by decide +kernel
theorem dX0_push_96 : decode cX0_push 96 = .ok (.iconst 2, 1) := by decide +kernel
theorem dX0_push_97 : decode cX0_push 97 = .ok (.invokevirtual 51, 3) := by decide +kernel
theorem dX0_push_100 : decode cX0_push 100 = .ok (.aload_n 0, 1) := by decide +kernel
theorem dX0_push_101 : decode cX0_push 101 = .ok (.getfield 22, 3) := by decide +kernel
theorem dX0_push_104 : decode cX0_push 104 = .ok (.iload_n 2, 1) := by decide +kernel
theorem dX0_push_105 : decode cX0_push 105 = .ok (.invokevirtual 44, 3) := by decide +kernel
theorem dX0_push_108 : decode cX0_push 108 = .ok (.invokevirtual 48, 3) := by decide +kernel
theorem dX0_push_111 : decode cX0_push 111 = .ok (.iinc 2 1, 3) := by decide +kernel
theorem dX0_push_114 : decode cX0_push 114 = .ok (.goto (-94), 3) := by decide +kernel
theorem dX0_push_117 : decode cX0_push 117 = .ok (.aload_n 0, 1) := by decide +kernel
theorem dX0_push_118 : decode cX0_push 118 = .ok (.invokevirtual 57, 3) := by decide +kernel
theorem dX0_push_121 : decode cX0_push 121 = .ok (.return_, 1) := by decide +kernel
set_option maxRecDepth 20000 in
theorem ggX0_fetch_X2_copy : GoodIn wsX0_fetch wsX2_copy := goodIn_r _ [7, 8, 9, 10, 11, 12, 83] (by decide +kernel) (by decide +kernel)
set_option maxRecDepth 20000 in
theorem gX0_fetch_X2_copy : GoodIn wsX0_fetch (wsV RX0 35 RX2 yX2_copy wsX2_copy) := goodIn_app (goodIn_of _ (by decide +kernel)) ggX0_fetch_X2_copy
set_option maxRecDepth 20000 in
theorem ggX0_fetch_X0_fetched : GoodIn wsX0_fetch wsX0_fetched := goodIn_r _ [17, 18, 1, 19, 20, 21, 22, 23, 6, 24, 8, 25, 26, 27, 28, 29, 30, 31, 32, 33, 34, 35, 36, 37, 38, 39, 40, 41, 42, 43, 44, 45, 46, 47, 48, 49, 50, 51, 52, 53, 54, 55, 56, 57, 58, 80, 81, 82, 83, 84, 85, 86] (by decide +kernel) (by decide +kernel)
set_option maxRecDepth 20000 in
theorem gX0_fetch_X0_fetched : GoodIn wsX0_fetch (wsV RX0 60 RX0 yX0_fetched wsX0_fetched) := goodIn_app (goodIn_of _ (by decide +kernel)) ggX0_fetch_X0_fetched
set_option maxRecDepth 20000 in
theorem ggX0_fetch_X2_put : GoodIn wsX0_fetch wsX2_put := goodIn_r _ [62, 8, 25, 26, 27, 83] (by decide +kernel) (by decide +kernel)
set_option maxRecDepth 20000 in
theorem gX0_fetch_X2_put : GoodIn wsX0_fetch (wsV RX0 31 RX2 yX2_put wsX2_put) := goodIn_app (goodIn_of _ (by decide +kernel)) ggX0_fetch_X2_put
set_option maxRecDepth 20000 in
theorem ggX0_fetch_X0_halveGreat : GoodIn wsX0_fetch wsX0_halveGreat := goodIn_r _ [66, 2, 67, 68, 69, 70, 6, 71, 8, 72, 73, 51, 74, 75, 76, 77, 78, 79, 80, 81, 82, 83] (by decide +kernel) (by decide +kernel)
set_option maxRecDepth 20000 in
theorem gX0_fetch_X0_halveGreat : GoodIn wsX0_fetch (wsV RX0 57 RX0 yX0_halveGreat wsX0_halveGreat) := goodIn_app (goodIn_of _ (by decide +kernel)) ggX0_fetch_X0_halveGreat
theorem dX0_fetch_0 : decode cX0_fetch 0 = .ok (.aload_n 0, 1) := by decide +kernel
theorem dX0_fetch_1 : decode cX0_fetch 1 = .ok (.getfield 22, 3) := by decide +kernel
theorem dX0_fetch_4 : decode cX0_fetch 4 = .ok (.aload_n 0, 1) := by decide +kernel
theorem dX0_fetch_5 : decode cX0_fetch 5 = .ok (.getfield 18, 3) := by decide +kernel
theorem dX0_fetch_8 : decode cX0_fetch 8 = .ok (.invokevirtual 35, 3) := by decide +kernel
theorem dX0_fetch_11 : decode cX0_fetch 11 = .ok (.iconst 0, 1) := by decide +kernel
theorem dX0_fetch_12 : decode cX0_fetch 12 = .ok (.istore_n 2, 1) := by decide +kernel
theorem dX0_fetch_13 : decode cX0_fetch 13 = .ok (.iload_n 2, 1) := by decide +kernel
theorem dX0_fetch_14 : decode cX0_fetch 14 = .ok (.bipush 64, 2) := by decide +kernel
theorem dX0_fetch_16 : decode cX0_fetch 16 = .ok (.if_icmp .ge 23, 3) := by decide +kernel
theorem dX0_fetch_19 : decode cX0_fetch 19 = .ok (.aload_n 0, 1) := by decide +kernel
theorem dX0_fetch_20 : decode cX0_fetch 20 = .ok (.getfield 18, 3) := by decide +kernel
theorem dX0_fetch_23 : decode cX0_fetch 23 = .ok (.iload_n 2, 1) := by decide +kernel
theorem dX0_fetch_24 : decode cX0_fetch 24 = .ok (.aload_n 0, 1) := by decide +kernel
theorem dX0_fetch_25 : decode cX0_fetch 25 = .ok (.iload_n 2, 1) := by decide +kernel
theorem dX0_fetch_26 : decode cX0_fetch 26 = .ok (.iload_n 1, 1) := by decide +kernel
theorem dX0_fetch_27 : decode cX0_fetch 27 = .ok (.invokevirtual 60, 3) := by decide +kernel
theorem dX0_fetch_30 : decode cX0_fetch 30 = .ok (.invokevirtual 31, 3) := by decide +kernel
theorem dX0_fetch_33 : decode cX0_fetch 33 = .ok (.iinc 2 1, 3) := by decide +kernel
theorem dX0_fetch_36 : decode cX0_fetch 36 = .ok (.goto (-23), 3) := by decide +kernel
theorem dX0_fetch_39 : decode cX0_fetch 39 = .ok (.aload_n 0, 1) := by decide +kernel
theorem dX0_fetch_40 : decode cX0_fetch 40 = .ok (.invokevirtual 57, 3) := by decide +kernel
theorem dX0_fetch_43 : decode cX0_fetch 43 = .ok (.return_, 1) := by decide +kernel
set_option maxRecDepth 20000 in
theorem ggX0_fetched_X2_at : GoodIn wsX0_fetched wsX2_at := goodIn_r _ [9, 10, 11, 12, 13, 48] (by decide +kernel) (by decide +kernel)
set_option maxRecDepth 20000 in
theorem gX0_fetched_X2_at : GoodIn wsX0_fetched (wsV RX0 44 RX2 yX2_at wsX2_at) := goodIn_app (goodIn_of _ (by decide +kernel)) ggX0_fetched_X2_at
set_option maxRecDepth 20000 in
theorem ggX0_fetched_X3_shifted : GoodIn wsX0_fetched wsX3_shifted := goodIn_r _ [17, 18, 19, 11, 12, 13, 20, 21, 22, 23, 24, 25] (by decide +kernel) (by decide +kernel)
set_option maxRecDepth 20000 in
theorem gX0_fetched_X3_shifted : GoodIn wsX0_fetched (va_wsS RX0 64 yX3_shifted wsX3_shifted) := goodIn_app (goodIn_of _ (by decide +kernel)) ggX0_fetched_X3_shifted
set_option maxRecDepth 20000 in
theorem ggX0_fetched_X3_isFree : GoodIn wsX0_fetched wsX3_isFree := goodIn_r _ [29, 30, 11, 12, 13, 49, 50, 51] (by decide +kernel) (by decide +kernel)
set_option maxRecDepth 20000 in
theorem gX0_fetched_X3_isFree : GoodIn wsX0_fetched (wsV RX0 25 RX3 yX3_isFree wsX3_isFree) := goodIn_app (goodIn_of _ (by decide +kernel)) ggX0_fetched_X3_isFree
set_option maxRecDepth 20000 in
theorem ggX0_fetched_X3_led : GoodIn wsX0_fetched wsX3_led := goodIn_r _ [34, 35, 36, 37, 38, 39, 40, 41, 16, 42, 43, 11, 12, 13, 20, 21, 44, 15, 17, 18, 19, 22, 23, 24, 25, 49, 50, 51] (by decide +kernel) (by decide +kernel)
set_option maxRecDepth 20000 in
theorem gX0_fetched_X3_led : GoodIn wsX0_fetched (wsV RX0 51 RX3 yX3_led wsX3_led) := goodIn_app (goodIn_of _ (by decide +kernel)) ggX0_fetched_X3_led
theorem dX0_fetched_0 : decode cX0_fetched 0 = .ok (.ldc2_w 42, 3) := by decide +kernel
theorem dX0_fetched_3 : decode cX0_fetched 3 = .ok (.aload_n 0, 1) := by decide +kernel
theorem dX0_fetched_4 : decode cX0_fetched 4 = .ok (.getfield 22, 3) := by decide +kernel
theorem dX0_fetched_7 : decode cX0_fetched 7 = .ok (.iload_n 1, 1) := by decide +kernel
theorem dX0_fetched_8 : decode cX0_fetched 8 = .ok (.invokevirtual 44, 3) := by decide +kernel
theorem dX0_fetched_11 : decode cX0_fetched 11 = .ok (.lmul, 1) := by decide +kernel
theorem dX0_fetched_12 : decode cX0_fetched 12 = .ok (.lstore_n 3, 1) := by decide +kernel
theorem dX0_fetched_13 : decode cX0_fetched 13 = .ok (.iconst 0, 1) := by decide +kernel
theorem dX0_fetched_14 : decode cX0_fetched 14 = .ok (.istore 5, 2) := by decide +kernel
theorem dX0_fetched_16 : decode cX0_fetched 16 = .ok (.iload 5, 2) := by decide +kernel
theorem dX0_fetched_18 : decode cX0_fetched 18 = .ok (.iconst 2, 1) := by decide +kernel
theorem dX0_fetched_19 : decode cX0_fetched 19 = .ok (.if_icmp .gt 97, 3) := by decide +kernel
theorem dX0_fetched_22 : decode cX0_fetched 22 = .ok (.iload_n 1, 1) := by decide +kernel
theorem dX0_fetched_23 : decode cX0_fetched 23 = .ok (.iload_n 2, 1) := by decide +kernel
theorem dX0_fetched_24 : decode cX0_fetched 24 = .ok (.iload 5, 2) := by decide +kernel
theorem dX0_fetched_26 : decode cX0_fetched 26 = .ok (.ineg, 1) := by decide +kernel
theorem dX0_fetched_27 : decode cX0_fetched 27 = .ok (.invokestatic 64, 3) := by decide +kernel
theorem dX0_fetched_30 : decode cX0_fetched 30 = .ok (.istore 6, 2) := by decide +kernel
theorem dX0_fetched_32 : decode cX0_fetched 32 = .ok (.aload_n 0, 1) := by decide +kernel
theorem dX0_fetched_33 : decode cX0_fetched 33 = .ok (.getfield 9, 3) := by decide +kernel
theorem dX0_fetched_36 : decode cX0_fetched 36 = .ok (.iload 6, 2) := by decide +kernel
theorem dX0_fetched_38 : decode cX0_fetched 38 = .ok (.invokevirtual 25, 3) := by decide +kernel
theorem dX0_fetched_41 : decode cX0_fetched 41 = .ok (.ifCond .eq 69, 3) := by decide +kernel
theorem dX0_fetched_44 : decode cX0_fetched 44 = .ok (.lload_n 3, 1) := by decide +kernel
theorem dX0_fetched_45 : decode cX0_fetched 45 = .ok (.aload_n 0, 1) := by decide +kernel
theorem dX0_fetched_46 : decode cX0_fetched 46 = .ok (.getfield 9, 3) := by decide +kernel
theorem dX0_fetched_49 : decode cX0_fetched 49 = .ok (.iload 6, 2) := by decide +kernel
theorem dX0_fetched_51 : decode cX0_fetched 51 = .ok (.iload_n 2, 1) := by decide +kernel
theorem dX0_fetched_52 : decode cX0_fetched 52 = .ok (.iconst 1, 1) := by decide +kernel
theorem dX0_fetched_53 : decode cX0_fetched 53 = .ok (.invokevirtual 51, 3) := by decide +kernel
theorem dX0_fetched_56 : decode cX0_fetched 56 = .ok (.iload_n 1, 1) := by decide +kernel
theorem dX0_fetched_57 : decode cX0_fetched 57 = .ok (.if_icmp .ne 19, 3) := by decide +kernel
theorem dX0_fetched_60 : decode cX0_fetched 60 = .ok (.ldc2_w 55, 3) := by decide +kernel
theorem dX0_fetched_63 : decode cX0_fetched 63 = .ok (.aload_n 0, 1) := by decide +kernel
theorem dX0_fetched_64 : decode cX0_fetched 64 = .ok (.getfield 22, 3) := by decide +kernel
theorem dX0_fetched_67 : decode cX0_fetched 67 = .ok (.iload 6, 2) := by decide +kernel
theorem dX0_fetched_69 : decode cX0_fetched 69 = .ok (.invokevirtual 44, 3) := by decide +kernel
theorem dX0_fetched_72 : decode cX0_fetched 72 = .ok (.lmul, 1) := by decide +kernel
theorem dX0_fetched_73 : decode cX0_fetched 73 = .ok (.goto 4, 3) := by decide +kernel
theorem dX0_fetched_76 : decode cX0_fetched 76 = .ok (.lconst 0, 1) := by decide +kernel
theorem dX0_fetched_77 : decode cX0_fetched 77 = .ok (.ladd, 1) := by decide +kernel
theorem dX0_fetched_78 : decode cX0_fetched 78 = .ok (.lstore_n 3, 1) := by decide +kernel
theorem dX0_fetched_79 : decode cX0_fetched 79 = .ok (.lload_n 3, 1) := by decide +kernel
theorem dX0_fetched_80 : decode cX0_fetched 80 = .ok (.aload_n 0, 1) := by decide +kernel
theorem dX0_fetched_81 : decode cX0_fetched 81 = .ok (.getfield 9, 3) := by decide +kernel
theorem dX0_fetched_84 : decode cX0_fetched 84 = .ok (.iload 6, 2) := by decide +kernel
theorem dX0_fetched_86 : decode cX0_fetched 86 = .ok (.iload_n 2, 1) := by decide +kernel
theorem dX0_fetched_87 : decode cX0_fetched 87 = .ok (.iconst 2, 1) := by decide +kernel
theorem dX0_fetched_88 : decode cX0_fetched 88 = .ok (.invokevirtual 51, 3) := by decide +kernel
theorem dX0_fetched_91 : decode cX0_fetched 91 = .ok (.iload_n 1, 1) := by decide +kernel
theorem dX0_fetched_92 : decode cX0_fetched 92 = .ok (.if_icmp .ne 15, 3) := by decide +kernel
theorem dX0_fetched_95 : decode cX0_fetched 95 = .ok (.aload_n 0, 1) := by decide +kernel
theorem dX0_fetched_96 : decode cX0_fetched 96 = .ok (.getfield 22, 3) := by decide +kernel
theorem dX0_fetched_99 : decode cX0_fetched 99 = .ok (.iload 6, 2) := by decide +kernel
theorem dX0_fetched_101 : decode cX0_fetched 101 = .ok (.invokevirtual 44, 3) := by decide +kernel
theorem dX0_fetched_104 : decode cX0_fetched 104 = .ok (.goto 4, 3) := by decide +kernel
theorem dX0_fetched_107 : decode cX0_fetched 107 = .ok (.lconst 0, 1) := by decide +kernel
theorem dX0_fetched_108 : decode cX0_fetched 108 = .ok (.ladd, 1) := by decide +kernel
theorem dX0_fetched_109 : decode cX0_fetched 109 = .ok (.lstore_n 3, 1) := by decide +kernel
theorem dX0_fetched_110 : decode cX0_fetched 110 = .ok (.iinc 5 1, 3) := by decide +kernel
theorem dX0_fetched_113 : decode cX0_fetched 113 = .ok (.goto (-97), 3) := by decide +kernel
theorem dX0_fetched_116 : decode cX0_fetched 116 = .ok (.lload_n 3, 1) := by decide +kernel
theorem dX0_fetched_117 : decode cX0_fetched 117 = .ok (.lreturn, 1) := by decide +kernel
set_option maxRecDepth 20000 in
theorem ggX0_weigh_X2_at : GoodIn wsX0_weigh wsX2_at := goodIn_r _ [7, 8, 9, 10, 11, 62] (by decide +kernel) (by decide +kernel)
set_option maxRecDepth 20000 in
theorem gX0_weigh_X2_at : GoodIn wsX0_weigh (wsV RX0 44 RX2 yX2_at wsX2_at) := goodIn_app (goodIn_of _ (by decide +kernel)) ggX0_weigh_X2_at
set_option maxRecDepth 20000 in
theorem ggX0_weigh_X3_weight : GoodIn wsX0_weigh wsX3_weight := goodIn_r _ [16, 17, 18, 19, 20, 21, 22, 23, 15, 24, 25, 9, 10, 11, 26, 27, 63, 64, 65] (by decide +kernel) (by decide +kernel)
set_option maxRecDepth 20000 in
theorem gX0_weigh_X3_weight : GoodIn wsX0_weigh (wsV RX0 67 RX3 yX3_weight wsX3_weight) := goodIn_app (goodIn_of _ (by decide +kernel)) ggX0_weigh_X3_weight
set_option maxRecDepth 20000 in
theorem ggX0_weigh_X2_put : GoodIn wsX0_weigh wsX2_put := goodIn_r _ [31, 8, 9, 10, 11, 62] (by decide +kernel) (by decide +kernel)
set_option maxRecDepth 20000 in
theorem gX0_weigh_X2_put : GoodIn wsX0_weigh (wsV RX0 31 RX2 yX2_put wsX2_put) := goodIn_app (goodIn_of _ (by decide +kernel)) ggX0_weigh_X2_put
set_option maxRecDepth 20000 in
theorem ggX0_weigh_X2_greatest : GoodIn wsX0_weigh wsX2_greatest := goodIn_r _ [35, 8, 36, 37, 19, 38, 62] (by decide +kernel) (by decide +kernel)
set_option maxRecDepth 20000 in
theorem gX0_weigh_X2_greatest : GoodIn wsX0_weigh (wsV RX0 70 RX2 yX2_greatest wsX2_greatest) := goodIn_app (goodIn_of _ (by decide +kernel)) ggX0_weigh_X2_greatest
set_option maxRecDepth 20000 in
theorem ggX0_weigh_X0_begin : GoodIn wsX0_weigh wsX0_begin := goodIn_r _ [43, 1, 2, 44, 45, 46, 15, 47, 48, 9, 10, 11, 28, 29, 30, 6, 31, 8, 59, 60, 61, 63, 64, 65, 62] (by decide +kernel) (by decide +kernel)
set_option maxRecDepth 20000 in
theorem gX0_weigh_X0_begin : GoodIn wsX0_weigh (wsV RX0 74 RX0 yX0_begin wsX0_begin) := goodIn_app (goodIn_of _ (by decide +kernel)) ggX0_weigh_X0_begin
set_option maxRecDepth 20000 in
theorem ggX0_weigh_X0_halveGreat : GoodIn wsX0_weigh wsX0_halveGreat := goodIn_r _ [52, 1, 53, 32, 33, 34, 6, 35, 8, 36, 37, 19, 38, 54, 55, 56, 57, 58, 59, 60, 61, 62] (by decide +kernel) (by decide +kernel)
set_option maxRecDepth 20000 in
theorem gX0_weigh_X0_halveGreat : GoodIn wsX0_weigh (wsV RX0 57 RX0 yX0_halveGreat wsX0_halveGreat) := goodIn_app (goodIn_of _ (by decide +kernel)) ggX0_weigh_X0_halveGreat
theorem dX0_weigh_0 : decode cX0_weigh 0 = .ok (.iconst 0, 1) := by decide +kernel
theorem dX0_weigh_1 : decode cX0_weigh 1 = .ok (.istore_n 3, 1) := by decide +kernel
theorem dX0_weigh_2 : decode cX0_weigh 2 = .ok (.iload_n 3, 1) := by decide +kernel
theorem dX0_weigh_3 : decode cX0_weigh 3 = .ok (.bipush 64, 2) := by decide +kernel
theorem dX0_weigh_5 : decode cX0_weigh 5 = .ok (.if_icmp .ge 37, 3) := by decide +kernel
theorem dX0_weigh_8 : decode cX0_weigh 8 = .ok (.aload_n 0, 1) := by decide +kernel
theorem dX0_weigh_9 : decode cX0_weigh 9 = .ok (.getfield 18, 3) := by decide +kernel
theorem dX0_weigh_12 : decode cX0_weigh 12 = .ok (.iload_n 3, 1) := by decide +kernel
theorem dX0_weigh_13 : decode cX0_weigh 13 = .ok (.aload_n 0, 1) := by decide +kernel
theorem dX0_weigh_14 : decode cX0_weigh 14 = .ok (.getfield 18, 3) := by decide +kernel
theorem dX0_weigh_17 : decode cX0_weigh 17 = .ok (.iload_n 3, 1) := by decide +kernel
theorem dX0_weigh_18 : decode cX0_weigh 18 = .ok (.invokevirtual 44, 3) := by decide +kernel
theorem dX0_weigh_21 : decode cX0_weigh 21 = .ok (.aload_n 0, 1) := by decide +kernel
theorem dX0_weigh_22 : decode cX0_weigh 22 = .ok (.getfield 9, 3) := by decide +kernel
theorem dX0_weigh_25 : decode cX0_weigh 25 = .ok (.iload_n 3, 1) := by decide +kernel
theorem dX0_weigh_26 : decode cX0_weigh 26 = .ok (.iload_n 1, 1) := by decide +kernel
theorem dX0_weigh_27 : decode cX0_weigh 27 = .ok (.iload_n 2, 1) := by decide +kernel
theorem dX0_weigh_28 : decode cX0_weigh 28 = .ok (.invokevirtual 67, 3) := by decide +kernel
theorem dX0_weigh_31 : decode cX0_weigh 31 = .ok (.i2l, 1) := by decide +kernel
theorem dX0_weigh_32 : decode cX0_weigh 32 = .ok (.lmul, 1) := by decide +kernel
theorem dX0_weigh_33 : decode cX0_weigh 33 = .ok (.invokevirtual 31, 3) := by decide +kernel
theorem dX0_weigh_36 : decode cX0_weigh 36 = .ok (.iinc 3 1, 3) := by decide +kernel
theorem dX0_weigh_39 : decode cX0_weigh 39 = .ok (.goto (-37), 3) := by decide +kernel
theorem dX0_weigh_42 : decode cX0_weigh 42 = .ok (.aload_n 0, 1) := by decide +kernel
theorem dX0_weigh_43 : decode cX0_weigh 43 = .ok (.getfield 18, 3) := by decide +kernel
theorem dX0_weigh_46 : decode cX0_weigh 46 = .ok (.invokevirtual 70, 3) := by decide +kernel
theorem dX0_weigh_49 : decode cX0_weigh 49 = .ok (.lconst 0, 1) := by decide +kernel
theorem dX0_weigh_50 : decode cX0_weigh 50 = .ok (.lcmp, 1) := by decide +kernel
theorem dX0_weigh_51 : decode cX0_weigh 51 = .ok (.ifCond .ne 7, 3) := by decide +kernel
theorem dX0_weigh_54 : decode cX0_weigh 54 = .ok (.aload_n 0, 1) := by decide +kernel
theorem dX0_weigh_55 : decode cX0_weigh 55 = .ok (.invokevirtual 74, 3) := by decide +kernel
theorem dX0_weigh_58 : decode cX0_weigh 58 = .ok (.aload_n 0, 1) := by decide +kernel
theorem dX0_weigh_59 : decode cX0_weigh 59 = .ok (.invokevirtual 57, 3) := by decide +kernel
theorem dX0_weigh_62 : decode cX0_weigh 62 = .ok (.return_, 1) := by decide +kernel
set_option maxRecDepth 20000 in
theorem ggX0_halveGreat_X2_greatest : GoodIn wsX0_halveGreat wsX2_greatest := goodIn_r _ [7, 8, 9, 10, 11, 12, 21] (by decide +kernel) (by decide +kernel)
set_option maxRecDepth 20000 in
theorem gX0_halveGreat_X2_greatest : GoodIn wsX0_halveGreat (wsV RX0 70 RX2 yX2_greatest wsX2_greatest) := goodIn_app (goodIn_of _ (by decide +kernel)) ggX0_halveGreat_X2_greatest
set_option maxRecDepth 20000 in
theorem ggX0_halveGreat_X2_halve : GoodIn wsX0_halveGreat wsX2_halve := goodIn_r _ [16, 8, 17, 21] (by decide +kernel) (by decide +kernel)
set_option maxRecDepth 20000 in
theorem gX0_halveGreat_X2_halve : GoodIn wsX0_halveGreat (wsV RX0 79 RX2 yX2_halve wsX2_halve) := goodIn_app (goodIn_of _ (by decide +kernel)) ggX0_halveGreat_X2_halve
theorem dX0_halveGreat_0 : decode cX0_halveGreat 0 = .ok (.iconst 0, 1) := by decide +kernel
theorem dX0_halveGreat_1 : decode cX0_halveGreat 1 = .ok (.istore_n 1, 1) := by decide +kernel
theorem dX0_halveGreat_2 : decode cX0_halveGreat 2 = .ok (.iload_n 1, 1) := by decide +kernel
theorem dX0_halveGreat_3 : decode cX0_halveGreat 3 = .ok (.bipush 64, 2) := by decide +kernel
theorem dX0_halveGreat_5 : decode cX0_halveGreat 5 = .ok (.if_icmp .ge 30, 3) := by decide +kernel
theorem dX0_halveGreat_8 : decode cX0_halveGreat 8 = .ok (.aload_n 0, 1) := by decide +kernel
theorem dX0_halveGreat_9 : decode cX0_halveGreat 9 = .ok (.getfield 18, 3) := by decide +kernel
theorem dX0_halveGreat_12 : decode cX0_halveGreat 12 = .ok (.invokevirtual 70, 3) := by decide +kernel
theorem dX0_halveGreat_15 : decode cX0_halveGreat 15 = .ok (.ldc2_w 77, 3) := by decide +kernel
theorem dX0_halveGreat_18 : decode cX0_halveGreat 18 = .ok (.lcmp, 1) := by decide +kernel
theorem dX0_halveGreat_19 : decode cX0_halveGreat 19 = .ok (.ifCond .le 16, 3) := by decide +kernel
theorem dX0_halveGreat_22 : decode cX0_halveGreat 22 = .ok (.aload_n 0, 1) := by decide +kernel
theorem dX0_halveGreat_23 : decode cX0_halveGreat 23 = .ok (.getfield 18, 3) := by decide +kernel
theorem dX0_halveGreat_26 : decode cX0_halveGreat 26 = .ok (.invokevirtual 79, 3) := by decide +kernel
theorem dX0_halveGreat_29 : decode cX0_halveGreat 29 = .ok (.iinc 1 1, 3) := by decide +kernel
theorem dX0_halveGreat_32 : decode cX0_halveGreat 32 = .ok (.goto (-30), 3) := by decide +kernel
theorem dX0_halveGreat_35 : decode cX0_halveGreat 35 = .ok (.return_, 1) := by decide +kernel
theorem dX1_init_0 : decode cX1_init 0 = .ok (.aload_n 0, 1) := by decide +kernel
theorem dX1_init_1 : decode cX1_init 1 = .ok (.invokespecial 1, 3) := by decide +kernel
theorem dX1_init_4 : decode cX1_init 4 = .ok (.aload_n 0, 1) := by decide +kernel
theorem dX1_init_5 : decode cX1_init 5 = .ok (.iconst 1, 1) := by decide +kernel
theorem dX1_init_6 : decode cX1_init 6 = .ok (.putfield 7, 3) := by decide +kernel
theorem dX1_init_9 : decode cX1_init 9 = .ok (.return_, 1) := by decide +kernel
theorem dX1_change_0 : decode cX1_change 0 = .ok (.aload_n 0, 1) := by decide +kernel
theorem dX1_change_1 : decode cX1_change 1 = .ok (.getfield 7, 3) := by decide +kernel
theorem dX1_change_4 : decode cX1_change 4 = .ok (.istore_n 2, 1) := by decide +kernel
theorem dX1_change_5 : decode cX1_change 5 = .ok (.aload_n 0, 1) := by decide +kernel
theorem dX1_change_6 : decode cX1_change 6 = .ok (.iload_n 1, 1) := by decide +kernel
theorem dX1_change_7 : decode cX1_change 7 = .ok (.putfield 7, 3) := by decide +kernel
theorem dX1_change_10 : decode cX1_change 10 = .ok (.iload_n 2, 1) := by decide +kernel
theorem dX1_change_11 : decode cX1_change 11 = .ok (.ireturn, 1) := by decide +kernel
theorem dX1_remainder_0 : decode cX1_remainder 0 = .ok (.aload_n 0, 1) := by decide +kernel
theorem dX1_remainder_1 : decode cX1_remainder 1 = .ok (.bipush 75, 2) := by decide +kernel
theorem dX1_remainder_3 : decode cX1_remainder 3 = .ok (.aload_n 0, 1) := by decide +kernel
theorem dX1_remainder_4 : decode cX1_remainder 4 = .ok (.getfield 7, 3) := by decide +kernel
theorem dX1_remainder_7 : decode cX1_remainder 7 = .ok (.imul, 1) := by decide +kernel
theorem dX1_remainder_8 : decode cX1_remainder 8 = .ok (.bipush 74, 2) := by decide +kernel
theorem dX1_remainder_10 : decode cX1_remainder 10 = .ok (.iadd, 1) := by decide +kernel
theorem dX1_remainder_11 : decode cX1_remainder 11 = .ok (.ldc 13, 2) := by decide +kernel
theorem dX1_remainder_13 : decode cX1_remainder 13 = .ok (.irem, 1) := by decide +kernel
theorem dX1_remainder_14 : decode cX1_remainder 14 = .ok (.putfield 7, 3) := by decide +kernel
theorem dX1_remainder_17 : decode cX1_remainder 17 = .ok (.iload_n 1, 1) := by decide +kernel
theorem dX1_remainder_18 : decode cX1_remainder 18 = .ok (.ifCond .gt 7, 3) := by decide +kernel
theorem dX1_remainder_21 : decode cX1_remainder 21 = .ok (.iconst 0, 1) := by decide +kernel
theorem dX1_remainder_22 : decode cX1_remainder 22 = .ok (.goto 9, 3) := by decide +kernel
theorem dX1_remainder_25 : decode cX1_remainder 25 = .ok (.aload_n 0, 1) := by decide +kernel
theorem dX1_remainder_26 : decode cX1_remainder 26 = .ok (.getfield 7, 3) := by decide +kernel
theorem dX1_remainder_29 : decode cX1_remainder 29 = .ok (.iload_n 1, 1) := by decide +kernel
theorem dX1_remainder_30 : decode cX1_remainder 30 = .ok (.irem, 1) := by decide +kernel
theorem dX1_remainder_31 : decode cX1_remainder 31 = .ok (.ireturn, 1) := by decide +kernel
theorem dX2_init_0 : decode cX2_init 0 = .ok (.aload_n 0, 1) := by decide +kernel
theorem dX2_init_1 : decode cX2_init 1 = .ok (.invokespecial 3, 3) := by decide +kernel
theorem dX2_init_4 : decode cX2_init 4 = .ok (.aload_n 0, 1) := by decide +kernel
theorem dX2_init_5 : decode cX2_init 5 = .ok (.bipush 64, 2) := by decide +kernel
theorem dX2_init_7 : decode cX2_init 7 = .ok (.newarray .long, 2) := by decide +kernel
theorem dX2_init_9 : decode cX2_init 9 = .ok (.putfield 9, 3) := by decide +kernel
theorem dX2_init_12 : decode cX2_init 12 = .ok (.return_, 1) := by decide +kernel
set_option maxRecDepth 20000 in
theorem ggX2_at_X5_isCell : GoodIn wsX2_at wsX5_isCell := goodIn_r _ [4] (by decide +kernel) (by decide +kernel)
set_option maxRecDepth 20000 in
theorem gX2_at_X5_isCell_n15 : GoodIn wsX2_at (wsX5_isCell) := ggX2_at_X5_isCell
theorem dX2_at_0 : decode cX2_at 0 = .ok (.iload_n 1, 1) := by decide +kernel
theorem dX2_at_1 : decode cX2_at 1 = .ok (.invokestatic 15, 3) := by decide +kernel
theorem dX2_at_4 : decode cX2_at 4 = .ok (.ifCond .eq 12, 3) := by decide +kernel
theorem dX2_at_7 : decode cX2_at 7 = .ok (.aload_n 0, 1) := by decide +kernel
theorem dX2_at_8 : decode cX2_at 8 = .ok (.getfield 9, 3) := by decide +kernel
theorem dX2_at_11 : decode cX2_at 11 = .ok (.iload_n 1, 1) := by decide +kernel
theorem dX2_at_12 : decode cX2_at 12 = .ok (.laload, 1) := by decide +kernel
theorem dX2_at_13 : decode cX2_at 13 = .ok (.goto 4, 3) := by decide +kernel
theorem dX2_at_16 : decode cX2_at 16 = .ok (.lconst 0, 1) := by decide +kernel
theorem dX2_at_17 : decode cX2_at 17 = .ok (.lreturn, 1) := by decide +kernel
set_option maxRecDepth 20000 in
theorem ggX2_put_X5_isCell : GoodIn wsX2_put wsX5_isCell := goodIn_r _ [4] (by decide +kernel) (by decide +kernel)
set_option maxRecDepth 20000 in
theorem gX2_put_X5_isCell_n15 : GoodIn wsX2_put (wsX5_isCell) := ggX2_put_X5_isCell
theorem dX2_put_0 : decode cX2_put 0 = .ok (.iload_n 1, 1) := by decide +kernel
theorem dX2_put_1 : decode cX2_put 1 = .ok (.invokestatic 15, 3) := by decide +kernel
theorem dX2_put_4 : decode cX2_put 4 = .ok (.ifCond .eq 10, 3) := by decide +kernel
theorem dX2_put_7 : decode cX2_put 7 = .ok (.aload_n 0, 1) := by decide +kernel
theorem dX2_put_8 : decode cX2_put 8 = .ok (.getfield 9, 3) := by decide +kernel
theorem dX2_put_11 : decode cX2_put 11 = .ok (.iload_n 1, 1) := by decide +kernel
theorem dX2_put_12 : decode cX2_put 12 = .ok (.lload_n 2, 1) := by decide +kernel
theorem dX2_put_13 : decode cX2_put 13 = .ok (.lastore, 1) := by decide +kernel
theorem dX2_put_14 : decode cX2_put 14 = .ok (.return_, 1) := by decide +kernel
set_option maxRecDepth 20000 in
theorem ggX2_add_X5_isCell : GoodIn wsX2_add wsX5_isCell := goodIn_r _ [4] (by decide +kernel) (by decide +kernel)
set_option maxRecDepth 20000 in
theorem gX2_add_X5_isCell_n15 : GoodIn wsX2_add (wsX5_isCell) := ggX2_add_X5_isCell
theorem dX2_add_0 : decode cX2_add 0 = .ok (.iload_n 1, 1) := by decide +kernel
theorem dX2_add_1 : decode cX2_add 1 = .ok (.invokestatic 15, 3) := by decide +kernel
theorem dX2_add_4 : decode cX2_add 4 = .ok (.ifCond .eq 13, 3) := by decide +kernel
theorem dX2_add_7 : decode cX2_add 7 = .ok (.aload_n 0, 1) := by decide +kernel
theorem dX2_add_8 : decode cX2_add 8 = .ok (.getfield 9, 3) := by decide +kernel
theorem dX2_add_11 : decode cX2_add 11 = .ok (.iload_n 1, 1) := by decide +kernel
theorem dX2_add_12 : decode cX2_add 12 = .ok (.dup2, 1) := by decide +kernel
theorem dX2_add_13 : decode cX2_add 13 = .ok (.laload, 1) := by decide +kernel
theorem dX2_add_14 : decode cX2_add 14 = .ok (.lload_n 2, 1) := by decide +kernel
theorem dX2_add_15 : decode cX2_add 15 = .ok (.ladd, 1) := by decide +kernel
theorem dX2_add_16 : decode cX2_add 16 = .ok (.lastore, 1) := by decide +kernel
theorem dX2_add_17 : decode cX2_add 17 = .ok (.return_, 1) := by decide +kernel
theorem dX2_clear_0 : decode cX2_clear 0 = .ok (.iconst 0, 1) := by decide +kernel
theorem dX2_clear_1 : decode cX2_clear 1 = .ok (.istore_n 1, 1) := by decide +kernel
theorem dX2_clear_2 : decode cX2_clear 2 = .ok (.iload_n 1, 1) := by decide +kernel
theorem dX2_clear_3 : decode cX2_clear 3 = .ok (.bipush 64, 2) := by decide +kernel
theorem dX2_clear_5 : decode cX2_clear 5 = .ok (.if_icmp .ge 16, 3) := by decide +kernel
theorem dX2_clear_8 : decode cX2_clear 8 = .ok (.aload_n 0, 1) := by decide +kernel
theorem dX2_clear_9 : decode cX2_clear 9 = .ok (.getfield 9, 3) := by decide +kernel
theorem dX2_clear_12 : decode cX2_clear 12 = .ok (.iload_n 1, 1) := by decide +kernel
theorem dX2_clear_13 : decode cX2_clear 13 = .ok (.lconst 0, 1) := by decide +kernel
theorem dX2_clear_14 : decode cX2_clear 14 = .ok (.lastore, 1) := by decide +kernel
theorem dX2_clear_15 : decode cX2_clear 15 = .ok (.iinc 1 1, 3) := by decide +kernel
theorem dX2_clear_18 : decode cX2_clear 18 = .ok (.goto (-16), 3) := by decide +kernel
theorem dX2_clear_21 : decode cX2_clear 21 = .ok (.return_, 1) := by decide +kernel
theorem dX2_halve_0 : decode cX2_halve 0 = .ok (.iconst 0, 1) := by decide +kernel
theorem dX2_halve_1 : decode cX2_halve 1 = .ok (.istore_n 1, 1) := by decide +kernel
theorem dX2_halve_2 : decode cX2_halve 2 = .ok (.iload_n 1, 1) := by decide +kernel
theorem dX2_halve_3 : decode cX2_halve 3 = .ok (.bipush 64, 2) := by decide +kernel
theorem dX2_halve_5 : decode cX2_halve 5 = .ok (.if_icmp .ge 21, 3) := by decide +kernel
theorem dX2_halve_8 : decode cX2_halve 8 = .ok (.aload_n 0, 1) := by decide +kernel
theorem dX2_halve_9 : decode cX2_halve 9 = .ok (.getfield 9, 3) := by decide +kernel
theorem dX2_halve_12 : decode cX2_halve 12 = .ok (.iload_n 1, 1) := by decide +kernel
theorem dX2_halve_13 : decode cX2_halve 13 = .ok (.dup2, 1) := by decide +kernel
theorem dX2_halve_14 : decode cX2_halve 14 = .ok (.laload, 1) := by decide +kernel
theorem dX2_halve_15 : decode cX2_halve 15 = .ok (.ldc2_w 19, 3) := by decide +kernel
theorem dX2_halve_18 : decode cX2_halve 18 = .ok (.ldiv, 1) := by decide +kernel
theorem dX2_halve_19 : decode cX2_halve 19 = .ok (.lastore, 1) := by decide +kernel
theorem dX2_halve_20 : decode cX2_halve 20 = .ok (.iinc 1 1, 3) := by decide +kernel
theorem dX2_halve_23 : decode cX2_halve 23 = .ok (.goto (-21), 3) := by decide +kernel
theorem dX2_halve_26 : decode cX2_halve 26 = .ok (.return_, 1) := by decide +kernel
theorem dX2_copy_0 : decode cX2_copy 0 = .ok (.aload_n 1, 1) := by decide +kernel
theorem dX2_copy_1 : decode cX2_copy 1 = .ok (.getfield 9, 3) := by decide +kernel
theorem dX2_copy_4 : decode cX2_copy 4 = .ok (.iconst 0, 1) := by decide +kernel
theorem dX2_copy_5 : decode cX2_copy 5 = .ok (.aload_n 0, 1) := by decide +kernel
theorem dX2_copy_6 : decode cX2_copy 6 = .ok (.getfield 9, 3) := by decide +kernel
theorem dX2_copy_9 : decode cX2_copy 9 = .ok (.iconst 0, 1) := by decide +kernel
theorem dX2_copy_10 : decode cX2_copy 10 = .ok (.bipush 64, 2) := by decide +kernel
theorem dX2_copy_12 : decode cX2_copy 12 = .ok (.invokestatic 21, 3) := by decide +kernel
theorem dX2_copy_15 : decode cX2_copy 15 = .ok (.return_, 1) := by decide +kernel
theorem dX2_greatest_0 : decode cX2_greatest 0 = .ok (.lconst 0, 1) := by decide +kernel
theorem dX2_greatest_1 : decode cX2_greatest 1 = .ok (.lstore_n 1, 1) := by decide +kernel
theorem dX2_greatest_2 : decode cX2_greatest 2 = .ok (.iconst 0, 1) := by decide +kernel
theorem dX2_greatest_3 : decode cX2_greatest 3 = .ok (.istore_n 3, 1) := by decide +kernel
theorem dX2_greatest_4 : decode cX2_greatest 4 = .ok (.iload_n 3, 1) := by decide +kernel
theorem dX2_greatest_5 : decode cX2_greatest 5 = .ok (.bipush 64, 2) := by decide +kernel
theorem dX2_greatest_7 : decode cX2_greatest 7 = .ok (.if_icmp .ge 20, 3) := by decide +kernel
theorem dX2_greatest_10 : decode cX2_greatest 10 = .ok (.lload_n 1, 1) := by decide +kernel
theorem dX2_greatest_11 : decode cX2_greatest 11 = .ok (.aload_n 0, 1) := by decide +kernel
theorem dX2_greatest_12 : decode cX2_greatest 12 = .ok (.getfield 9, 3) := by decide +kernel
theorem dX2_greatest_15 : decode cX2_greatest 15 = .ok (.iload_n 3, 1) := by decide +kernel
theorem dX2_greatest_16 : decode cX2_greatest 16 = .ok (.laload, 1) := by decide +kernel
theorem dX2_greatest_17 : decode cX2_greatest 17 = .ok (.invokestatic 27, 3) := by decide +kernel
theorem dX2_greatest_20 : decode cX2_greatest 20 = .ok (.lstore_n 1, 1) := by decide +kernel
theorem dX2_greatest_21 : decode cX2_greatest 21 = .ok (.iinc 3 1, 3) := by decide +kernel
theorem dX2_greatest_24 : decode cX2_greatest 24 = .ok (.goto (-20), 3) := by decide +kernel
theorem dX2_greatest_27 : decode cX2_greatest 27 = .ok (.lload_n 1, 1) := by decide +kernel
theorem dX2_greatest_28 : decode cX2_greatest 28 = .ok (.lreturn, 1) := by decide +kernel
set_option maxRecDepth 20000 in
theorem ggX2_greatestCell_X2_greatest : GoodIn wsX2_greatestCell wsX2_greatest := goodIn_r _ [6, 1, 7, 8, 9, 10, 11] (by decide +kernel) (by decide +kernel)
set_option maxRecDepth 20000 in
theorem gX2_greatestCell_X2_greatest : GoodIn wsX2_greatestCell (wsV RX2 33 RX2 yX2_greatest wsX2_greatest) := goodIn_app (goodIn_of _ (by decide +kernel)) ggX2_greatestCell_X2_greatest
theorem dX2_greatestCell_0 : decode cX2_greatestCell 0 = .ok (.aload_n 0, 1) := by decide +kernel
theorem dX2_greatestCell_1 : decode cX2_greatestCell 1 = .ok (.invokevirtual 33, 3) := by decide +kernel
theorem dX2_greatestCell_4 : decode cX2_greatestCell 4 = .ok (.lstore_n 1, 1) := by decide +kernel
theorem dX2_greatestCell_5 : decode cX2_greatestCell 5 = .ok (.iconst 0, 1) := by decide +kernel
theorem dX2_greatestCell_6 : decode cX2_greatestCell 6 = .ok (.istore_n 3, 1) := by decide +kernel
theorem dX2_greatestCell_7 : decode cX2_greatestCell 7 = .ok (.iload_n 3, 1) := by decide +kernel
theorem dX2_greatestCell_8 : decode cX2_greatestCell 8 = .ok (.bipush 64, 2) := by decide +kernel
theorem dX2_greatestCell_10 : decode cX2_greatestCell 10 = .ok (.if_icmp .ge 22, 3) := by decide +kernel
theorem dX2_greatestCell_13 : decode cX2_greatestCell 13 = .ok (.aload_n 0, 1) := by decide +kernel
theorem dX2_greatestCell_14 : decode cX2_greatestCell 14 = .ok (.getfield 9, 3) := by decide +kernel
theorem dX2_greatestCell_17 : decode cX2_greatestCell 17 = .ok (.iload_n 3, 1) := by decide +kernel
theorem dX2_greatestCell_18 : decode cX2_greatestCell 18 = .ok (.laload, 1) := by decide +kernel
theorem dX2_greatestCell_19 : decode cX2_greatestCell 19 = .ok (.lload_n 1, 1) := by decide +kernel
theorem dX2_greatestCell_20 : decode cX2_greatestCell 20 = .ok (.lcmp, 1) := by decide +kernel
theorem dX2_greatestCell_21 : decode cX2_greatestCell 21 = .ok (.ifCond .ne 5, 3) := by decide +kernel
theorem dX2_greatestCell_24 : decode cX2_greatestCell 24 = .ok (.iload_n 3, 1) := by decide +kernel
theorem dX2_greatestCell_25 : decode cX2_greatestCell 25 = .ok (.ireturn, 1) := by decide +kernel
theorem dX2_greatestCell_26 : decode cX2_greatestCell 26 = .ok (.iinc 3 1, 3) := by decide +kernel
theorem dX2_greatestCell_29 : decode cX2_greatestCell 29 = .ok (.goto (-22), 3) := by decide +kernel
theorem dX2_greatestCell_32 : decode cX2_greatestCell 32 = .ok (.iconst (-1), 1) := by decide +kernel
theorem dX2_greatestCell_33 : decode cX2_greatestCell 33 = .ok (.ireturn, 1) := by decide +kernel
set_option maxRecDepth 20000 in
theorem ggX2_sum_X2_sumOf : GoodIn wsX2_sum wsX2_sumOf := goodIn_r _ [5, 6, 7] (by decide +kernel) (by decide +kernel)
set_option maxRecDepth 20000 in
theorem gX2_sum_X2_sumOf : GoodIn wsX2_sum (wsV RX2 37 RX2 yX2_sumOf wsX2_sumOf) := goodIn_app (goodIn_of _ (by decide +kernel)) ggX2_sum_X2_sumOf
theorem dX2_sum_0 : decode cX2_sum 0 = .ok (.aload_n 0, 1) := by decide +kernel
theorem dX2_sum_1 : decode cX2_sum 1 = .ok (.iconst 0, 1) := by decide +kernel
theorem dX2_sum_2 : decode cX2_sum 2 = .ok (.iconst 0, 1) := by decide +kernel
theorem dX2_sum_3 : decode cX2_sum 3 = .ok (.bipush 7, 2) := by decide +kernel
theorem dX2_sum_5 : decode cX2_sum 5 = .ok (.bipush 7, 2) := by decide +kernel
theorem dX2_sum_7 : decode cX2_sum 7 = .ok (.invokevirtual 37, 3) := by decide +kernel
theorem dX2_sum_10 : decode cX2_sum 10 = .ok (.lreturn, 1) := by decide +kernel
theorem dX2_sumOf_0 : decode cX2_sumOf 0 = .ok (.lconst 0, 1) := by decide +kernel
theorem dX2_sumOf_1 : decode cX2_sumOf 1 = .ok (.lstore 5, 2) := by decide +kernel
theorem dX2_sumOf_3 : decode cX2_sumOf 3 = .ok (.iconst 0, 1) := by decide +kernel
theorem dX2_sumOf_4 : decode cX2_sumOf 4 = .ok (.istore 7, 2) := by decide +kernel
theorem dX2_sumOf_6 : decode cX2_sumOf 6 = .ok (.iload 7, 2) := by decide +kernel
theorem dX2_sumOf_8 : decode cX2_sumOf 8 = .ok (.bipush 64, 2) := by decide +kernel
theorem dX2_sumOf_10 : decode cX2_sumOf 10 = .ok (.if_icmp .ge 60, 3) := by decide +kernel
theorem dX2_sumOf_13 : decode cX2_sumOf 13 = .ok (.iload 7, 2) := by decide +kernel
theorem dX2_sumOf_15 : decode cX2_sumOf 15 = .ok (.bipush 8, 2) := by decide +kernel
theorem dX2_sumOf_17 : decode cX2_sumOf 17 = .ok (.irem, 1) := by decide +kernel
theorem dX2_sumOf_18 : decode cX2_sumOf 18 = .ok (.istore 8, 2) := by decide +kernel
theorem dX2_sumOf_20 : decode cX2_sumOf 20 = .ok (.iload 7, 2) := by decide +kernel
theorem dX2_sumOf_22 : decode cX2_sumOf 22 = .ok (.bipush 8, 2) := by decide +kernel
theorem dX2_sumOf_24 : decode cX2_sumOf 24 = .ok (.idiv, 1) := by decide +kernel
theorem dX2_sumOf_25 : decode cX2_sumOf 25 = .ok (.istore 9, 2) := by decide +kernel
theorem dX2_sumOf_27 : decode cX2_sumOf 27 = .ok (.iload 8, 2) := by decide +kernel
theorem dX2_sumOf_29 : decode cX2_sumOf 29 = .ok (.iload_n 1, 1) := by decide +kernel
theorem dX2_sumOf_30 : decode cX2_sumOf 30 = .ok (.if_icmp .lt 34, 3) := by decide +kernel
theorem dX2_sumOf_33 : decode cX2_sumOf 33 = .ok (.iload 8, 2) := by decide +kernel
theorem dX2_sumOf_35 : decode cX2_sumOf 35 = .ok (.iload_n 3, 1) := by decide +kernel
theorem dX2_sumOf_36 : decode cX2_sumOf 36 = .ok (.if_icmp .gt 28, 3) := by decide +kernel
theorem dX2_sumOf_39 : decode cX2_sumOf 39 = .ok (.iload 9, 2) := by decide +kernel
theorem dX2_sumOf_41 : decode cX2_sumOf 41 = .ok (.iload_n 2, 1) := by decide +kernel
theorem dX2_sumOf_42 : decode cX2_sumOf 42 = .ok (.if_icmp .lt 22, 3) := by decide +kernel
theorem dX2_sumOf_45 : decode cX2_sumOf 45 = .ok (.iload 9, 2) := by decide +kernel
theorem dX2_sumOf_47 : decode cX2_sumOf 47 = .ok (.iload 4, 2) := by decide +kernel
theorem dX2_sumOf_49 : decode cX2_sumOf 49 = .ok (.if_icmp .gt 15, 3) := by decide +kernel
theorem dX2_sumOf_52 : decode cX2_sumOf 52 = .ok (.lload 5, 2) := by decide +kernel
theorem dX2_sumOf_54 : decode cX2_sumOf 54 = .ok (.aload_n 0, 1) := by decide +kernel
theorem dX2_sumOf_55 : decode cX2_sumOf 55 = .ok (.getfield 9, 3) := by decide +kernel
theorem dX2_sumOf_58 : decode cX2_sumOf 58 = .ok (.iload 7, 2) := by decide +kernel
theorem dX2_sumOf_60 : decode cX2_sumOf 60 = .ok (.laload, 1) := by decide +kernel
theorem dX2_sumOf_61 : decode cX2_sumOf 61 = .ok (.ladd, 1) := by decide +kernel
theorem dX2_sumOf_62 : decode cX2_sumOf 62 = .ok (.lstore 5, 2) := by decide +kernel
theorem dX2_sumOf_64 : decode cX2_sumOf 64 = .ok (.iinc 7 1, 3) := by decide +kernel
theorem dX2_sumOf_67 : decode cX2_sumOf 67 = .ok (.goto (-61), 3) := by decide +kernel
theorem dX2_sumOf_70 : decode cX2_sumOf 70 = .ok (.lload 5, 2) := by decide +kernel
theorem dX2_sumOf_72 : decode cX2_sumOf 72 = .ok (.lreturn, 1) := by decide +kernel
theorem dX2_coordinateSum_0 : decode cX2_coordinateSum 0 = .ok (.lconst 0, 1) := by decide +kernel
theorem dX2_coordinateSum_1 : decode cX2_coordinateSum 1 = .ok (.lstore_n 2, 1) := by decide +kernel
theorem dX2_coordinateSum_2 : decode cX2_coordinateSum 2 = .ok (.iconst 0, 1) := by decide +kernel
theorem dX2_coordinateSum_3 : decode cX2_coordinateSum 3 = .ok (.istore 4, 2) := by decide +kernel
theorem dX2_coordinateSum_5 : decode cX2_coordinateSum 5 = .ok (.iload 4, 2) := by decide +kernel
theorem dX2_coordinateSum_7 : decode cX2_coordinateSum 7 = .ok (.bipush 64, 2) := by decide +kernel
theorem dX2_coordinateSum_9 : decode cX2_coordinateSum 9 = .ok (.if_icmp .ge 38, 3) := by decide +kernel
theorem dX2_coordinateSum_12 : decode cX2_coordinateSum 12 = .ok (.lload_n 2, 1) := by decide +kernel
theorem dX2_coordinateSum_13 : decode cX2_coordinateSum 13 = .ok (.aload_n 0, 1) := by decide +kernel
theorem dX2_coordinateSum_14 : decode cX2_coordinateSum 14 = .ok (.getfield 9, 3) := by decide +kernel
theorem dX2_coordinateSum_17 : decode cX2_coordinateSum 17 = .ok (.iload 4, 2) := by decide +kernel
theorem dX2_coordinateSum_19 : decode cX2_coordinateSum 19 = .ok (.laload, 1) := by decide +kernel
theorem dX2_coordinateSum_20 : decode cX2_coordinateSum 20 = .ok (.iload_n 1, 1) := by decide +kernel
theorem dX2_coordinateSum_21 : decode cX2_coordinateSum 21 = .ok (.ifCond .eq 11, 3) := by decide +kernel
theorem dX2_coordinateSum_24 : decode cX2_coordinateSum 24 = .ok (.iload 4, 2) := by decide +kernel
theorem dX2_coordinateSum_26 : decode cX2_coordinateSum 26 = .ok (.bipush 8, 2) := by decide +kernel
theorem dX2_coordinateSum_28 : decode cX2_coordinateSum 28 = .ok (.idiv, 1) := by decide +kernel
theorem dX2_coordinateSum_29 : decode cX2_coordinateSum 29 = .ok (.goto 8, 3) := by decide +kernel
theorem dX2_coordinateSum_32 : decode cX2_coordinateSum 32 = .ok (.iload 4, 2) := by decide +kernel
theorem dX2_coordinateSum_34 : decode cX2_coordinateSum 34 = .ok (.bipush 8, 2) := by decide +kernel
theorem dX2_coordinateSum_36 : decode cX2_coordinateSum 36 = .ok (.irem, 1) := by decide +kernel
theorem dX2_coordinateSum_37 : decode cX2_coordinateSum 37 = .ok (.i2l, 1) := by decide +kernel
theorem dX2_coordinateSum_38 : decode cX2_coordinateSum 38 = .ok (.lmul, 1) := by decide +kernel
theorem dX2_coordinateSum_39 : decode cX2_coordinateSum 39 = .ok (.ladd, 1) := by decide +kernel
theorem dX2_coordinateSum_40 : decode cX2_coordinateSum 40 = .ok (.lstore_n 2, 1) := by decide +kernel
theorem dX2_coordinateSum_41 : decode cX2_coordinateSum 41 = .ok (.iinc 4 1, 3) := by decide +kernel
theorem dX2_coordinateSum_44 : decode cX2_coordinateSum 44 = .ok (.goto (-39), 3) := by decide +kernel
theorem dX2_coordinateSum_47 : decode cX2_coordinateSum 47 = .ok (.lload_n 2, 1) := by decide +kernel
theorem dX2_coordinateSum_48 : decode cX2_coordinateSum 48 = .ok (.lreturn, 1) := by decide +kernel
set_option maxRecDepth 20000 in
theorem ggX2_cellAtPlace_X2_placeOf : GoodIn wsX2_cellAtPlace wsX2_placeOf := goodIn_r _ [6, 1, 7, 8, 9, 5, 10, 11, 12, 13, 14] (by decide +kernel) (by decide +kernel)
set_option maxRecDepth 20000 in
theorem gX2_cellAtPlace_X2_placeOf : GoodIn wsX2_cellAtPlace (wsV RX2 41 RX2 yX2_placeOf wsX2_placeOf) := goodIn_app (goodIn_of _ (by decide +kernel)) ggX2_cellAtPlace_X2_placeOf
theorem dX2_cellAtPlace_0 : decode cX2_cellAtPlace 0 = .ok (.iconst 0, 1) := by decide +kernel
theorem dX2_cellAtPlace_1 : decode cX2_cellAtPlace 1 = .ok (.istore_n 2, 1) := by decide +kernel
theorem dX2_cellAtPlace_2 : decode cX2_cellAtPlace 2 = .ok (.iload_n 2, 1) := by decide +kernel
theorem dX2_cellAtPlace_3 : decode cX2_cellAtPlace 3 = .ok (.bipush 64, 2) := by decide +kernel
theorem dX2_cellAtPlace_5 : decode cX2_cellAtPlace 5 = .ok (.if_icmp .ge 31, 3) := by decide +kernel
theorem dX2_cellAtPlace_8 : decode cX2_cellAtPlace 8 = .ok (.aload_n 0, 1) := by decide +kernel
theorem dX2_cellAtPlace_9 : decode cX2_cellAtPlace 9 = .ok (.getfield 9, 3) := by decide +kernel
theorem dX2_cellAtPlace_12 : decode cX2_cellAtPlace 12 = .ok (.iload_n 2, 1) := by decide +kernel
theorem dX2_cellAtPlace_13 : decode cX2_cellAtPlace 13 = .ok (.laload, 1) := by decide +kernel
theorem dX2_cellAtPlace_14 : decode cX2_cellAtPlace 14 = .ok (.lconst 0, 1) := by decide +kernel
theorem dX2_cellAtPlace_15 : decode cX2_cellAtPlace 15 = .ok (.lcmp, 1) := by decide +kernel
theorem dX2_cellAtPlace_16 : decode cX2_cellAtPlace 16 = .ok (.ifCond .le 14, 3) := by decide +kernel
theorem dX2_cellAtPlace_19 : decode cX2_cellAtPlace 19 = .ok (.aload_n 0, 1) := by decide +kernel
theorem dX2_cellAtPlace_20 : decode cX2_cellAtPlace 20 = .ok (.iload_n 2, 1) := by decide +kernel
theorem dX2_cellAtPlace_21 : decode cX2_cellAtPlace 21 = .ok (.invokevirtual 41, 3) := by decide +kernel
theorem dX2_cellAtPlace_24 : decode cX2_cellAtPlace 24 = .ok (.iload_n 1, 1) := by decide +kernel
theorem dX2_cellAtPlace_25 : decode cX2_cellAtPlace 25 = .ok (.if_icmp .ne 5, 3) := by decide +kernel
theorem dX2_cellAtPlace_28 : decode cX2_cellAtPlace 28 = .ok (.iload_n 2, 1) := by decide +kernel
theorem dX2_cellAtPlace_29 : decode cX2_cellAtPlace 29 = .ok (.ireturn, 1) := by decide +kernel
theorem dX2_cellAtPlace_30 : decode cX2_cellAtPlace 30 = .ok (.iinc 2 1, 3) := by decide +kernel
theorem dX2_cellAtPlace_33 : decode cX2_cellAtPlace 33 = .ok (.goto (-31), 3) := by decide +kernel
theorem dX2_cellAtPlace_36 : decode cX2_cellAtPlace 36 = .ok (.iconst (-1), 1) := by decide +kernel
theorem dX2_cellAtPlace_37 : decode cX2_cellAtPlace 37 = .ok (.ireturn, 1) := by decide +kernel
set_option maxRecDepth 20000 in
theorem ggX2_placeOf_X2_at : GoodIn wsX2_placeOf wsX2_at := goodIn_r _ [6, 1, 7, 8, 9, 10] (by decide +kernel) (by decide +kernel)
set_option maxRecDepth 20000 in
theorem gX2_placeOf_X2_at : GoodIn wsX2_placeOf (wsV RX2 45 RX2 yX2_at wsX2_at) := goodIn_app (goodIn_of _ (by decide +kernel)) ggX2_placeOf_X2_at
theorem dX2_placeOf_0 : decode cX2_placeOf 0 = .ok (.iconst 0, 1) := by decide +kernel
theorem dX2_placeOf_1 : decode cX2_placeOf 1 = .ok (.istore_n 2, 1) := by decide +kernel
theorem dX2_placeOf_2 : decode cX2_placeOf 2 = .ok (.iconst 0, 1) := by decide +kernel
theorem dX2_placeOf_3 : decode cX2_placeOf 3 = .ok (.istore_n 3, 1) := by decide +kernel
theorem dX2_placeOf_4 : decode cX2_placeOf 4 = .ok (.iload_n 3, 1) := by decide +kernel
theorem dX2_placeOf_5 : decode cX2_placeOf 5 = .ok (.bipush 64, 2) := by decide +kernel
theorem dX2_placeOf_7 : decode cX2_placeOf 7 = .ok (.if_icmp .ge 59, 3) := by decide +kernel
theorem dX2_placeOf_10 : decode cX2_placeOf 10 = .ok (.aload_n 0, 1) := by decide +kernel
theorem dX2_placeOf_11 : decode cX2_placeOf 11 = .ok (.getfield 9, 3) := by decide +kernel
theorem dX2_placeOf_14 : decode cX2_placeOf 14 = .ok (.iload_n 3, 1) := by decide +kernel
theorem dX2_placeOf_15 : decode cX2_placeOf 15 = .ok (.laload, 1) := by decide +kernel
theorem dX2_placeOf_16 : decode cX2_placeOf 16 = .ok (.aload_n 0, 1) := by decide +kernel
theorem dX2_placeOf_17 : decode cX2_placeOf 17 = .ok (.iload_n 1, 1) := by decide +kernel
theorem dX2_placeOf_18 : decode cX2_placeOf 18 = .ok (.invokevirtual 45, 3) := by decide +kernel
theorem dX2_placeOf_21 : decode cX2_placeOf 21 = .ok (.lcmp, 1) := by decide +kernel
theorem dX2_placeOf_22 : decode cX2_placeOf 22 = .ok (.ifCond .ne 12, 3) := by decide +kernel
theorem dX2_placeOf_25 : decode cX2_placeOf 25 = .ok (.iload_n 3, 1) := by decide +kernel
theorem dX2_placeOf_26 : decode cX2_placeOf 26 = .ok (.iload_n 1, 1) := by decide +kernel
theorem dX2_placeOf_27 : decode cX2_placeOf 27 = .ok (.if_icmp .ge 7, 3) := by decide +kernel
theorem dX2_placeOf_30 : decode cX2_placeOf 30 = .ok (.iconst 1, 1) := by decide +kernel
theorem dX2_placeOf_31 : decode cX2_placeOf 31 = .ok (.goto 4, 3) := by decide +kernel
theorem dX2_placeOf_34 : decode cX2_placeOf 34 = .ok (.iconst 0, 1) := by decide +kernel
theorem dX2_placeOf_35 : decode cX2_placeOf 35 = .ok (.istore 4, 2) := by decide +kernel
theorem dX2_placeOf_37 : decode cX2_placeOf 37 = .ok (.aload_n 0, 1) := by decide +kernel
theorem dX2_placeOf_38 : decode cX2_placeOf 38 = .ok (.getfield 9, 3) := by decide +kernel
theorem dX2_placeOf_41 : decode cX2_placeOf 41 = .ok (.iload_n 3, 1) := by decide +kernel
theorem dX2_placeOf_42 : decode cX2_placeOf 42 = .ok (.laload, 1) := by decide +kernel
theorem dX2_placeOf_43 : decode cX2_placeOf 43 = .ok (.aload_n 0, 1) := by decide +kernel
theorem dX2_placeOf_44 : decode cX2_placeOf 44 = .ok (.iload_n 1, 1) := by decide +kernel
theorem dX2_placeOf_45 : decode cX2_placeOf 45 = .ok (.invokevirtual 45, 3) := by decide +kernel
theorem dX2_placeOf_48 : decode cX2_placeOf 48 = .ok (.lcmp, 1) := by decide +kernel
theorem dX2_placeOf_49 : decode cX2_placeOf 49 = .ok (.ifCond .gt 8, 3) := by decide +kernel
theorem dX2_placeOf_52 : decode cX2_placeOf 52 = .ok (.iload 4, 2) := by decide +kernel
theorem dX2_placeOf_54 : decode cX2_placeOf 54 = .ok (.ifCond .eq 6, 3) := by decide +kernel
theorem dX2_placeOf_57 : decode cX2_placeOf 57 = .ok (.iinc 2 1, 3) := by decide +kernel
theorem dX2_placeOf_60 : decode cX2_placeOf 60 = .ok (.iinc 3 1, 3) := by decide +kernel
theorem dX2_placeOf_63 : decode cX2_placeOf 63 = .ok (.goto (-59), 3) := by decide +kernel
theorem dX2_placeOf_66 : decode cX2_placeOf 66 = .ok (.iload_n 2, 1) := by decide +kernel
theorem dX2_placeOf_67 : decode cX2_placeOf 67 = .ok (.ireturn, 1) := by decide +kernel
set_option maxRecDepth 20000 in
theorem ggX3_init_X3_measure : GoodIn wsX3_init wsX3_measure := goodIn_r _ [12, 13, 5, 7, 14, 15, 16, 11, 17, 18, 19, 20, 21, 22, 23, 24, 25, 26, 27, 28, 29, 30, 31, 32, 33, 34, 35, 36, 37, 38] (by decide +kernel) (by decide +kernel)
set_option maxRecDepth 20000 in
theorem gX3_init_X3_measure : GoodIn wsX3_init (wsV RX3 19 RX3 yX3_measure wsX3_measure) := goodIn_app (goodIn_of _ (by decide +kernel)) ggX3_init_X3_measure
theorem dX3_init_0 : decode cX3_init 0 = .ok (.aload_n 0, 1) := by decide +kernel
theorem dX3_init_1 : decode cX3_init 1 = .ok (.invokespecial 3, 3) := by decide +kernel
theorem dX3_init_4 : decode cX3_init 4 = .ok (.aload_n 0, 1) := by decide +kernel
theorem dX3_init_5 : decode cX3_init 5 = .ok (.bipush 64, 2) := by decide +kernel
theorem dX3_init_7 : decode cX3_init 7 = .ok (.newarray .boolean, 2) := by decide +kernel
theorem dX3_init_9 : decode cX3_init 9 = .ok (.putfield 9, 3) := by decide +kernel
theorem dX3_init_12 : decode cX3_init 12 = .ok (.aload_n 0, 1) := by decide +kernel
theorem dX3_init_13 : decode cX3_init 13 = .ok (.sipush 256, 3) := by decide +kernel
theorem dX3_init_16 : decode cX3_init 16 = .ok (.newarray .int, 2) := by decide +kernel
theorem dX3_init_18 : decode cX3_init 18 = .ok (.putfield 15, 3) := by decide +kernel
theorem dX3_init_21 : decode cX3_init 21 = .ok (.aload_n 0, 1) := by decide +kernel
theorem dX3_init_22 : decode cX3_init 22 = .ok (.invokevirtual 19, 3) := by decide +kernel
theorem dX3_init_25 : decode cX3_init 25 = .ok (.return_, 1) := by decide +kernel
set_option maxRecDepth 20000 in
theorem ggX3_isFree_X5_isCell : GoodIn wsX3_isFree wsX5_isCell := goodIn_r _ [4] (by decide +kernel) (by decide +kernel)
set_option maxRecDepth 20000 in
theorem gX3_isFree_X5_isCell_n22 : GoodIn wsX3_isFree (wsX5_isCell) := ggX3_isFree_X5_isCell
theorem dX3_isFree_0 : decode cX3_isFree 0 = .ok (.iload_n 1, 1) := by decide +kernel
theorem dX3_isFree_1 : decode cX3_isFree 1 = .ok (.invokestatic 22, 3) := by decide +kernel
theorem dX3_isFree_4 : decode cX3_isFree 4 = .ok (.ifCond .eq 16, 3) := by decide +kernel
theorem dX3_isFree_7 : decode cX3_isFree 7 = .ok (.aload_n 0, 1) := by decide +kernel
theorem dX3_isFree_8 : decode cX3_isFree 8 = .ok (.getfield 9, 3) := by decide +kernel
theorem dX3_isFree_11 : decode cX3_isFree 11 = .ok (.iload_n 1, 1) := by decide +kernel
theorem dX3_isFree_12 : decode cX3_isFree 12 = .ok (.baload, 1) := by decide +kernel
theorem dX3_isFree_13 : decode cX3_isFree 13 = .ok (.ifCond .ne 7, 3) := by decide +kernel
theorem dX3_isFree_16 : decode cX3_isFree 16 = .ok (.iconst 1, 1) := by decide +kernel
theorem dX3_isFree_17 : decode cX3_isFree 17 = .ok (.goto 4, 3) := by decide +kernel
theorem dX3_isFree_20 : decode cX3_isFree 20 = .ok (.iconst 0, 1) := by decide +kernel
theorem dX3_isFree_21 : decode cX3_isFree 21 = .ok (.ireturn, 1) := by decide +kernel
theorem dX3_freeCells_0 : decode cX3_freeCells 0 = .ok (.aload_n 0, 1) := by decide +kernel
theorem dX3_freeCells_1 : decode cX3_freeCells 1 = .ok (.getfield 26, 3) := by decide +kernel
theorem dX3_freeCells_4 : decode cX3_freeCells 4 = .ok (.ireturn, 1) := by decide +kernel
set_option maxRecDepth 20000 in
theorem ggX3_build_X5_isCell : GoodIn wsX3_build wsX5_isCell := goodIn_r _ [4] (by decide +kernel) (by decide +kernel)
set_option maxRecDepth 20000 in
theorem gX3_build_X5_isCell_n22 : GoodIn wsX3_build (wsX5_isCell) := ggX3_build_X5_isCell
set_option maxRecDepth 20000 in
theorem ggX3_build_X3_measure : GoodIn wsX3_build wsX3_measure := goodIn_r _ [9, 10, 1, 11, 12, 13, 14, 8, 15, 16, 17, 18, 19, 20, 2, 3, 4, 21, 22, 23, 24, 25, 26, 27, 28, 29, 30, 31, 32, 33] (by decide +kernel) (by decide +kernel)
set_option maxRecDepth 20000 in
theorem gX3_build_X3_measure : GoodIn wsX3_build (wsV RX3 19 RX3 yX3_measure wsX3_measure) := goodIn_app (goodIn_of _ (by decide +kernel)) ggX3_build_X3_measure
theorem dX3_build_0 : decode cX3_build 0 = .ok (.iload_n 1, 1) := by decide +kernel
theorem dX3_build_1 : decode cX3_build 1 = .ok (.invokestatic 22, 3) := by decide +kernel
theorem dX3_build_4 : decode cX3_build 4 = .ok (.ifCond .eq 14, 3) := by decide +kernel
theorem dX3_build_7 : decode cX3_build 7 = .ok (.aload_n 0, 1) := by decide +kernel
theorem dX3_build_8 : decode cX3_build 8 = .ok (.getfield 9, 3) := by decide +kernel
theorem dX3_build_11 : decode cX3_build 11 = .ok (.iload_n 1, 1) := by decide +kernel
theorem dX3_build_12 : decode cX3_build 12 = .ok (.iload_n 2, 1) := by decide +kernel
theorem dX3_build_13 : decode cX3_build 13 = .ok (.bastore, 1) := by decide +kernel
theorem dX3_build_14 : decode cX3_build 14 = .ok (.aload_n 0, 1) := by decide +kernel
theorem dX3_build_15 : decode cX3_build 15 = .ok (.invokevirtual 19, 3) := by decide +kernel
theorem dX3_build_18 : decode cX3_build 18 = .ok (.return_, 1) := by decide +kernel
set_option maxRecDepth 20000 in
theorem ggX3_drawnCell_X1_remainder : GoodIn wsX3_drawnCell wsX1_remainder := goodIn_r _ [7, 8, 9, 13] (by decide +kernel) (by decide +kernel)
set_option maxRecDepth 20000 in
theorem gX3_drawnCell_X1_remainder : GoodIn wsX3_drawnCell (wsV RX3 30 RX1 yX1_remainder wsX1_remainder) := goodIn_app (goodIn_of _ (by decide +kernel)) ggX3_drawnCell_X1_remainder
theorem dX3_drawnCell_0 : decode cX3_drawnCell 0 = .ok (.aload_n 1, 1) := by decide +kernel
theorem dX3_drawnCell_1 : decode cX3_drawnCell 1 = .ok (.aload_n 0, 1) := by decide +kernel
theorem dX3_drawnCell_2 : decode cX3_drawnCell 2 = .ok (.getfield 26, 3) := by decide +kernel
theorem dX3_drawnCell_5 : decode cX3_drawnCell 5 = .ok (.invokevirtual 30, 3) := by decide +kernel
theorem dX3_drawnCell_8 : decode cX3_drawnCell 8 = .ok (.istore_n 2, 1) := by decide +kernel
theorem dX3_drawnCell_9 : decode cX3_drawnCell 9 = .ok (.iconst 0, 1) := by decide +kernel
theorem dX3_drawnCell_10 : decode cX3_drawnCell 10 = .ok (.istore_n 3, 1) := by decide +kernel
theorem dX3_drawnCell_11 : decode cX3_drawnCell 11 = .ok (.iload_n 3, 1) := by decide +kernel
theorem dX3_drawnCell_12 : decode cX3_drawnCell 12 = .ok (.bipush 64, 2) := by decide +kernel
theorem dX3_drawnCell_14 : decode cX3_drawnCell 14 = .ok (.if_icmp .ge 27, 3) := by decide +kernel
theorem dX3_drawnCell_17 : decode cX3_drawnCell 17 = .ok (.aload_n 0, 1) := by decide +kernel
theorem dX3_drawnCell_18 : decode cX3_drawnCell 18 = .ok (.getfield 9, 3) := by decide +kernel
theorem dX3_drawnCell_21 : decode cX3_drawnCell 21 = .ok (.iload_n 3, 1) := by decide +kernel
theorem dX3_drawnCell_22 : decode cX3_drawnCell 22 = .ok (.baload, 1) := by decide +kernel
theorem dX3_drawnCell_23 : decode cX3_drawnCell 23 = .ok (.ifCond .ne 12, 3) := by decide +kernel
theorem dX3_drawnCell_26 : decode cX3_drawnCell 26 = .ok (.iload_n 2, 1) := by decide +kernel
theorem dX3_drawnCell_27 : decode cX3_drawnCell 27 = .ok (.ifCond .ne 5, 3) := by decide +kernel
theorem dX3_drawnCell_30 : decode cX3_drawnCell 30 = .ok (.iload_n 3, 1) := by decide +kernel
theorem dX3_drawnCell_31 : decode cX3_drawnCell 31 = .ok (.ireturn, 1) := by decide +kernel
theorem dX3_drawnCell_32 : decode cX3_drawnCell 32 = .ok (.iinc 2 (-1), 3) := by decide +kernel
theorem dX3_drawnCell_35 : decode cX3_drawnCell 35 = .ok (.iinc 3 1, 3) := by decide +kernel
theorem dX3_drawnCell_38 : decode cX3_drawnCell 38 = .ok (.goto (-27), 3) := by decide +kernel
theorem dX3_drawnCell_41 : decode cX3_drawnCell 41 = .ok (.iconst 0, 1) := by decide +kernel
theorem dX3_drawnCell_42 : decode cX3_drawnCell 42 = .ok (.ireturn, 1) := by decide +kernel
set_option maxRecDepth 20000 in
theorem ggX3_stepsAhead_X5_isCell : GoodIn wsX3_stepsAhead wsX5_isCell := goodIn_r _ [4] (by decide +kernel) (by decide +kernel)
set_option maxRecDepth 20000 in
theorem gX3_stepsAhead_X5_isCell_n22 : GoodIn wsX3_stepsAhead (wsX5_isCell) := ggX3_stepsAhead_X5_isCell
set_option maxRecDepth 20000 in
theorem ggX3_stepsAhead_X5_isDirection : GoodIn wsX3_stepsAhead wsX5_isDirection := goodIn_r _ [6] (by decide +kernel) (by decide +kernel)
set_option maxRecDepth 20000 in
theorem gX3_stepsAhead_X5_isDirection_n36 : GoodIn wsX3_stepsAhead (wsX5_isDirection) := ggX3_stepsAhead_X5_isDirection
theorem dX3_stepsAhead_0 : decode cX3_stepsAhead 0 = .ok (.iload_n 1, 1) := by decide +kernel
theorem dX3_stepsAhead_1 : decode cX3_stepsAhead 1 = .ok (.invokestatic 22, 3) := by decide +kernel
theorem dX3_stepsAhead_4 : decode cX3_stepsAhead 4 = .ok (.ifCond .eq 24, 3) := by decide +kernel
theorem dX3_stepsAhead_7 : decode cX3_stepsAhead 7 = .ok (.iload_n 2, 1) := by decide +kernel
theorem dX3_stepsAhead_8 : decode cX3_stepsAhead 8 = .ok (.invokestatic 36, 3) := by decide +kernel
theorem dX3_stepsAhead_11 : decode cX3_stepsAhead 11 = .ok (.ifCond .eq 17, 3) := by decide +kernel
theorem dX3_stepsAhead_14 : decode cX3_stepsAhead 14 = .ok (.aload_n 0, 1) := by decide +kernel
theorem dX3_stepsAhead_15 : decode cX3_stepsAhead 15 = .ok (.getfield 15, 3) := by decide +kernel
theorem dX3_stepsAhead_18 : decode cX3_stepsAhead 18 = .ok (.bipush 64, 2) := by decide +kernel
theorem dX3_stepsAhead_20 : decode cX3_stepsAhead 20 = .ok (.iload_n 2, 1) := by decide +kernel
theorem dX3_stepsAhead_21 : decode cX3_stepsAhead 21 = .ok (.imul, 1) := by decide +kernel
theorem dX3_stepsAhead_22 : decode cX3_stepsAhead 22 = .ok (.iload_n 1, 1) := by decide +kernel
theorem dX3_stepsAhead_23 : decode cX3_stepsAhead 23 = .ok (.iadd, 1) := by decide +kernel
theorem dX3_stepsAhead_24 : decode cX3_stepsAhead 24 = .ok (.iaload, 1) := by decide +kernel
theorem dX3_stepsAhead_25 : decode cX3_stepsAhead 25 = .ok (.goto 4, 3) := by decide +kernel
theorem dX3_stepsAhead_28 : decode cX3_stepsAhead 28 = .ok (.iconst (-1), 1) := by decide +kernel
theorem dX3_stepsAhead_29 : decode cX3_stepsAhead 29 = .ok (.ireturn, 1) := by decide +kernel
set_option maxRecDepth 20000 in
theorem ggX3_led_X3_stepsAhead : GoodIn wsX3_led wsX3_stepsAhead := goodIn_r _ [9, 10, 11, 12, 13, 14, 15, 25, 26, 27] (by decide +kernel) (by decide +kernel)
set_option maxRecDepth 20000 in
theorem gX3_led_X3_stepsAhead : GoodIn wsX3_led (wsV RX3 39 RX3 yX3_stepsAhead wsX3_stepsAhead) := goodIn_app (goodIn_of _ (by decide +kernel)) ggX3_led_X3_stepsAhead
set_option maxRecDepth 20000 in
theorem ggX3_led_X3_shifted : GoodIn wsX3_led wsX3_shifted := goodIn_r _ [18, 19, 20, 11, 12, 13, 14, 15, 21, 22, 23, 24] (by decide +kernel) (by decide +kernel)
set_option maxRecDepth 20000 in
theorem gX3_led_X3_shifted : GoodIn wsX3_led (va_wsS RX3 48 yX3_shifted wsX3_shifted) := goodIn_app (goodIn_of _ (by decide +kernel)) ggX3_led_X3_shifted
theorem dX3_led_0 : decode cX3_led 0 = .ok (.iload_n 1, 1) := by decide +kernel
theorem dX3_led_1 : decode cX3_led 1 = .ok (.iload_n 2, 1) := by decide +kernel
theorem dX3_led_2 : decode cX3_led 2 = .ok (.iload_n 3, 1) := by decide +kernel
theorem dX3_led_3 : decode cX3_led 3 = .ok (.aload_n 0, 1) := by decide +kernel
theorem dX3_led_4 : decode cX3_led 4 = .ok (.iload_n 1, 1) := by decide +kernel
theorem dX3_led_5 : decode cX3_led 5 = .ok (.iload_n 2, 1) := by decide +kernel
theorem dX3_led_6 : decode cX3_led 6 = .ok (.invokevirtual 39, 3) := by decide +kernel
theorem dX3_led_9 : decode cX3_led 9 = .ok (.invokestatic 43, 3) := by decide +kernel
theorem dX3_led_12 : decode cX3_led 12 = .ok (.invokestatic 48, 3) := by decide +kernel
theorem dX3_led_15 : decode cX3_led 15 = .ok (.ireturn, 1) := by decide +kernel
set_option maxRecDepth 20000 in
theorem ggX3_weight_X3_stepsAhead : GoodIn wsX3_weight wsX3_stepsAhead := goodIn_r _ [9, 10, 11, 12, 13, 14, 15, 16, 17, 18] (by decide +kernel) (by decide +kernel)
set_option maxRecDepth 20000 in
theorem gX3_weight_X3_stepsAhead : GoodIn wsX3_weight (wsV RX3 39 RX3 yX3_stepsAhead wsX3_stepsAhead) := goodIn_app (goodIn_of _ (by decide +kernel)) ggX3_weight_X3_stepsAhead
theorem dX3_weight_0 : decode cX3_weight 0 = .ok (.iload_n 3, 1) := by decide +kernel
theorem dX3_weight_1 : decode cX3_weight 1 = .ok (.aload_n 0, 1) := by decide +kernel
theorem dX3_weight_2 : decode cX3_weight 2 = .ok (.iload_n 1, 1) := by decide +kernel
theorem dX3_weight_3 : decode cX3_weight 3 = .ok (.iload_n 2, 1) := by decide +kernel
theorem dX3_weight_4 : decode cX3_weight 4 = .ok (.invokevirtual 39, 3) := by decide +kernel
theorem dX3_weight_7 : decode cX3_weight 7 = .ok (.isub, 1) := by decide +kernel
theorem dX3_weight_8 : decode cX3_weight 8 = .ok (.invokestatic 52, 3) := by decide +kernel
theorem dX3_weight_11 : decode cX3_weight 11 = .ok (.tableswitch 32 0 2 #[25, 28, 30], 25) := by decide +kernel
theorem dX3_weight_36 : decode cX3_weight 36 = .ok (.bipush 8, 2) := by decide +kernel
theorem dX3_weight_38 : decode cX3_weight 38 = .ok (.ireturn, 1) := by decide +kernel
theorem dX3_weight_39 : decode cX3_weight 39 = .ok (.iconst 3, 1) := by decide +kernel
theorem dX3_weight_40 : decode cX3_weight 40 = .ok (.ireturn, 1) := by decide +kernel
theorem dX3_weight_41 : decode cX3_weight 41 = .ok (.iconst 1, 1) := by decide +kernel
theorem dX3_weight_42 : decode cX3_weight 42 = .ok (.ireturn, 1) := by decide +kernel
theorem dX3_weight_43 : decode cX3_weight 43 = .ok (.iconst 0, 1) := by decide +kernel
theorem dX3_weight_44 : decode cX3_weight 44 = .ok (.ireturn, 1) := by decide +kernel
set_option maxRecDepth 20000 in
theorem ggX3_shifted_X5_isCell : GoodIn wsX3_shifted wsX5_isCell := goodIn_r _ [5] (by decide +kernel) (by decide +kernel)
set_option maxRecDepth 20000 in
theorem gX3_shifted_X5_isCell_n22 : GoodIn wsX3_shifted (wsX5_isCell) := ggX3_shifted_X5_isCell
set_option maxRecDepth 20000 in
theorem ggX3_shifted_X5_isDirection : GoodIn wsX3_shifted wsX5_isDirection := goodIn_r _ [7] (by decide +kernel) (by decide +kernel)
set_option maxRecDepth 20000 in
theorem gX3_shifted_X5_isDirection_n36 : GoodIn wsX3_shifted (wsX5_isDirection) := ggX3_shifted_X5_isDirection
set_option maxRecDepth 20000 in
theorem ggX3_shifted_X5_isInField : GoodIn wsX3_shifted wsX5_isInField := goodIn_r _ [9] (by decide +kernel) (by decide +kernel)
set_option maxRecDepth 20000 in
theorem gX3_shifted_X5_isInField_n61 : GoodIn wsX3_shifted (wsX5_isInField) := ggX3_shifted_X5_isInField
set_option maxRecDepth 20000 in
theorem ggX3_shifted_X5_numberOf : GoodIn wsX3_shifted wsX5_numberOf := goodIn_r _ [11] (by decide +kernel) (by decide +kernel)
set_option maxRecDepth 20000 in
theorem gX3_shifted_X5_numberOf_n65 : GoodIn wsX3_shifted (wsX5_numberOf) := ggX3_shifted_X5_numberOf
theorem dX3_shifted_0 : decode cX3_shifted 0 = .ok (.iload_n 0, 1) := by decide +kernel
theorem dX3_shifted_1 : decode cX3_shifted 1 = .ok (.invokestatic 22, 3) := by decide +kernel
theorem dX3_shifted_4 : decode cX3_shifted 4 = .ok (.ifCond .eq 10, 3) := by decide +kernel
theorem dX3_shifted_7 : decode cX3_shifted 7 = .ok (.iload_n 1, 1) := by decide +kernel
theorem dX3_shifted_8 : decode cX3_shifted 8 = .ok (.invokestatic 36, 3) := by decide +kernel
theorem dX3_shifted_11 : decode cX3_shifted 11 = .ok (.ifCond .ne 5, 3) := by decide +kernel
theorem dX3_shifted_14 : decode cX3_shifted 14 = .ok (.iconst (-1), 1) := by decide +kernel
theorem dX3_shifted_15 : decode cX3_shifted 15 = .ok (.ireturn, 1) := by decide +kernel
theorem dX3_shifted_16 : decode cX3_shifted 16 = .ok (.iload_n 0, 1) := by decide +kernel
theorem dX3_shifted_17 : decode cX3_shifted 17 = .ok (.bipush 8, 2) := by decide +kernel
theorem dX3_shifted_19 : decode cX3_shifted 19 = .ok (.irem, 1) := by decide +kernel
theorem dX3_shifted_20 : decode cX3_shifted 20 = .ok (.iload_n 2, 1) := by decide +kernel
theorem dX3_shifted_21 : decode cX3_shifted 21 = .ok (.getstatic 55, 3) := by decide +kernel
theorem dX3_shifted_24 : decode cX3_shifted 24 = .ok (.iload_n 1, 1) := by decide +kernel
theorem dX3_shifted_25 : decode cX3_shifted 25 = .ok (.iaload, 1) := by decide +kernel
theorem dX3_shifted_26 : decode cX3_shifted 26 = .ok (.imul, 1) := by decide +kernel
theorem dX3_shifted_27 : decode cX3_shifted 27 = .ok (.iadd, 1) := by decide +kernel
theorem dX3_shifted_28 : decode cX3_shifted 28 = .ok (.istore_n 3, 1) := by decide +kernel
theorem dX3_shifted_29 : decode cX3_shifted 29 = .ok (.iload_n 0, 1) := by decide +kernel
theorem dX3_shifted_30 : decode cX3_shifted 30 = .ok (.bipush 8, 2) := by decide +kernel
theorem dX3_shifted_32 : decode cX3_shifted 32 = .ok (.idiv, 1) := by decide +kernel
theorem dX3_shifted_33 : decode cX3_shifted 33 = .ok (.iload_n 2, 1) := by decide +kernel
theorem dX3_shifted_34 : decode cX3_shifted 34 = .ok (.getstatic 58, 3) := by decide +kernel
theorem dX3_shifted_37 : decode cX3_shifted 37 = .ok (.iload_n 1, 1) := by decide +kernel
theorem dX3_shifted_38 : decode cX3_shifted 38 = .ok (.iaload, 1) := by decide +kernel
theorem dX3_shifted_39 : decode cX3_shifted 39 = .ok (.imul, 1) := by decide +kernel
theorem dX3_shifted_40 : decode cX3_shifted 40 = .ok (.iadd, 1) := by decide +kernel
theorem dX3_shifted_41 : decode cX3_shifted 41 = .ok (.istore 4, 2) := by decide +kernel
theorem dX3_shifted_43 : decode cX3_shifted 43 = .ok (.iload_n 3, 1) := by decide +kernel
theorem dX3_shifted_44 : decode cX3_shifted 44 = .ok (.iload 4, 2) := by decide +kernel
theorem dX3_shifted_46 : decode cX3_shifted 46 = .ok (.invokestatic 61, 3) := by decide +kernel
theorem dX3_shifted_49 : decode cX3_shifted 49 = .ok (.ifCond .eq 12, 3) := by decide +kernel
theorem dX3_shifted_52 : decode cX3_shifted 52 = .ok (.iload_n 3, 1) := by decide +kernel
theorem dX3_shifted_53 : decode cX3_shifted 53 = .ok (.iload 4, 2) := by decide +kernel
theorem dX3_shifted_55 : decode cX3_shifted 55 = .ok (.invokestatic 65, 3) := by decide +kernel
theorem dX3_shifted_58 : decode cX3_shifted 58 = .ok (.goto 4, 3) := by decide +kernel
theorem dX3_shifted_61 : decode cX3_shifted 61 = .ok (.iconst (-1), 1) := by decide +kernel
theorem dX3_shifted_62 : decode cX3_shifted 62 = .ok (.ireturn, 1) := by decide +kernel
set_option maxRecDepth 20000 in
theorem ggX3_measure_X3_countedSteps : GoodIn wsX3_measure wsX3_countedSteps := goodIn_r _ [8, 9, 10, 7, 11, 12, 13, 14, 15, 16, 17, 18, 19, 20, 21, 22, 23, 24, 25, 26, 2, 27, 28, 29] (by decide +kernel) (by decide +kernel)
set_option maxRecDepth 20000 in
theorem gX3_measure_X3_countedSteps : GoodIn wsX3_measure (wsV RX3 68 RX3 yX3_countedSteps wsX3_countedSteps) := goodIn_app (goodIn_of _ (by decide +kernel)) ggX3_measure_X3_countedSteps
theorem dX3_measure_0 : decode cX3_measure 0 = .ok (.aload_n 0, 1) := by decide +kernel
theorem dX3_measure_1 : decode cX3_measure 1 = .ok (.iconst 0, 1) := by decide +kernel
theorem dX3_measure_2 : decode cX3_measure 2 = .ok (.putfield 26, 3) := by decide +kernel
theorem dX3_measure_5 : decode cX3_measure 5 = .ok (.iconst 0, 1) := by decide +kernel
theorem dX3_measure_6 : decode cX3_measure 6 = .ok (.istore_n 1, 1) := by decide +kernel
theorem dX3_measure_7 : decode cX3_measure 7 = .ok (.iload_n 1, 1) := by decide +kernel
theorem dX3_measure_8 : decode cX3_measure 8 = .ok (.bipush 64, 2) := by decide +kernel
theorem dX3_measure_10 : decode cX3_measure 10 = .ok (.if_icmp .ge 71, 3) := by decide +kernel
theorem dX3_measure_13 : decode cX3_measure 13 = .ok (.aload_n 0, 1) := by decide +kernel
theorem dX3_measure_14 : decode cX3_measure 14 = .ok (.getfield 9, 3) := by decide +kernel
theorem dX3_measure_17 : decode cX3_measure 17 = .ok (.iload_n 1, 1) := by decide +kernel
theorem dX3_measure_18 : decode cX3_measure 18 = .ok (.baload, 1) := by decide +kernel
theorem dX3_measure_19 : decode cX3_measure 19 = .ok (.ifCond .ne 13, 3) := by decide +kernel
theorem dX3_measure_22 : decode cX3_measure 22 = .ok (.aload_n 0, 1) := by decide +kernel
theorem dX3_measure_23 : decode cX3_measure 23 = .ok (.dup, 1) := by decide +kernel
theorem dX3_measure_24 : decode cX3_measure 24 = .ok (.getfield 26, 3) := by decide +kernel
theorem dX3_measure_27 : decode cX3_measure 27 = .ok (.iconst 1, 1) := by decide +kernel
theorem dX3_measure_28 : decode cX3_measure 28 = .ok (.iadd, 1) := by decide +kernel
theorem dX3_measure_29 : decode cX3_measure 29 = .ok (.putfield 26, 3) := by decide +kernel
theorem dX3_measure_32 : decode cX3_measure 32 = .ok (.iconst 0, 1) := by decide +kernel
theorem dX3_measure_33 : decode cX3_measure 33 = .ok (.istore_n 2, 1) := by decide +kernel
theorem dX3_measure_34 : decode cX3_measure 34 = .ok (.iload_n 2, 1) := by decide +kernel
theorem dX3_measure_35 : decode cX3_measure 35 = .ok (.iconst 4, 1) := by decide +kernel
theorem dX3_measure_36 : decode cX3_measure 36 = .ok (.if_icmp .ge 39, 3) := by decide +kernel
theorem dX3_measure_39 : decode cX3_measure 39 = .ok (.aload_n 0, 1) := by decide +kernel
theorem dX3_measure_40 : decode cX3_measure 40 = .ok (.getfield 15, 3) := by decide +kernel
theorem dX3_measure_43 : decode cX3_measure 43 = .ok (.bipush 64, 2) := by decide +kernel
theorem dX3_measure_45 : decode cX3_measure 45 = .ok (.iload_n 2, 1) := by decide +kernel
theorem dX3_measure_46 : decode cX3_measure 46 = .ok (.imul, 1) := by decide +kernel
theorem dX3_measure_47 : decode cX3_measure 47 = .ok (.iload_n 1, 1) := by decide +kernel
theorem dX3_measure_48 : decode cX3_measure 48 = .ok (.iadd, 1) := by decide +kernel
theorem dX3_measure_49 : decode cX3_measure 49 = .ok (.aload_n 0, 1) := by decide +kernel
theorem dX3_measure_50 : decode cX3_measure 50 = .ok (.getfield 9, 3) := by decide +kernel
theorem dX3_measure_53 : decode cX3_measure 53 = .ok (.iload_n 1, 1) := by decide +kernel
theorem dX3_measure_54 : decode cX3_measure 54 = .ok (.baload, 1) := by decide +kernel
theorem dX3_measure_55 : decode cX3_measure 55 = .ok (.ifCond .eq 7, 3) := by decide +kernel
theorem dX3_measure_58 : decode cX3_measure 58 = .ok (.iconst (-1), 1) := by decide +kernel
theorem dX3_measure_59 : decode cX3_measure 59 = .ok (.goto 9, 3) := by decide +kernel
theorem dX3_measure_62 : decode cX3_measure 62 = .ok (.aload_n 0, 1) := by decide +kernel
theorem dX3_measure_63 : decode cX3_measure 63 = .ok (.iload_n 1, 1) := by decide +kernel
theorem dX3_measure_64 : decode cX3_measure 64 = .ok (.iload_n 2, 1) := by decide +kernel
theorem dX3_measure_65 : decode cX3_measure 65 = .ok (.invokevirtual 68, 3) := by decide +kernel
theorem dX3_measure_68 : decode cX3_measure 68 = .ok (.iastore, 1) := by decide +kernel
theorem dX3_measure_69 : decode cX3_measure 69 = .ok (.iinc 2 1, 3) := by decide +kernel
theorem dX3_measure_72 : decode cX3_measure 72 = .ok (.goto (-38), 3) := by decide +kernel
theorem dX3_measure_75 : decode cX3_measure 75 = .ok (.iinc 1 1, 3) := by decide +kernel
theorem dX3_measure_78 : decode cX3_measure 78 = .ok (.goto (-71), 3) := by decide +kernel
theorem dX3_measure_81 : decode cX3_measure 81 = .ok (.return_, 1) := by decide +kernel
set_option maxRecDepth 20000 in
theorem ggX3_countedSteps_X3_shifted : GoodIn wsX3_countedSteps wsX3_shifted := goodIn_r _ [4, 5, 6, 7, 8, 9, 10, 11, 12, 13, 14, 15] (by decide +kernel) (by decide +kernel)
set_option maxRecDepth 20000 in
theorem gX3_countedSteps_X3_shifted : GoodIn wsX3_countedSteps (va_wsS RX3 48 yX3_shifted wsX3_shifted) := goodIn_app (goodIn_of _ (by decide +kernel)) ggX3_countedSteps_X3_shifted
set_option maxRecDepth 20000 in
theorem ggX3_countedSteps_X3_isFree : GoodIn wsX3_countedSteps wsX3_isFree := goodIn_r _ [19, 20, 7, 8, 9, 21, 22, 23] (by decide +kernel) (by decide +kernel)
set_option maxRecDepth 20000 in
theorem gX3_countedSteps_X3_isFree : GoodIn wsX3_countedSteps (wsV RX3 71 RX3 yX3_isFree wsX3_isFree) := goodIn_app (goodIn_of _ (by decide +kernel)) ggX3_countedSteps_X3_isFree
theorem dX3_countedSteps_0 : decode cX3_countedSteps 0 = .ok (.iconst 0, 1) := by decide +kernel
theorem dX3_countedSteps_1 : decode cX3_countedSteps 1 = .ok (.istore_n 3, 1) := by decide +kernel
theorem dX3_countedSteps_2 : decode cX3_countedSteps 2 = .ok (.iload_n 3, 1) := by decide +kernel
theorem dX3_countedSteps_3 : decode cX3_countedSteps 3 = .ok (.bipush 8, 2) := by decide +kernel
theorem dX3_countedSteps_5 : decode cX3_countedSteps 5 = .ok (.if_icmp .ge 24, 3) := by decide +kernel
theorem dX3_countedSteps_8 : decode cX3_countedSteps 8 = .ok (.aload_n 0, 1) := by decide +kernel
theorem dX3_countedSteps_9 : decode cX3_countedSteps 9 = .ok (.iload_n 1, 1) := by decide +kernel
theorem dX3_countedSteps_10 : decode cX3_countedSteps 10 = .ok (.iload_n 2, 1) := by decide +kernel
theorem dX3_countedSteps_11 : decode cX3_countedSteps 11 = .ok (.iload_n 3, 1) := by decide +kernel
theorem dX3_countedSteps_12 : decode cX3_countedSteps 12 = .ok (.iconst 1, 1) := by decide +kernel
theorem dX3_countedSteps_13 : decode cX3_countedSteps 13 = .ok (.iadd, 1) := by decide +kernel
theorem dX3_countedSteps_14 : decode cX3_countedSteps 14 = .ok (.invokestatic 48, 3) := by decide +kernel
theorem dX3_countedSteps_17 : decode cX3_countedSteps 17 = .ok (.invokevirtual 71, 3) := by decide +kernel
theorem dX3_countedSteps_20 : decode cX3_countedSteps 20 = .ok (.ifCond .eq 9, 3) := by decide +kernel
theorem dX3_countedSteps_23 : decode cX3_countedSteps 23 = .ok (.iinc 3 1, 3) := by decide +kernel
theorem dX3_countedSteps_26 : decode cX3_countedSteps 26 = .ok (.goto (-24), 3) := by decide +kernel
theorem dX3_countedSteps_29 : decode cX3_countedSteps 29 = .ok (.iload_n 3, 1) := by decide +kernel
theorem dX3_countedSteps_30 : decode cX3_countedSteps 30 = .ok (.ireturn, 1) := by decide +kernel
set_option maxRecDepth 20000 in
theorem ggX4_init_X2_init : GoodIn wsX4_init wsX2_init := goodIn_r _ [17, 18, 2, 3, 19, 20, 32] (by decide +kernel) (by decide +kernel)
set_option maxRecDepth 20000 in
theorem gX4_init_X2_init : GoodIn wsX4_init (wsX2_init) := ggX4_init_X2_init
theorem dX4_init_0 : decode cX4_init 0 = .ok (.aload_n 0, 1) := by decide +kernel
theorem dX4_init_1 : decode cX4_init 1 = .ok (.invokespecial 3, 3) := by decide +kernel
theorem dX4_init_4 : decode cX4_init 4 = .ok (.aload_n 0, 1) := by decide +kernel
theorem dX4_init_5 : decode cX4_init 5 = .ok (.aload_n 1, 1) := by decide +kernel
theorem dX4_init_6 : decode cX4_init 6 = .ok (.putfield 9, 3) := by decide +kernel
theorem dX4_init_9 : decode cX4_init 9 = .ok (.aload_n 0, 1) := by decide +kernel
theorem dX4_init_10 : decode cX4_init 10 = .ok (.aload_n 2, 1) := by decide +kernel
theorem dX4_init_11 : decode cX4_init 11 = .ok (.putfield 15, 3) := by decide +kernel
theorem dX4_init_14 : decode cX4_init 14 = .ok (.aload_n 0, 1) := by decide +kernel
theorem dX4_init_15 : decode cX4_init 15 = .ok (.bipush 64, 2) := by decide +kernel
theorem dX4_init_17 : decode cX4_init 17 = .ok (.newarray .int, 2) := by decide +kernel
theorem dX4_init_19 : decode cX4_init 19 = .ok (.putfield 19, 3) := by decide +kernel
theorem dX4_init_22 : decode cX4_init 22 = .ok (.aload_n 0, 1) := by decide +kernel
theorem dX4_init_23 : decode cX4_init 23 = .ok (.bipush 64, 2) := by decide +kernel
theorem dX4_init_25 : decode cX4_init 25 = .ok (.newarray .int, 2) := by decide +kernel
theorem dX4_init_27 : decode cX4_init 27 = .ok (.putfield 23, 3) := by decide +kernel
theorem dX4_init_30 : decode cX4_init 30 = .ok (.aload_n 0, 1) := by decide +kernel
theorem dX4_init_31 : decode cX4_init 31 = .ok (.bipush 64, 2) := by decide +kernel
theorem dX4_init_33 : decode cX4_init 33 = .ok (.newarray .int, 2) := by decide +kernel
theorem dX4_init_35 : decode cX4_init 35 = .ok (.putfield 26, 3) := by decide +kernel
theorem dX4_init_38 : decode cX4_init 38 = .ok (.aload_n 0, 1) := by decide +kernel
theorem dX4_init_39 : decode cX4_init 39 = .ok (.new 29, 3) := by decide +kernel
theorem dX4_init_42 : decode cX4_init 42 = .ok (.dup, 1) := by decide +kernel
theorem dX4_init_43 : decode cX4_init 43 = .ok (.invokespecial 31, 3) := by decide +kernel
theorem dX4_init_46 : decode cX4_init 46 = .ok (.putfield 32, 3) := by decide +kernel
theorem dX4_init_49 : decode cX4_init 49 = .ok (.aload_n 0, 1) := by decide +kernel
theorem dX4_init_50 : decode cX4_init 50 = .ok (.iconst 0, 1) := by decide +kernel
theorem dX4_init_51 : decode cX4_init 51 = .ok (.putfield 36, 3) := by decide +kernel
theorem dX4_init_54 : decode cX4_init 54 = .ok (.return_, 1) := by decide +kernel
theorem dX4_size_0 : decode cX4_size 0 = .ok (.aload_n 0, 1) := by decide +kernel
theorem dX4_size_1 : decode cX4_size 1 = .ok (.getfield 36, 3) := by decide +kernel
theorem dX4_size_4 : decode cX4_size 4 = .ok (.ireturn, 1) := by decide +kernel
theorem dX4_cellOf_0 : decode cX4_cellOf 0 = .ok (.iload_n 1, 1) := by decide +kernel
theorem dX4_cellOf_1 : decode cX4_cellOf 1 = .ok (.ifCond .lt 18, 3) := by decide +kernel
theorem dX4_cellOf_4 : decode cX4_cellOf 4 = .ok (.iload_n 1, 1) := by decide +kernel
theorem dX4_cellOf_5 : decode cX4_cellOf 5 = .ok (.bipush 64, 2) := by decide +kernel
theorem dX4_cellOf_7 : decode cX4_cellOf 7 = .ok (.if_icmp .ge 12, 3) := by decide +kernel
theorem dX4_cellOf_10 : decode cX4_cellOf 10 = .ok (.aload_n 0, 1) := by decide +kernel
theorem dX4_cellOf_11 : decode cX4_cellOf 11 = .ok (.getfield 19, 3) := by decide +kernel
theorem dX4_cellOf_14 : decode cX4_cellOf 14 = .ok (.iload_n 1, 1) := by decide +kernel
theorem dX4_cellOf_15 : decode cX4_cellOf 15 = .ok (.iaload, 1) := by decide +kernel
theorem dX4_cellOf_16 : decode cX4_cellOf 16 = .ok (.goto 4, 3) := by decide +kernel
theorem dX4_cellOf_19 : decode cX4_cellOf 19 = .ok (.iconst (-1), 1) := by decide +kernel
theorem dX4_cellOf_20 : decode cX4_cellOf 20 = .ok (.ireturn, 1) := by decide +kernel
theorem dX4_lastDoubt_0 : decode cX4_lastDoubt 0 = .ok (.aload_n 0, 1) := by decide +kernel
theorem dX4_lastDoubt_1 : decode cX4_lastDoubt 1 = .ok (.getfield 40, 3) := by decide +kernel
theorem dX4_lastDoubt_4 : decode cX4_lastDoubt 4 = .ok (.ireturn, 1) := by decide +kernel
set_option maxRecDepth 20000 in
theorem ggX4_chart_X2_clear : GoodIn wsX4_chart wsX2_clear := goodIn_r _ [8, 9, 28] (by decide +kernel) (by decide +kernel)
set_option maxRecDepth 20000 in
theorem gX4_chart_X2_clear : GoodIn wsX4_chart (wsV RX4 43 RX2 yX2_clear wsX2_clear) := goodIn_app (goodIn_of _ (by decide +kernel)) ggX4_chart_X2_clear
set_option maxRecDepth 20000 in
theorem ggX4_chart_X2_add : GoodIn wsX4_chart wsX2_add := goodIn_r _ [13, 9, 14, 15, 16, 28] (by decide +kernel) (by decide +kernel)
set_option maxRecDepth 20000 in
theorem gX4_chart_X2_add : GoodIn wsX4_chart (wsV RX4 46 RX2 yX2_add wsX2_add) := goodIn_app (goodIn_of _ (by decide +kernel)) ggX4_chart_X2_add
theorem dX4_chart_0 : decode cX4_chart 0 = .ok (.aload_n 0, 1) := by decide +kernel
theorem dX4_chart_1 : decode cX4_chart 1 = .ok (.getfield 32, 3) := by decide +kernel
theorem dX4_chart_4 : decode cX4_chart 4 = .ok (.invokevirtual 43, 3) := by decide +kernel
theorem dX4_chart_7 : decode cX4_chart 7 = .ok (.iconst 0, 1) := by decide +kernel
theorem dX4_chart_8 : decode cX4_chart 8 = .ok (.istore_n 1, 1) := by decide +kernel
theorem dX4_chart_9 : decode cX4_chart 9 = .ok (.iload_n 1, 1) := by decide +kernel
theorem dX4_chart_10 : decode cX4_chart 10 = .ok (.aload_n 0, 1) := by decide +kernel
theorem dX4_chart_11 : decode cX4_chart 11 = .ok (.getfield 36, 3) := by decide +kernel
theorem dX4_chart_14 : decode cX4_chart 14 = .ok (.if_icmp .ge 29, 3) := by decide +kernel
theorem dX4_chart_17 : decode cX4_chart 17 = .ok (.iload_n 1, 1) := by decide +kernel
theorem dX4_chart_18 : decode cX4_chart 18 = .ok (.bipush 64, 2) := by decide +kernel
theorem dX4_chart_20 : decode cX4_chart 20 = .ok (.if_icmp .ge 23, 3) := by decide +kernel
theorem dX4_chart_23 : decode cX4_chart 23 = .ok (.aload_n 0, 1) := by decide +kernel
theorem dX4_chart_24 : decode cX4_chart 24 = .ok (.getfield 32, 3) := by decide +kernel
theorem dX4_chart_27 : decode cX4_chart 27 = .ok (.aload_n 0, 1) := by decide +kernel
theorem dX4_chart_28 : decode cX4_chart 28 = .ok (.getfield 19, 3) := by decide +kernel
theorem dX4_chart_31 : decode cX4_chart 31 = .ok (.iload_n 1, 1) := by decide +kernel
theorem dX4_chart_32 : decode cX4_chart 32 = .ok (.iaload, 1) := by decide +kernel
theorem dX4_chart_33 : decode cX4_chart 33 = .ok (.lconst 1, 1) := by decide +kernel
theorem dX4_chart_34 : decode cX4_chart 34 = .ok (.invokevirtual 46, 3) := by decide +kernel
theorem dX4_chart_37 : decode cX4_chart 37 = .ok (.iinc 1 1, 3) := by decide +kernel
theorem dX4_chart_40 : decode cX4_chart 40 = .ok (.goto (-31), 3) := by decide +kernel
theorem dX4_chart_43 : decode cX4_chart 43 = .ok (.aload_n 0, 1) := by decide +kernel
theorem dX4_chart_44 : decode cX4_chart 44 = .ok (.getfield 32, 3) := by decide +kernel
theorem dX4_chart_47 : decode cX4_chart 47 = .ok (.areturn, 1) := by decide +kernel
set_option maxRecDepth 20000 in
theorem ggX4_begin_X3_drawnCell : GoodIn wsX4_begin wsX3_drawnCell := goodIn_r _ [13, 14, 15, 16, 17, 18, 19, 20, 21, 22, 34, 35, 36, 37] (by decide +kernel) (by decide +kernel)
set_option maxRecDepth 20000 in
theorem gX4_begin_X3_drawnCell : GoodIn wsX4_begin (wsV RX4 50 RX3 yX3_drawnCell wsX3_drawnCell) := goodIn_app (goodIn_of _ (by decide +kernel)) ggX4_begin_X3_drawnCell
theorem dX4_begin_0 : decode cX4_begin 0 = .ok (.aload_n 0, 1) := by decide +kernel
theorem dX4_begin_1 : decode cX4_begin 1 = .ok (.iload_n 1, 1) := by decide +kernel
theorem dX4_begin_2 : decode cX4_begin 2 = .ok (.putfield 36, 3) := by decide +kernel
theorem dX4_begin_5 : decode cX4_begin 5 = .ok (.iconst 0, 1) := by decide +kernel
theorem dX4_begin_6 : decode cX4_begin 6 = .ok (.istore_n 2, 1) := by decide +kernel
theorem dX4_begin_7 : decode cX4_begin 7 = .ok (.iload_n 2, 1) := by decide +kernel
theorem dX4_begin_8 : decode cX4_begin 8 = .ok (.aload_n 0, 1) := by decide +kernel
theorem dX4_begin_9 : decode cX4_begin 9 = .ok (.getfield 36, 3) := by decide +kernel
theorem dX4_begin_12 : decode cX4_begin 12 = .ok (.if_icmp .ge 32, 3) := by decide +kernel
theorem dX4_begin_15 : decode cX4_begin 15 = .ok (.iload_n 2, 1) := by decide +kernel
theorem dX4_begin_16 : decode cX4_begin 16 = .ok (.bipush 64, 2) := by decide +kernel
theorem dX4_begin_18 : decode cX4_begin 18 = .ok (.if_icmp .ge 26, 3) := by decide +kernel
theorem dX4_begin_21 : decode cX4_begin 21 = .ok (.aload_n 0, 1) := by decide +kernel
theorem dX4_begin_22 : decode cX4_begin 22 = .ok (.getfield 19, 3) := by decide +kernel
theorem dX4_begin_25 : decode cX4_begin 25 = .ok (.iload_n 2, 1) := by decide +kernel
theorem dX4_begin_26 : decode cX4_begin 26 = .ok (.aload_n 0, 1) := by decide +kernel
theorem dX4_begin_27 : decode cX4_begin 27 = .ok (.getfield 9, 3) := by decide +kernel
theorem dX4_begin_30 : decode cX4_begin 30 = .ok (.aload_n 0, 1) := by decide +kernel
theorem dX4_begin_31 : decode cX4_begin 31 = .ok (.getfield 15, 3) := by decide +kernel
theorem dX4_begin_34 : decode cX4_begin 34 = .ok (.invokevirtual 50, 3) := by decide +kernel
theorem dX4_begin_37 : decode cX4_begin 37 = .ok (.iastore, 1) := by decide +kernel
theorem dX4_begin_38 : decode cX4_begin 38 = .ok (.iinc 2 1, 3) := by decide +kernel
theorem dX4_begin_41 : decode cX4_begin 41 = .ok (.goto (-34), 3) := by decide +kernel
theorem dX4_begin_44 : decode cX4_begin 44 = .ok (.aload_n 0, 1) := by decide +kernel
theorem dX4_begin_45 : decode cX4_begin 45 = .ok (.iconst 0, 1) := by decide +kernel
theorem dX4_begin_46 : decode cX4_begin 46 = .ok (.putfield 56, 3) := by decide +kernel
theorem dX4_begin_49 : decode cX4_begin 49 = .ok (.aload_n 0, 1) := by decide +kernel
theorem dX4_begin_50 : decode cX4_begin 50 = .ok (.iconst 0, 1) := by decide +kernel
theorem dX4_begin_51 : decode cX4_begin 51 = .ok (.putfield 60, 3) := by decide +kernel
theorem dX4_begin_54 : decode cX4_begin 54 = .ok (.aload_n 0, 1) := by decide +kernel
theorem dX4_begin_55 : decode cX4_begin 55 = .ok (.iconst 0, 1) := by decide +kernel
theorem dX4_begin_56 : decode cX4_begin 56 = .ok (.putfield 63, 3) := by decide +kernel
theorem dX4_begin_59 : decode cX4_begin 59 = .ok (.aload_n 0, 1) := by decide +kernel
theorem dX4_begin_60 : decode cX4_begin 60 = .ok (.iconst 0, 1) := by decide +kernel
theorem dX4_begin_61 : decode cX4_begin 61 = .ok (.putfield 40, 3) := by decide +kernel
theorem dX4_begin_64 : decode cX4_begin 64 = .ok (.return_, 1) := by decide +kernel
set_option maxRecDepth 20000 in
theorem ggX4_move_X4_drawnSteps : GoodIn wsX4_move wsX4_drawnSteps := goodIn_r _ [8, 9, 10, 11, 12, 13, 14, 15, 16, 45, 46, 47, 48, 49, 50, 51, 52, 53, 54, 55, 56] (by decide +kernel) (by decide +kernel)
set_option maxRecDepth 20000 in
theorem gX4_move_X4_drawnSteps : GoodIn wsX4_move (wsV RX4 66 RX4 yX4_drawnSteps wsX4_drawnSteps) := goodIn_app (goodIn_of _ (by decide +kernel)) ggX4_move_X4_drawnSteps
set_option maxRecDepth 20000 in
theorem ggX4_move_X3_led : GoodIn wsX4_move wsX3_led := goodIn_r _ [21, 22, 23, 24, 25, 26, 27, 28, 20, 29, 30, 31, 32, 33, 34, 35, 36, 37, 38, 39, 40, 41, 42, 43, 44, 57, 58, 59] (by decide +kernel) (by decide +kernel)
set_option maxRecDepth 20000 in
theorem gX4_move_X3_led : GoodIn wsX4_move (wsV RX4 70 RX3 yX3_led wsX3_led) := goodIn_app (goodIn_of _ (by decide +kernel)) ggX4_move_X3_led
theorem dX4_move_0 : decode cX4_move 0 = .ok (.iconst 0, 1) := by decide +kernel
theorem dX4_move_1 : decode cX4_move 1 = .ok (.istore_n 2, 1) := by decide +kernel
theorem dX4_move_2 : decode cX4_move 2 = .ok (.iload_n 2, 1) := by decide +kernel
theorem dX4_move_3 : decode cX4_move 3 = .ok (.aload_n 0, 1) := by decide +kernel
theorem dX4_move_4 : decode cX4_move 4 = .ok (.getfield 36, 3) := by decide +kernel
theorem dX4_move_7 : decode cX4_move 7 = .ok (.if_icmp .ge 39, 3) := by decide +kernel
theorem dX4_move_10 : decode cX4_move 10 = .ok (.iload_n 2, 1) := by decide +kernel
theorem dX4_move_11 : decode cX4_move 11 = .ok (.bipush 64, 2) := by decide +kernel
theorem dX4_move_13 : decode cX4_move 13 = .ok (.if_icmp .ge 33, 3) := by decide +kernel
theorem dX4_move_16 : decode cX4_move 16 = .ok (.aload_n 0, 1) := by decide +kernel
theorem dX4_move_17 : decode cX4_move 17 = .ok (.getfield 19, 3) := by decide +kernel
theorem dX4_move_20 : decode cX4_move 20 = .ok (.iload_n 2, 1) := by decide +kernel
theorem dX4_move_21 : decode cX4_move 21 = .ok (.aload_n 0, 1) := by decide +kernel
theorem dX4_move_22 : decode cX4_move 22 = .ok (.getfield 9, 3) := by decide +kernel
theorem dX4_move_25 : decode cX4_move 25 = .ok (.aload_n 0, 1) := by decide +kernel
theorem dX4_move_26 : decode cX4_move 26 = .ok (.getfield 19, 3) := by decide +kernel
theorem dX4_move_29 : decode cX4_move 29 = .ok (.iload_n 2, 1) := by decide +kernel
theorem dX4_move_30 : decode cX4_move 30 = .ok (.iaload, 1) := by decide +kernel
theorem dX4_move_31 : decode cX4_move 31 = .ok (.iload_n 1, 1) := by decide +kernel
theorem dX4_move_32 : decode cX4_move 32 = .ok (.aload_n 0, 1) := by decide +kernel
theorem dX4_move_33 : decode cX4_move 33 = .ok (.invokevirtual 66, 3) := by decide +kernel
theorem dX4_move_36 : decode cX4_move 36 = .ok (.invokevirtual 70, 3) := by decide +kernel
theorem dX4_move_39 : decode cX4_move 39 = .ok (.iastore, 1) := by decide +kernel
theorem dX4_move_40 : decode cX4_move 40 = .ok (.iinc 2 1, 3) := by decide +kernel
theorem dX4_move_43 : decode cX4_move 43 = .ok (.goto (-41), 3) := by decide +kernel
theorem dX4_move_46 : decode cX4_move 46 = .ok (.return_, 1) := by decide +kernel
set_option maxRecDepth 20000 in
theorem ggX4_drawnSteps_X1_remainder : GoodIn wsX4_drawnSteps wsX1_remainder := goodIn_r _ [6, 7, 8, 20] (by decide +kernel) (by decide +kernel)
set_option maxRecDepth 20000 in
theorem gX4_drawnSteps_X1_remainder : GoodIn wsX4_drawnSteps (wsV RX4 74 RX1 yX1_remainder wsX1_remainder) := goodIn_app (goodIn_of _ (by decide +kernel)) ggX4_drawnSteps_X1_remainder
theorem dX4_drawnSteps_0 : decode cX4_drawnSteps 0 = .ok (.aload_n 0, 1) := by decide +kernel
theorem dX4_drawnSteps_1 : decode cX4_drawnSteps 1 = .ok (.getfield 15, 3) := by decide +kernel
theorem dX4_drawnSteps_4 : decode cX4_drawnSteps 4 = .ok (.bipush 16, 2) := by decide +kernel
theorem dX4_drawnSteps_6 : decode cX4_drawnSteps 6 = .ok (.invokevirtual 74, 3) := by decide +kernel
theorem dX4_drawnSteps_9 : decode cX4_drawnSteps 9 = .ok (.istore_n 1, 1) := by decide +kernel
theorem dX4_drawnSteps_10 : decode cX4_drawnSteps 10 = .ok (.iload_n 1, 1) := by decide +kernel
theorem dX4_drawnSteps_11 : decode cX4_drawnSteps 11 = .ok (.bipush 12, 2) := by decide +kernel
theorem dX4_drawnSteps_13 : decode cX4_drawnSteps 13 = .ok (.if_icmp .ge 5, 3) := by decide +kernel
theorem dX4_drawnSteps_16 : decode cX4_drawnSteps 16 = .ok (.iconst 1, 1) := by decide +kernel
theorem dX4_drawnSteps_17 : decode cX4_drawnSteps 17 = .ok (.ireturn, 1) := by decide +kernel
theorem dX4_drawnSteps_18 : decode cX4_drawnSteps 18 = .ok (.iload_n 1, 1) := by decide +kernel
theorem dX4_drawnSteps_19 : decode cX4_drawnSteps 19 = .ok (.bipush 15, 2) := by decide +kernel
theorem dX4_drawnSteps_21 : decode cX4_drawnSteps 21 = .ok (.if_icmp .ge 7, 3) := by decide +kernel
theorem dX4_drawnSteps_24 : decode cX4_drawnSteps 24 = .ok (.iconst 0, 1) := by decide +kernel
theorem dX4_drawnSteps_25 : decode cX4_drawnSteps 25 = .ok (.goto 4, 3) := by decide +kernel
theorem dX4_drawnSteps_28 : decode cX4_drawnSteps 28 = .ok (.iconst 2, 1) := by decide +kernel
theorem dX4_drawnSteps_29 : decode cX4_drawnSteps 29 = .ok (.ireturn, 1) := by decide +kernel
set_option maxRecDepth 20000 in
theorem ggX4_weigh_X3_weight : GoodIn wsX4_weigh wsX3_weight := goodIn_r _ [9, 10, 11, 12, 13, 14, 15, 16, 8, 17, 18, 19, 20, 21, 22, 23, 103, 104, 105] (by decide +kernel) (by decide +kernel)
set_option maxRecDepth 20000 in
theorem gX4_weigh_X3_weight : GoodIn wsX4_weigh (wsV RX4 80 RX3 yX3_weight wsX3_weight) := goodIn_app (goodIn_of _ (by decide +kernel)) ggX4_weigh_X3_weight
set_option maxRecDepth 20000 in
theorem ggX4_weigh_X5_quotient : GoodIn wsX4_weigh wsX5_quotient := goodIn_r _ [25] (by decide +kernel) (by decide +kernel)
set_option maxRecDepth 20000 in
theorem gX4_weigh_X5_quotient_n83 : GoodIn wsX4_weigh (wsX5_quotient) := ggX4_weigh_X5_quotient
set_option maxRecDepth 20000 in
theorem ggX4_weigh_X4_compareFit : GoodIn wsX4_weigh wsX4_compareFit := goodIn_r _ [30, 31, 32, 33, 34, 35, 12, 36, 37, 92, 93, 94, 95, 96, 97, 98, 99, 100, 101, 102] (by decide +kernel) (by decide +kernel)
set_option maxRecDepth 20000 in
theorem gX4_weigh_X4_compareFit : GoodIn wsX4_weigh (wsV RX4 87 RX4 yX4_compareFit wsX4_compareFit) := goodIn_app (goodIn_of _ (by decide +kernel)) ggX4_weigh_X4_compareFit
set_option maxRecDepth 20000 in
theorem ggX4_weigh_X4_manyAnew : GoodIn wsX4_weigh wsX4_manyAnew := goodIn_r _ [41, 3, 42, 43, 12, 44, 45, 46, 47, 29, 48, 49, 1, 4, 50, 51, 52, 53, 54, 55, 56, 57, 58, 59, 19, 20, 21, 60, 61, 62, 63, 5, 6, 7, 8, 9, 10, 11, 13, 14, 15, 16, 17, 18, 22, 23, 92, 93, 94, 95, 96, 97, 98, 99, 100, 101, 102, 106, 103, 104, 105] (by decide +kernel) (by decide +kernel)
set_option maxRecDepth 20000 in
theorem gX4_weigh_X4_manyAnew : GoodIn wsX4_weigh (wsV RX4 91 RX4 yX4_manyAnew wsX4_manyAnew) := goodIn_app (goodIn_of _ (by decide +kernel)) ggX4_weigh_X4_manyAnew
set_option maxRecDepth 20000 in
theorem ggX4_weigh_X4_drawAnew : GoodIn wsX4_weigh wsX4_drawAnew := goodIn_r _ [67, 4, 68, 69, 70, 71, 72, 73, 37, 3, 1, 74, 75, 76, 77, 78, 79, 80, 81, 82, 83, 8, 84, 85, 86, 87, 24, 20, 25, 88, 89, 90, 29, 91, 2, 92, 93, 94, 95, 96, 97, 98, 99, 100, 101, 102, 107, 103, 104, 105] (by decide +kernel) (by decide +kernel)
set_option maxRecDepth 20000 in
theorem gX4_weigh_X4_drawAnew : GoodIn wsX4_weigh (wsV RX4 95 RX4 yX4_drawAnew wsX4_drawAnew) := goodIn_app (goodIn_of _ (by decide +kernel)) ggX4_weigh_X4_drawAnew
theorem dX4_weigh_0 : decode cX4_weigh 0 = .ok (.iconst 0, 1) := by decide +kernel
theorem dX4_weigh_1 : decode cX4_weigh 1 = .ok (.istore_n 3, 1) := by decide +kernel
theorem dX4_weigh_2 : decode cX4_weigh 2 = .ok (.iconst 0, 1) := by decide +kernel
theorem dX4_weigh_3 : decode cX4_weigh 3 = .ok (.istore 4, 2) := by decide +kernel
theorem dX4_weigh_5 : decode cX4_weigh 5 = .ok (.iload 4, 2) := by decide +kernel
theorem dX4_weigh_7 : decode cX4_weigh 7 = .ok (.aload_n 0, 1) := by decide +kernel
theorem dX4_weigh_8 : decode cX4_weigh 8 = .ok (.getfield 36, 3) := by decide +kernel
theorem dX4_weigh_11 : decode cX4_weigh 11 = .ok (.if_icmp .ge 49, 3) := by decide +kernel
theorem dX4_weigh_14 : decode cX4_weigh 14 = .ok (.iload 4, 2) := by decide +kernel
theorem dX4_weigh_16 : decode cX4_weigh 16 = .ok (.bipush 64, 2) := by decide +kernel
theorem dX4_weigh_18 : decode cX4_weigh 18 = .ok (.if_icmp .ge 42, 3) := by decide +kernel
theorem dX4_weigh_21 : decode cX4_weigh 21 = .ok (.aload_n 0, 1) := by decide +kernel
theorem dX4_weigh_22 : decode cX4_weigh 22 = .ok (.getfield 26, 3) := by decide +kernel
theorem dX4_weigh_25 : decode cX4_weigh 25 = .ok (.iload 4, 2) := by decide +kernel
theorem dX4_weigh_27 : decode cX4_weigh 27 = .ok (.aload_n 0, 1) := by decide +kernel
theorem dX4_weigh_28 : decode cX4_weigh 28 = .ok (.getfield 9, 3) := by decide +kernel
theorem dX4_weigh_31 : decode cX4_weigh 31 = .ok (.aload_n 0, 1) := by decide +kernel
theorem dX4_weigh_32 : decode cX4_weigh 32 = .ok (.getfield 19, 3) := by decide +kernel
theorem dX4_weigh_35 : decode cX4_weigh 35 = .ok (.iload 4, 2) := by decide +kernel
theorem dX4_weigh_37 : decode cX4_weigh 37 = .ok (.iaload, 1) := by decide +kernel
theorem dX4_weigh_38 : decode cX4_weigh 38 = .ok (.iload_n 1, 1) := by decide +kernel
theorem dX4_weigh_39 : decode cX4_weigh 39 = .ok (.iload_n 2, 1) := by decide +kernel
theorem dX4_weigh_40 : decode cX4_weigh 40 = .ok (.invokevirtual 80, 3) := by decide +kernel
theorem dX4_weigh_43 : decode cX4_weigh 43 = .ok (.iastore, 1) := by decide +kernel
theorem dX4_weigh_44 : decode cX4_weigh 44 = .ok (.iload_n 3, 1) := by decide +kernel
theorem dX4_weigh_45 : decode cX4_weigh 45 = .ok (.aload_n 0, 1) := by decide +kernel
theorem dX4_weigh_46 : decode cX4_weigh 46 = .ok (.getfield 26, 3) := by decide +kernel
theorem dX4_weigh_49 : decode cX4_weigh 49 = .ok (.iload 4, 2) := by decide +kernel
theorem dX4_weigh_51 : decode cX4_weigh 51 = .ok (.iaload, 1) := by decide +kernel
theorem dX4_weigh_52 : decode cX4_weigh 52 = .ok (.iadd, 1) := by decide +kernel
theorem dX4_weigh_53 : decode cX4_weigh 53 = .ok (.istore_n 3, 1) := by decide +kernel
theorem dX4_weigh_54 : decode cX4_weigh 54 = .ok (.iinc 4 1, 3) := by decide +kernel
theorem dX4_weigh_57 : decode cX4_weigh 57 = .ok (.goto (-52), 3) := by decide +kernel
theorem dX4_weigh_60 : decode cX4_weigh 60 = .ok (.aload_n 0, 1) := by decide +kernel
theorem dX4_weigh_61 : decode cX4_weigh 61 = .ok (.bipush 32, 2) := by decide +kernel
theorem dX4_weigh_63 : decode cX4_weigh 63 = .ok (.iload_n 3, 1) := by decide +kernel
theorem dX4_weigh_64 : decode cX4_weigh 64 = .ok (.imul, 1) := by decide +kernel
theorem dX4_weigh_65 : decode cX4_weigh 65 = .ok (.i2l, 1) := by decide +kernel
theorem dX4_weigh_66 : decode cX4_weigh 66 = .ok (.aload_n 0, 1) := by decide +kernel
theorem dX4_weigh_67 : decode cX4_weigh 67 = .ok (.getfield 36, 3) := by decide +kernel
theorem dX4_weigh_70 : decode cX4_weigh 70 = .ok (.i2l, 1) := by decide +kernel
theorem dX4_weigh_71 : decode cX4_weigh 71 = .ok (.invokestatic 83, 3) := by decide +kernel
theorem dX4_weigh_74 : decode cX4_weigh 74 = .ok (.l2i, 1) := by decide +kernel
theorem dX4_weigh_75 : decode cX4_weigh 75 = .ok (.invokevirtual 87, 3) := by decide +kernel
theorem dX4_weigh_78 : decode cX4_weigh 78 = .ok (.aload_n 0, 1) := by decide +kernel
theorem dX4_weigh_79 : decode cX4_weigh 79 = .ok (.iload_n 3, 1) := by decide +kernel
theorem dX4_weigh_80 : decode cX4_weigh 80 = .ok (.aload_n 0, 1) := by decide +kernel
theorem dX4_weigh_81 : decode cX4_weigh 81 = .ok (.iload_n 1, 1) := by decide +kernel
theorem dX4_weigh_82 : decode cX4_weigh 82 = .ok (.iload_n 2, 1) := by decide +kernel
theorem dX4_weigh_83 : decode cX4_weigh 83 = .ok (.invokevirtual 91, 3) := by decide +kernel
theorem dX4_weigh_86 : decode cX4_weigh 86 = .ok (.invokevirtual 95, 3) := by decide +kernel
theorem dX4_weigh_89 : decode cX4_weigh 89 = .ok (.iload_n 3, 1) := by decide +kernel
theorem dX4_weigh_90 : decode cX4_weigh 90 = .ok (.ireturn, 1) := by decide +kernel
theorem dX4_compareFit_0 : decode cX4_compareFit 0 = .ok (.aload_n 0, 1) := by decide +kernel
theorem dX4_compareFit_1 : decode cX4_compareFit 1 = .ok (.getfield 56, 3) := by decide +kernel
theorem dX4_compareFit_4 : decode cX4_compareFit 4 = .ok (.ifCond .eq 41, 3) := by decide +kernel
theorem dX4_compareFit_7 : decode cX4_compareFit 7 = .ok (.aload_n 0, 1) := by decide +kernel
theorem dX4_compareFit_8 : decode cX4_compareFit 8 = .ok (.dup, 1) := by decide +kernel
theorem dX4_compareFit_9 : decode cX4_compareFit 9 = .ok (.getfield 60, 3) := by decide +kernel
theorem dX4_compareFit_12 : decode cX4_compareFit 12 = .ok (.iload_n 1, 1) := by decide +kernel
theorem dX4_compareFit_13 : decode cX4_compareFit 13 = .ok (.aload_n 0, 1) := by decide +kernel
theorem dX4_compareFit_14 : decode cX4_compareFit 14 = .ok (.getfield 60, 3) := by decide +kernel
theorem dX4_compareFit_17 : decode cX4_compareFit 17 = .ok (.isub, 1) := by decide +kernel
theorem dX4_compareFit_18 : decode cX4_compareFit 18 = .ok (.bipush 8, 2) := by decide +kernel
theorem dX4_compareFit_20 : decode cX4_compareFit 20 = .ok (.idiv, 1) := by decide +kernel
theorem dX4_compareFit_21 : decode cX4_compareFit 21 = .ok (.iadd, 1) := by decide +kernel
theorem dX4_compareFit_22 : decode cX4_compareFit 22 = .ok (.putfield 60, 3) := by decide +kernel
theorem dX4_compareFit_25 : decode cX4_compareFit 25 = .ok (.aload_n 0, 1) := by decide +kernel
theorem dX4_compareFit_26 : decode cX4_compareFit 26 = .ok (.dup, 1) := by decide +kernel
theorem dX4_compareFit_27 : decode cX4_compareFit 27 = .ok (.getfield 63, 3) := by decide +kernel
theorem dX4_compareFit_30 : decode cX4_compareFit 30 = .ok (.iload_n 1, 1) := by decide +kernel
theorem dX4_compareFit_31 : decode cX4_compareFit 31 = .ok (.aload_n 0, 1) := by decide +kernel
theorem dX4_compareFit_32 : decode cX4_compareFit 32 = .ok (.getfield 63, 3) := by decide +kernel
theorem dX4_compareFit_35 : decode cX4_compareFit 35 = .ok (.isub, 1) := by decide +kernel
theorem dX4_compareFit_36 : decode cX4_compareFit 36 = .ok (.iconst 2, 1) := by decide +kernel
theorem dX4_compareFit_37 : decode cX4_compareFit 37 = .ok (.idiv, 1) := by decide +kernel
theorem dX4_compareFit_38 : decode cX4_compareFit 38 = .ok (.iadd, 1) := by decide +kernel
theorem dX4_compareFit_39 : decode cX4_compareFit 39 = .ok (.putfield 63, 3) := by decide +kernel
theorem dX4_compareFit_42 : decode cX4_compareFit 42 = .ok (.goto 18, 3) := by decide +kernel
theorem dX4_compareFit_45 : decode cX4_compareFit 45 = .ok (.aload_n 0, 1) := by decide +kernel
theorem dX4_compareFit_46 : decode cX4_compareFit 46 = .ok (.iload_n 1, 1) := by decide +kernel
theorem dX4_compareFit_47 : decode cX4_compareFit 47 = .ok (.putfield 60, 3) := by decide +kernel
theorem dX4_compareFit_50 : decode cX4_compareFit 50 = .ok (.aload_n 0, 1) := by decide +kernel
theorem dX4_compareFit_51 : decode cX4_compareFit 51 = .ok (.iload_n 1, 1) := by decide +kernel
theorem dX4_compareFit_52 : decode cX4_compareFit 52 = .ok (.putfield 63, 3) := by decide +kernel
theorem dX4_compareFit_55 : decode cX4_compareFit 55 = .ok (.aload_n 0, 1) := by decide +kernel
theorem dX4_compareFit_56 : decode cX4_compareFit 56 = .ok (.iconst 1, 1) := by decide +kernel
theorem dX4_compareFit_57 : decode cX4_compareFit 57 = .ok (.putfield 56, 3) := by decide +kernel
theorem dX4_compareFit_60 : decode cX4_compareFit 60 = .ok (.aload_n 0, 1) := by decide +kernel
theorem dX4_compareFit_61 : decode cX4_compareFit 61 = .ok (.aload_n 0, 1) := by decide +kernel
theorem dX4_compareFit_62 : decode cX4_compareFit 62 = .ok (.getfield 60, 3) := by decide +kernel
theorem dX4_compareFit_65 : decode cX4_compareFit 65 = .ok (.ifCond .ne 9, 3) := by decide +kernel
theorem dX4_compareFit_68 : decode cX4_compareFit 68 = .ok (.sipush 256, 3) := by decide +kernel
theorem dX4_compareFit_71 : decode cX4_compareFit 71 = .ok (.goto 24, 3) := by decide +kernel
theorem dX4_compareFit_74 : decode cX4_compareFit 74 = .ok (.iconst 0, 1) := by decide +kernel
theorem dX4_compareFit_75 : decode cX4_compareFit 75 = .ok (.sipush 256, 3) := by decide +kernel
theorem dX4_compareFit_78 : decode cX4_compareFit 78 = .ok (.sipush 256, 3) := by decide +kernel
theorem dX4_compareFit_81 : decode cX4_compareFit 81 = .ok (.aload_n 0, 1) := by decide +kernel
theorem dX4_compareFit_82 : decode cX4_compareFit 82 = .ok (.getfield 63, 3) := by decide +kernel
theorem dX4_compareFit_85 : decode cX4_compareFit 85 = .ok (.imul, 1) := by decide +kernel
theorem dX4_compareFit_86 : decode cX4_compareFit 86 = .ok (.aload_n 0, 1) := by decide +kernel
theorem dX4_compareFit_87 : decode cX4_compareFit 87 = .ok (.getfield 60, 3) := by decide +kernel
theorem dX4_compareFit_90 : decode cX4_compareFit 90 = .ok (.idiv, 1) := by decide +kernel
theorem dX4_compareFit_91 : decode cX4_compareFit 91 = .ok (.isub, 1) := by decide +kernel
theorem dX4_compareFit_92 : decode cX4_compareFit 92 = .ok (.invokestatic 99, 3) := by decide +kernel
theorem dX4_compareFit_95 : decode cX4_compareFit 95 = .ok (.putfield 40, 3) := by decide +kernel
theorem dX4_compareFit_98 : decode cX4_compareFit 98 = .ok (.return_, 1) := by decide +kernel
set_option maxRecDepth 20000 in
theorem ggX4_manyAnew_X4_chart : GoodIn wsX4_manyAnew wsX4_chart := goodIn_r _ [10, 11, 12, 13, 14, 15, 16, 17, 18, 19, 20, 21, 22, 23, 24, 25, 26, 46, 47, 48, 49, 50, 51, 52, 53, 54, 55, 56, 57] (by decide +kernel) (by decide +kernel)
set_option maxRecDepth 20000 in
theorem gX4_manyAnew_X4_chart : GoodIn wsX4_manyAnew (wsV RX4 104 RX4 yX4_chart wsX4_chart) := goodIn_app (goodIn_of _ (by decide +kernel)) ggX4_manyAnew_X4_chart
set_option maxRecDepth 20000 in
theorem ggX4_manyAnew_X2_at : GoodIn wsX4_manyAnew wsX2_at := goodIn_r _ [30, 19, 24, 25, 26, 57] (by decide +kernel) (by decide +kernel)
set_option maxRecDepth 20000 in
theorem gX4_manyAnew_X2_at : GoodIn wsX4_manyAnew (wsV RX4 108 RX2 yX2_at wsX2_at) := goodIn_app (goodIn_of _ (by decide +kernel)) ggX4_manyAnew_X2_at
set_option maxRecDepth 20000 in
theorem ggX4_manyAnew_X3_weight : GoodIn wsX4_manyAnew wsX3_weight := goodIn_r _ [35, 36, 37, 4, 38, 39, 40, 41, 34, 42, 43, 24, 25, 26, 44, 45, 58, 59, 60] (by decide +kernel) (by decide +kernel)
set_option maxRecDepth 20000 in
theorem gX4_manyAnew_X3_weight : GoodIn wsX4_manyAnew (wsV RX4 80 RX3 yX3_weight wsX3_weight) := goodIn_app (goodIn_of _ (by decide +kernel)) ggX4_manyAnew_X3_weight
theorem dX4_manyAnew_0 : decode cX4_manyAnew 0 = .ok (.aload_n 0, 1) := by decide +kernel
theorem dX4_manyAnew_1 : decode cX4_manyAnew 1 = .ok (.invokevirtual 104, 3) := by decide +kernel
theorem dX4_manyAnew_4 : decode cX4_manyAnew 4 = .ok (.astore_n 3, 1) := by decide +kernel
theorem dX4_manyAnew_5 : decode cX4_manyAnew 5 = .ok (.iconst 0, 1) := by decide +kernel
theorem dX4_manyAnew_6 : decode cX4_manyAnew 6 = .ok (.istore 4, 2) := by decide +kernel
theorem dX4_manyAnew_8 : decode cX4_manyAnew 8 = .ok (.iconst 0, 1) := by decide +kernel
theorem dX4_manyAnew_9 : decode cX4_manyAnew 9 = .ok (.istore 5, 2) := by decide +kernel
theorem dX4_manyAnew_11 : decode cX4_manyAnew 11 = .ok (.iload 5, 2) := by decide +kernel
theorem dX4_manyAnew_13 : decode cX4_manyAnew 13 = .ok (.bipush 64, 2) := by decide +kernel
theorem dX4_manyAnew_15 : decode cX4_manyAnew 15 = .ok (.if_icmp .ge 37, 3) := by decide +kernel
theorem dX4_manyAnew_18 : decode cX4_manyAnew 18 = .ok (.aload_n 3, 1) := by decide +kernel
theorem dX4_manyAnew_19 : decode cX4_manyAnew 19 = .ok (.iload 5, 2) := by decide +kernel
theorem dX4_manyAnew_21 : decode cX4_manyAnew 21 = .ok (.invokevirtual 108, 3) := by decide +kernel
theorem dX4_manyAnew_24 : decode cX4_manyAnew 24 = .ok (.lconst 0, 1) := by decide +kernel
theorem dX4_manyAnew_25 : decode cX4_manyAnew 25 = .ok (.lcmp, 1) := by decide +kernel
theorem dX4_manyAnew_26 : decode cX4_manyAnew 26 = .ok (.ifCond .le 20, 3) := by decide +kernel
theorem dX4_manyAnew_29 : decode cX4_manyAnew 29 = .ok (.aload_n 0, 1) := by decide +kernel
theorem dX4_manyAnew_30 : decode cX4_manyAnew 30 = .ok (.getfield 9, 3) := by decide +kernel
theorem dX4_manyAnew_33 : decode cX4_manyAnew 33 = .ok (.iload 5, 2) := by decide +kernel
theorem dX4_manyAnew_35 : decode cX4_manyAnew 35 = .ok (.iload_n 1, 1) := by decide +kernel
theorem dX4_manyAnew_36 : decode cX4_manyAnew 36 = .ok (.iload_n 2, 1) := by decide +kernel
theorem dX4_manyAnew_37 : decode cX4_manyAnew 37 = .ok (.invokevirtual 80, 3) := by decide +kernel
theorem dX4_manyAnew_40 : decode cX4_manyAnew 40 = .ok (.ifCond .le 6, 3) := by decide +kernel
theorem dX4_manyAnew_43 : decode cX4_manyAnew 43 = .ok (.iinc 4 1, 3) := by decide +kernel
theorem dX4_manyAnew_46 : decode cX4_manyAnew 46 = .ok (.iinc 5 1, 3) := by decide +kernel
theorem dX4_manyAnew_49 : decode cX4_manyAnew 49 = .ok (.goto (-38), 3) := by decide +kernel
theorem dX4_manyAnew_52 : decode cX4_manyAnew 52 = .ok (.bipush 64, 2) := by decide +kernel
theorem dX4_manyAnew_54 : decode cX4_manyAnew 54 = .ok (.iconst 4, 1) := by decide +kernel
theorem dX4_manyAnew_55 : decode cX4_manyAnew 55 = .ok (.iload 4, 2) := by decide +kernel
theorem dX4_manyAnew_57 : decode cX4_manyAnew 57 = .ok (.imul, 1) := by decide +kernel
theorem dX4_manyAnew_58 : decode cX4_manyAnew 58 = .ok (.bipush 8, 2) := by decide +kernel
theorem dX4_manyAnew_60 : decode cX4_manyAnew 60 = .ok (.iadd, 1) := by decide +kernel
theorem dX4_manyAnew_61 : decode cX4_manyAnew 61 = .ok (.invokestatic 112, 3) := by decide +kernel
theorem dX4_manyAnew_64 : decode cX4_manyAnew 64 = .ok (.ireturn, 1) := by decide +kernel
set_option maxRecDepth 20000 in
theorem ggX4_drawAnew_X1_remainder : GoodIn wsX4_drawAnew wsX1_remainder := goodIn_r _ [15, 16, 17, 46] (by decide +kernel) (by decide +kernel)
set_option maxRecDepth 20000 in
theorem gX4_drawAnew_X1_remainder : GoodIn wsX4_drawAnew (wsV RX4 74 RX1 yX1_remainder wsX1_remainder) := goodIn_app (goodIn_of _ (by decide +kernel)) ggX4_drawAnew_X1_remainder
set_option maxRecDepth 20000 in
theorem ggX4_drawAnew_X3_drawnCell : GoodIn wsX4_drawAnew wsX3_drawnCell := goodIn_r _ [22, 23, 24, 25, 12, 13, 14, 15, 16, 17, 47, 48, 49, 46] (by decide +kernel) (by decide +kernel)
set_option maxRecDepth 20000 in
theorem gX4_drawAnew_X3_drawnCell : GoodIn wsX4_drawAnew (wsV RX4 50 RX3 yX3_drawnCell wsX3_drawnCell) := goodIn_app (goodIn_of _ (by decide +kernel)) ggX4_drawAnew_X3_drawnCell
set_option maxRecDepth 20000 in
theorem ggX4_drawAnew_X5_quotient : GoodIn wsX4_drawAnew wsX5_quotient := goodIn_r _ [28] (by decide +kernel) (by decide +kernel)
set_option maxRecDepth 20000 in
theorem gX4_drawAnew_X5_quotient_n83 : GoodIn wsX4_drawAnew (wsX5_quotient) := ggX4_drawAnew_X5_quotient
set_option maxRecDepth 20000 in
theorem ggX4_drawAnew_X4_oldCellBeyond : GoodIn wsX4_drawAnew wsX4_oldCellBeyond := goodIn_r _ [33, 10, 34, 2, 35, 36, 37, 38, 39, 40, 41, 42, 43, 44, 45] (by decide +kernel) (by decide +kernel)
set_option maxRecDepth 20000 in
theorem gX4_drawAnew_X4_oldCellBeyond : GoodIn wsX4_drawAnew (wsV RX4 121 RX4 yX4_oldCellBeyond wsX4_oldCellBeyond) := goodIn_app (goodIn_of _ (by decide +kernel)) ggX4_drawAnew_X4_oldCellBeyond
theorem dX4_drawAnew_0 : decode cX4_drawAnew 0 = .ok (.aload_n 0, 1) := by decide +kernel
end
section
theorem dX4_drawAnew_1 : decode cX4_drawAnew 1 = .ok (.getfield 19, 3) := by decide +kernel
theorem dX4_drawAnew_4 : decode cX4_drawAnew 4 = .ok (.iconst 0, 1) := by decide +kernel
theorem dX4_drawAnew_5 : decode cX4_drawAnew 5 = .ok (.aload_n 0, 1) := by decide +kernel
theorem dX4_drawAnew_6 : decode cX4_drawAnew 6 = .ok (.getfield 23, 3) := by decide +kernel
theorem dX4_drawAnew_9 : decode cX4_drawAnew 9 = .ok (.iconst 0, 1) := by decide +kernel
theorem dX4_drawAnew_10 : decode cX4_drawAnew 10 = .ok (.bipush 64, 2) := by decide +kernel
theorem dX4_drawAnew_12 : decode cX4_drawAnew 12 = .ok (.invokestatic 115, 3) := by decide +kernel
theorem dX4_drawAnew_15 : decode cX4_drawAnew 15 = .ok (.iload_n 1, 1) := by decide +kernel
theorem dX4_drawAnew_16 : decode cX4_drawAnew 16 = .ok (.ifCond .ne 7, 3) := by decide +kernel
theorem dX4_drawAnew_19 : decode cX4_drawAnew 19 = .ok (.iconst 0, 1) := by decide +kernel
theorem dX4_drawAnew_20 : decode cX4_drawAnew 20 = .ok (.goto 11, 3) := by decide +kernel
theorem dX4_drawAnew_23 : decode cX4_drawAnew 23 = .ok (.aload_n 0, 1) := by decide +kernel
theorem dX4_drawAnew_24 : decode cX4_drawAnew 24 = .ok (.getfield 15, 3) := by decide +kernel
theorem dX4_drawAnew_27 : decode cX4_drawAnew 27 = .ok (.iload_n 1, 1) := by decide +kernel
theorem dX4_drawAnew_28 : decode cX4_drawAnew 28 = .ok (.invokevirtual 74, 3) := by decide +kernel
theorem dX4_drawAnew_31 : decode cX4_drawAnew 31 = .ok (.istore_n 3, 1) := by decide +kernel
theorem dX4_drawAnew_32 : decode cX4_drawAnew 32 = .ok (.iconst 0, 1) := by decide +kernel
theorem dX4_drawAnew_33 : decode cX4_drawAnew 33 = .ok (.istore 4, 2) := by decide +kernel
theorem dX4_drawAnew_35 : decode cX4_drawAnew 35 = .ok (.iload 4, 2) := by decide +kernel
theorem dX4_drawAnew_37 : decode cX4_drawAnew 37 = .ok (.iload_n 2, 1) := by decide +kernel
theorem dX4_drawAnew_38 : decode cX4_drawAnew 38 = .ok (.if_icmp .ge 93, 3) := by decide +kernel
theorem dX4_drawAnew_41 : decode cX4_drawAnew 41 = .ok (.iload 4, 2) := by decide +kernel
theorem dX4_drawAnew_43 : decode cX4_drawAnew 43 = .ok (.bipush 64, 2) := by decide +kernel
theorem dX4_drawAnew_45 : decode cX4_drawAnew 45 = .ok (.if_icmp .ge 86, 3) := by decide +kernel
theorem dX4_drawAnew_48 : decode cX4_drawAnew 48 = .ok (.aload_n 0, 1) := by decide +kernel
theorem dX4_drawAnew_49 : decode cX4_drawAnew 49 = .ok (.getfield 15, 3) := by decide +kernel
theorem dX4_drawAnew_52 : decode cX4_drawAnew 52 = .ok (.sipush 256, 3) := by decide +kernel
theorem dX4_drawAnew_55 : decode cX4_drawAnew 55 = .ok (.invokevirtual 74, 3) := by decide +kernel
theorem dX4_drawAnew_58 : decode cX4_drawAnew 58 = .ok (.aload_n 0, 1) := by decide +kernel
theorem dX4_drawAnew_59 : decode cX4_drawAnew 59 = .ok (.getfield 40, 3) := by decide +kernel
theorem dX4_drawAnew_62 : decode cX4_drawAnew 62 = .ok (.if_icmp .ge 7, 3) := by decide +kernel
theorem dX4_drawAnew_65 : decode cX4_drawAnew 65 = .ok (.iconst 1, 1) := by decide +kernel
theorem dX4_drawAnew_66 : decode cX4_drawAnew 66 = .ok (.goto 4, 3) := by decide +kernel
theorem dX4_drawAnew_69 : decode cX4_drawAnew 69 = .ok (.iconst 0, 1) := by decide +kernel
theorem dX4_drawAnew_70 : decode cX4_drawAnew 70 = .ok (.istore 5, 2) := by decide +kernel
theorem dX4_drawAnew_72 : decode cX4_drawAnew 72 = .ok (.iload_n 1, 1) := by decide +kernel
theorem dX4_drawAnew_73 : decode cX4_drawAnew 73 = .ok (.ifCond .eq 8, 3) := by decide +kernel
theorem dX4_drawAnew_76 : decode cX4_drawAnew 76 = .ok (.iload 5, 2) := by decide +kernel
theorem dX4_drawAnew_78 : decode cX4_drawAnew 78 = .ok (.ifCond .eq 24, 3) := by decide +kernel
theorem dX4_drawAnew_81 : decode cX4_drawAnew 81 = .ok (.aload_n 0, 1) := by decide +kernel
theorem dX4_drawAnew_82 : decode cX4_drawAnew 82 = .ok (.getfield 19, 3) := by decide +kernel
theorem dX4_drawAnew_85 : decode cX4_drawAnew 85 = .ok (.iload 4, 2) := by decide +kernel
theorem dX4_drawAnew_87 : decode cX4_drawAnew 87 = .ok (.aload_n 0, 1) := by decide +kernel
theorem dX4_drawAnew_88 : decode cX4_drawAnew 88 = .ok (.getfield 9, 3) := by decide +kernel
theorem dX4_drawAnew_91 : decode cX4_drawAnew 91 = .ok (.aload_n 0, 1) := by decide +kernel
theorem dX4_drawAnew_92 : decode cX4_drawAnew 92 = .ok (.getfield 15, 3) := by decide +kernel
theorem dX4_drawAnew_95 : decode cX4_drawAnew 95 = .ok (.invokevirtual 50, 3) := by decide +kernel
theorem dX4_drawAnew_98 : decode cX4_drawAnew 98 = .ok (.iastore, 1) := by decide +kernel
theorem dX4_drawAnew_99 : decode cX4_drawAnew 99 = .ok (.goto 26, 3) := by decide +kernel
theorem dX4_drawAnew_102 : decode cX4_drawAnew 102 = .ok (.aload_n 0, 1) := by decide +kernel
theorem dX4_drawAnew_103 : decode cX4_drawAnew 103 = .ok (.getfield 19, 3) := by decide +kernel
theorem dX4_drawAnew_106 : decode cX4_drawAnew 106 = .ok (.iload 4, 2) := by decide +kernel
theorem dX4_drawAnew_108 : decode cX4_drawAnew 108 = .ok (.aload_n 0, 1) := by decide +kernel
theorem dX4_drawAnew_109 : decode cX4_drawAnew 109 = .ok (.iload_n 3, 1) := by decide +kernel
theorem dX4_drawAnew_110 : decode cX4_drawAnew 110 = .ok (.iload 4, 2) := by decide +kernel
theorem dX4_drawAnew_112 : decode cX4_drawAnew 112 = .ok (.iload_n 1, 1) := by decide +kernel
theorem dX4_drawAnew_113 : decode cX4_drawAnew 113 = .ok (.imul, 1) := by decide +kernel
theorem dX4_drawAnew_114 : decode cX4_drawAnew 114 = .ok (.iadd, 1) := by decide +kernel
theorem dX4_drawAnew_115 : decode cX4_drawAnew 115 = .ok (.i2l, 1) := by decide +kernel
theorem dX4_drawAnew_116 : decode cX4_drawAnew 116 = .ok (.iload_n 2, 1) := by decide +kernel
theorem dX4_drawAnew_117 : decode cX4_drawAnew 117 = .ok (.i2l, 1) := by decide +kernel
theorem dX4_drawAnew_118 : decode cX4_drawAnew 118 = .ok (.invokestatic 83, 3) := by decide +kernel
theorem dX4_drawAnew_121 : decode cX4_drawAnew 121 = .ok (.invokevirtual 121, 3) := by decide +kernel
theorem dX4_drawAnew_124 : decode cX4_drawAnew 124 = .ok (.iastore, 1) := by decide +kernel
theorem dX4_drawAnew_125 : decode cX4_drawAnew 125 = .ok (.iinc 4 1, 3) := by decide +kernel
theorem dX4_drawAnew_128 : decode cX4_drawAnew 128 = .ok (.goto (-93), 3) := by decide +kernel
theorem dX4_drawAnew_131 : decode cX4_drawAnew 131 = .ok (.aload_n 0, 1) := by decide +kernel
theorem dX4_drawAnew_132 : decode cX4_drawAnew 132 = .ok (.iload_n 2, 1) := by decide +kernel
theorem dX4_drawAnew_133 : decode cX4_drawAnew 133 = .ok (.putfield 36, 3) := by decide +kernel
theorem dX4_drawAnew_136 : decode cX4_drawAnew 136 = .ok (.return_, 1) := by decide +kernel
theorem dX4_oldCellBeyond_0 : decode cX4_oldCellBeyond 0 = .ok (.iconst 0, 1) := by decide +kernel
theorem dX4_oldCellBeyond_1 : decode cX4_oldCellBeyond 1 = .ok (.istore_n 3, 1) := by decide +kernel
theorem dX4_oldCellBeyond_2 : decode cX4_oldCellBeyond 2 = .ok (.iconst 0, 1) := by decide +kernel
theorem dX4_oldCellBeyond_3 : decode cX4_oldCellBeyond 3 = .ok (.istore 4, 2) := by decide +kernel
theorem dX4_oldCellBeyond_5 : decode cX4_oldCellBeyond 5 = .ok (.iload 4, 2) := by decide +kernel
theorem dX4_oldCellBeyond_7 : decode cX4_oldCellBeyond 7 = .ok (.aload_n 0, 1) := by decide +kernel
theorem dX4_oldCellBeyond_8 : decode cX4_oldCellBeyond 8 = .ok (.getfield 36, 3) := by decide +kernel
theorem dX4_oldCellBeyond_11 : decode cX4_oldCellBeyond 11 = .ok (.if_icmp .ge 41, 3) := by decide +kernel
theorem dX4_oldCellBeyond_14 : decode cX4_oldCellBeyond 14 = .ok (.iload 4, 2) := by decide +kernel
theorem dX4_oldCellBeyond_16 : decode cX4_oldCellBeyond 16 = .ok (.bipush 64, 2) := by decide +kernel
theorem dX4_oldCellBeyond_18 : decode cX4_oldCellBeyond 18 = .ok (.if_icmp .ge 34, 3) := by decide +kernel
theorem dX4_oldCellBeyond_21 : decode cX4_oldCellBeyond 21 = .ok (.iload_n 3, 1) := by decide +kernel
theorem dX4_oldCellBeyond_22 : decode cX4_oldCellBeyond 22 = .ok (.aload_n 0, 1) := by decide +kernel
theorem dX4_oldCellBeyond_23 : decode cX4_oldCellBeyond 23 = .ok (.getfield 26, 3) := by decide +kernel
theorem dX4_oldCellBeyond_26 : decode cX4_oldCellBeyond 26 = .ok (.iload 4, 2) := by decide +kernel
theorem dX4_oldCellBeyond_28 : decode cX4_oldCellBeyond 28 = .ok (.iaload, 1) := by decide +kernel
theorem dX4_oldCellBeyond_29 : decode cX4_oldCellBeyond 29 = .ok (.iadd, 1) := by decide +kernel
theorem dX4_oldCellBeyond_30 : decode cX4_oldCellBeyond 30 = .ok (.istore_n 3, 1) := by decide +kernel
theorem dX4_oldCellBeyond_31 : decode cX4_oldCellBeyond 31 = .ok (.iload_n 3, 1) := by decide +kernel
theorem dX4_oldCellBeyond_32 : decode cX4_oldCellBeyond 32 = .ok (.i2l, 1) := by decide +kernel
theorem dX4_oldCellBeyond_33 : decode cX4_oldCellBeyond 33 = .ok (.lload_n 1, 1) := by decide +kernel
theorem dX4_oldCellBeyond_34 : decode cX4_oldCellBeyond 34 = .ok (.lcmp, 1) := by decide +kernel
theorem dX4_oldCellBeyond_35 : decode cX4_oldCellBeyond 35 = .ok (.ifCond .le 11, 3) := by decide +kernel
theorem dX4_oldCellBeyond_38 : decode cX4_oldCellBeyond 38 = .ok (.aload_n 0, 1) := by decide +kernel
theorem dX4_oldCellBeyond_39 : decode cX4_oldCellBeyond 39 = .ok (.getfield 23, 3) := by decide +kernel
theorem dX4_oldCellBeyond_42 : decode cX4_oldCellBeyond 42 = .ok (.iload 4, 2) := by decide +kernel
theorem dX4_oldCellBeyond_44 : decode cX4_oldCellBeyond 44 = .ok (.iaload, 1) := by decide +kernel
theorem dX4_oldCellBeyond_45 : decode cX4_oldCellBeyond 45 = .ok (.ireturn, 1) := by decide +kernel
theorem dX4_oldCellBeyond_46 : decode cX4_oldCellBeyond 46 = .ok (.iinc 4 1, 3) := by decide +kernel
theorem dX4_oldCellBeyond_49 : decode cX4_oldCellBeyond 49 = .ok (.goto (-44), 3) := by decide +kernel
theorem dX4_oldCellBeyond_52 : decode cX4_oldCellBeyond 52 = .ok (.aload_n 0, 1) := by decide +kernel
theorem dX4_oldCellBeyond_53 : decode cX4_oldCellBeyond 53 = .ok (.getfield 23, 3) := by decide +kernel
theorem dX4_oldCellBeyond_56 : decode cX4_oldCellBeyond 56 = .ok (.iconst 0, 1) := by decide +kernel
theorem dX4_oldCellBeyond_57 : decode cX4_oldCellBeyond 57 = .ok (.iaload, 1) := by decide +kernel
theorem dX4_oldCellBeyond_58 : decode cX4_oldCellBeyond 58 = .ok (.ireturn, 1) := by decide +kernel
set_option maxRecDepth 20000 in
theorem ggX5_init_X3_init : GoodIn wsX5_init wsX3_init := goodIn_r _ [28, 29, 2, 3, 30, 31, 21, 32, 33, 34, 35, 6, 36, 37, 38, 39, 40, 41, 42, 43, 44, 45, 46, 47, 48, 49, 50, 51, 52, 53, 54, 55, 56, 57, 58, 59, 94, 95, 96] (by decide +kernel) (by decide +kernel)
set_option maxRecDepth 20000 in
theorem gX5_init_X3_init : GoodIn wsX5_init (wsX3_init) := ggX5_init_X3_init
set_option maxRecDepth 20000 in
theorem ggX5_init_X1_init : GoodIn wsX5_init wsX1_init := goodIn_r _ [62, 63, 2, 3, 64, 106] (by decide +kernel) (by decide +kernel)
set_option maxRecDepth 20000 in
theorem gX5_init_X1_init : GoodIn wsX5_init (wsX1_init) := ggX5_init_X1_init
set_option maxRecDepth 20000 in
theorem ggX5_init_X4_init : GoodIn wsX5_init wsX4_init := goodIn_r _ [67, 68, 2, 3, 69, 70, 21, 71, 72, 73, 74, 75, 76, 77, 78, 79, 80, 81, 82, 83, 84, 107, 108, 109, 110, 111, 112, 113, 114, 115, 116, 117, 121] (by decide +kernel) (by decide +kernel)
set_option maxRecDepth 20000 in
theorem gX5_init_X4_init : GoodIn wsX5_init (wsX4_init) := ggX5_init_X4_init
set_option maxRecDepth 20000 in
theorem ggX5_init_X0_init : GoodIn wsX5_init wsX0_init := goodIn_r _ [87, 88, 2, 3, 89, 90, 75, 76, 91, 92, 93, 80, 81, 82, 83, 84, 118, 119, 120, 121] (by decide +kernel) (by decide +kernel)
set_option maxRecDepth 20000 in
theorem gX5_init_X0_init : GoodIn wsX5_init (wsX0_init) := ggX5_init_X0_init
theorem dX5_init_0 : decode cX5_init 0 = .ok (.aload_n 0, 1) := by decide +kernel
theorem dX5_init_1 : decode cX5_init 1 = .ok (.invokespecial 1, 3) := by decide +kernel
theorem dX5_init_4 : decode cX5_init 4 = .ok (.aload_n 0, 1) := by decide +kernel
theorem dX5_init_5 : decode cX5_init 5 = .ok (.new 7, 3) := by decide +kernel
theorem dX5_init_8 : decode cX5_init 8 = .ok (.dup, 1) := by decide +kernel
theorem dX5_init_9 : decode cX5_init 9 = .ok (.invokespecial 9, 3) := by decide +kernel
theorem dX5_init_12 : decode cX5_init 12 = .ok (.putfield 10, 3) := by decide +kernel
theorem dX5_init_15 : decode cX5_init 15 = .ok (.aload_n 0, 1) := by decide +kernel
theorem dX5_init_16 : decode cX5_init 16 = .ok (.new 16, 3) := by decide +kernel
theorem dX5_init_19 : decode cX5_init 19 = .ok (.dup, 1) := by decide +kernel
theorem dX5_init_20 : decode cX5_init 20 = .ok (.invokespecial 18, 3) := by decide +kernel
theorem dX5_init_23 : decode cX5_init 23 = .ok (.putfield 19, 3) := by decide +kernel
theorem dX5_init_26 : decode cX5_init 26 = .ok (.aload_n 0, 1) := by decide +kernel
theorem dX5_init_27 : decode cX5_init 27 = .ok (.new 23, 3) := by decide +kernel
theorem dX5_init_30 : decode cX5_init 30 = .ok (.dup, 1) := by decide +kernel
theorem dX5_init_31 : decode cX5_init 31 = .ok (.aload_n 0, 1) := by decide +kernel
theorem dX5_init_32 : decode cX5_init 32 = .ok (.getfield 10, 3) := by decide +kernel
theorem dX5_init_35 : decode cX5_init 35 = .ok (.aload_n 0, 1) := by decide +kernel
theorem dX5_init_36 : decode cX5_init 36 = .ok (.getfield 19, 3) := by decide +kernel
theorem dX5_init_39 : decode cX5_init 39 = .ok (.invokespecial 25, 3) := by decide +kernel
theorem dX5_init_42 : decode cX5_init 42 = .ok (.putfield 28, 3) := by decide +kernel
theorem dX5_init_45 : decode cX5_init 45 = .ok (.aload_n 0, 1) := by decide +kernel
theorem dX5_init_46 : decode cX5_init 46 = .ok (.new 32, 3) := by decide +kernel
theorem dX5_init_49 : decode cX5_init 49 = .ok (.dup, 1) := by decide +kernel
theorem dX5_init_50 : decode cX5_init 50 = .ok (.aload_n 0, 1) := by decide +kernel
theorem dX5_init_51 : decode cX5_init 51 = .ok (.getfield 10, 3) := by decide +kernel
theorem dX5_init_54 : decode cX5_init 54 = .ok (.invokespecial 34, 3) := by decide +kernel
theorem dX5_init_57 : decode cX5_init 57 = .ok (.putfield 37, 3) := by decide +kernel
theorem dX5_init_60 : decode cX5_init 60 = .ok (.aload_n 0, 1) := by decide +kernel
theorem dX5_init_61 : decode cX5_init 61 = .ok (.new 32, 3) := by decide +kernel
theorem dX5_init_64 : decode cX5_init 64 = .ok (.dup, 1) := by decide +kernel
theorem dX5_init_65 : decode cX5_init 65 = .ok (.aload_n 0, 1) := by decide +kernel
theorem dX5_init_66 : decode cX5_init 66 = .ok (.getfield 10, 3) := by decide +kernel
theorem dX5_init_69 : decode cX5_init 69 = .ok (.invokespecial 34, 3) := by decide +kernel
theorem dX5_init_72 : decode cX5_init 72 = .ok (.putfield 41, 3) := by decide +kernel
theorem dX5_init_75 : decode cX5_init 75 = .ok (.aload_n 0, 1) := by decide +kernel
theorem dX5_init_76 : decode cX5_init 76 = .ok (.sipush 300, 3) := by decide +kernel
theorem dX5_init_79 : decode cX5_init 79 = .ok (.newarray .int, 2) := by decide +kernel
theorem dX5_init_81 : decode cX5_init 81 = .ok (.putfield 44, 3) := by decide +kernel
theorem dX5_init_84 : decode cX5_init 84 = .ok (.aload_n 0, 1) := by decide +kernel
theorem dX5_init_85 : decode cX5_init 85 = .ok (.sipush 300, 3) := by decide +kernel
theorem dX5_init_88 : decode cX5_init 88 = .ok (.newarray .int, 2) := by decide +kernel
theorem dX5_init_90 : decode cX5_init 90 = .ok (.putfield 48, 3) := by decide +kernel
theorem dX5_init_93 : decode cX5_init 93 = .ok (.aload_n 0, 1) := by decide +kernel
theorem dX5_init_94 : decode cX5_init 94 = .ok (.iconst 0, 1) := by decide +kernel
theorem dX5_init_95 : decode cX5_init 95 = .ok (.putfield 51, 3) := by decide +kernel
theorem dX5_init_98 : decode cX5_init 98 = .ok (.aload_n 0, 1) := by decide +kernel
theorem dX5_init_99 : decode cX5_init 99 = .ok (.iconst 0, 1) := by decide +kernel
theorem dX5_init_100 : decode cX5_init 100 = .ok (.putfield 55, 3) := by decide +kernel
theorem dX5_init_103 : decode cX5_init 103 = .ok (.return_, 1) := by decide +kernel
set_option maxRecDepth 20000 in
theorem ggX5_wall_X5_checkCell : GoodIn wsX5_wall wsX5_checkCell := goodIn_ca (goodIn_r _ [8, 9, 10, 11, 12, 7, 13] (by decide +kernel) (by decide +kernel)) (goodIn_sub (fun _ h => List.mem_cons_of_mem _ (List.mem_append_right _ h)) (by decide +kernel))
set_option maxRecDepth 20000 in
theorem gX5_wall_X5_checkCell : GoodIn wsX5_wall (va_wsS RX5 59 yX5_checkCell wsX5_checkCell) := goodIn_app (goodIn_of _ (by decide +kernel)) ggX5_wall_X5_checkCell
set_option maxRecDepth 20000 in
theorem ggX5_wall_X5_numberOf : GoodIn wsX5_wall wsX5_numberOf := goodIn_r _ [16] (by decide +kernel) (by decide +kernel)
set_option maxRecDepth 20000 in
theorem gX5_wall_X5_numberOf : GoodIn wsX5_wall (va_wsS RX5 63 yX5_numberOf wsX5_numberOf) := goodIn_app (goodIn_of _ (by decide +kernel)) ggX5_wall_X5_numberOf
set_option maxRecDepth 20000 in
theorem ggX5_wall_X3_isFree : GoodIn wsX5_wall wsX3_isFree := goodIn_r _ [21, 22, 23, 7, 24, 60, 61, 62] (by decide +kernel) (by decide +kernel)
set_option maxRecDepth 20000 in
theorem gX5_wall_X3_isFree : GoodIn wsX5_wall (wsV RX5 67 RX3 yX3_isFree wsX3_isFree) := goodIn_app (goodIn_of _ (by decide +kernel)) ggX5_wall_X3_isFree
set_option maxRecDepth 20000 in
theorem ggX5_wall_X3_freeCells : GoodIn wsX5_wall wsX3_freeCells := goodIn_r _ [28, 29, 60, 61, 62] (by decide +kernel) (by decide +kernel)
set_option maxRecDepth 20000 in
theorem gX5_wall_X3_freeCells : GoodIn wsX5_wall (wsV RX5 71 RX3 yX3_freeCells wsX3_freeCells) := goodIn_app (goodIn_of _ (by decide +kernel)) ggX5_wall_X3_freeCells
set_option maxRecDepth 20000 in
theorem ggX5_wall_X3_build : GoodIn wsX5_wall wsX3_build := goodIn_r _ [33, 22, 23, 7, 24, 34, 35, 36, 20, 37, 29, 38, 39, 40, 41, 42, 43, 44, 45, 46, 47, 48, 49, 12, 13, 15, 16, 50, 18, 19, 21, 60, 61, 62] (by decide +kernel) (by decide +kernel)
set_option maxRecDepth 20000 in
theorem gX5_wall_X3_build : GoodIn wsX5_wall (wsV RX5 78 RX3 yX3_build wsX3_build) := goodIn_app (goodIn_of _ (by decide +kernel)) ggX5_wall_X3_build
theorem dX5_wall_0 : decode cX5_wall 0 = .ok (.iload_n 1, 1) := by decide +kernel
theorem dX5_wall_1 : decode cX5_wall 1 = .ok (.iload_n 2, 1) := by decide +kernel
theorem dX5_wall_2 : decode cX5_wall 2 = .ok (.invokestatic 59, 3) := by decide +kernel
theorem dX5_wall_5 : decode cX5_wall 5 = .ok (.iload_n 1, 1) := by decide +kernel
theorem dX5_wall_6 : decode cX5_wall 6 = .ok (.iload_n 2, 1) := by decide +kernel
theorem dX5_wall_7 : decode cX5_wall 7 = .ok (.invokestatic 63, 3) := by decide +kernel
theorem dX5_wall_10 : decode cX5_wall 10 = .ok (.istore 4, 2) := by decide +kernel
theorem dX5_wall_12 : decode cX5_wall 12 = .ok (.aload_n 0, 1) := by decide +kernel
theorem dX5_wall_13 : decode cX5_wall 13 = .ok (.getfield 10, 3) := by decide +kernel
theorem dX5_wall_16 : decode cX5_wall 16 = .ok (.iload 4, 2) := by decide +kernel
theorem dX5_wall_18 : decode cX5_wall 18 = .ok (.invokevirtual 67, 3) := by decide +kernel
theorem dX5_wall_21 : decode cX5_wall 21 = .ok (.ifCond .ne 7, 3) := by decide +kernel
theorem dX5_wall_24 : decode cX5_wall 24 = .ok (.iconst 1, 1) := by decide +kernel
theorem dX5_wall_25 : decode cX5_wall 25 = .ok (.goto 4, 3) := by decide +kernel
theorem dX5_wall_28 : decode cX5_wall 28 = .ok (.iconst 0, 1) := by decide +kernel
theorem dX5_wall_29 : decode cX5_wall 29 = .ok (.istore 5, 2) := by decide +kernel
theorem dX5_wall_31 : decode cX5_wall 31 = .ok (.iload_n 3, 1) := by decide +kernel
theorem dX5_wall_32 : decode cX5_wall 32 = .ok (.ifCond .eq 23, 3) := by decide +kernel
theorem dX5_wall_35 : decode cX5_wall 35 = .ok (.iload 5, 2) := by decide +kernel
theorem dX5_wall_37 : decode cX5_wall 37 = .ok (.ifCond .ne 18, 3) := by decide +kernel
theorem dX5_wall_40 : decode cX5_wall 40 = .ok (.aload_n 0, 1) := by decide +kernel
theorem dX5_wall_41 : decode cX5_wall 41 = .ok (.getfield 10, 3) := by decide +kernel
theorem dX5_wall_44 : decode cX5_wall 44 = .ok (.invokevirtual 71, 3) := by decide +kernel
theorem dX5_wall_47 : decode cX5_wall 47 = .ok (.iconst 1, 1) := by decide +kernel
theorem dX5_wall_48 : decode cX5_wall 48 = .ok (.if_icmp .gt 7, 3) := by decide +kernel
theorem dX5_wall_51 : decode cX5_wall 51 = .ok (.iconst 1, 1) := by decide +kernel
theorem dX5_wall_52 : decode cX5_wall 52 = .ok (.goto 4, 3) := by decide +kernel
theorem dX5_wall_55 : decode cX5_wall 55 = .ok (.iconst 0, 1) := by decide +kernel
theorem dX5_wall_56 : decode cX5_wall 56 = .ok (.istore 6, 2) := by decide +kernel
theorem dX5_wall_58 : decode cX5_wall 58 = .ok (.aload_n 0, 1) := by decide +kernel
theorem dX5_wall_59 : decode cX5_wall 59 = .ok (.getfield 55, 3) := by decide +kernel
theorem dX5_wall_62 : decode cX5_wall 62 = .ok (.ifCond .ne 8, 3) := by decide +kernel
theorem dX5_wall_65 : decode cX5_wall 65 = .ok (.iload 6, 2) := by decide +kernel
theorem dX5_wall_67 : decode cX5_wall 67 = .ok (.ifCond .eq 11, 3) := by decide +kernel
theorem dX5_wall_70 : decode cX5_wall 70 = .ok (.new 75, 3) := by decide +kernel
theorem dX5_wall_73 : decode cX5_wall 73 = .ok (.dup, 1) := by decide +kernel
theorem dX5_wall_74 : decode cX5_wall 74 = .ok (.invokespecial 77, 3) := by decide +kernel
theorem dX5_wall_77 : decode cX5_wall 77 = .ok (.athrow, 1) := by decide +kernel
theorem dX5_wall_78 : decode cX5_wall 78 = .ok (.aload_n 0, 1) := by decide +kernel
theorem dX5_wall_79 : decode cX5_wall 79 = .ok (.getfield 10, 3) := by decide +kernel
theorem dX5_wall_82 : decode cX5_wall 82 = .ok (.iload 4, 2) := by decide +kernel
theorem dX5_wall_84 : decode cX5_wall 84 = .ok (.iload_n 3, 1) := by decide +kernel
theorem dX5_wall_85 : decode cX5_wall 85 = .ok (.invokevirtual 78, 3) := by decide +kernel
theorem dX5_wall_88 : decode cX5_wall 88 = .ok (.iload 5, 2) := by decide +kernel
theorem dX5_wall_90 : decode cX5_wall 90 = .ok (.ireturn, 1) := by decide +kernel
set_option maxRecDepth 20000 in
theorem ggX5_draw_X1_change : GoodIn wsX5_draw wsX1_change := goodIn_r _ [9, 10, 20] (by decide +kernel) (by decide +kernel)
set_option maxRecDepth 20000 in
theorem gX5_draw_X1_change : GoodIn wsX5_draw (wsV RX5 86 RX1 yX1_change wsX1_change) := goodIn_app (goodIn_of _ (by decide +kernel)) ggX5_draw_X1_change
theorem dX5_draw_0 : decode cX5_draw 0 = .ok (.iload_n 1, 1) := by decide +kernel
theorem dX5_draw_1 : decode cX5_draw 1 = .ok (.iconst 1, 1) := by decide +kernel
theorem dX5_draw_2 : decode cX5_draw 2 = .ok (.if_icmp .lt 9, 3) := by decide +kernel
theorem dX5_draw_5 : decode cX5_draw 5 = .ok (.iload_n 1, 1) := by decide +kernel
theorem dX5_draw_6 : decode cX5_draw 6 = .ok (.ldc 82, 2) := by decide +kernel
theorem dX5_draw_8 : decode cX5_draw 8 = .ok (.if_icmp .le 11, 3) := by decide +kernel
theorem dX5_draw_11 : decode cX5_draw 11 = .ok (.new 83, 3) := by decide +kernel
theorem dX5_draw_14 : decode cX5_draw 14 = .ok (.dup, 1) := by decide +kernel
theorem dX5_draw_15 : decode cX5_draw 15 = .ok (.invokespecial 85, 3) := by decide +kernel
theorem dX5_draw_18 : decode cX5_draw 18 = .ok (.athrow, 1) := by decide +kernel
theorem dX5_draw_19 : decode cX5_draw 19 = .ok (.aload_n 0, 1) := by decide +kernel
theorem dX5_draw_20 : decode cX5_draw 20 = .ok (.getfield 19, 3) := by decide +kernel
theorem dX5_draw_23 : decode cX5_draw 23 = .ok (.iload_n 1, 1) := by decide +kernel
theorem dX5_draw_24 : decode cX5_draw 24 = .ok (.invokevirtual 86, 3) := by decide +kernel
theorem dX5_draw_27 : decode cX5_draw 27 = .ok (.ireturn, 1) := by decide +kernel
set_option maxRecDepth 20000 in
theorem ggX5_spread_X4_begin : GoodIn wsX5_spread wsX4_begin := goodIn_r _ [11, 12, 13, 14, 15, 16, 17, 18, 19, 20, 21, 22, 23, 24, 25, 26, 27, 28, 29, 30, 31, 32, 33, 63, 64, 65, 66, 67, 68, 69, 70, 71, 72, 73, 74, 75, 76, 77] (by decide +kernel) (by decide +kernel)
set_option maxRecDepth 20000 in
theorem gX5_spread_X4_begin : GoodIn wsX5_spread (wsV RX5 90 RX4 yX4_begin wsX4_begin) := goodIn_app (goodIn_of _ (by decide +kernel)) ggX5_spread_X4_begin
set_option maxRecDepth 20000 in
theorem ggX5_spread_X0_begin : GoodIn wsX5_spread wsX0_begin := goodIn_r _ [38, 39, 40, 41, 42, 43, 23, 44, 26, 45, 46, 47, 48, 49, 50, 51, 52, 53, 78, 79, 80, 74, 75, 76, 81] (by decide +kernel) (by decide +kernel)
set_option maxRecDepth 20000 in
theorem gX5_spread_X0_begin : GoodIn wsX5_spread (wsV RX5 94 RX0 yX0_begin wsX0_begin) := goodIn_app (goodIn_of _ (by decide +kernel)) ggX5_spread_X0_begin
theorem dX5_spread_0 : decode cX5_spread 0 = .ok (.iload_n 1, 1) := by decide +kernel
theorem dX5_spread_1 : decode cX5_spread 1 = .ok (.bipush 8, 2) := by decide +kernel
theorem dX5_spread_3 : decode cX5_spread 3 = .ok (.if_icmp .lt 9, 3) := by decide +kernel
theorem dX5_spread_6 : decode cX5_spread 6 = .ok (.iload_n 1, 1) := by decide +kernel
theorem dX5_spread_7 : decode cX5_spread 7 = .ok (.bipush 64, 2) := by decide +kernel
theorem dX5_spread_9 : decode cX5_spread 9 = .ok (.if_icmp .le 11, 3) := by decide +kernel
theorem dX5_spread_12 : decode cX5_spread 12 = .ok (.new 83, 3) := by decide +kernel
theorem dX5_spread_15 : decode cX5_spread 15 = .ok (.dup, 1) := by decide +kernel
theorem dX5_spread_16 : decode cX5_spread 16 = .ok (.invokespecial 85, 3) := by decide +kernel
theorem dX5_spread_19 : decode cX5_spread 19 = .ok (.athrow, 1) := by decide +kernel
theorem dX5_spread_20 : decode cX5_spread 20 = .ok (.aload_n 0, 1) := by decide +kernel
theorem dX5_spread_21 : decode cX5_spread 21 = .ok (.getfield 28, 3) := by decide +kernel
theorem dX5_spread_24 : decode cX5_spread 24 = .ok (.iload_n 1, 1) := by decide +kernel
theorem dX5_spread_25 : decode cX5_spread 25 = .ok (.invokevirtual 90, 3) := by decide +kernel
theorem dX5_spread_28 : decode cX5_spread 28 = .ok (.aload_n 0, 1) := by decide +kernel
theorem dX5_spread_29 : decode cX5_spread 29 = .ok (.getfield 37, 3) := by decide +kernel
theorem dX5_spread_32 : decode cX5_spread 32 = .ok (.invokevirtual 94, 3) := by decide +kernel
theorem dX5_spread_35 : decode cX5_spread 35 = .ok (.aload_n 0, 1) := by decide +kernel
theorem dX5_spread_36 : decode cX5_spread 36 = .ok (.iconst 0, 1) := by decide +kernel
theorem dX5_spread_37 : decode cX5_spread 37 = .ok (.putfield 51, 3) := by decide +kernel
theorem dX5_spread_40 : decode cX5_spread 40 = .ok (.aload_n 0, 1) := by decide +kernel
theorem dX5_spread_41 : decode cX5_spread 41 = .ok (.iconst 1, 1) := by decide +kernel
theorem dX5_spread_42 : decode cX5_spread 42 = .ok (.putfield 55, 3) := by decide +kernel
theorem dX5_spread_45 : decode cX5_spread 45 = .ok (.return_, 1) := by decide +kernel
set_option maxRecDepth 20000 in
theorem ggX5_drive_X5_checkDirection : GoodIn wsX5_drive wsX5_checkDirection := goodIn_ca (goodIn_r _ [6, 7, 8, 9, 10, 5, 11] (by decide +kernel) (by decide +kernel)) (goodIn_sub (fun _ h => List.mem_cons_of_mem _ (List.mem_append_left _ (List.mem_append_right _ h))) (by decide +kernel))
set_option maxRecDepth 20000 in
theorem gX5_drive_X5_checkDirection : GoodIn wsX5_drive (va_wsS RX5 96 yX5_checkDirection wsX5_checkDirection) := goodIn_app (goodIn_of _ (by decide +kernel)) ggX5_drive_X5_checkDirection
set_option maxRecDepth 20000 in
theorem ggX5_drive_X5_checkMayTell : GoodIn wsX5_drive wsX5_checkMayTell := goodIn_ca (goodIn_r _ [15, 16, 17, 18, 19, 126, 127, 128, 129, 130, 131, 132, 133, 134] (by decide +kernel) (by decide +kernel)) (goodIn_sub (fun _ h => List.mem_cons_of_mem _ (List.mem_append_right _ h)) (by decide +kernel))
set_option maxRecDepth 20000 in
theorem gX5_drive_X5_checkMayTell : GoodIn wsX5_drive (wsV RX5 99 RX5 yX5_checkMayTell wsX5_checkMayTell) := goodIn_app (goodIn_of _ (by decide +kernel)) ggX5_drive_X5_checkMayTell
set_option maxRecDepth 20000 in
theorem ggX5_drive_X4_move : GoodIn wsX5_drive wsX4_move := goodIn_r _ [24, 25, 26, 27, 28, 29, 30, 23, 31, 32, 33, 34, 35, 36, 37, 38, 39, 40, 41, 42, 43, 44, 45, 46, 47, 48, 49, 50, 51, 52, 53, 54, 5, 55, 10, 11, 56, 57, 58, 59, 60, 61, 62, 63, 64, 135, 136, 137, 138, 139, 140, 141, 142, 143, 144, 145, 146, 147, 148, 149] (by decide +kernel) (by decide +kernel)
set_option maxRecDepth 20000 in
theorem gX5_drive_X4_move : GoodIn wsX5_drive (wsV RX5 102 RX4 yX4_move wsX4_move) := goodIn_app (goodIn_of _ (by decide +kernel)) ggX5_drive_X4_move
set_option maxRecDepth 20000 in
theorem ggX5_drive_X0_push : GoodIn wsX5_drive wsX0_push := goodIn_r _ [69, 70, 71, 72, 73, 74, 75, 76, 77, 78, 79, 80, 81, 82, 83, 84, 85, 86, 87, 88, 89, 90, 91, 43, 92, 93, 54, 5, 55, 94, 95, 96, 97, 98, 99, 100, 101, 102, 41, 42, 44, 45, 46, 47, 48, 49, 50, 51, 52, 53, 10, 11, 56, 57, 58, 59, 60, 61, 62, 63, 64, 103, 104, 105, 68, 106, 107, 108, 109, 110, 111, 112, 113, 114, 115, 116, 117, 118, 119, 150, 151, 152, 153, 147, 148, 149] (by decide +kernel) (by decide +kernel)
set_option maxRecDepth 20000 in
theorem gX5_drive_X0_push : GoodIn wsX5_drive (wsV RX5 105 RX0 yX0_push wsX0_push) := goodIn_app (goodIn_of _ (by decide +kernel)) ggX5_drive_X0_push
set_option maxRecDepth 20000 in
theorem ggX5_drive_X5_keep : GoodIn wsX5_drive wsX5_keep := goodIn_r _ [123, 19, 124, 125, 126, 127, 128, 129, 130, 131, 132, 133, 134] (by decide +kernel) (by decide +kernel)
set_option maxRecDepth 20000 in
theorem gX5_drive_X5_keep : GoodIn wsX5_drive (wsV RX5 108 RX5 yX5_keep wsX5_keep) := goodIn_app (goodIn_of _ (by decide +kernel)) ggX5_drive_X5_keep
theorem dX5_drive_0 : decode cX5_drive 0 = .ok (.iload_n 1, 1) := by decide +kernel
theorem dX5_drive_1 : decode cX5_drive 1 = .ok (.invokestatic 96, 3) := by decide +kernel
theorem dX5_drive_4 : decode cX5_drive 4 = .ok (.aload_n 0, 1) := by decide +kernel
theorem dX5_drive_5 : decode cX5_drive 5 = .ok (.invokevirtual 99, 3) := by decide +kernel
theorem dX5_drive_8 : decode cX5_drive 8 = .ok (.aload_n 0, 1) := by decide +kernel
theorem dX5_drive_9 : decode cX5_drive 9 = .ok (.getfield 28, 3) := by decide +kernel
theorem dX5_drive_12 : decode cX5_drive 12 = .ok (.iload_n 1, 1) := by decide +kernel
theorem dX5_drive_13 : decode cX5_drive 13 = .ok (.invokevirtual 102, 3) := by decide +kernel
theorem dX5_drive_16 : decode cX5_drive 16 = .ok (.aload_n 0, 1) := by decide +kernel
theorem dX5_drive_17 : decode cX5_drive 17 = .ok (.getfield 37, 3) := by decide +kernel
theorem dX5_drive_20 : decode cX5_drive 20 = .ok (.iload_n 1, 1) := by decide +kernel
theorem dX5_drive_21 : decode cX5_drive 21 = .ok (.invokevirtual 105, 3) := by decide +kernel
theorem dX5_drive_24 : decode cX5_drive 24 = .ok (.aload_n 0, 1) := by decide +kernel
theorem dX5_drive_25 : decode cX5_drive 25 = .ok (.iload_n 1, 1) := by decide +kernel
theorem dX5_drive_26 : decode cX5_drive 26 = .ok (.iconst (-1), 1) := by decide +kernel
theorem dX5_drive_27 : decode cX5_drive 27 = .ok (.invokevirtual 108, 3) := by decide +kernel
theorem dX5_drive_30 : decode cX5_drive 30 = .ok (.return_, 1) := by decide +kernel
set_option maxRecDepth 20000 in
theorem ggX5_read_X5_checkDirection : GoodIn wsX5_read wsX5_checkDirection := goodIn_ca (goodIn_r _ [8, 9, 10, 11, 12, 7, 13] (by decide +kernel) (by decide +kernel)) (goodIn_sub (fun _ h => List.mem_cons_of_mem _ (List.mem_append_left _ (List.mem_append_right _ h))) (by decide +kernel))
set_option maxRecDepth 20000 in
theorem gX5_read_X5_checkDirection : GoodIn wsX5_read (va_wsS RX5 96 yX5_checkDirection wsX5_checkDirection) := goodIn_app (goodIn_of _ (by decide +kernel)) ggX5_read_X5_checkDirection
set_option maxRecDepth 20000 in
theorem ggX5_read_X5_checkMayTell : GoodIn wsX5_read wsX5_checkMayTell := goodIn_ca (goodIn_r _ [17, 18, 19, 20, 21, 158, 159, 160, 161, 162, 163, 164, 165, 166] (by decide +kernel) (by decide +kernel)) (goodIn_sub (fun _ h => List.mem_cons_of_mem _ (List.mem_append_right _ h)) (by decide +kernel))
set_option maxRecDepth 20000 in
theorem gX5_read_X5_checkMayTell : GoodIn wsX5_read (wsV RX5 99 RX5 yX5_checkMayTell wsX5_checkMayTell) := goodIn_app (goodIn_of _ (by decide +kernel)) ggX5_read_X5_checkMayTell
set_option maxRecDepth 20000 in
theorem ggX5_read_X4_weigh : GoodIn wsX5_read wsX4_weigh := goodIn_r _ [26, 27, 28, 29, 30, 31, 32, 33, 34, 35, 36, 37, 38, 39, 40, 41, 42, 43, 44, 45, 7, 46, 12, 13, 47, 48, 49, 50, 51, 25, 52, 53, 54, 55, 56, 57, 58, 59, 60, 61, 62, 63, 64, 65, 66, 67, 68, 69, 70, 71, 72, 73, 74, 75, 76, 77, 78, 79, 80, 81, 82, 83, 84, 85, 86, 87, 88, 89, 90, 91, 92, 93, 94, 95, 96, 97, 98, 99, 100, 101, 102, 103, 104, 105, 106, 107, 108, 109, 110, 111, 112, 113, 167, 168, 169, 170, 171, 172, 173, 174, 175, 176, 177, 178, 179, 180, 181, 182] (by decide +kernel) (by decide +kernel)
set_option maxRecDepth 20000 in
theorem gX5_read_X4_weigh : GoodIn wsX5_read (wsV RX5 111 RX4 yX4_weigh wsX4_weigh) := goodIn_app (goodIn_of _ (by decide +kernel)) ggX5_read_X4_weigh
set_option maxRecDepth 20000 in
theorem ggX5_read_X0_weigh : GoodIn wsX5_read wsX0_weigh := goodIn_r _ [118, 119, 120, 121, 83, 84, 75, 85, 77, 45, 7, 46, 122, 32, 33, 34, 35, 36, 37, 38, 39, 40, 41, 42, 43, 44, 12, 13, 123, 124, 125, 126, 127, 128, 129, 130, 131, 132, 133, 134, 135, 136, 117, 137, 138, 139, 140, 141, 108, 142, 143, 144, 145, 146, 147, 148, 149, 150, 151, 183, 184, 185, 181, 178, 179, 180] (by decide +kernel) (by decide +kernel)
set_option maxRecDepth 20000 in
theorem gX5_read_X0_weigh : GoodIn wsX5_read (wsV RX5 114 RX0 yX0_weigh wsX0_weigh) := goodIn_app (goodIn_of _ (by decide +kernel)) ggX5_read_X0_weigh
set_option maxRecDepth 20000 in
theorem ggX5_read_X5_keep : GoodIn wsX5_read wsX5_keep := goodIn_r _ [155, 21, 156, 157, 158, 159, 160, 161, 162, 163, 164, 165, 166] (by decide +kernel) (by decide +kernel)
set_option maxRecDepth 20000 in
theorem gX5_read_X5_keep : GoodIn wsX5_read (wsV RX5 108 RX5 yX5_keep wsX5_keep) := goodIn_app (goodIn_of _ (by decide +kernel)) ggX5_read_X5_keep
theorem dX5_read_0 : decode cX5_read 0 = .ok (.iload_n 1, 1) := by decide +kernel
theorem dX5_read_1 : decode cX5_read 1 = .ok (.invokestatic 96, 3) := by decide +kernel
theorem dX5_read_4 : decode cX5_read 4 = .ok (.iload_n 2, 1) := by decide +kernel
theorem dX5_read_5 : decode cX5_read 5 = .ok (.ifCond .lt 9, 3) := by decide +kernel
theorem dX5_read_8 : decode cX5_read 8 = .ok (.iload_n 2, 1) := by decide +kernel
theorem dX5_read_9 : decode cX5_read 9 = .ok (.bipush 8, 2) := by decide +kernel
theorem dX5_read_11 : decode cX5_read 11 = .ok (.if_icmp .lt 11, 3) := by decide +kernel
theorem dX5_read_14 : decode cX5_read 14 = .ok (.new 83, 3) := by decide +kernel
theorem dX5_read_17 : decode cX5_read 17 = .ok (.dup, 1) := by decide +kernel
theorem dX5_read_18 : decode cX5_read 18 = .ok (.invokespecial 85, 3) := by decide +kernel
theorem dX5_read_21 : decode cX5_read 21 = .ok (.athrow, 1) := by decide +kernel
theorem dX5_read_22 : decode cX5_read 22 = .ok (.aload_n 0, 1) := by decide +kernel
theorem dX5_read_23 : decode cX5_read 23 = .ok (.invokevirtual 99, 3) := by decide +kernel
theorem dX5_read_26 : decode cX5_read 26 = .ok (.aload_n 0, 1) := by decide +kernel
theorem dX5_read_27 : decode cX5_read 27 = .ok (.getfield 28, 3) := by decide +kernel
theorem dX5_read_30 : decode cX5_read 30 = .ok (.iload_n 1, 1) := by decide +kernel
theorem dX5_read_31 : decode cX5_read 31 = .ok (.iload_n 2, 1) := by decide +kernel
theorem dX5_read_32 : decode cX5_read 32 = .ok (.invokevirtual 111, 3) := by decide +kernel
theorem dX5_read_35 : decode cX5_read 35 = .ok (.istore_n 3, 1) := by decide +kernel
theorem dX5_read_36 : decode cX5_read 36 = .ok (.aload_n 0, 1) := by decide +kernel
theorem dX5_read_37 : decode cX5_read 37 = .ok (.getfield 37, 3) := by decide +kernel
theorem dX5_read_40 : decode cX5_read 40 = .ok (.iload_n 1, 1) := by decide +kernel
theorem dX5_read_41 : decode cX5_read 41 = .ok (.iload_n 2, 1) := by decide +kernel
theorem dX5_read_42 : decode cX5_read 42 = .ok (.invokevirtual 114, 3) := by decide +kernel
theorem dX5_read_45 : decode cX5_read 45 = .ok (.aload_n 0, 1) := by decide +kernel
theorem dX5_read_46 : decode cX5_read 46 = .ok (.iload_n 1, 1) := by decide +kernel
theorem dX5_read_47 : decode cX5_read 47 = .ok (.iload_n 2, 1) := by decide +kernel
theorem dX5_read_48 : decode cX5_read 48 = .ok (.invokevirtual 108, 3) := by decide +kernel
theorem dX5_read_51 : decode cX5_read 51 = .ok (.iload_n 3, 1) := by decide +kernel
theorem dX5_read_52 : decode cX5_read 52 = .ok (.ireturn, 1) := by decide +kernel
set_option maxRecDepth 20000 in
theorem ggX5_toRead_X5_checkCell : GoodIn wsX5_toRead wsX5_checkCell := goodIn_ca (goodIn_r _ [5, 6, 7, 8, 9, 4, 10] (by decide +kernel) (by decide +kernel)) (goodIn_sub (fun _ h => List.mem_cons_of_mem _ (List.mem_append_right _ h)) (by decide +kernel))
set_option maxRecDepth 20000 in
theorem gX5_toRead_X5_checkCell : GoodIn wsX5_toRead (va_wsS RX5 59 yX5_checkCell wsX5_checkCell) := goodIn_app (goodIn_of _ (by decide +kernel)) ggX5_toRead_X5_checkCell
set_option maxRecDepth 20000 in
theorem ggX5_toRead_X5_checkDirection : GoodIn wsX5_toRead wsX5_checkDirection := goodIn_ca (goodIn_r _ [13, 6, 7, 14, 15, 4, 16] (by decide +kernel) (by decide +kernel)) (goodIn_sub (fun _ h => List.mem_cons_of_mem _ (List.mem_append_right _ h)) (by decide +kernel))
set_option maxRecDepth 20000 in
theorem gX5_toRead_X5_checkDirection : GoodIn wsX5_toRead (va_wsS RX5 96 yX5_checkDirection wsX5_checkDirection) := goodIn_app (goodIn_of _ (by decide +kernel)) ggX5_toRead_X5_checkDirection
set_option maxRecDepth 20000 in
theorem ggX5_toRead_X5_numberOf : GoodIn wsX5_toRead wsX5_numberOf := goodIn_r _ [19] (by decide +kernel) (by decide +kernel)
set_option maxRecDepth 20000 in
theorem gX5_toRead_X5_numberOf : GoodIn wsX5_toRead (va_wsS RX5 63 yX5_numberOf wsX5_numberOf) := goodIn_app (goodIn_of _ (by decide +kernel)) ggX5_toRead_X5_numberOf
set_option maxRecDepth 20000 in
theorem ggX5_toRead_X3_stepsAhead : GoodIn wsX5_toRead wsX3_stepsAhead := goodIn_r _ [24, 25, 26, 4, 27, 15, 16, 37, 38, 39] (by decide +kernel) (by decide +kernel)
set_option maxRecDepth 20000 in
theorem gX5_toRead_X3_stepsAhead : GoodIn wsX5_toRead (wsV RX5 116 RX3 yX3_stepsAhead wsX3_stepsAhead) := goodIn_app (goodIn_of _ (by decide +kernel)) ggX5_toRead_X3_stepsAhead
theorem dX5_toRead_0 : decode cX5_toRead 0 = .ok (.iload_n 1, 1) := by decide +kernel
theorem dX5_toRead_1 : decode cX5_toRead 1 = .ok (.iload_n 2, 1) := by decide +kernel
theorem dX5_toRead_2 : decode cX5_toRead 2 = .ok (.invokestatic 59, 3) := by decide +kernel
theorem dX5_toRead_5 : decode cX5_toRead 5 = .ok (.iload_n 3, 1) := by decide +kernel
theorem dX5_toRead_6 : decode cX5_toRead 6 = .ok (.invokestatic 96, 3) := by decide +kernel
theorem dX5_toRead_9 : decode cX5_toRead 9 = .ok (.aload_n 0, 1) := by decide +kernel
theorem dX5_toRead_10 : decode cX5_toRead 10 = .ok (.getfield 10, 3) := by decide +kernel
theorem dX5_toRead_13 : decode cX5_toRead 13 = .ok (.iload_n 1, 1) := by decide +kernel
theorem dX5_toRead_14 : decode cX5_toRead 14 = .ok (.iload_n 2, 1) := by decide +kernel
theorem dX5_toRead_15 : decode cX5_toRead 15 = .ok (.invokestatic 63, 3) := by decide +kernel
theorem dX5_toRead_18 : decode cX5_toRead 18 = .ok (.iload_n 3, 1) := by decide +kernel
theorem dX5_toRead_19 : decode cX5_toRead 19 = .ok (.invokevirtual 116, 3) := by decide +kernel
theorem dX5_toRead_22 : decode cX5_toRead 22 = .ok (.ireturn, 1) := by decide +kernel
set_option maxRecDepth 20000 in
theorem ggX5_samples_X5_checkSpread : GoodIn wsX5_samples wsX5_checkSpread := goodIn_ca (goodIn_r _ [6, 7, 8, 9, 16, 17, 18, 19, 20, 21, 22, 23, 24] (by decide +kernel) (by decide +kernel)) (goodIn_sub (fun _ h => List.mem_cons_of_mem _ (List.mem_append_right _ h)) (by decide +kernel))
set_option maxRecDepth 20000 in
theorem gX5_samples_X5_checkSpread : GoodIn wsX5_samples (wsV RX5 119 RX5 yX5_checkSpread wsX5_checkSpread) := goodIn_app (goodIn_of _ (by decide +kernel)) ggX5_samples_X5_checkSpread
set_option maxRecDepth 20000 in
theorem ggX5_samples_X4_size : GoodIn wsX5_samples wsX4_size := goodIn_r _ [14, 15, 25, 26, 27, 28, 29, 30, 31, 32, 33, 34, 35] (by decide +kernel) (by decide +kernel)
set_option maxRecDepth 20000 in
theorem gX5_samples_X4_size : GoodIn wsX5_samples (wsV RX5 122 RX4 yX4_size wsX4_size) := goodIn_app (goodIn_of _ (by decide +kernel)) ggX5_samples_X4_size
theorem dX5_samples_0 : decode cX5_samples 0 = .ok (.aload_n 0, 1) := by decide +kernel
theorem dX5_samples_1 : decode cX5_samples 1 = .ok (.invokevirtual 119, 3) := by decide +kernel
theorem dX5_samples_4 : decode cX5_samples 4 = .ok (.aload_n 0, 1) := by decide +kernel
theorem dX5_samples_5 : decode cX5_samples 5 = .ok (.getfield 28, 3) := by decide +kernel
theorem dX5_samples_8 : decode cX5_samples 8 = .ok (.invokevirtual 122, 3) := by decide +kernel
theorem dX5_samples_11 : decode cX5_samples 11 = .ok (.ireturn, 1) := by decide +kernel
set_option maxRecDepth 20000 in
theorem ggX5_sample_X4_size : GoodIn wsX5_sample wsX4_size := goodIn_r _ [8, 9, 24, 25, 26, 27, 28, 29, 30, 31, 32, 33, 34] (by decide +kernel) (by decide +kernel)
set_option maxRecDepth 20000 in
theorem gX5_sample_X4_size : GoodIn wsX5_sample (wsV RX5 122 RX4 yX4_size wsX4_size) := goodIn_app (goodIn_of _ (by decide +kernel)) ggX5_sample_X4_size
set_option maxRecDepth 20000 in
theorem ggX5_sample_X4_cellOf : GoodIn wsX5_sample wsX4_cellOf := goodIn_r _ [13, 14, 24, 25, 26, 27, 28, 29, 30, 31, 32, 33, 34] (by decide +kernel) (by decide +kernel)
set_option maxRecDepth 20000 in
theorem gX5_sample_X4_cellOf : GoodIn wsX5_sample (wsV RX5 128 RX4 yX4_cellOf wsX4_cellOf) := goodIn_app (goodIn_of _ (by decide +kernel)) ggX5_sample_X4_cellOf
theorem dX5_sample_0 : decode cX5_sample 0 = .ok (.iload_n 1, 1) := by decide +kernel
theorem dX5_sample_1 : decode cX5_sample 1 = .ok (.ifCond .lt 14, 3) := by decide +kernel
theorem dX5_sample_4 : decode cX5_sample 4 = .ok (.iload_n 1, 1) := by decide +kernel
theorem dX5_sample_5 : decode cX5_sample 5 = .ok (.aload_n 0, 1) := by decide +kernel
theorem dX5_sample_6 : decode cX5_sample 6 = .ok (.getfield 28, 3) := by decide +kernel
theorem dX5_sample_9 : decode cX5_sample 9 = .ok (.invokevirtual 122, 3) := by decide +kernel
theorem dX5_sample_12 : decode cX5_sample 12 = .ok (.if_icmp .lt 11, 3) := by decide +kernel
theorem dX5_sample_15 : decode cX5_sample 15 = .ok (.new 125, 3) := by decide +kernel
theorem dX5_sample_18 : decode cX5_sample 18 = .ok (.dup, 1) := by decide +kernel
theorem dX5_sample_19 : decode cX5_sample 19 = .ok (.invokespecial 127, 3) := by decide +kernel
theorem dX5_sample_22 : decode cX5_sample 22 = .ok (.athrow, 1) := by decide +kernel
theorem dX5_sample_23 : decode cX5_sample 23 = .ok (.aload_n 0, 1) := by decide +kernel
theorem dX5_sample_24 : decode cX5_sample 24 = .ok (.getfield 28, 3) := by decide +kernel
theorem dX5_sample_27 : decode cX5_sample 27 = .ok (.iload_n 1, 1) := by decide +kernel
theorem dX5_sample_28 : decode cX5_sample 28 = .ok (.invokevirtual 128, 3) := by decide +kernel
theorem dX5_sample_31 : decode cX5_sample 31 = .ok (.ireturn, 1) := by decide +kernel
set_option maxRecDepth 20000 in
theorem ggX5_count_X5_checkCell : GoodIn wsX5_count wsX5_checkCell := goodIn_ca (goodIn_r _ [5, 6, 7, 8, 9, 4, 10] (by decide +kernel) (by decide +kernel)) (goodIn_sub (fun _ h => List.mem_cons_of_mem _ (List.mem_append_left _ (List.mem_append_right _ h))) (by decide +kernel))
set_option maxRecDepth 20000 in
theorem gX5_count_X5_checkCell : GoodIn wsX5_count (va_wsS RX5 59 yX5_checkCell wsX5_checkCell) := goodIn_app (goodIn_of _ (by decide +kernel)) ggX5_count_X5_checkCell
set_option maxRecDepth 20000 in
theorem ggX5_count_X5_checkSpread : GoodIn wsX5_count wsX5_checkSpread := goodIn_ca (goodIn_r _ [14, 15, 16, 17, 45, 46, 47, 48, 49, 50, 51, 52, 53] (by decide +kernel) (by decide +kernel)) (goodIn_sub (fun _ h => List.mem_cons_of_mem _ (List.mem_append_right _ h)) (by decide +kernel))
set_option maxRecDepth 20000 in
theorem gX5_count_X5_checkSpread : GoodIn wsX5_count (wsV RX5 119 RX5 yX5_checkSpread wsX5_checkSpread) := goodIn_app (goodIn_of _ (by decide +kernel)) ggX5_count_X5_checkSpread
set_option maxRecDepth 20000 in
theorem ggX5_count_X4_chart : GoodIn wsX5_count wsX4_chart := goodIn_r _ [22, 23, 24, 25, 26, 27, 28, 29, 30, 31, 32, 33, 34, 35, 36, 4, 37, 54, 55, 56, 57, 58, 59, 60, 61, 62, 63, 64, 65] (by decide +kernel) (by decide +kernel)
set_option maxRecDepth 20000 in
theorem gX5_count_X4_chart : GoodIn wsX5_count (wsV RX5 131 RX4 yX4_chart wsX4_chart) := goodIn_app (goodIn_of _ (by decide +kernel)) ggX5_count_X4_chart
set_option maxRecDepth 20000 in
theorem ggX5_count_X5_numberOf : GoodIn wsX5_count wsX5_numberOf := goodIn_r _ [40] (by decide +kernel) (by decide +kernel)
set_option maxRecDepth 20000 in
theorem gX5_count_X5_numberOf : GoodIn wsX5_count (va_wsS RX5 63 yX5_numberOf wsX5_numberOf) := goodIn_app (goodIn_of _ (by decide +kernel)) ggX5_count_X5_numberOf
set_option maxRecDepth 20000 in
theorem ggX5_count_X2_at : GoodIn wsX5_count wsX2_at := goodIn_r _ [44, 31, 36, 4, 37, 65] (by decide +kernel) (by decide +kernel)
set_option maxRecDepth 20000 in
theorem gX5_count_X2_at : GoodIn wsX5_count (wsV RX5 135 RX2 yX2_at wsX2_at) := goodIn_app (goodIn_of _ (by decide +kernel)) ggX5_count_X2_at
theorem dX5_count_0 : decode cX5_count 0 = .ok (.iload_n 1, 1) := by decide +kernel
theorem dX5_count_1 : decode cX5_count 1 = .ok (.iload_n 2, 1) := by decide +kernel
theorem dX5_count_2 : decode cX5_count 2 = .ok (.invokestatic 59, 3) := by decide +kernel
theorem dX5_count_5 : decode cX5_count 5 = .ok (.aload_n 0, 1) := by decide +kernel
theorem dX5_count_6 : decode cX5_count 6 = .ok (.invokevirtual 119, 3) := by decide +kernel
theorem dX5_count_9 : decode cX5_count 9 = .ok (.aload_n 0, 1) := by decide +kernel
theorem dX5_count_10 : decode cX5_count 10 = .ok (.getfield 28, 3) := by decide +kernel
theorem dX5_count_13 : decode cX5_count 13 = .ok (.invokevirtual 131, 3) := by decide +kernel
theorem dX5_count_16 : decode cX5_count 16 = .ok (.iload_n 1, 1) := by decide +kernel
theorem dX5_count_17 : decode cX5_count 17 = .ok (.iload_n 2, 1) := by decide +kernel
theorem dX5_count_18 : decode cX5_count 18 = .ok (.invokestatic 63, 3) := by decide +kernel
theorem dX5_count_21 : decode cX5_count 21 = .ok (.invokevirtual 135, 3) := by decide +kernel
theorem dX5_count_24 : decode cX5_count 24 = .ok (.l2i, 1) := by decide +kernel
theorem dX5_count_25 : decode cX5_count 25 = .ok (.ireturn, 1) := by decide +kernel
set_option maxRecDepth 20000 in
theorem ggX5_belief_X5_checkCell : GoodIn wsX5_belief wsX5_checkCell := goodIn_ca (goodIn_r _ [5, 6, 7, 8, 9, 4, 10] (by decide +kernel) (by decide +kernel)) (goodIn_sub (fun _ h => List.mem_cons_of_mem _ (List.mem_append_left _ (List.mem_append_right _ h))) (by decide +kernel))
set_option maxRecDepth 20000 in
theorem gX5_belief_X5_checkCell : GoodIn wsX5_belief (va_wsS RX5 59 yX5_checkCell wsX5_checkCell) := goodIn_app (goodIn_of _ (by decide +kernel)) ggX5_belief_X5_checkCell
set_option maxRecDepth 20000 in
theorem ggX5_belief_X5_checkSpread : GoodIn wsX5_belief wsX5_checkSpread := goodIn_ca (goodIn_r _ [14, 15, 16, 17, 35, 36, 37, 38, 39, 40, 41, 42, 43] (by decide +kernel) (by decide +kernel)) (goodIn_sub (fun _ h => List.mem_cons_of_mem _ (List.mem_append_right _ h)) (by decide +kernel))
set_option maxRecDepth 20000 in
theorem gX5_belief_X5_checkSpread : GoodIn wsX5_belief (wsV RX5 119 RX5 yX5_checkSpread wsX5_checkSpread) := goodIn_app (goodIn_of _ (by decide +kernel)) ggX5_belief_X5_checkSpread
set_option maxRecDepth 20000 in
theorem ggX5_belief_X0_chart : GoodIn wsX5_belief wsX0_chart := goodIn_r _ [22, 23, 44, 45, 46] (by decide +kernel) (by decide +kernel)
set_option maxRecDepth 20000 in
theorem gX5_belief_X0_chart : GoodIn wsX5_belief (wsV RX5 141 RX0 yX0_chart wsX0_chart) := goodIn_app (goodIn_of _ (by decide +kernel)) ggX5_belief_X0_chart
set_option maxRecDepth 20000 in
theorem ggX5_belief_X5_numberOf : GoodIn wsX5_belief wsX5_numberOf := goodIn_r _ [26] (by decide +kernel) (by decide +kernel)
set_option maxRecDepth 20000 in
theorem gX5_belief_X5_numberOf : GoodIn wsX5_belief (va_wsS RX5 63 yX5_numberOf wsX5_numberOf) := goodIn_app (goodIn_of _ (by decide +kernel)) ggX5_belief_X5_numberOf
set_option maxRecDepth 20000 in
theorem ggX5_belief_X2_at : GoodIn wsX5_belief wsX2_at := goodIn_r _ [31, 32, 33, 4, 34, 47] (by decide +kernel) (by decide +kernel)
set_option maxRecDepth 20000 in
theorem gX5_belief_X2_at : GoodIn wsX5_belief (wsV RX5 135 RX2 yX2_at wsX2_at) := goodIn_app (goodIn_of _ (by decide +kernel)) ggX5_belief_X2_at
theorem dX5_belief_0 : decode cX5_belief 0 = .ok (.iload_n 1, 1) := by decide +kernel
theorem dX5_belief_1 : decode cX5_belief 1 = .ok (.iload_n 2, 1) := by decide +kernel
theorem dX5_belief_2 : decode cX5_belief 2 = .ok (.invokestatic 59, 3) := by decide +kernel
theorem dX5_belief_5 : decode cX5_belief 5 = .ok (.aload_n 0, 1) := by decide +kernel
theorem dX5_belief_6 : decode cX5_belief 6 = .ok (.invokevirtual 119, 3) := by decide +kernel
theorem dX5_belief_9 : decode cX5_belief 9 = .ok (.aload_n 0, 1) := by decide +kernel
theorem dX5_belief_10 : decode cX5_belief 10 = .ok (.getfield 37, 3) := by decide +kernel
theorem dX5_belief_13 : decode cX5_belief 13 = .ok (.invokevirtual 141, 3) := by decide +kernel
theorem dX5_belief_16 : decode cX5_belief 16 = .ok (.iload_n 1, 1) := by decide +kernel
theorem dX5_belief_17 : decode cX5_belief 17 = .ok (.iload_n 2, 1) := by decide +kernel
theorem dX5_belief_18 : decode cX5_belief 18 = .ok (.invokestatic 63, 3) := by decide +kernel
theorem dX5_belief_21 : decode cX5_belief 21 = .ok (.invokevirtual 135, 3) := by decide +kernel
theorem dX5_belief_24 : decode cX5_belief 24 = .ok (.lreturn, 1) := by decide +kernel
set_option maxRecDepth 20000 in
theorem ggX5_beliefAnew_X5_checkCell : GoodIn wsX5_beliefAnew wsX5_checkCell := goodIn_ca (goodIn_r _ [5, 6, 7, 8, 9, 4, 10] (by decide +kernel) (by decide +kernel)) (goodIn_sub (fun _ h => List.mem_cons_of_mem _ (List.mem_append_left _ (List.mem_append_right _ h))) (by decide +kernel))
set_option maxRecDepth 20000 in
theorem gX5_beliefAnew_X5_checkCell : GoodIn wsX5_beliefAnew (va_wsS RX5 59 yX5_checkCell wsX5_checkCell) := goodIn_app (goodIn_of _ (by decide +kernel)) ggX5_beliefAnew_X5_checkCell
set_option maxRecDepth 20000 in
theorem ggX5_beliefAnew_X5_checkSpread : GoodIn wsX5_beliefAnew wsX5_checkSpread := goodIn_ca (goodIn_r _ [14, 15, 16, 17, 127, 128, 129, 130, 131, 132, 133, 134, 135] (by decide +kernel) (by decide +kernel)) (goodIn_sub (fun _ h => List.mem_cons_of_mem _ (List.mem_append_right _ h)) (by decide +kernel))
set_option maxRecDepth 20000 in
theorem gX5_beliefAnew_X5_checkSpread : GoodIn wsX5_beliefAnew (wsV RX5 119 RX5 yX5_checkSpread wsX5_checkSpread) := goodIn_app (goodIn_of _ (by decide +kernel)) ggX5_beliefAnew_X5_checkSpread
set_option maxRecDepth 20000 in
theorem ggX5_beliefAnew_X5_repeatAllTold : GoodIn wsX5_beliefAnew wsX5_repeatAllTold := goodIn_r _ [21, 1, 22, 23, 24, 25, 26, 27, 28, 29, 30, 31, 32, 33, 34, 35, 36, 37, 38, 4, 39, 40, 41, 42, 43, 44, 45, 46, 47, 48, 49, 50, 51, 52, 53, 54, 55, 56, 57, 58, 59, 60, 61, 62, 63, 64, 65, 66, 67, 68, 69, 70, 71, 72, 73, 74, 75, 9, 10, 76, 77, 78, 79, 80, 81, 82, 83, 84, 85, 86, 87, 88, 89, 90, 91, 92, 93, 94, 95, 96, 97, 98, 99, 100, 101, 102, 103, 104, 105, 106, 107, 108, 109, 110, 111, 112, 113, 114, 115, 116, 117, 118, 119, 120, 127, 128, 129, 130, 131, 132, 133, 134, 135, 136, 137, 138, 139, 140, 141, 142] (by decide +kernel) (by decide +kernel)
set_option maxRecDepth 20000 in
theorem gX5_beliefAnew_X5_repeatAllTold : GoodIn wsX5_beliefAnew (wsV RX5 142 RX5 yX5_repeatAllTold wsX5_repeatAllTold) := goodIn_app (goodIn_of _ (by decide +kernel)) ggX5_beliefAnew_X5_repeatAllTold
set_option maxRecDepth 20000 in
theorem ggX5_beliefAnew_X0_chart : GoodIn wsX5_beliefAnew wsX0_chart := goodIn_r _ [124, 30, 136, 137, 138] (by decide +kernel) (by decide +kernel)
set_option maxRecDepth 20000 in
theorem gX5_beliefAnew_X0_chart : GoodIn wsX5_beliefAnew (wsV RX5 141 RX0 yX0_chart wsX0_chart) := goodIn_app (goodIn_of _ (by decide +kernel)) ggX5_beliefAnew_X0_chart
set_option maxRecDepth 20000 in
theorem ggX5_beliefAnew_X5_numberOf : GoodIn wsX5_beliefAnew wsX5_numberOf := goodIn_r _ [77] (by decide +kernel) (by decide +kernel)
set_option maxRecDepth 20000 in
theorem gX5_beliefAnew_X5_numberOf : GoodIn wsX5_beliefAnew (va_wsS RX5 63 yX5_numberOf wsX5_numberOf) := goodIn_app (goodIn_of _ (by decide +kernel)) ggX5_beliefAnew_X5_numberOf
set_option maxRecDepth 20000 in
theorem ggX5_beliefAnew_X2_at : GoodIn wsX5_beliefAnew wsX2_at := goodIn_r _ [68, 45, 38, 4, 39, 142] (by decide +kernel) (by decide +kernel)
set_option maxRecDepth 20000 in
theorem gX5_beliefAnew_X2_at : GoodIn wsX5_beliefAnew (wsV RX5 135 RX2 yX2_at wsX2_at) := goodIn_app (goodIn_of _ (by decide +kernel)) ggX5_beliefAnew_X2_at
theorem dX5_beliefAnew_0 : decode cX5_beliefAnew 0 = .ok (.iload_n 1, 1) := by decide +kernel
theorem dX5_beliefAnew_1 : decode cX5_beliefAnew 1 = .ok (.iload_n 2, 1) := by decide +kernel
theorem dX5_beliefAnew_2 : decode cX5_beliefAnew 2 = .ok (.invokestatic 59, 3) := by decide +kernel
theorem dX5_beliefAnew_5 : decode cX5_beliefAnew 5 = .ok (.aload_n 0, 1) := by decide +kernel
theorem dX5_beliefAnew_6 : decode cX5_beliefAnew 6 = .ok (.invokevirtual 119, 3) := by decide +kernel
theorem dX5_beliefAnew_9 : decode cX5_beliefAnew 9 = .ok (.aload_n 0, 1) := by decide +kernel
theorem dX5_beliefAnew_10 : decode cX5_beliefAnew 10 = .ok (.invokevirtual 142, 3) := by decide +kernel
theorem dX5_beliefAnew_13 : decode cX5_beliefAnew 13 = .ok (.aload_n 0, 1) := by decide +kernel
theorem dX5_beliefAnew_14 : decode cX5_beliefAnew 14 = .ok (.getfield 41, 3) := by decide +kernel
theorem dX5_beliefAnew_17 : decode cX5_beliefAnew 17 = .ok (.invokevirtual 141, 3) := by decide +kernel
theorem dX5_beliefAnew_20 : decode cX5_beliefAnew 20 = .ok (.iload_n 1, 1) := by decide +kernel
theorem dX5_beliefAnew_21 : decode cX5_beliefAnew 21 = .ok (.iload_n 2, 1) := by decide +kernel
theorem dX5_beliefAnew_22 : decode cX5_beliefAnew 22 = .ok (.invokestatic 63, 3) := by decide +kernel
theorem dX5_beliefAnew_25 : decode cX5_beliefAnew 25 = .ok (.invokevirtual 135, 3) := by decide +kernel
theorem dX5_beliefAnew_28 : decode cX5_beliefAnew 28 = .ok (.lreturn, 1) := by decide +kernel
set_option maxRecDepth 20000 in
theorem ggX5_mode_X5_checkSpread : GoodIn wsX5_mode wsX5_checkSpread := goodIn_ca (goodIn_r _ [5, 6, 7, 8, 53, 54, 55, 56, 57, 58, 59, 60, 61] (by decide +kernel) (by decide +kernel)) (goodIn_sub (fun _ h => List.mem_cons_of_mem _ (List.mem_append_right _ h)) (by decide +kernel))
set_option maxRecDepth 20000 in
theorem gX5_mode_X5_checkSpread : GoodIn wsX5_mode (wsV RX5 119 RX5 yX5_checkSpread wsX5_checkSpread) := goodIn_app (goodIn_of _ (by decide +kernel)) ggX5_mode_X5_checkSpread
set_option maxRecDepth 20000 in
theorem ggX5_mode_X5_chartOf : GoodIn wsX5_mode wsX5_chartOf := goodIn_r _ [12, 13, 14, 15, 16, 17, 18, 19, 20, 21, 22, 23, 24, 25, 26, 27, 28, 29, 30, 31, 32, 33, 4, 34, 35, 36, 37, 38, 39, 40, 53, 54, 55, 56, 57, 58, 59, 60, 61, 62, 63, 64, 65, 66, 67, 68, 69, 70, 71, 72, 73, 74, 75, 76] (by decide +kernel) (by decide +kernel)
set_option maxRecDepth 20000 in
theorem gX5_mode_X5_chartOf : GoodIn wsX5_mode (wsV RX5 145 RX5 yX5_chartOf wsX5_chartOf) := goodIn_app (goodIn_of _ (by decide +kernel)) ggX5_mode_X5_chartOf
set_option maxRecDepth 20000 in
theorem ggX5_mode_X2_greatestCell : GoodIn wsX5_mode wsX2_greatestCell := goodIn_r _ [44, 28, 45, 46, 47, 26, 48, 49, 50, 51, 52, 73] (by decide +kernel) (by decide +kernel)
set_option maxRecDepth 20000 in
theorem gX5_mode_X2_greatestCell : GoodIn wsX5_mode (wsV RX5 149 RX2 yX2_greatestCell wsX2_greatestCell) := goodIn_app (goodIn_of _ (by decide +kernel)) ggX5_mode_X2_greatestCell
theorem dX5_mode_0 : decode cX5_mode 0 = .ok (.aload_n 0, 1) := by decide +kernel
theorem dX5_mode_1 : decode cX5_mode 1 = .ok (.invokevirtual 119, 3) := by decide +kernel
theorem dX5_mode_4 : decode cX5_mode 4 = .ok (.aload_n 0, 1) := by decide +kernel
theorem dX5_mode_5 : decode cX5_mode 5 = .ok (.iload_n 1, 1) := by decide +kernel
theorem dX5_mode_6 : decode cX5_mode 6 = .ok (.invokevirtual 145, 3) := by decide +kernel
theorem dX5_mode_9 : decode cX5_mode 9 = .ok (.invokevirtual 149, 3) := by decide +kernel
theorem dX5_mode_12 : decode cX5_mode 12 = .ok (.ireturn, 1) := by decide +kernel
set_option maxRecDepth 20000 in
theorem ggX5_mean_X5_checkSpread : GoodIn wsX5_mean wsX5_checkSpread := goodIn_ca (goodIn_r _ [6, 7, 8, 9, 57, 58, 59, 60, 61, 62, 63, 64, 65] (by decide +kernel) (by decide +kernel)) (goodIn_sub (fun _ h => List.mem_cons_of_mem _ (List.mem_append_right _ h)) (by decide +kernel))
set_option maxRecDepth 20000 in
theorem gX5_mean_X5_checkSpread : GoodIn wsX5_mean (wsV RX5 119 RX5 yX5_checkSpread wsX5_checkSpread) := goodIn_app (goodIn_of _ (by decide +kernel)) ggX5_mean_X5_checkSpread
set_option maxRecDepth 20000 in
theorem ggX5_mean_X5_chartOf : GoodIn wsX5_mean wsX5_chartOf := goodIn_r _ [13, 14, 15, 16, 17, 18, 19, 20, 21, 22, 23, 24, 25, 26, 27, 28, 29, 30, 31, 32, 33, 34, 5, 35, 36, 37, 38, 39, 40, 41, 57, 58, 59, 60, 61, 62, 63, 64, 65, 66, 67, 68, 69, 70, 71, 72, 73, 74, 75, 76, 77, 78, 79, 80] (by decide +kernel) (by decide +kernel)
set_option maxRecDepth 20000 in
theorem gX5_mean_X5_chartOf : GoodIn wsX5_mean (wsV RX5 145 RX5 yX5_chartOf wsX5_chartOf) := goodIn_app (goodIn_of _ (by decide +kernel)) ggX5_mean_X5_chartOf
set_option maxRecDepth 20000 in
theorem ggX5_mean_X2_coordinateSum : GoodIn wsX5_mean wsX2_coordinateSum := goodIn_r _ [45, 29, 77] (by decide +kernel) (by decide +kernel)
set_option maxRecDepth 20000 in
theorem gX5_mean_X2_coordinateSum : GoodIn wsX5_mean (wsV RX5 154 RX2 yX2_coordinateSum wsX2_coordinateSum) := goodIn_app (goodIn_of _ (by decide +kernel)) ggX5_mean_X2_coordinateSum
set_option maxRecDepth 20000 in
theorem ggX5_mean_X2_sum : GoodIn wsX5_mean wsX2_sum := goodIn_r _ [49, 50, 51, 52, 27, 53, 29, 77] (by decide +kernel) (by decide +kernel)
set_option maxRecDepth 20000 in
theorem gX5_mean_X2_sum : GoodIn wsX5_mean (wsV RX5 158 RX2 yX2_sum wsX2_sum) := goodIn_app (goodIn_of _ (by decide +kernel)) ggX5_mean_X2_sum
set_option maxRecDepth 20000 in
theorem ggX5_mean_X5_quotient : GoodIn wsX5_mean wsX5_quotient := goodIn_r _ [56] (by decide +kernel) (by decide +kernel)
set_option maxRecDepth 20000 in
theorem gX5_mean_X5_quotient : GoodIn wsX5_mean (va_wsS RX5 162 yX5_quotient wsX5_quotient) := goodIn_app (goodIn_of _ (by decide +kernel)) ggX5_mean_X5_quotient
theorem dX5_mean_0 : decode cX5_mean 0 = .ok (.aload_n 0, 1) := by decide +kernel
theorem dX5_mean_1 : decode cX5_mean 1 = .ok (.invokevirtual 119, 3) := by decide +kernel
theorem dX5_mean_4 : decode cX5_mean 4 = .ok (.aload_n 0, 1) := by decide +kernel
theorem dX5_mean_5 : decode cX5_mean 5 = .ok (.iload_n 1, 1) := by decide +kernel
theorem dX5_mean_6 : decode cX5_mean 6 = .ok (.invokevirtual 145, 3) := by decide +kernel
theorem dX5_mean_9 : decode cX5_mean 9 = .ok (.astore_n 3, 1) := by decide +kernel
theorem dX5_mean_10 : decode cX5_mean 10 = .ok (.ldc2_w 152, 3) := by decide +kernel
theorem dX5_mean_13 : decode cX5_mean 13 = .ok (.aload_n 3, 1) := by decide +kernel
theorem dX5_mean_14 : decode cX5_mean 14 = .ok (.iload_n 2, 1) := by decide +kernel
theorem dX5_mean_15 : decode cX5_mean 15 = .ok (.invokevirtual 154, 3) := by decide +kernel
theorem dX5_mean_18 : decode cX5_mean 18 = .ok (.lmul, 1) := by decide +kernel
theorem dX5_mean_19 : decode cX5_mean 19 = .ok (.aload_n 3, 1) := by decide +kernel
theorem dX5_mean_20 : decode cX5_mean 20 = .ok (.invokevirtual 158, 3) := by decide +kernel
theorem dX5_mean_23 : decode cX5_mean 23 = .ok (.invokestatic 162, 3) := by decide +kernel
theorem dX5_mean_26 : decode cX5_mean 26 = .ok (.l2i, 1) := by decide +kernel
theorem dX5_mean_27 : decode cX5_mean 27 = .ok (.ireturn, 1) := by decide +kernel
set_option maxRecDepth 20000 in
theorem ggX5_share_X5_checkCell : GoodIn wsX5_share wsX5_checkCell := goodIn_ca (goodIn_r _ [7, 8, 9, 10, 11, 6, 12] (by decide +kernel) (by decide +kernel)) (goodIn_sub (fun _ h => List.mem_cons_of_mem _ (List.mem_append_left _ (List.mem_append_right _ h))) (by decide +kernel))
set_option maxRecDepth 20000 in
theorem gX5_share_X5_checkCell : GoodIn wsX5_share (va_wsS RX5 59 yX5_checkCell wsX5_checkCell) := goodIn_app (goodIn_of _ (by decide +kernel)) ggX5_share_X5_checkCell
set_option maxRecDepth 20000 in
theorem ggX5_share_X5_checkSpread : GoodIn wsX5_share wsX5_checkSpread := goodIn_ca (goodIn_r _ [16, 17, 18, 19, 64, 65, 66, 67, 68, 69, 70, 71, 72] (by decide +kernel) (by decide +kernel)) (goodIn_sub (fun _ h => List.mem_cons_of_mem _ (List.mem_append_right _ h)) (by decide +kernel))
set_option maxRecDepth 20000 in
theorem gX5_share_X5_checkSpread : GoodIn wsX5_share (wsV RX5 119 RX5 yX5_checkSpread wsX5_checkSpread) := goodIn_app (goodIn_of _ (by decide +kernel)) ggX5_share_X5_checkSpread
set_option maxRecDepth 20000 in
theorem ggX5_share_X5_chartOf : GoodIn wsX5_share wsX5_chartOf := goodIn_r _ [23, 24, 25, 26, 27, 28, 29, 30, 31, 32, 33, 34, 35, 36, 37, 38, 39, 40, 41, 42, 43, 44, 6, 45, 46, 47, 48, 49, 50, 51, 64, 65, 66, 67, 68, 69, 70, 71, 72, 73, 74, 75, 76, 77, 78, 79, 80, 81, 82, 83, 84, 85, 86, 87] (by decide +kernel) (by decide +kernel)
set_option maxRecDepth 20000 in
theorem gX5_share_X5_chartOf : GoodIn wsX5_share (wsV RX5 145 RX5 yX5_chartOf wsX5_chartOf) := goodIn_app (goodIn_of _ (by decide +kernel)) ggX5_share_X5_chartOf
set_option maxRecDepth 20000 in
theorem ggX5_share_X2_sumOf : GoodIn wsX5_share wsX2_sumOf := goodIn_r _ [55, 39, 84] (by decide +kernel) (by decide +kernel)
set_option maxRecDepth 20000 in
theorem gX5_share_X2_sumOf : GoodIn wsX5_share (wsV RX5 168 RX2 yX2_sumOf wsX2_sumOf) := goodIn_app (goodIn_of _ (by decide +kernel)) ggX5_share_X2_sumOf
set_option maxRecDepth 20000 in
theorem ggX5_share_X2_sum : GoodIn wsX5_share wsX2_sum := goodIn_r _ [59, 60, 53, 54, 37, 55, 39, 84] (by decide +kernel) (by decide +kernel)
set_option maxRecDepth 20000 in
theorem gX5_share_X2_sum : GoodIn wsX5_share (wsV RX5 158 RX2 yX2_sum wsX2_sum) := goodIn_app (goodIn_of _ (by decide +kernel)) ggX5_share_X2_sum
set_option maxRecDepth 20000 in
theorem ggX5_share_X5_quotient : GoodIn wsX5_share wsX5_quotient := goodIn_r _ [63] (by decide +kernel) (by decide +kernel)
set_option maxRecDepth 20000 in
theorem gX5_share_X5_quotient : GoodIn wsX5_share (va_wsS RX5 162 yX5_quotient wsX5_quotient) := goodIn_app (goodIn_of _ (by decide +kernel)) ggX5_share_X5_quotient
theorem dX5_share_0 : decode cX5_share 0 = .ok (.iload_n 1, 1) := by decide +kernel
theorem dX5_share_1 : decode cX5_share 1 = .ok (.iload_n 2, 1) := by decide +kernel
theorem dX5_share_2 : decode cX5_share 2 = .ok (.invokestatic 59, 3) := by decide +kernel
theorem dX5_share_5 : decode cX5_share 5 = .ok (.iload_n 3, 1) := by decide +kernel
theorem dX5_share_6 : decode cX5_share 6 = .ok (.iload_n 1, 1) := by decide +kernel
theorem dX5_share_7 : decode cX5_share 7 = .ok (.if_icmp .lt 22, 3) := by decide +kernel
theorem dX5_share_10 : decode cX5_share 10 = .ok (.iload_n 3, 1) := by decide +kernel
theorem dX5_share_11 : decode cX5_share 11 = .ok (.bipush 8, 2) := by decide +kernel
theorem dX5_share_13 : decode cX5_share 13 = .ok (.if_icmp .ge 16, 3) := by decide +kernel
theorem dX5_share_16 : decode cX5_share 16 = .ok (.iload 4, 2) := by decide +kernel
theorem dX5_share_18 : decode cX5_share 18 = .ok (.iload_n 2, 1) := by decide +kernel
theorem dX5_share_19 : decode cX5_share 19 = .ok (.if_icmp .lt 10, 3) := by decide +kernel
theorem dX5_share_22 : decode cX5_share 22 = .ok (.iload 4, 2) := by decide +kernel
theorem dX5_share_24 : decode cX5_share 24 = .ok (.bipush 8, 2) := by decide +kernel
theorem dX5_share_26 : decode cX5_share 26 = .ok (.if_icmp .lt 11, 3) := by decide +kernel
theorem dX5_share_29 : decode cX5_share 29 = .ok (.new 83, 3) := by decide +kernel
theorem dX5_share_32 : decode cX5_share 32 = .ok (.dup, 1) := by decide +kernel
theorem dX5_share_33 : decode cX5_share 33 = .ok (.invokespecial 85, 3) := by decide +kernel
theorem dX5_share_36 : decode cX5_share 36 = .ok (.athrow, 1) := by decide +kernel
theorem dX5_share_37 : decode cX5_share 37 = .ok (.aload_n 0, 1) := by decide +kernel
theorem dX5_share_38 : decode cX5_share 38 = .ok (.invokevirtual 119, 3) := by decide +kernel
theorem dX5_share_41 : decode cX5_share 41 = .ok (.aload_n 0, 1) := by decide +kernel
theorem dX5_share_42 : decode cX5_share 42 = .ok (.iload 5, 2) := by decide +kernel
theorem dX5_share_44 : decode cX5_share 44 = .ok (.invokevirtual 145, 3) := by decide +kernel
theorem dX5_share_47 : decode cX5_share 47 = .ok (.astore 6, 2) := by decide +kernel
theorem dX5_share_49 : decode cX5_share 49 = .ok (.ldc2_w 166, 3) := by decide +kernel
theorem dX5_share_52 : decode cX5_share 52 = .ok (.aload 6, 2) := by decide +kernel
theorem dX5_share_54 : decode cX5_share 54 = .ok (.iload_n 1, 1) := by decide +kernel
theorem dX5_share_55 : decode cX5_share 55 = .ok (.iload_n 2, 1) := by decide +kernel
theorem dX5_share_56 : decode cX5_share 56 = .ok (.iload_n 3, 1) := by decide +kernel
theorem dX5_share_57 : decode cX5_share 57 = .ok (.iload 4, 2) := by decide +kernel
theorem dX5_share_59 : decode cX5_share 59 = .ok (.invokevirtual 168, 3) := by decide +kernel
theorem dX5_share_62 : decode cX5_share 62 = .ok (.lmul, 1) := by decide +kernel
theorem dX5_share_63 : decode cX5_share 63 = .ok (.aload 6, 2) := by decide +kernel
theorem dX5_share_65 : decode cX5_share 65 = .ok (.invokevirtual 158, 3) := by decide +kernel
theorem dX5_share_68 : decode cX5_share 68 = .ok (.invokestatic 162, 3) := by decide +kernel
theorem dX5_share_71 : decode cX5_share 71 = .ok (.l2i, 1) := by decide +kernel
theorem dX5_share_72 : decode cX5_share 72 = .ok (.ireturn, 1) := by decide +kernel
set_option maxRecDepth 20000 in
theorem ggX5_best_X5_checkSpread : GoodIn wsX5_best wsX5_checkSpread := goodIn_ca (goodIn_r _ [8, 9, 10, 11, 34, 35, 36, 37, 38, 39, 40, 41, 42] (by decide +kernel) (by decide +kernel)) (goodIn_sub (fun _ h => List.mem_cons_of_mem _ (List.mem_append_right _ h)) (by decide +kernel))
set_option maxRecDepth 20000 in
theorem gX5_best_X5_checkSpread : GoodIn wsX5_best (wsV RX5 119 RX5 yX5_checkSpread wsX5_checkSpread) := goodIn_app (goodIn_of _ (by decide +kernel)) ggX5_best_X5_checkSpread
set_option maxRecDepth 20000 in
theorem ggX5_best_X0_chart : GoodIn wsX5_best wsX0_chart := goodIn_r _ [16, 17, 43, 44, 45] (by decide +kernel) (by decide +kernel)
set_option maxRecDepth 20000 in
theorem gX5_best_X0_chart : GoodIn wsX5_best (wsV RX5 141 RX0 yX0_chart wsX0_chart) := goodIn_app (goodIn_of _ (by decide +kernel)) ggX5_best_X0_chart
set_option maxRecDepth 20000 in
theorem ggX5_best_X2_cellAtPlace : GoodIn wsX5_best wsX2_cellAtPlace := goodIn_r _ [22, 23, 24, 25, 26, 21, 27, 28, 29, 30, 31, 32, 7, 33, 46] (by decide +kernel) (by decide +kernel)
set_option maxRecDepth 20000 in
theorem gX5_best_X2_cellAtPlace : GoodIn wsX5_best (wsV RX5 172 RX2 yX2_cellAtPlace wsX2_cellAtPlace) := goodIn_app (goodIn_of _ (by decide +kernel)) ggX5_best_X2_cellAtPlace
theorem dX5_best_0 : decode cX5_best 0 = .ok (.iload_n 1, 1) := by decide +kernel
theorem dX5_best_1 : decode cX5_best 1 = .ok (.ifCond .ge 11, 3) := by decide +kernel
theorem dX5_best_4 : decode cX5_best 4 = .ok (.new 125, 3) := by decide +kernel
theorem dX5_best_7 : decode cX5_best 7 = .ok (.dup, 1) := by decide +kernel
theorem dX5_best_8 : decode cX5_best 8 = .ok (.invokespecial 127, 3) := by decide +kernel
theorem dX5_best_11 : decode cX5_best 11 = .ok (.athrow, 1) := by decide +kernel
theorem dX5_best_12 : decode cX5_best 12 = .ok (.aload_n 0, 1) := by decide +kernel
theorem dX5_best_13 : decode cX5_best 13 = .ok (.invokevirtual 119, 3) := by decide +kernel
theorem dX5_best_16 : decode cX5_best 16 = .ok (.aload_n 0, 1) := by decide +kernel
theorem dX5_best_17 : decode cX5_best 17 = .ok (.getfield 37, 3) := by decide +kernel
theorem dX5_best_20 : decode cX5_best 20 = .ok (.invokevirtual 141, 3) := by decide +kernel
theorem dX5_best_23 : decode cX5_best 23 = .ok (.iload_n 1, 1) := by decide +kernel
theorem dX5_best_24 : decode cX5_best 24 = .ok (.invokevirtual 172, 3) := by decide +kernel
theorem dX5_best_27 : decode cX5_best 27 = .ok (.ireturn, 1) := by decide +kernel
set_option maxRecDepth 20000 in
theorem ggX5_doubt_X5_checkSpread : GoodIn wsX5_doubt wsX5_checkSpread := goodIn_ca (goodIn_r _ [6, 7, 8, 9, 16, 17, 18, 19, 20, 21, 22, 23, 24] (by decide +kernel) (by decide +kernel)) (goodIn_sub (fun _ h => List.mem_cons_of_mem _ (List.mem_append_right _ h)) (by decide +kernel))
set_option maxRecDepth 20000 in
theorem gX5_doubt_X5_checkSpread : GoodIn wsX5_doubt (wsV RX5 119 RX5 yX5_checkSpread wsX5_checkSpread) := goodIn_app (goodIn_of _ (by decide +kernel)) ggX5_doubt_X5_checkSpread
set_option maxRecDepth 20000 in
theorem ggX5_doubt_X4_lastDoubt : GoodIn wsX5_doubt wsX4_lastDoubt := goodIn_r _ [14, 15, 25, 26, 27, 28, 29, 30, 31, 32, 33, 34, 35] (by decide +kernel) (by decide +kernel)
set_option maxRecDepth 20000 in
theorem gX5_doubt_X4_lastDoubt : GoodIn wsX5_doubt (wsV RX5 175 RX4 yX4_lastDoubt wsX4_lastDoubt) := goodIn_app (goodIn_of _ (by decide +kernel)) ggX5_doubt_X4_lastDoubt
theorem dX5_doubt_0 : decode cX5_doubt 0 = .ok (.aload_n 0, 1) := by decide +kernel
theorem dX5_doubt_1 : decode cX5_doubt 1 = .ok (.invokevirtual 119, 3) := by decide +kernel
theorem dX5_doubt_4 : decode cX5_doubt 4 = .ok (.aload_n 0, 1) := by decide +kernel
theorem dX5_doubt_5 : decode cX5_doubt 5 = .ok (.getfield 28, 3) := by decide +kernel
theorem dX5_doubt_8 : decode cX5_doubt 8 = .ok (.invokevirtual 175, 3) := by decide +kernel
theorem dX5_doubt_11 : decode cX5_doubt 11 = .ok (.ireturn, 1) := by decide +kernel
set_option maxRecDepth 20000 in
theorem ggX5_checkCell_X5_isInField : GoodIn wsX5_checkCell wsX5_isInField := goodIn_r _ [6] (by decide +kernel) (by decide +kernel)
set_option maxRecDepth 20000 in
theorem gX5_checkCell_X5_isInField : GoodIn wsX5_checkCell (va_wsS RX5 178 yX5_isInField wsX5_isInField) := goodIn_app (goodIn_of _ (by decide +kernel)) ggX5_checkCell_X5_isInField
theorem dX5_checkCell_0 : decode cX5_checkCell 0 = .ok (.iload_n 0, 1) := by decide +kernel
theorem dX5_checkCell_1 : decode cX5_checkCell 1 = .ok (.iload_n 1, 1) := by decide +kernel
theorem dX5_checkCell_2 : decode cX5_checkCell 2 = .ok (.invokestatic 178, 3) := by decide +kernel
theorem dX5_checkCell_5 : decode cX5_checkCell 5 = .ok (.ifCond .ne 11, 3) := by decide +kernel
theorem dX5_checkCell_8 : decode cX5_checkCell 8 = .ok (.new 125, 3) := by decide +kernel
theorem dX5_checkCell_11 : decode cX5_checkCell 11 = .ok (.dup, 1) := by decide +kernel
theorem dX5_checkCell_12 : decode cX5_checkCell 12 = .ok (.invokespecial 127, 3) := by decide +kernel
theorem dX5_checkCell_15 : decode cX5_checkCell 15 = .ok (.athrow, 1) := by decide +kernel
theorem dX5_checkCell_16 : decode cX5_checkCell 16 = .ok (.return_, 1) := by decide +kernel
set_option maxRecDepth 20000 in
theorem ggX5_checkDirection_X5_isDirection : GoodIn wsX5_checkDirection wsX5_isDirection := goodIn_r _ [6] (by decide +kernel) (by decide +kernel)
set_option maxRecDepth 20000 in
theorem gX5_checkDirection_X5_isDirection : GoodIn wsX5_checkDirection (va_wsS RX5 182 yX5_isDirection wsX5_isDirection) := goodIn_app (goodIn_of _ (by decide +kernel)) ggX5_checkDirection_X5_isDirection
theorem dX5_checkDirection_0 : decode cX5_checkDirection 0 = .ok (.iload_n 0, 1) := by decide +kernel
theorem dX5_checkDirection_1 : decode cX5_checkDirection 1 = .ok (.invokestatic 182, 3) := by decide +kernel
theorem dX5_checkDirection_4 : decode cX5_checkDirection 4 = .ok (.ifCond .ne 11, 3) := by decide +kernel
theorem dX5_checkDirection_7 : decode cX5_checkDirection 7 = .ok (.new 125, 3) := by decide +kernel
theorem dX5_checkDirection_10 : decode cX5_checkDirection 10 = .ok (.dup, 1) := by decide +kernel
theorem dX5_checkDirection_11 : decode cX5_checkDirection 11 = .ok (.invokespecial 127, 3) := by decide +kernel
theorem dX5_checkDirection_14 : decode cX5_checkDirection 14 = .ok (.athrow, 1) := by decide +kernel
theorem dX5_checkDirection_15 : decode cX5_checkDirection 15 = .ok (.return_, 1) := by decide +kernel
theorem dX5_checkSpread_0 : decode cX5_checkSpread 0 = .ok (.aload_n 0, 1) := by decide +kernel
theorem dX5_checkSpread_1 : decode cX5_checkSpread 1 = .ok (.getfield 55, 3) := by decide +kernel
theorem dX5_checkSpread_4 : decode cX5_checkSpread 4 = .ok (.ifCond .ne 11, 3) := by decide +kernel
theorem dX5_checkSpread_7 : decode cX5_checkSpread 7 = .ok (.new 75, 3) := by decide +kernel
theorem dX5_checkSpread_10 : decode cX5_checkSpread 10 = .ok (.dup, 1) := by decide +kernel
theorem dX5_checkSpread_11 : decode cX5_checkSpread 11 = .ok (.invokespecial 77, 3) := by decide +kernel
theorem dX5_checkSpread_14 : decode cX5_checkSpread 14 = .ok (.athrow, 1) := by decide +kernel
theorem dX5_checkSpread_15 : decode cX5_checkSpread 15 = .ok (.return_, 1) := by decide +kernel
theorem dX5_checkMayTell_0 : decode cX5_checkMayTell 0 = .ok (.aload_n 0, 1) := by decide +kernel
theorem dX5_checkMayTell_1 : decode cX5_checkMayTell 1 = .ok (.getfield 55, 3) := by decide +kernel
theorem dX5_checkMayTell_4 : decode cX5_checkMayTell 4 = .ok (.ifCond .eq 13, 3) := by decide +kernel
theorem dX5_checkMayTell_7 : decode cX5_checkMayTell 7 = .ok (.aload_n 0, 1) := by decide +kernel
theorem dX5_checkMayTell_8 : decode cX5_checkMayTell 8 = .ok (.getfield 51, 3) := by decide +kernel
theorem dX5_checkMayTell_11 : decode cX5_checkMayTell 11 = .ok (.sipush 300, 3) := by decide +kernel
theorem dX5_checkMayTell_14 : decode cX5_checkMayTell 14 = .ok (.if_icmp .lt 11, 3) := by decide +kernel
theorem dX5_checkMayTell_17 : decode cX5_checkMayTell 17 = .ok (.new 75, 3) := by decide +kernel
theorem dX5_checkMayTell_20 : decode cX5_checkMayTell 20 = .ok (.dup, 1) := by decide +kernel
theorem dX5_checkMayTell_21 : decode cX5_checkMayTell 21 = .ok (.invokespecial 77, 3) := by decide +kernel
theorem dX5_checkMayTell_24 : decode cX5_checkMayTell 24 = .ok (.athrow, 1) := by decide +kernel
theorem dX5_checkMayTell_25 : decode cX5_checkMayTell 25 = .ok (.return_, 1) := by decide +kernel
theorem dX5_keep_0 : decode cX5_keep 0 = .ok (.aload_n 0, 1) := by decide +kernel
theorem dX5_keep_1 : decode cX5_keep 1 = .ok (.getfield 51, 3) := by decide +kernel
theorem dX5_keep_4 : decode cX5_keep 4 = .ok (.ifCond .lt 43, 3) := by decide +kernel
theorem dX5_keep_7 : decode cX5_keep 7 = .ok (.aload_n 0, 1) := by decide +kernel
theorem dX5_keep_8 : decode cX5_keep 8 = .ok (.getfield 51, 3) := by decide +kernel
theorem dX5_keep_11 : decode cX5_keep 11 = .ok (.sipush 300, 3) := by decide +kernel
theorem dX5_keep_14 : decode cX5_keep 14 = .ok (.if_icmp .ge 33, 3) := by decide +kernel
theorem dX5_keep_17 : decode cX5_keep 17 = .ok (.aload_n 0, 1) := by decide +kernel
theorem dX5_keep_18 : decode cX5_keep 18 = .ok (.getfield 44, 3) := by decide +kernel
theorem dX5_keep_21 : decode cX5_keep 21 = .ok (.aload_n 0, 1) := by decide +kernel
theorem dX5_keep_22 : decode cX5_keep 22 = .ok (.getfield 51, 3) := by decide +kernel
theorem dX5_keep_25 : decode cX5_keep 25 = .ok (.iload_n 1, 1) := by decide +kernel
theorem dX5_keep_26 : decode cX5_keep 26 = .ok (.iastore, 1) := by decide +kernel
theorem dX5_keep_27 : decode cX5_keep 27 = .ok (.aload_n 0, 1) := by decide +kernel
theorem dX5_keep_28 : decode cX5_keep 28 = .ok (.getfield 48, 3) := by decide +kernel
theorem dX5_keep_31 : decode cX5_keep 31 = .ok (.aload_n 0, 1) := by decide +kernel
theorem dX5_keep_32 : decode cX5_keep 32 = .ok (.getfield 51, 3) := by decide +kernel
theorem dX5_keep_35 : decode cX5_keep 35 = .ok (.iload_n 2, 1) := by decide +kernel
theorem dX5_keep_36 : decode cX5_keep 36 = .ok (.iastore, 1) := by decide +kernel
theorem dX5_keep_37 : decode cX5_keep 37 = .ok (.aload_n 0, 1) := by decide +kernel
theorem dX5_keep_38 : decode cX5_keep 38 = .ok (.dup, 1) := by decide +kernel
theorem dX5_keep_39 : decode cX5_keep 39 = .ok (.getfield 51, 3) := by decide +kernel
theorem dX5_keep_42 : decode cX5_keep 42 = .ok (.iconst 1, 1) := by decide +kernel
theorem dX5_keep_43 : decode cX5_keep 43 = .ok (.iadd, 1) := by decide +kernel
theorem dX5_keep_44 : decode cX5_keep 44 = .ok (.putfield 51, 3) := by decide +kernel
theorem dX5_keep_47 : decode cX5_keep 47 = .ok (.return_, 1) := by decide +kernel
set_option maxRecDepth 20000 in
theorem ggX5_repeatAllTold_X0_begin : GoodIn wsX5_repeatAllTold wsX0_begin := goodIn_r _ [9, 10, 11, 12, 13, 14, 15, 16, 17, 18, 19, 20, 21, 22, 23, 24, 25, 26, 113, 114, 115, 116, 117, 118, 119] (by decide +kernel) (by decide +kernel)
set_option maxRecDepth 20000 in
theorem gX5_repeatAllTold_X0_begin : GoodIn wsX5_repeatAllTold (wsV RX5 94 RX0 yX0_begin wsX0_begin) := goodIn_app (goodIn_of _ (by decide +kernel)) ggX5_repeatAllTold_X0_begin
set_option maxRecDepth 20000 in
theorem ggX5_repeatAllTold_X0_fetch : GoodIn wsX5_repeatAllTold wsX0_fetch := goodIn_r _ [30, 31, 10, 32, 33, 34, 24, 35, 26, 36, 37, 38, 39, 40, 41, 42, 8, 43, 44, 11, 45, 46, 47, 48, 49, 18, 19, 20, 50, 51, 15, 52, 53, 54, 55, 56, 57, 58, 59, 60, 12, 13, 14, 16, 17, 61, 62, 63, 64, 65, 66, 67, 68, 69, 70, 71, 72, 73, 74, 21, 22, 23, 25, 75, 76, 77, 78, 79, 80, 81, 82, 83, 84, 85, 86, 87, 88, 89, 90, 91, 113, 114, 115, 119, 116, 117, 118] (by decide +kernel) (by decide +kernel)
set_option maxRecDepth 20000 in
theorem gX5_repeatAllTold_X0_fetch : GoodIn wsX5_repeatAllTold (wsV RX5 185 RX0 yX0_fetch wsX0_fetch) := goodIn_app (goodIn_of _ (by decide +kernel)) ggX5_repeatAllTold_X0_fetch
set_option maxRecDepth 20000 in
theorem ggX5_repeatAllTold_X0_weigh : GoodIn wsX5_repeatAllTold wsX0_weigh := goodIn_r _ [95, 10, 11, 46, 47, 48, 24, 49, 26, 18, 19, 20, 96, 97, 98, 15, 99, 100, 101, 67, 102, 69, 70, 71, 72, 73, 55, 56, 21, 22, 23, 25, 80, 81, 82, 83, 84, 85, 86, 103, 6, 7, 8, 9, 12, 13, 14, 16, 17, 75, 76, 77, 78, 79, 87, 88, 89, 90, 91, 113, 114, 115, 119, 116, 117, 118] (by decide +kernel) (by decide +kernel)
set_option maxRecDepth 20000 in
theorem gX5_repeatAllTold_X0_weigh : GoodIn wsX5_repeatAllTold (wsV RX5 114 RX0 yX0_weigh wsX0_weigh) := goodIn_app (goodIn_of _ (by decide +kernel)) ggX5_repeatAllTold_X0_weigh
theorem dX5_repeatAllTold_0 : decode cX5_repeatAllTold 0 = .ok (.aload_n 0, 1) := by decide +kernel
theorem dX5_repeatAllTold_1 : decode cX5_repeatAllTold 1 = .ok (.getfield 41, 3) := by decide +kernel
theorem dX5_repeatAllTold_4 : decode cX5_repeatAllTold 4 = .ok (.invokevirtual 94, 3) := by decide +kernel
theorem dX5_repeatAllTold_7 : decode cX5_repeatAllTold 7 = .ok (.iconst 0, 1) := by decide +kernel
theorem dX5_repeatAllTold_8 : decode cX5_repeatAllTold 8 = .ok (.istore_n 1, 1) := by decide +kernel
theorem dX5_repeatAllTold_9 : decode cX5_repeatAllTold 9 = .ok (.iload_n 1, 1) := by decide +kernel
theorem dX5_repeatAllTold_10 : decode cX5_repeatAllTold 10 = .ok (.aload_n 0, 1) := by decide +kernel
theorem dX5_repeatAllTold_11 : decode cX5_repeatAllTold 11 = .ok (.getfield 51, 3) := by decide +kernel
theorem dX5_repeatAllTold_14 : decode cX5_repeatAllTold 14 = .ok (.if_icmp .ge 61, 3) := by decide +kernel
theorem dX5_repeatAllTold_17 : decode cX5_repeatAllTold 17 = .ok (.iload_n 1, 1) := by decide +kernel
theorem dX5_repeatAllTold_18 : decode cX5_repeatAllTold 18 = .ok (.sipush 300, 3) := by decide +kernel
theorem dX5_repeatAllTold_21 : decode cX5_repeatAllTold 21 = .ok (.if_icmp .ge 54, 3) := by decide +kernel
theorem dX5_repeatAllTold_24 : decode cX5_repeatAllTold 24 = .ok (.aload_n 0, 1) := by decide +kernel
theorem dX5_repeatAllTold_25 : decode cX5_repeatAllTold 25 = .ok (.getfield 48, 3) := by decide +kernel
theorem dX5_repeatAllTold_28 : decode cX5_repeatAllTold 28 = .ok (.iload_n 1, 1) := by decide +kernel
theorem dX5_repeatAllTold_29 : decode cX5_repeatAllTold 29 = .ok (.iaload, 1) := by decide +kernel
theorem dX5_repeatAllTold_30 : decode cX5_repeatAllTold 30 = .ok (.iconst (-1), 1) := by decide +kernel
theorem dX5_repeatAllTold_31 : decode cX5_repeatAllTold 31 = .ok (.if_icmp .ne 19, 3) := by decide +kernel
theorem dX5_repeatAllTold_34 : decode cX5_repeatAllTold 34 = .ok (.aload_n 0, 1) := by decide +kernel
theorem dX5_repeatAllTold_35 : decode cX5_repeatAllTold 35 = .ok (.getfield 41, 3) := by decide +kernel
theorem dX5_repeatAllTold_38 : decode cX5_repeatAllTold 38 = .ok (.aload_n 0, 1) := by decide +kernel
theorem dX5_repeatAllTold_39 : decode cX5_repeatAllTold 39 = .ok (.getfield 44, 3) := by decide +kernel
theorem dX5_repeatAllTold_42 : decode cX5_repeatAllTold 42 = .ok (.iload_n 1, 1) := by decide +kernel
theorem dX5_repeatAllTold_43 : decode cX5_repeatAllTold 43 = .ok (.iaload, 1) := by decide +kernel
theorem dX5_repeatAllTold_44 : decode cX5_repeatAllTold 44 = .ok (.invokevirtual 185, 3) := by decide +kernel
theorem dX5_repeatAllTold_47 : decode cX5_repeatAllTold 47 = .ok (.goto 22, 3) := by decide +kernel
theorem dX5_repeatAllTold_50 : decode cX5_repeatAllTold 50 = .ok (.aload_n 0, 1) := by decide +kernel
theorem dX5_repeatAllTold_51 : decode cX5_repeatAllTold 51 = .ok (.getfield 41, 3) := by decide +kernel
theorem dX5_repeatAllTold_54 : decode cX5_repeatAllTold 54 = .ok (.aload_n 0, 1) := by decide +kernel
theorem dX5_repeatAllTold_55 : decode cX5_repeatAllTold 55 = .ok (.getfield 44, 3) := by decide +kernel
theorem dX5_repeatAllTold_58 : decode cX5_repeatAllTold 58 = .ok (.iload_n 1, 1) := by decide +kernel
theorem dX5_repeatAllTold_59 : decode cX5_repeatAllTold 59 = .ok (.iaload, 1) := by decide +kernel
theorem dX5_repeatAllTold_60 : decode cX5_repeatAllTold 60 = .ok (.aload_n 0, 1) := by decide +kernel
theorem dX5_repeatAllTold_61 : decode cX5_repeatAllTold 61 = .ok (.getfield 48, 3) := by decide +kernel
theorem dX5_repeatAllTold_64 : decode cX5_repeatAllTold 64 = .ok (.iload_n 1, 1) := by decide +kernel
theorem dX5_repeatAllTold_65 : decode cX5_repeatAllTold 65 = .ok (.iaload, 1) := by decide +kernel
theorem dX5_repeatAllTold_66 : decode cX5_repeatAllTold 66 = .ok (.invokevirtual 114, 3) := by decide +kernel
theorem dX5_repeatAllTold_69 : decode cX5_repeatAllTold 69 = .ok (.iinc 1 1, 3) := by decide +kernel
theorem dX5_repeatAllTold_72 : decode cX5_repeatAllTold 72 = .ok (.goto (-63), 3) := by decide +kernel
theorem dX5_repeatAllTold_75 : decode cX5_repeatAllTold 75 = .ok (.return_, 1) := by decide +kernel
set_option maxRecDepth 20000 in
theorem ggX5_chartOf_X4_chart : GoodIn wsX5_chartOf wsX4_chart := goodIn_r _ [7, 8, 9, 10, 11, 12, 13, 14, 15, 16, 17, 18, 19, 20, 21, 22, 23, 39, 40, 41, 42, 43, 44, 45, 46, 47, 48, 49, 50] (by decide +kernel) (by decide +kernel)
set_option maxRecDepth 20000 in
theorem gX5_chartOf_X4_chart : GoodIn wsX5_chartOf (wsV RX5 131 RX4 yX4_chart wsX4_chart) := goodIn_app (goodIn_of _ (by decide +kernel)) ggX5_chartOf_X4_chart
set_option maxRecDepth 20000 in
theorem ggX5_chartOf_X0_chart : GoodIn wsX5_chartOf wsX0_chart := goodIn_r _ [28, 29, 51, 52, 53] (by decide +kernel) (by decide +kernel)
set_option maxRecDepth 20000 in
theorem gX5_chartOf_X0_chart : GoodIn wsX5_chartOf (wsV RX5 141 RX0 yX0_chart wsX0_chart) := goodIn_app (goodIn_of _ (by decide +kernel)) ggX5_chartOf_X0_chart
theorem dX5_chartOf_0 : decode cX5_chartOf 0 = .ok (.iload_n 1, 1) := by decide +kernel
theorem dX5_chartOf_1 : decode cX5_chartOf 1 = .ok (.ifCond .eq 13, 3) := by decide +kernel
theorem dX5_chartOf_4 : decode cX5_chartOf 4 = .ok (.aload_n 0, 1) := by decide +kernel
theorem dX5_chartOf_5 : decode cX5_chartOf 5 = .ok (.getfield 28, 3) := by decide +kernel
theorem dX5_chartOf_8 : decode cX5_chartOf 8 = .ok (.invokevirtual 131, 3) := by decide +kernel
theorem dX5_chartOf_11 : decode cX5_chartOf 11 = .ok (.goto 10, 3) := by decide +kernel
theorem dX5_chartOf_14 : decode cX5_chartOf 14 = .ok (.aload_n 0, 1) := by decide +kernel
theorem dX5_chartOf_15 : decode cX5_chartOf 15 = .ok (.getfield 37, 3) := by decide +kernel
theorem dX5_chartOf_18 : decode cX5_chartOf 18 = .ok (.invokevirtual 141, 3) := by decide +kernel
theorem dX5_chartOf_21 : decode cX5_chartOf 21 = .ok (.areturn, 1) := by decide +kernel
theorem dX5_isInField_0 : decode cX5_isInField 0 = .ok (.iload_n 0, 1) := by decide +kernel
theorem dX5_isInField_1 : decode cX5_isInField 1 = .ok (.ifCond .lt 23, 3) := by decide +kernel
theorem dX5_isInField_4 : decode cX5_isInField 4 = .ok (.iload_n 0, 1) := by decide +kernel
theorem dX5_isInField_5 : decode cX5_isInField 5 = .ok (.bipush 8, 2) := by decide +kernel
theorem dX5_isInField_7 : decode cX5_isInField 7 = .ok (.if_icmp .ge 17, 3) := by decide +kernel
theorem dX5_isInField_10 : decode cX5_isInField 10 = .ok (.iload_n 1, 1) := by decide +kernel
theorem dX5_isInField_11 : decode cX5_isInField 11 = .ok (.ifCond .lt 13, 3) := by decide +kernel
theorem dX5_isInField_14 : decode cX5_isInField 14 = .ok (.iload_n 1, 1) := by decide +kernel
theorem dX5_isInField_15 : decode cX5_isInField 15 = .ok (.bipush 8, 2) := by decide +kernel
theorem dX5_isInField_17 : decode cX5_isInField 17 = .ok (.if_icmp .ge 7, 3) := by decide +kernel
theorem dX5_isInField_20 : decode cX5_isInField 20 = .ok (.iconst 1, 1) := by decide +kernel
theorem dX5_isInField_21 : decode cX5_isInField 21 = .ok (.goto 4, 3) := by decide +kernel
theorem dX5_isInField_24 : decode cX5_isInField 24 = .ok (.iconst 0, 1) := by decide +kernel
theorem dX5_isInField_25 : decode cX5_isInField 25 = .ok (.ireturn, 1) := by decide +kernel
theorem dX5_isCell_0 : decode cX5_isCell 0 = .ok (.iload_n 0, 1) := by decide +kernel
theorem dX5_isCell_1 : decode cX5_isCell 1 = .ok (.ifCond .lt 13, 3) := by decide +kernel
theorem dX5_isCell_4 : decode cX5_isCell 4 = .ok (.iload_n 0, 1) := by decide +kernel
theorem dX5_isCell_5 : decode cX5_isCell 5 = .ok (.bipush 64, 2) := by decide +kernel
theorem dX5_isCell_7 : decode cX5_isCell 7 = .ok (.if_icmp .ge 7, 3) := by decide +kernel
theorem dX5_isCell_10 : decode cX5_isCell 10 = .ok (.iconst 1, 1) := by decide +kernel
theorem dX5_isCell_11 : decode cX5_isCell 11 = .ok (.goto 4, 3) := by decide +kernel
theorem dX5_isCell_14 : decode cX5_isCell 14 = .ok (.iconst 0, 1) := by decide +kernel
theorem dX5_isCell_15 : decode cX5_isCell 15 = .ok (.ireturn, 1) := by decide +kernel
theorem dX5_isDirection_0 : decode cX5_isDirection 0 = .ok (.iload_n 0, 1) := by decide +kernel
theorem dX5_isDirection_1 : decode cX5_isDirection 1 = .ok (.ifCond .lt 12, 3) := by decide +kernel
theorem dX5_isDirection_4 : decode cX5_isDirection 4 = .ok (.iload_n 0, 1) := by decide +kernel
theorem dX5_isDirection_5 : decode cX5_isDirection 5 = .ok (.iconst 4, 1) := by decide +kernel
theorem dX5_isDirection_6 : decode cX5_isDirection 6 = .ok (.if_icmp .ge 7, 3) := by decide +kernel
theorem dX5_isDirection_9 : decode cX5_isDirection 9 = .ok (.iconst 1, 1) := by decide +kernel
theorem dX5_isDirection_10 : decode cX5_isDirection 10 = .ok (.goto 4, 3) := by decide +kernel
theorem dX5_isDirection_13 : decode cX5_isDirection 13 = .ok (.iconst 0, 1) := by decide +kernel
theorem dX5_isDirection_14 : decode cX5_isDirection 14 = .ok (.ireturn, 1) := by decide +kernel
theorem dX5_numberOf_0 : decode cX5_numberOf 0 = .ok (.bipush 8, 2) := by decide +kernel
theorem dX5_numberOf_2 : decode cX5_numberOf 2 = .ok (.iload_n 1, 1) := by decide +kernel
theorem dX5_numberOf_3 : decode cX5_numberOf 3 = .ok (.imul, 1) := by decide +kernel
theorem dX5_numberOf_4 : decode cX5_numberOf 4 = .ok (.iload_n 0, 1) := by decide +kernel
theorem dX5_numberOf_5 : decode cX5_numberOf 5 = .ok (.iadd, 1) := by decide +kernel
theorem dX5_numberOf_6 : decode cX5_numberOf 6 = .ok (.ireturn, 1) := by decide +kernel
theorem dX5_quotient_0 : decode cX5_quotient 0 = .ok (.lload_n 2, 1) := by decide +kernel
theorem dX5_quotient_1 : decode cX5_quotient 1 = .ok (.lconst 0, 1) := by decide +kernel
theorem dX5_quotient_2 : decode cX5_quotient 2 = .ok (.lcmp, 1) := by decide +kernel
theorem dX5_quotient_3 : decode cX5_quotient 3 = .ok (.ifCond .ne 7, 3) := by decide +kernel
theorem dX5_quotient_6 : decode cX5_quotient 6 = .ok (.lconst 0, 1) := by decide +kernel
theorem dX5_quotient_7 : decode cX5_quotient 7 = .ok (.goto 6, 3) := by decide +kernel
theorem dX5_quotient_10 : decode cX5_quotient 10 = .ok (.lload_n 0, 1) := by decide +kernel
theorem dX5_quotient_11 : decode cX5_quotient 11 = .ok (.lload_n 2, 1) := by decide +kernel
theorem dX5_quotient_12 : decode cX5_quotient 12 = .ok (.ldiv, 1) := by decide +kernel
theorem dX5_quotient_13 : decode cX5_quotient 13 = .ok (.lreturn, 1) := by decide +kernel
theorem dJ9_abs_0f7a4_0 : decode cJ9_abs_0f7a4 0 = .ok (.iload_n 0, 1) := by decide +kernel
theorem dJ9_abs_0f7a4_1 : decode cJ9_abs_0f7a4 1 = .ok (.ifCond .ge 8, 3) := by decide +kernel
theorem dJ9_abs_0f7a4_4 : decode cJ9_abs_0f7a4 4 = .ok (.iload_n 0, 1) := by decide +kernel
theorem dJ9_abs_0f7a4_5 : decode cJ9_abs_0f7a4 5 = .ok (.ineg, 1) := by decide +kernel
theorem dJ9_abs_0f7a4_6 : decode cJ9_abs_0f7a4 6 = .ok (.goto 4, 3) := by decide +kernel
theorem dJ9_abs_0f7a4_9 : decode cJ9_abs_0f7a4 9 = .ok (.iload_n 0, 1) := by decide +kernel
theorem dJ9_abs_0f7a4_10 : decode cJ9_abs_0f7a4 10 = .ok (.ireturn, 1) := by decide +kernel
theorem dJ9_max_7cf53_0 : decode cJ9_max_7cf53 0 = .ok (.iload_n 0, 1) := by decide +kernel
theorem dJ9_max_7cf53_1 : decode cJ9_max_7cf53 1 = .ok (.iload_n 1, 1) := by decide +kernel
theorem dJ9_max_7cf53_2 : decode cJ9_max_7cf53 2 = .ok (.if_icmp .lt 7, 3) := by decide +kernel
theorem dJ9_max_7cf53_5 : decode cJ9_max_7cf53 5 = .ok (.iload_n 0, 1) := by decide +kernel
theorem dJ9_max_7cf53_6 : decode cJ9_max_7cf53 6 = .ok (.goto 4, 3) := by decide +kernel
theorem dJ9_max_7cf53_9 : decode cJ9_max_7cf53 9 = .ok (.iload_n 1, 1) := by decide +kernel
theorem dJ9_max_7cf53_10 : decode cJ9_max_7cf53 10 = .ok (.ireturn, 1) := by decide +kernel
theorem dJ9_max_f86c9_0 : decode cJ9_max_f86c9 0 = .ok (.lload_n 0, 1) := by decide +kernel
theorem dJ9_max_f86c9_1 : decode cJ9_max_f86c9 1 = .ok (.lload_n 2, 1) := by decide +kernel
theorem dJ9_max_f86c9_2 : decode cJ9_max_f86c9 2 = .ok (.lcmp, 1) := by decide +kernel
theorem dJ9_max_f86c9_3 : decode cJ9_max_f86c9 3 = .ok (.ifCond .lt 7, 3) := by decide +kernel
theorem dJ9_max_f86c9_6 : decode cJ9_max_f86c9 6 = .ok (.lload_n 0, 1) := by decide +kernel
theorem dJ9_max_f86c9_7 : decode cJ9_max_f86c9 7 = .ok (.goto 4, 3) := by decide +kernel
theorem dJ9_max_f86c9_10 : decode cJ9_max_f86c9 10 = .ok (.lload_n 2, 1) := by decide +kernel
theorem dJ9_max_f86c9_11 : decode cJ9_max_f86c9 11 = .ok (.lreturn, 1) := by decide +kernel
theorem dJ9_min_7cf53_0 : decode cJ9_min_7cf53 0 = .ok (.iload_n 0, 1) := by decide +kernel
theorem dJ9_min_7cf53_1 : decode cJ9_min_7cf53 1 = .ok (.iload_n 1, 1) := by decide +kernel
theorem dJ9_min_7cf53_2 : decode cJ9_min_7cf53 2 = .ok (.if_icmp .gt 7, 3) := by decide +kernel
theorem dJ9_min_7cf53_5 : decode cJ9_min_7cf53 5 = .ok (.iload_n 0, 1) := by decide +kernel
theorem dJ9_min_7cf53_6 : decode cJ9_min_7cf53 6 = .ok (.goto 4, 3) := by decide +kernel
theorem dJ9_min_7cf53_9 : decode cJ9_min_7cf53 9 = .ok (.iload_n 1, 1) := by decide +kernel
theorem dJ9_min_7cf53_10 : decode cJ9_min_7cf53 10 = .ok (.ireturn, 1) := by decide +kernel
theorem dL_cell_0 : decode cL_cell 0 = .ok (.iload_n 1, 1) := by decide +kernel
theorem dL_cell_1 : decode cL_cell 1 = .ok (.aload_n 0, 1) := by decide +kernel
theorem dL_cell_2 : decode cL_cell 2 = .ok (.arraylength, 1) := by decide +kernel
theorem dL_cell_3 : decode cL_cell 3 = .ok (.if_icmp .ge 9, 3) := by decide +kernel
theorem dL_cell_6 : decode cL_cell 6 = .ok (.aload_n 0, 1) := by decide +kernel
theorem dL_cell_7 : decode cL_cell 7 = .ok (.iload_n 1, 1) := by decide +kernel
theorem dL_cell_8 : decode cL_cell 8 = .ok (.iaload, 1) := by decide +kernel
theorem dL_cell_9 : decode cL_cell 9 = .ok (.goto 18, 3) := by decide +kernel
theorem dL_cell_12 : decode cL_cell 12 = .ok (.sipush 7919, 3) := by decide +kernel
theorem dL_cell_15 : decode cL_cell 15 = .ok (.iload_n 1, 1) := by decide +kernel
theorem dL_cell_16 : decode cL_cell 16 = .ok (.sipush 2333, 3) := by decide +kernel
theorem dL_cell_19 : decode cL_cell 19 = .ok (.iadd, 1) := by decide +kernel
theorem dL_cell_20 : decode cL_cell 20 = .ok (.imul, 1) := by decide +kernel
theorem dL_cell_21 : decode cL_cell 21 = .ok (.iload_n 1, 1) := by decide +kernel
theorem dL_cell_22 : decode cL_cell 22 = .ok (.sipush 163, 3) := by decide +kernel
theorem dL_cell_25 : decode cL_cell 25 = .ok (.iadd, 1) := by decide +kernel
theorem dL_cell_26 : decode cL_cell 26 = .ok (.imul, 1) := by decide +kernel
theorem dL_cell_27 : decode cL_cell 27 = .ok (.ireturn, 1) := by decide +kernel
theorem dL_low_0 : decode cL_low 0 = .ok (.iload_n 0, 1) := by decide +kernel
theorem dL_low_1 : decode cL_low 1 = .ok (.ldc 7, 2) := by decide +kernel
theorem dL_low_3 : decode cL_low 3 = .ok (.iand, 1) := by decide +kernel
theorem dL_low_4 : decode cL_low 4 = .ok (.iload_n 1, 1) := by decide +kernel
theorem dL_low_5 : decode cL_low 5 = .ok (.irem, 1) := by decide +kernel
theorem dL_low_6 : decode cL_low 6 = .ok (.ireturn, 1) := by decide +kernel
set_option maxRecDepth 20000 in
theorem ggL_wall_X5_wall : GoodIn wsL_wall wsX5_wall := goodIn_ca (goodIn_ca (goodIn_r _ [8, 9, 10, 11, 12, 13, 14, 7, 15, 16, 17, 18, 19, 20, 21, 22, 23, 24, 25, 26, 27, 28, 29, 30, 31, 32, 33, 34, 35, 36, 37, 38, 39, 40, 41, 42, 43, 44, 45, 46, 47, 48, 49, 50, 51, 52, 53, 54, 55, 56, 57, 58, 59, 60, 61, 62, 63, 64, 65, 66, 67, 68, 69] (by decide +kernel) (by decide +kernel)) (goodIn_sub (fun _ h => List.mem_cons_of_mem _ (List.mem_append_left _ (List.mem_append_right _ h))) (by decide +kernel))) (goodIn_sub (fun _ h => List.mem_cons_of_mem _ (List.mem_append_right _ h)) (by decide +kernel))
set_option maxRecDepth 20000 in
theorem gL_wall_X5_wall : GoodIn wsL_wall (wsV RL 8 RX5 yX5_wall wsX5_wall) := goodIn_app (goodIn_of _ (by decide +kernel)) ggL_wall_X5_wall
theorem dL_wall_0 : decode cL_wall 0 = .ok (.aload_n 0, 1) := by decide +kernel
theorem dL_wall_1 : decode cL_wall 1 = .ok (.iload_n 1, 1) := by decide +kernel
theorem dL_wall_2 : decode cL_wall 2 = .ok (.iload_n 2, 1) := by decide +kernel
theorem dL_wall_3 : decode cL_wall 3 = .ok (.iload_n 3, 1) := by decide +kernel
theorem dL_wall_4 : decode cL_wall 4 = .ok (.invokevirtual 8, 3) := by decide +kernel
theorem dL_wall_7 : decode cL_wall 7 = .ok (.ifCond .eq 7, 3) := by decide +kernel
theorem dL_wall_10 : decode cL_wall 10 = .ok (.lconst 1, 1) := by decide +kernel
theorem dL_wall_11 : decode cL_wall 11 = .ok (.goto 4, 3) := by decide +kernel
theorem dL_wall_14 : decode cL_wall 14 = .ok (.lconst 0, 1) := by decide +kernel
theorem dL_wall_15 : decode cL_wall 15 = .ok (.lreturn, 1) := by decide +kernel
theorem dL_wall_16 : decode cL_wall 16 = .ok (.astore 4, 2) := by decide +kernel
theorem dL_wall_18 : decode cL_wall 18 = .ok (.ldc2_w 16, 3) := by decide +kernel
theorem dL_wall_21 : decode cL_wall 21 = .ok (.lreturn, 1) := by decide +kernel
theorem dL_wall_22 : decode cL_wall 22 = .ok (.astore 4, 2) := by decide +kernel
theorem dL_wall_24 : decode cL_wall 24 = .ok (.ldc2_w 16, 3) := by decide +kernel
theorem dL_wall_27 : decode cL_wall 27 = .ok (.lreturn, 1) := by decide +kernel
set_option maxRecDepth 20000 in
theorem ggL_draw_X5_draw : GoodIn wsL_draw wsX5_draw := goodIn_ca (goodIn_r _ [7, 8, 9, 10, 11, 12, 13, 14, 15, 16, 17, 18, 19, 20, 21, 22, 23, 24, 25, 26, 27] (by decide +kernel) (by decide +kernel)) (goodIn_sub (fun _ h => List.mem_cons_of_mem _ (List.mem_append_right _ h)) (by decide +kernel))
set_option maxRecDepth 20000 in
theorem gL_draw_X5_draw : GoodIn wsL_draw (wsV RL 20 RX5 yX5_draw wsX5_draw) := goodIn_app (goodIn_of _ (by decide +kernel)) ggL_draw_X5_draw
theorem dL_draw_0 : decode cL_draw 0 = .ok (.aload_n 0, 1) := by decide +kernel
theorem dL_draw_1 : decode cL_draw 1 = .ok (.iload_n 1, 1) := by decide +kernel
theorem dL_draw_2 : decode cL_draw 2 = .ok (.invokevirtual 20, 3) := by decide +kernel
theorem dL_draw_5 : decode cL_draw 5 = .ok (.i2l, 1) := by decide +kernel
theorem dL_draw_6 : decode cL_draw 6 = .ok (.lreturn, 1) := by decide +kernel
theorem dL_draw_7 : decode cL_draw 7 = .ok (.astore_n 2, 1) := by decide +kernel
theorem dL_draw_8 : decode cL_draw 8 = .ok (.ldc2_w 16, 3) := by decide +kernel
theorem dL_draw_11 : decode cL_draw 11 = .ok (.lreturn, 1) := by decide +kernel
set_option maxRecDepth 20000 in
theorem ggL_spread_X5_spread : GoodIn wsL_spread wsX5_spread := goodIn_ca (goodIn_r _ [7, 8, 9, 10, 11, 12, 13, 14, 15, 16, 17, 18, 19, 20, 21, 22, 23, 24, 25, 26, 27, 28, 29, 30, 31, 32, 33, 34, 35, 36, 37, 38, 39, 40, 41, 42, 43, 44, 45, 46, 47, 48, 49, 50, 51, 52, 6, 53, 54, 55, 56, 57, 58, 59, 60, 61, 62, 63, 64, 65, 66, 67, 68, 69, 70, 71, 72, 73, 74, 75, 76, 77, 78, 79, 80, 81, 82, 83, 84, 85, 86, 87] (by decide +kernel) (by decide +kernel)) (goodIn_sub (fun _ h => List.mem_cons_of_mem _ (List.mem_append_right _ h)) (by decide +kernel))
set_option maxRecDepth 20000 in
theorem gL_spread_X5_spread : GoodIn wsL_spread (wsV RL 26 RX5 yX5_spread wsX5_spread) := goodIn_app (goodIn_of _ (by decide +kernel)) ggL_spread_X5_spread
theorem dL_spread_0 : decode cL_spread 0 = .ok (.aload_n 0, 1) := by decide +kernel
theorem dL_spread_1 : decode cL_spread 1 = .ok (.iload_n 1, 1) := by decide +kernel
theorem dL_spread_2 : decode cL_spread 2 = .ok (.invokevirtual 26, 3) := by decide +kernel
theorem dL_spread_5 : decode cL_spread 5 = .ok (.lconst 0, 1) := by decide +kernel
theorem dL_spread_6 : decode cL_spread 6 = .ok (.lreturn, 1) := by decide +kernel
theorem dL_spread_7 : decode cL_spread 7 = .ok (.astore_n 2, 1) := by decide +kernel
theorem dL_spread_8 : decode cL_spread 8 = .ok (.ldc2_w 16, 3) := by decide +kernel
theorem dL_spread_11 : decode cL_spread 11 = .ok (.lreturn, 1) := by decide +kernel
set_option maxRecDepth 20000 in
theorem ggL_drive_X5_drive : GoodIn wsL_drive wsX5_drive := goodIn_ca (goodIn_ca (goodIn_r _ [8, 9, 10, 11, 12, 7, 13, 14, 15, 16, 17, 18, 19, 20, 21, 22, 23, 24, 25, 26, 27, 28, 29, 30, 31, 32, 33, 34, 35, 36, 37, 38, 39, 40, 41, 42, 43, 44, 45, 46, 47, 48, 49, 50, 51, 52, 53, 54, 55, 56, 57, 58, 59, 60, 61, 62, 63, 64, 65, 66, 67, 68, 69, 70, 71, 72, 73, 74, 75, 76, 77, 78, 79, 80, 81, 82, 83, 84, 85, 86, 87, 88, 89, 90, 91, 92, 93, 94, 95, 96, 97, 98, 99, 100, 101, 102, 103, 104, 105, 106, 107, 108, 109, 110, 111, 112, 113, 114, 115, 116, 117, 118, 119, 120, 121, 122, 123, 124, 125, 126, 127, 128, 129, 130, 131, 132, 133, 134, 135, 136, 137, 138, 139, 140, 141, 142, 143, 144, 145, 146, 147, 148, 149, 150, 151, 152, 153, 154, 155, 156, 157, 158, 159, 160] (by decide +kernel) (by decide +kernel)) (goodIn_sub (fun _ h => List.mem_cons_of_mem _ (List.mem_append_left _ (List.mem_append_right _ h))) (by decide +kernel))) (goodIn_sub (fun _ h => List.mem_cons_of_mem _ (List.mem_append_right _ h)) (by decide +kernel))
set_option maxRecDepth 20000 in
theorem gL_drive_X5_drive : GoodIn wsL_drive (wsV RL 30 RX5 yX5_drive wsX5_drive) := goodIn_app (goodIn_of _ (by decide +kernel)) ggL_drive_X5_drive
theorem dL_drive_0 : decode cL_drive 0 = .ok (.aload_n 0, 1) := by decide +kernel
theorem dL_drive_1 : decode cL_drive 1 = .ok (.iload_n 1, 1) := by decide +kernel
theorem dL_drive_2 : decode cL_drive 2 = .ok (.invokevirtual 30, 3) := by decide +kernel
theorem dL_drive_5 : decode cL_drive 5 = .ok (.lconst 0, 1) := by decide +kernel
theorem dL_drive_6 : decode cL_drive 6 = .ok (.lreturn, 1) := by decide +kernel
theorem dL_drive_7 : decode cL_drive 7 = .ok (.astore_n 2, 1) := by decide +kernel
theorem dL_drive_8 : decode cL_drive 8 = .ok (.ldc2_w 16, 3) := by decide +kernel
theorem dL_drive_11 : decode cL_drive 11 = .ok (.lreturn, 1) := by decide +kernel
theorem dL_drive_12 : decode cL_drive 12 = .ok (.astore_n 2, 1) := by decide +kernel
theorem dL_drive_13 : decode cL_drive 13 = .ok (.ldc2_w 16, 3) := by decide +kernel
theorem dL_drive_16 : decode cL_drive 16 = .ok (.lreturn, 1) := by decide +kernel
set_option maxRecDepth 20000 in
theorem ggL_read_X5_read : GoodIn wsL_read wsX5_read := goodIn_ca (goodIn_ca (goodIn_ca (goodIn_r _ [9, 10, 11, 12, 13, 14, 15, 8, 16, 17, 18, 19, 20, 21, 22, 23, 24, 25, 26, 27, 28, 29, 30, 31, 32, 33, 34, 35, 36, 37, 38, 39, 40, 41, 42, 43, 44, 45, 46, 47, 48, 49, 50, 51, 52, 53, 54, 55, 56, 57, 58, 59, 60, 61, 62, 63, 64, 65, 66, 67, 68, 69, 70, 71, 72, 73, 74, 75, 76, 77, 78, 79, 80, 81, 82, 83, 84, 85, 86, 87, 88, 89, 90, 91, 92, 93, 94, 95, 96, 97, 98, 99, 100, 101, 102, 103, 104, 105, 106, 107, 108, 109, 110, 111, 112, 113, 114, 115, 116, 117, 118, 119, 120, 121, 122, 123, 124, 125, 126, 127, 128, 129, 130, 131, 132, 133, 134, 135, 136, 137, 138, 139, 140, 141, 142, 143, 144, 145, 146, 147, 148, 149, 150, 151, 152, 153, 154, 155, 156, 157, 158, 159, 160, 161, 162, 163, 164, 165, 166, 167, 168, 169, 170, 171, 172, 173, 174, 175, 176, 177, 178, 179, 180, 181, 182, 183, 184, 185, 186, 187, 188, 189, 190, 191, 192, 193] (by decide +kernel) (by decide +kernel)) (goodIn_sub (fun _ h => List.mem_cons_of_mem _ (List.mem_append_left _ (List.mem_append_left _ (List.mem_append_right _ h)))) (by decide +kernel))) (goodIn_sub (fun _ h => List.mem_cons_of_mem _ (List.mem_append_left _ (List.mem_append_right _ h))) (by decide +kernel))) (goodIn_sub (fun _ h => List.mem_cons_of_mem _ (List.mem_append_right _ h)) (by decide +kernel))
set_option maxRecDepth 20000 in
theorem gL_read_X5_read : GoodIn wsL_read (wsV RL 33 RX5 yX5_read wsX5_read) := goodIn_app (goodIn_of _ (by decide +kernel)) ggL_read_X5_read
theorem dL_read_0 : decode cL_read 0 = .ok (.aload_n 0, 1) := by decide +kernel
theorem dL_read_1 : decode cL_read 1 = .ok (.iload_n 1, 1) := by decide +kernel
theorem dL_read_2 : decode cL_read 2 = .ok (.iload_n 2, 1) := by decide +kernel
theorem dL_read_3 : decode cL_read 3 = .ok (.invokevirtual 33, 3) := by decide +kernel
theorem dL_read_6 : decode cL_read 6 = .ok (.i2l, 1) := by decide +kernel
theorem dL_read_7 : decode cL_read 7 = .ok (.lreturn, 1) := by decide +kernel
theorem dL_read_8 : decode cL_read 8 = .ok (.astore_n 3, 1) := by decide +kernel
theorem dL_read_9 : decode cL_read 9 = .ok (.ldc2_w 16, 3) := by decide +kernel
theorem dL_read_12 : decode cL_read 12 = .ok (.lreturn, 1) := by decide +kernel
theorem dL_read_13 : decode cL_read 13 = .ok (.astore_n 3, 1) := by decide +kernel
theorem dL_read_14 : decode cL_read 14 = .ok (.ldc2_w 16, 3) := by decide +kernel
theorem dL_read_17 : decode cL_read 17 = .ok (.lreturn, 1) := by decide +kernel
theorem dL_read_18 : decode cL_read 18 = .ok (.astore_n 3, 1) := by decide +kernel
theorem dL_read_19 : decode cL_read 19 = .ok (.ldc2_w 16, 3) := by decide +kernel
theorem dL_read_22 : decode cL_read 22 = .ok (.lreturn, 1) := by decide +kernel
set_option maxRecDepth 20000 in
theorem ggL_toRead_X5_toRead : GoodIn wsL_toRead wsX5_toRead := goodIn_ca (goodIn_r _ [7, 8, 9, 10, 6, 11, 12, 13, 14, 15, 16, 17, 18, 19, 20, 21, 22, 23, 24, 25, 26, 27, 28, 29, 30, 31, 32, 33, 34, 35, 36, 37, 38, 39, 40, 41, 42, 43, 44, 45] (by decide +kernel) (by decide +kernel)) (goodIn_sub (fun _ h => List.mem_cons_of_mem _ (List.mem_append_right _ h)) (by decide +kernel))
set_option maxRecDepth 20000 in
theorem gL_toRead_X5_toRead : GoodIn wsL_toRead (wsV RL 37 RX5 yX5_toRead wsX5_toRead) := goodIn_app (goodIn_of _ (by decide +kernel)) ggL_toRead_X5_toRead
theorem dL_toRead_0 : decode cL_toRead 0 = .ok (.aload_n 0, 1) := by decide +kernel
theorem dL_toRead_1 : decode cL_toRead 1 = .ok (.iload_n 1, 1) := by decide +kernel
theorem dL_toRead_2 : decode cL_toRead 2 = .ok (.iload_n 2, 1) := by decide +kernel
theorem dL_toRead_3 : decode cL_toRead 3 = .ok (.iload_n 3, 1) := by decide +kernel
theorem dL_toRead_4 : decode cL_toRead 4 = .ok (.invokevirtual 37, 3) := by decide +kernel
theorem dL_toRead_7 : decode cL_toRead 7 = .ok (.i2l, 1) := by decide +kernel
theorem dL_toRead_8 : decode cL_toRead 8 = .ok (.lreturn, 1) := by decide +kernel
theorem dL_toRead_9 : decode cL_toRead 9 = .ok (.astore 4, 2) := by decide +kernel
theorem dL_toRead_11 : decode cL_toRead 11 = .ok (.ldc2_w 16, 3) := by decide +kernel
theorem dL_toRead_14 : decode cL_toRead 14 = .ok (.lreturn, 1) := by decide +kernel
set_option maxRecDepth 20000 in
theorem ggL_samples_X5_samples : GoodIn wsL_samples wsX5_samples := goodIn_ca (goodIn_r _ [7, 8, 9, 10, 11, 6, 12, 13, 14, 15, 16, 17, 18, 19, 20, 21, 22, 23, 24, 25, 26, 27, 28, 29, 30, 31, 32, 33, 34, 35, 36, 37, 38, 39, 40, 41] (by decide +kernel) (by decide +kernel)) (goodIn_sub (fun _ h => List.mem_cons_of_mem _ (List.mem_append_right _ h)) (by decide +kernel))
set_option maxRecDepth 20000 in
theorem gL_samples_X5_samples : GoodIn wsL_samples (wsV RL 41 RX5 yX5_samples wsX5_samples) := goodIn_app (goodIn_of _ (by decide +kernel)) ggL_samples_X5_samples
theorem dL_samples_0 : decode cL_samples 0 = .ok (.aload_n 0, 1) := by decide +kernel
theorem dL_samples_1 : decode cL_samples 1 = .ok (.invokevirtual 41, 3) := by decide +kernel
theorem dL_samples_4 : decode cL_samples 4 = .ok (.i2l, 1) := by decide +kernel
theorem dL_samples_5 : decode cL_samples 5 = .ok (.lreturn, 1) := by decide +kernel
theorem dL_samples_6 : decode cL_samples 6 = .ok (.astore_n 1, 1) := by decide +kernel
theorem dL_samples_7 : decode cL_samples 7 = .ok (.ldc2_w 16, 3) := by decide +kernel
theorem dL_samples_10 : decode cL_samples 10 = .ok (.lreturn, 1) := by decide +kernel
set_option maxRecDepth 20000 in
theorem ggL_sample_X5_sample : GoodIn wsL_sample wsX5_sample := goodIn_ca (goodIn_r _ [7, 8, 9, 10, 11, 12, 13, 14, 15, 16, 17, 18, 19, 20, 21, 22, 23, 24, 25, 26, 27, 28, 29, 30, 31, 32, 33, 34, 35, 36, 37, 38, 39, 40, 41] (by decide +kernel) (by decide +kernel)) (goodIn_sub (fun _ h => List.mem_cons_of_mem _ (List.mem_append_right _ h)) (by decide +kernel))
set_option maxRecDepth 20000 in
theorem gL_sample_X5_sample : GoodIn wsL_sample (wsV RL 45 RX5 yX5_sample wsX5_sample) := goodIn_app (goodIn_of _ (by decide +kernel)) ggL_sample_X5_sample
theorem dL_sample_0 : decode cL_sample 0 = .ok (.aload_n 0, 1) := by decide +kernel
theorem dL_sample_1 : decode cL_sample 1 = .ok (.iload_n 1, 1) := by decide +kernel
theorem dL_sample_2 : decode cL_sample 2 = .ok (.invokevirtual 45, 3) := by decide +kernel
theorem dL_sample_5 : decode cL_sample 5 = .ok (.i2l, 1) := by decide +kernel
theorem dL_sample_6 : decode cL_sample 6 = .ok (.lreturn, 1) := by decide +kernel
theorem dL_sample_7 : decode cL_sample 7 = .ok (.astore_n 2, 1) := by decide +kernel
theorem dL_sample_8 : decode cL_sample 8 = .ok (.ldc2_w 16, 3) := by decide +kernel
theorem dL_sample_11 : decode cL_sample 11 = .ok (.lreturn, 1) := by decide +kernel
set_option maxRecDepth 20000 in
theorem ggL_belief_X5_belief : GoodIn wsL_belief wsX5_belief := goodIn_ca (goodIn_ca (goodIn_r _ [8, 9, 10, 11, 7, 12, 13, 14, 15, 16, 17, 18, 19, 20, 21, 22, 23, 24, 25, 26, 27, 28, 29, 30, 31, 32, 33, 34, 35, 36, 37, 38, 39, 40, 41, 42, 43, 44, 45, 46, 47, 48, 49, 50, 51, 52, 53, 54] (by decide +kernel) (by decide +kernel)) (goodIn_sub (fun _ h => List.mem_cons_of_mem _ (List.mem_append_left _ (List.mem_append_right _ h))) (by decide +kernel))) (goodIn_sub (fun _ h => List.mem_cons_of_mem _ (List.mem_append_right _ h)) (by decide +kernel))
set_option maxRecDepth 20000 in
theorem gL_belief_X5_belief : GoodIn wsL_belief (wsV RL 51 RX5 yX5_belief wsX5_belief) := goodIn_app (goodIn_of _ (by decide +kernel)) ggL_belief_X5_belief
theorem dL_belief_0 : decode cL_belief 0 = .ok (.aload_n 0, 1) := by decide +kernel
theorem dL_belief_1 : decode cL_belief 1 = .ok (.iload_n 1, 1) := by decide +kernel
theorem dL_belief_2 : decode cL_belief 2 = .ok (.iload_n 2, 1) := by decide +kernel
theorem dL_belief_3 : decode cL_belief 3 = .ok (.invokevirtual 51, 3) := by decide +kernel
theorem dL_belief_6 : decode cL_belief 6 = .ok (.lreturn, 1) := by decide +kernel
theorem dL_belief_7 : decode cL_belief 7 = .ok (.astore_n 3, 1) := by decide +kernel
theorem dL_belief_8 : decode cL_belief 8 = .ok (.ldc2_w 16, 3) := by decide +kernel
theorem dL_belief_11 : decode cL_belief 11 = .ok (.lreturn, 1) := by decide +kernel
theorem dL_belief_12 : decode cL_belief 12 = .ok (.astore_n 3, 1) := by decide +kernel
theorem dL_belief_13 : decode cL_belief 13 = .ok (.ldc2_w 16, 3) := by decide +kernel
theorem dL_belief_16 : decode cL_belief 16 = .ok (.lreturn, 1) := by decide +kernel
set_option maxRecDepth 20000 in
theorem ggL_mode_X5_mode : GoodIn wsL_mode wsX5_mode := goodIn_ca (goodIn_r _ [7, 8, 9, 10, 6, 11, 12, 13, 14, 15, 16, 17, 18, 19, 20, 21, 22, 23, 24, 25, 26, 27, 28, 29, 30, 31, 32, 33, 34, 35, 36, 37, 38, 39, 40, 41, 42, 43, 44, 45, 46, 47, 48, 49, 50, 51, 52, 53, 54, 55, 56, 57, 58, 59, 60, 61, 62, 63, 64, 65, 66, 67, 68, 69, 70, 71, 72, 73, 74, 75, 76, 77, 78, 79, 80, 81, 82] (by decide +kernel) (by decide +kernel)) (goodIn_sub (fun _ h => List.mem_cons_of_mem _ (List.mem_append_right _ h)) (by decide +kernel))
set_option maxRecDepth 20000 in
theorem gL_mode_X5_mode : GoodIn wsL_mode (wsV RL 58 RX5 yX5_mode wsX5_mode) := goodIn_app (goodIn_of _ (by decide +kernel)) ggL_mode_X5_mode
theorem dL_mode_0 : decode cL_mode 0 = .ok (.aload_n 0, 1) := by decide +kernel
theorem dL_mode_1 : decode cL_mode 1 = .ok (.iload_n 1, 1) := by decide +kernel
theorem dL_mode_2 : decode cL_mode 2 = .ok (.invokevirtual 58, 3) := by decide +kernel
theorem dL_mode_5 : decode cL_mode 5 = .ok (.i2l, 1) := by decide +kernel
theorem dL_mode_6 : decode cL_mode 6 = .ok (.lreturn, 1) := by decide +kernel
theorem dL_mode_7 : decode cL_mode 7 = .ok (.astore_n 2, 1) := by decide +kernel
theorem dL_mode_8 : decode cL_mode 8 = .ok (.ldc2_w 16, 3) := by decide +kernel
theorem dL_mode_11 : decode cL_mode 11 = .ok (.lreturn, 1) := by decide +kernel
set_option maxRecDepth 20000 in
theorem ggL_mean_X5_mean : GoodIn wsL_mean wsX5_mean := goodIn_ca (goodIn_r _ [7, 8, 9, 10, 11, 6, 12, 13, 14, 15, 16, 17, 18, 19, 20, 21, 22, 23, 24, 25, 26, 27, 28, 29, 30, 31, 32, 33, 34, 35, 36, 37, 38, 39, 40, 41, 42, 43, 44, 45, 46, 47, 48, 49, 50, 51, 52, 53, 54, 55, 56, 57, 58, 59, 60, 61, 62, 63, 64, 65, 66, 67, 68, 69, 70, 71, 72, 73, 74, 75, 76, 77, 78, 79, 80, 81, 82, 83, 84, 85, 86] (by decide +kernel) (by decide +kernel)) (goodIn_sub (fun _ h => List.mem_cons_of_mem _ (List.mem_append_right _ h)) (by decide +kernel))
set_option maxRecDepth 20000 in
theorem gL_mean_X5_mean : GoodIn wsL_mean (wsV RL 62 RX5 yX5_mean wsX5_mean) := goodIn_app (goodIn_of _ (by decide +kernel)) ggL_mean_X5_mean
theorem dL_mean_0 : decode cL_mean 0 = .ok (.aload_n 0, 1) := by decide +kernel
theorem dL_mean_1 : decode cL_mean 1 = .ok (.iload_n 1, 1) := by decide +kernel
theorem dL_mean_2 : decode cL_mean 2 = .ok (.iload_n 2, 1) := by decide +kernel
theorem dL_mean_3 : decode cL_mean 3 = .ok (.invokevirtual 62, 3) := by decide +kernel
theorem dL_mean_6 : decode cL_mean 6 = .ok (.i2l, 1) := by decide +kernel
theorem dL_mean_7 : decode cL_mean 7 = .ok (.lreturn, 1) := by decide +kernel
theorem dL_mean_8 : decode cL_mean 8 = .ok (.astore_n 3, 1) := by decide +kernel
theorem dL_mean_9 : decode cL_mean 9 = .ok (.ldc2_w 16, 3) := by decide +kernel
theorem dL_mean_12 : decode cL_mean 12 = .ok (.lreturn, 1) := by decide +kernel
set_option maxRecDepth 20000 in
theorem ggL_share_X5_share : GoodIn wsL_share wsX5_share := goodIn_ca (goodIn_ca (goodIn_ca (goodIn_r _ [9, 10, 11, 12, 13, 14, 8, 15, 16, 17, 18, 19, 20, 21, 22, 23, 24, 25, 26, 27, 28, 29, 30, 31, 32, 33, 34, 35, 36, 37, 38, 39, 40, 41, 42, 43, 44, 45, 46, 47, 48, 49, 50, 51, 52, 53, 54, 55, 56, 57, 58, 59, 60, 61, 62, 63, 64, 65, 66, 67, 68, 69, 70, 71, 72, 73, 74, 75, 76, 77, 78, 79, 80, 81, 82, 83, 84, 85, 86, 87, 88, 89, 90, 91, 92, 93, 94, 95] (by decide +kernel) (by decide +kernel)) (goodIn_sub (fun _ h => List.mem_cons_of_mem _ (List.mem_append_left _ (List.mem_append_left _ (List.mem_append_right _ h)))) (by decide +kernel))) (goodIn_sub (fun _ h => List.mem_cons_of_mem _ (List.mem_append_left _ (List.mem_append_right _ h))) (by decide +kernel))) (goodIn_sub (fun _ h => List.mem_cons_of_mem _ (List.mem_append_right _ h)) (by decide +kernel))
set_option maxRecDepth 20000 in
theorem gL_share_X5_share : GoodIn wsL_share (wsV RL 66 RX5 yX5_share wsX5_share) := goodIn_app (goodIn_of _ (by decide +kernel)) ggL_share_X5_share
theorem dL_share_0 : decode cL_share 0 = .ok (.aload_n 0, 1) := by decide +kernel
theorem dL_share_1 : decode cL_share 1 = .ok (.iload_n 1, 1) := by decide +kernel
theorem dL_share_2 : decode cL_share 2 = .ok (.iload_n 2, 1) := by decide +kernel
theorem dL_share_3 : decode cL_share 3 = .ok (.iload_n 3, 1) := by decide +kernel
theorem dL_share_4 : decode cL_share 4 = .ok (.iload 4, 2) := by decide +kernel
theorem dL_share_6 : decode cL_share 6 = .ok (.iload 5, 2) := by decide +kernel
theorem dL_share_8 : decode cL_share 8 = .ok (.invokevirtual 66, 3) := by decide +kernel
theorem dL_share_11 : decode cL_share 11 = .ok (.i2l, 1) := by decide +kernel
theorem dL_share_12 : decode cL_share 12 = .ok (.lreturn, 1) := by decide +kernel
theorem dL_share_13 : decode cL_share 13 = .ok (.astore 6, 2) := by decide +kernel
theorem dL_share_15 : decode cL_share 15 = .ok (.ldc2_w 16, 3) := by decide +kernel
theorem dL_share_18 : decode cL_share 18 = .ok (.lreturn, 1) := by decide +kernel
theorem dL_share_19 : decode cL_share 19 = .ok (.astore 6, 2) := by decide +kernel
theorem dL_share_21 : decode cL_share 21 = .ok (.ldc2_w 16, 3) := by decide +kernel
theorem dL_share_24 : decode cL_share 24 = .ok (.lreturn, 1) := by decide +kernel
theorem dL_share_25 : decode cL_share 25 = .ok (.astore 6, 2) := by decide +kernel
theorem dL_share_27 : decode cL_share 27 = .ok (.ldc2_w 16, 3) := by decide +kernel
theorem dL_share_30 : decode cL_share 30 = .ok (.lreturn, 1) := by decide +kernel
set_option maxRecDepth 20000 in
theorem ggL_best_X5_best : GoodIn wsL_best wsX5_best := goodIn_ca (goodIn_ca (goodIn_r _ [8, 9, 10, 11, 12, 13, 14, 7, 15, 16, 17, 18, 19, 20, 21, 22, 23, 24, 25, 26, 27, 28, 29, 30, 31, 32, 33, 34, 35, 36, 37, 38, 39, 40, 41, 42, 43, 44, 45, 46, 47, 48, 49, 50, 51, 52, 53] (by decide +kernel) (by decide +kernel)) (goodIn_sub (fun _ h => List.mem_cons_of_mem _ (List.mem_append_left _ (List.mem_append_right _ h))) (by decide +kernel))) (goodIn_sub (fun _ h => List.mem_cons_of_mem _ (List.mem_append_right _ h)) (by decide +kernel))
set_option maxRecDepth 20000 in
theorem gL_best_X5_best : GoodIn wsL_best (wsV RL 70 RX5 yX5_best wsX5_best) := goodIn_app (goodIn_of _ (by decide +kernel)) ggL_best_X5_best
theorem dL_best_0 : decode cL_best 0 = .ok (.aload_n 0, 1) := by decide +kernel
theorem dL_best_1 : decode cL_best 1 = .ok (.iload_n 1, 1) := by decide +kernel
theorem dL_best_2 : decode cL_best 2 = .ok (.invokevirtual 70, 3) := by decide +kernel
theorem dL_best_5 : decode cL_best 5 = .ok (.i2l, 1) := by decide +kernel
theorem dL_best_6 : decode cL_best 6 = .ok (.lreturn, 1) := by decide +kernel
theorem dL_best_7 : decode cL_best 7 = .ok (.astore_n 2, 1) := by decide +kernel
theorem dL_best_8 : decode cL_best 8 = .ok (.ldc2_w 16, 3) := by decide +kernel
theorem dL_best_11 : decode cL_best 11 = .ok (.lreturn, 1) := by decide +kernel
theorem dL_best_12 : decode cL_best 12 = .ok (.astore_n 2, 1) := by decide +kernel
theorem dL_best_13 : decode cL_best 13 = .ok (.ldc2_w 16, 3) := by decide +kernel
theorem dL_best_16 : decode cL_best 16 = .ok (.lreturn, 1) := by decide +kernel
set_option maxRecDepth 20000 in
theorem ggL_doubt_X5_doubt : GoodIn wsL_doubt wsX5_doubt := goodIn_ca (goodIn_r _ [7, 8, 9, 10, 11, 6, 12, 13, 14, 15, 16, 17, 18, 19, 20, 21, 22, 23, 24, 25, 26, 27, 28, 29, 30, 31, 32, 33, 34, 35, 36, 37, 38, 39, 40, 41] (by decide +kernel) (by decide +kernel)) (goodIn_sub (fun _ h => List.mem_cons_of_mem _ (List.mem_append_right _ h)) (by decide +kernel))
set_option maxRecDepth 20000 in
theorem gL_doubt_X5_doubt : GoodIn wsL_doubt (wsV RL 73 RX5 yX5_doubt wsX5_doubt) := goodIn_app (goodIn_of _ (by decide +kernel)) ggL_doubt_X5_doubt
theorem dL_doubt_0 : decode cL_doubt 0 = .ok (.aload_n 0, 1) := by decide +kernel
theorem dL_doubt_1 : decode cL_doubt 1 = .ok (.invokevirtual 73, 3) := by decide +kernel
theorem dL_doubt_4 : decode cL_doubt 4 = .ok (.i2l, 1) := by decide +kernel
theorem dL_doubt_5 : decode cL_doubt 5 = .ok (.lreturn, 1) := by decide +kernel
theorem dL_doubt_6 : decode cL_doubt 6 = .ok (.astore_n 1, 1) := by decide +kernel
theorem dL_doubt_7 : decode cL_doubt 7 = .ok (.ldc2_w 16, 3) := by decide +kernel
theorem dL_doubt_10 : decode cL_doubt 10 = .ok (.lreturn, 1) := by decide +kernel
set_option maxRecDepth 20000 in
theorem ggL_act_L_low : GoodIn wsL_act wsL_low := goodIn_r _ [5, 6] (by decide +kernel) (by decide +kernel)
set_option maxRecDepth 20000 in
theorem gL_act_L_low : GoodIn wsL_act (va_wsS RL 76 yL_low wsL_low) := goodIn_app (goodIn_of _ (by decide +kernel)) ggL_act_L_low
set_option maxRecDepth 20000 in
theorem ggL_act_L_wall : GoodIn wsL_act wsL_wall := goodIn_ca (goodIn_ca (goodIn_r _ [9, 10, 11, 12, 13, 14, 15, 16, 17, 18, 19, 20, 21, 22, 23, 24, 25, 26, 27, 28, 29, 30, 31, 32, 33, 34, 35, 36, 37, 38, 39, 40, 41, 42, 43, 44, 45, 46, 47, 48, 49, 50, 51, 52, 53, 54, 55, 56, 57, 58, 59, 60, 61, 62, 63, 64, 65, 66, 388, 389, 390, 391, 392, 393, 394, 395, 396, 397, 398, 399] (by decide +kernel) (by decide +kernel)) (goodIn_sub (fun _ h => List.mem_cons_of_mem _ (List.mem_append_left _ (List.mem_append_left _ (List.mem_append_right _ h)))) (by decide +kernel))) (goodIn_sub (fun _ h => List.mem_cons_of_mem _ (List.mem_append_left _ (List.mem_append_right _ h))) (by decide +kernel))
set_option maxRecDepth 20000 in
theorem gL_act_L_wall : GoodIn wsL_act (va_wsS RL 81 yL_wall wsL_wall) := goodIn_app (goodIn_of _ (by decide +kernel)) ggL_act_L_wall
set_option maxRecDepth 20000 in
theorem ggL_act_L_draw : GoodIn wsL_act wsL_draw := goodIn_ca (goodIn_r _ [69, 70, 12, 71, 72, 73, 16, 74, 75, 76, 77, 78, 79, 80, 81, 82, 83, 84, 388, 389, 390, 391, 392, 393, 394, 395, 396, 400] (by decide +kernel) (by decide +kernel)) (goodIn_sub (fun _ h => List.mem_cons_of_mem _ (List.mem_append_right _ h)) (by decide +kernel))
set_option maxRecDepth 20000 in
theorem gL_act_L_draw : GoodIn wsL_act (va_wsS RL 85 yL_draw wsL_draw) := goodIn_app (goodIn_of _ (by decide +kernel)) ggL_act_L_draw
set_option maxRecDepth 20000 in
theorem ggL_act_L_spread : GoodIn wsL_act wsL_spread := goodIn_ca (goodIn_r _ [87, 70, 12, 88, 89, 90, 16, 91, 75, 76, 92, 93, 94, 21, 95, 96, 97, 98, 99, 100, 101, 102, 103, 104, 105, 106, 107, 108, 109, 110, 36, 111, 45, 38, 112, 113, 114, 82, 115, 84, 116, 117, 118, 119, 120, 121, 122, 123, 124, 34, 35, 37, 39, 40, 125, 126, 127, 128, 129, 130, 388, 389, 390, 391, 392, 393, 394, 395, 396, 401, 402, 403, 404, 405, 406, 407, 408, 409, 410, 411, 397, 398, 399, 400, 412, 413, 414, 415] (by decide +kernel) (by decide +kernel)) (goodIn_sub (fun _ h => List.mem_cons_of_mem _ (List.mem_append_right _ h)) (by decide +kernel))
set_option maxRecDepth 20000 in
theorem gL_act_L_spread : GoodIn wsL_act (va_wsS RL 88 yL_spread wsL_spread) := goodIn_app (goodIn_of _ (by decide +kernel)) ggL_act_L_spread
set_option maxRecDepth 20000 in
theorem ggL_act_L_drive : GoodIn wsL_act wsL_drive := goodIn_ca (goodIn_ca (goodIn_r _ [133, 10, 11, 12, 134, 135, 136, 16, 137, 92, 93, 138, 139, 140, 25, 26, 141, 64, 65, 142, 143, 144, 145, 18, 19, 21, 94, 146, 147, 148, 98, 149, 100, 101, 102, 150, 151, 152, 153, 103, 154, 113, 114, 82, 115, 84, 116, 155, 156, 157, 36, 158, 159, 160, 161, 162, 163, 164, 165, 166, 54, 39, 40, 59, 60, 61, 62, 63, 28, 29, 31, 32, 167, 168, 169, 120, 170, 171, 122, 123, 172, 173, 174, 175, 176, 128, 177, 130, 178, 179, 180, 181, 182, 183, 184, 185, 124, 34, 35, 37, 38, 186, 187, 188, 189, 190, 191, 192, 193, 194, 195, 196, 197, 198, 199, 200, 201, 202, 203, 204, 205, 206, 207, 208, 209, 210, 211, 212, 213, 214, 215, 216, 217, 388, 389, 390, 391, 392, 393, 394, 395, 396, 401, 402, 403, 404, 405, 406, 407, 408, 409, 410, 411, 400, 397, 398, 399, 412, 413, 414, 415] (by decide +kernel) (by decide +kernel)) (goodIn_sub (fun _ h => List.mem_cons_of_mem _ (List.mem_append_left _ (List.mem_append_right _ h))) (by decide +kernel))) (goodIn_sub (fun _ h => List.mem_cons_of_mem _ (List.mem_append_left _ (List.mem_append_left _ (List.mem_append_right _ h)))) (by decide +kernel))
set_option maxRecDepth 20000 in
theorem gL_act_L_drive : GoodIn wsL_act (va_wsS RL 90 yL_drive wsL_drive) := goodIn_app (goodIn_of _ (by decide +kernel)) ggL_act_L_drive
set_option maxRecDepth 20000 in
theorem ggL_act_L_read : GoodIn wsL_act wsL_read := goodIn_ca (goodIn_ca (goodIn_ca (goodIn_r _ [220, 10, 70, 11, 12, 221, 222, 223, 16, 224, 75, 76, 92, 93, 138, 139, 140, 25, 26, 141, 64, 65, 142, 143, 144, 145, 18, 19, 21, 94, 225, 226, 227, 98, 228, 100, 229, 102, 101, 230, 231, 232, 36, 233, 234, 235, 161, 236, 163, 164, 165, 166, 54, 39, 40, 237, 238, 239, 240, 241, 242, 104, 105, 106, 243, 244, 245, 107, 246, 247, 248, 249, 250, 160, 162, 251, 252, 253, 254, 255, 256, 183, 184, 128, 185, 130, 257, 191, 192, 193, 258, 187, 188, 189, 259, 260, 261, 262, 263, 264, 179, 180, 181, 103, 154, 113, 114, 82, 115, 84, 116, 108, 109, 110, 111, 45, 38, 112, 265, 266, 267, 268, 269, 270, 271, 120, 272, 122, 123, 186, 273, 125, 126, 127, 129, 200, 201, 202, 203, 204, 205, 206, 274, 118, 119, 121, 124, 34, 35, 37, 195, 196, 197, 198, 199, 207, 208, 209, 210, 211, 212, 213, 214, 215, 216, 217, 388, 389, 390, 391, 392, 393, 394, 395, 396, 401, 402, 403, 404, 405, 406, 407, 408, 409, 410, 411, 397, 398, 399, 415, 400, 412, 413, 414] (by decide +kernel) (by decide +kernel)) (goodIn_sub (fun _ h => List.mem_cons_of_mem _ (List.mem_append_right _ h)) (by decide +kernel))) (goodIn_sub (fun _ h => List.mem_cons_of_mem _ (List.mem_append_left _ (List.mem_append_right _ h))) (by decide +kernel))) (goodIn_sub (fun _ h => List.mem_cons_of_mem _ (List.mem_append_left _ (List.mem_append_left _ (List.mem_append_right _ h)))) (by decide +kernel))
set_option maxRecDepth 20000 in
theorem gL_act_L_read : GoodIn wsL_act (va_wsS RL 92 yL_read wsL_read) := goodIn_app (goodIn_of _ (by decide +kernel)) ggL_act_L_read
set_option maxRecDepth 20000 in
theorem ggL_act_L_toRead : GoodIn wsL_act wsL_toRead := goodIn_ca (goodIn_r _ [277, 10, 12, 278, 279, 280, 16, 281, 20, 22, 23, 24, 25, 26, 27, 28, 29, 138, 139, 140, 141, 64, 65, 30, 31, 32, 282, 164, 165, 36, 166, 54, 39, 40, 388, 389, 390, 391, 392, 393, 394, 395, 396, 397, 398, 399] (by decide +kernel) (by decide +kernel)) (goodIn_sub (fun _ h => List.mem_cons_of_mem _ (List.mem_append_left _ (List.mem_append_right _ h))) (by decide +kernel))
set_option maxRecDepth 20000 in
theorem gL_act_L_toRead : GoodIn wsL_act (va_wsS RL 95 yL_toRead wsL_toRead) := goodIn_app (goodIn_of _ (by decide +kernel)) ggL_act_L_toRead
set_option maxRecDepth 20000 in
theorem ggL_act_L_sample : GoodIn wsL_act wsL_sample := goodIn_ca (goodIn_r _ [285, 10, 12, 286, 287, 288, 16, 289, 25, 26, 92, 290, 291, 292, 98, 293, 100, 294, 295, 296, 297, 101, 388, 389, 390, 391, 392, 393, 394, 395, 396, 401, 402, 403, 404, 405, 406, 407, 408, 409, 410, 411] (by decide +kernel) (by decide +kernel)) (goodIn_sub (fun _ h => List.mem_cons_of_mem _ (List.mem_append_left _ (List.mem_append_right _ h))) (by decide +kernel))
set_option maxRecDepth 20000 in
theorem gL_act_L_sample : GoodIn wsL_act (va_wsS RL 98 yL_sample wsL_sample) := goodIn_app (goodIn_of _ (by decide +kernel)) ggL_act_L_sample
set_option maxRecDepth 20000 in
theorem ggL_act_L_mode : GoodIn wsL_act wsL_mode := goodIn_ca (goodIn_r _ [300, 11, 12, 301, 302, 303, 16, 304, 305, 306, 307, 308, 18, 19, 21, 309, 310, 311, 312, 92, 93, 313, 252, 253, 98, 254, 255, 100, 101, 256, 183, 184, 128, 185, 130, 257, 191, 192, 193, 39, 40, 314, 315, 316, 120, 317, 122, 318, 319, 320, 321, 322, 201, 202, 203, 204, 205, 161, 206, 388, 389, 390, 391, 392, 393, 394, 395, 396, 401, 402, 403, 404, 405, 406, 407, 408, 409, 410, 411, 415, 412, 413, 414] (by decide +kernel) (by decide +kernel)) (goodIn_sub (fun _ h => List.mem_cons_of_mem _ (List.mem_append_left _ (List.mem_append_left _ (List.mem_append_right _ h)))) (by decide +kernel))
set_option maxRecDepth 20000 in
theorem gL_act_L_mode : GoodIn wsL_act (va_wsS RL 100 yL_mode wsL_mode) := goodIn_app (goodIn_of _ (by decide +kernel)) ggL_act_L_mode
set_option maxRecDepth 20000 in
theorem ggL_act_L_mean : GoodIn wsL_act wsL_mean := goodIn_ca (goodIn_r _ [325, 11, 12, 326, 327, 328, 16, 329, 330, 305, 306, 307, 308, 18, 19, 21, 309, 310, 311, 312, 92, 93, 313, 252, 253, 98, 254, 255, 100, 101, 256, 183, 184, 128, 185, 130, 257, 191, 192, 193, 39, 40, 314, 315, 316, 120, 317, 122, 331, 332, 333, 334, 335, 336, 337, 338, 339, 340, 341, 342, 343, 237, 238, 388, 389, 390, 391, 392, 393, 394, 395, 396, 401, 402, 403, 404, 405, 406, 407, 408, 409, 410, 411, 415, 412, 413, 414] (by decide +kernel) (by decide +kernel)) (goodIn_sub (fun _ h => List.mem_cons_of_mem _ (List.mem_append_left _ (List.mem_append_left _ (List.mem_append_right _ h)))) (by decide +kernel))
set_option maxRecDepth 20000 in
theorem gL_act_L_mean : GoodIn wsL_act (va_wsS RL 103 yL_mean wsL_mean) := goodIn_app (goodIn_of _ (by decide +kernel)) ggL_act_L_mean
set_option maxRecDepth 20000 in
theorem ggL_act_L_share : GoodIn wsL_act wsL_share := goodIn_ca (goodIn_ca (goodIn_ca (goodIn_r _ [346, 10, 70, 11, 12, 347, 348, 349, 16, 350, 75, 76, 351, 22, 23, 24, 25, 26, 27, 28, 29, 305, 306, 307, 308, 18, 19, 21, 309, 310, 311, 312, 92, 93, 313, 252, 253, 98, 254, 255, 100, 101, 256, 183, 184, 128, 185, 130, 257, 191, 192, 193, 39, 40, 314, 315, 316, 120, 317, 122, 352, 340, 341, 342, 335, 336, 337, 338, 339, 343, 237, 238, 388, 389, 390, 391, 392, 393, 394, 395, 396, 401, 402, 403, 404, 405, 406, 407, 408, 409, 410, 411, 415, 412, 413, 414] (by decide +kernel) (by decide +kernel)) (goodIn_sub (fun _ h => List.mem_cons_of_mem _ (List.mem_append_right _ h)) (by decide +kernel))) (goodIn_sub (fun _ h => List.mem_cons_of_mem _ (List.mem_append_left _ (List.mem_append_right _ h))) (by decide +kernel))) (goodIn_sub (fun _ h => List.mem_cons_of_mem _ (List.mem_append_left _ (List.mem_append_left _ (List.mem_append_right _ h)))) (by decide +kernel))
set_option maxRecDepth 20000 in
theorem gL_act_L_share : GoodIn wsL_act (va_wsS RL 106 yL_share wsL_share) := goodIn_app (goodIn_of _ (by decide +kernel)) ggL_act_L_share
set_option maxRecDepth 20000 in
theorem ggL_act_L_best : GoodIn wsL_act wsL_best := goodIn_ca (goodIn_ca (goodIn_r _ [355, 10, 11, 12, 356, 357, 358, 16, 359, 25, 26, 93, 305, 306, 307, 308, 18, 19, 21, 314, 315, 316, 120, 317, 122, 360, 361, 362, 128, 363, 130, 364, 365, 366, 367, 368, 187, 188, 189, 39, 40, 388, 389, 390, 391, 392, 393, 394, 395, 396, 412, 413, 414, 415] (by decide +kernel) (by decide +kernel)) (goodIn_sub (fun _ h => List.mem_cons_of_mem _ (List.mem_append_left _ (List.mem_append_right _ h))) (by decide +kernel))) (goodIn_sub (fun _ h => List.mem_cons_of_mem _ (List.mem_append_left _ (List.mem_append_left _ (List.mem_append_right _ h)))) (by decide +kernel))
set_option maxRecDepth 20000 in
theorem gL_act_L_best : GoodIn wsL_act (va_wsS RL 109 yL_best wsL_best) := goodIn_app (goodIn_of _ (by decide +kernel)) ggL_act_L_best
set_option maxRecDepth 20000 in
theorem ggL_act_L_doubt : GoodIn wsL_act wsL_doubt := goodIn_ca (goodIn_r _ [371, 11, 12, 372, 373, 374, 16, 375, 92, 305, 306, 307, 308, 18, 19, 21, 376, 377, 378, 98, 379, 107, 388, 389, 390, 391, 392, 393, 394, 395, 396, 401, 402, 403, 404, 405, 406, 407, 408, 409, 410, 411] (by decide +kernel) (by decide +kernel)) (goodIn_sub (fun _ h => List.mem_cons_of_mem _ (List.mem_append_left _ (List.mem_append_left _ (List.mem_append_right _ h)))) (by decide +kernel))
set_option maxRecDepth 20000 in
theorem gL_act_L_doubt : GoodIn wsL_act (va_wsS RL 111 yL_doubt wsL_doubt) := goodIn_app (goodIn_of _ (by decide +kernel)) ggL_act_L_doubt
set_option maxRecDepth 20000 in
theorem ggL_act_L_belief : GoodIn wsL_act wsL_belief := goodIn_ca (goodIn_ca (goodIn_r _ [382, 10, 11, 12, 383, 384, 385, 16, 386, 93, 22, 23, 24, 25, 26, 27, 28, 29, 305, 306, 307, 308, 18, 19, 21, 314, 315, 316, 120, 317, 122, 30, 31, 32, 387, 187, 188, 128, 189, 130, 39, 40, 388, 389, 390, 391, 392, 393, 394, 395, 396, 412, 413, 414, 415] (by decide +kernel) (by decide +kernel)) (goodIn_sub (fun _ h => List.mem_cons_of_mem _ (List.mem_append_left _ (List.mem_append_right _ h))) (by decide +kernel))) (goodIn_sub (fun _ h => List.mem_cons_of_mem _ (List.mem_append_left _ (List.mem_append_left _ (List.mem_append_right _ h)))) (by decide +kernel))
set_option maxRecDepth 20000 in
theorem gL_act_L_belief : GoodIn wsL_act (va_wsS RL 114 yL_belief wsL_belief) := goodIn_app (goodIn_of _ (by decide +kernel)) ggL_act_L_belief
theorem dL_act_0 : decode cL_act 0 = .ok (.iload_n 1, 1) := by decide +kernel
theorem dL_act_1 : decode cL_act 1 = .ok (.bipush 26, 2) := by decide +kernel
theorem dL_act_3 : decode cL_act 3 = .ok (.ishr, 1) := by decide +kernel
theorem dL_act_4 : decode cL_act 4 = .ok (.bipush 14, 2) := by decide +kernel
theorem dL_act_6 : decode cL_act 6 = .ok (.invokestatic 76, 3) := by decide +kernel
theorem dL_act_9 : decode cL_act 9 = .ok (.ifCond .ne 7, 3) := by decide +kernel
theorem dL_act_12 : decode cL_act 12 = .ok (.iconst 1, 1) := by decide +kernel
theorem dL_act_13 : decode cL_act 13 = .ok (.goto 4, 3) := by decide +kernel
theorem dL_act_16 : decode cL_act 16 = .ok (.iconst 0, 1) := by decide +kernel
theorem dL_act_17 : decode cL_act 17 = .ok (.istore_n 3, 1) := by decide +kernel
theorem dL_act_18 : decode cL_act 18 = .ok (.iload_n 3, 1) := by decide +kernel
theorem dL_act_19 : decode cL_act 19 = .ok (.ifCond .eq 16, 3) := by decide +kernel
theorem dL_act_22 : decode cL_act 22 = .ok (.iload_n 1, 1) := by decide +kernel
theorem dL_act_23 : decode cL_act 23 = .ok (.iconst 5, 1) := by decide +kernel
theorem dL_act_24 : decode cL_act 24 = .ok (.ishr, 1) := by decide +kernel
theorem dL_act_25 : decode cL_act 25 = .ok (.bipush 11, 2) := by decide +kernel
theorem dL_act_27 : decode cL_act 27 = .ok (.invokestatic 76, 3) := by decide +kernel
theorem dL_act_30 : decode cL_act 30 = .ok (.iconst 1, 1) := by decide +kernel
theorem dL_act_31 : decode cL_act 31 = .ok (.isub, 1) := by decide +kernel
theorem dL_act_32 : decode cL_act 32 = .ok (.goto 11, 3) := by decide +kernel
theorem dL_act_35 : decode cL_act 35 = .ok (.iload_n 1, 1) := by decide +kernel
theorem dL_act_36 : decode cL_act 36 = .ok (.iconst 5, 1) := by decide +kernel
theorem dL_act_37 : decode cL_act 37 = .ok (.ishr, 1) := by decide +kernel
theorem dL_act_38 : decode cL_act 38 = .ok (.bipush 8, 2) := by decide +kernel
theorem dL_act_40 : decode cL_act 40 = .ok (.invokestatic 76, 3) := by decide +kernel
theorem dL_act_43 : decode cL_act 43 = .ok (.istore 4, 2) := by decide +kernel
theorem dL_act_45 : decode cL_act 45 = .ok (.iload_n 3, 1) := by decide +kernel
theorem dL_act_46 : decode cL_act 46 = .ok (.ifCond .eq 17, 3) := by decide +kernel
theorem dL_act_49 : decode cL_act 49 = .ok (.iload_n 1, 1) := by decide +kernel
theorem dL_act_50 : decode cL_act 50 = .ok (.bipush 8, 2) := by decide +kernel
theorem dL_act_52 : decode cL_act 52 = .ok (.ishr, 1) := by decide +kernel
theorem dL_act_53 : decode cL_act 53 = .ok (.bipush 11, 2) := by decide +kernel
theorem dL_act_55 : decode cL_act 55 = .ok (.invokestatic 76, 3) := by decide +kernel
theorem dL_act_58 : decode cL_act 58 = .ok (.iconst 1, 1) := by decide +kernel
theorem dL_act_59 : decode cL_act 59 = .ok (.isub, 1) := by decide +kernel
theorem dL_act_60 : decode cL_act 60 = .ok (.goto 12, 3) := by decide +kernel
theorem dL_act_63 : decode cL_act 63 = .ok (.iload_n 1, 1) := by decide +kernel
theorem dL_act_64 : decode cL_act 64 = .ok (.bipush 8, 2) := by decide +kernel
theorem dL_act_66 : decode cL_act 66 = .ok (.ishr, 1) := by decide +kernel
theorem dL_act_67 : decode cL_act 67 = .ok (.bipush 8, 2) := by decide +kernel
theorem dL_act_69 : decode cL_act 69 = .ok (.invokestatic 76, 3) := by decide +kernel
theorem dL_act_72 : decode cL_act 72 = .ok (.istore 5, 2) := by decide +kernel
theorem dL_act_74 : decode cL_act 74 = .ok (.iload_n 3, 1) := by decide +kernel
theorem dL_act_75 : decode cL_act 75 = .ok (.ifCond .eq 17, 3) := by decide +kernel
theorem dL_act_78 : decode cL_act 78 = .ok (.iload_n 1, 1) := by decide +kernel
theorem dL_act_79 : decode cL_act 79 = .ok (.bipush 11, 2) := by decide +kernel
theorem dL_act_81 : decode cL_act 81 = .ok (.ishr, 1) := by decide +kernel
theorem dL_act_82 : decode cL_act 82 = .ok (.bipush 7, 2) := by decide +kernel
theorem dL_act_84 : decode cL_act 84 = .ok (.invokestatic 76, 3) := by decide +kernel
theorem dL_act_87 : decode cL_act 87 = .ok (.iconst 1, 1) := by decide +kernel
theorem dL_act_88 : decode cL_act 88 = .ok (.isub, 1) := by decide +kernel
theorem dL_act_89 : decode cL_act 89 = .ok (.goto 11, 3) := by decide +kernel
theorem dL_act_92 : decode cL_act 92 = .ok (.iload_n 1, 1) := by decide +kernel
theorem dL_act_93 : decode cL_act 93 = .ok (.bipush 11, 2) := by decide +kernel
theorem dL_act_95 : decode cL_act 95 = .ok (.ishr, 1) := by decide +kernel
theorem dL_act_96 : decode cL_act 96 = .ok (.iconst 4, 1) := by decide +kernel
theorem dL_act_97 : decode cL_act 97 = .ok (.invokestatic 76, 3) := by decide +kernel
theorem dL_act_100 : decode cL_act 100 = .ok (.istore 6, 2) := by decide +kernel
theorem dL_act_102 : decode cL_act 102 = .ok (.iload_n 1, 1) := by decide +kernel
theorem dL_act_103 : decode cL_act 103 = .ok (.bipush 20, 2) := by decide +kernel
theorem dL_act_105 : decode cL_act 105 = .ok (.ishr, 1) := by decide +kernel
theorem dL_act_106 : decode cL_act 106 = .ok (.iconst 1, 1) := by decide +kernel
theorem dL_act_107 : decode cL_act 107 = .ok (.iand, 1) := by decide +kernel
theorem dL_act_108 : decode cL_act 108 = .ok (.iconst 1, 1) := by decide +kernel
theorem dL_act_109 : decode cL_act 109 = .ok (.if_icmp .ne 7, 3) := by decide +kernel
theorem dL_act_112 : decode cL_act 112 = .ok (.iconst 1, 1) := by decide +kernel
theorem dL_act_113 : decode cL_act 113 = .ok (.goto 4, 3) := by decide +kernel
theorem dL_act_116 : decode cL_act 116 = .ok (.iconst 0, 1) := by decide +kernel
theorem dL_act_117 : decode cL_act 117 = .ok (.istore 7, 2) := by decide +kernel
theorem dL_act_119 : decode cL_act 119 = .ok (.iload_n 2, 1) := by decide +kernel
theorem dL_act_120 : decode cL_act 120 = .ok (.bipush 12, 2) := by decide +kernel
theorem dL_act_122 : decode cL_act 122 = .ok (.if_icmp .ge 27, 3) := by decide +kernel
theorem dL_act_125 : decode cL_act 125 = .ok (.aload_n 0, 1) := by decide +kernel
theorem dL_act_126 : decode cL_act 126 = .ok (.iload 4, 2) := by decide +kernel
theorem dL_act_128 : decode cL_act 128 = .ok (.iload 5, 2) := by decide +kernel
theorem dL_act_130 : decode cL_act 130 = .ok (.iload_n 1, 1) := by decide +kernel
theorem dL_act_131 : decode cL_act 131 = .ok (.bipush 14, 2) := by decide +kernel
theorem dL_act_133 : decode cL_act 133 = .ok (.ishr, 1) := by decide +kernel
theorem dL_act_134 : decode cL_act 134 = .ok (.bipush 7, 2) := by decide +kernel
theorem dL_act_136 : decode cL_act 136 = .ok (.iand, 1) := by decide +kernel
theorem dL_act_137 : decode cL_act 137 = .ok (.ifCond .le 7, 3) := by decide +kernel
theorem dL_act_140 : decode cL_act 140 = .ok (.iconst 1, 1) := by decide +kernel
theorem dL_act_141 : decode cL_act 141 = .ok (.goto 4, 3) := by decide +kernel
theorem dL_act_144 : decode cL_act 144 = .ok (.iconst 0, 1) := by decide +kernel
theorem dL_act_145 : decode cL_act 145 = .ok (.invokestatic 81, 3) := by decide +kernel
theorem dL_act_148 : decode cL_act 148 = .ok (.lreturn, 1) := by decide +kernel
theorem dL_act_149 : decode cL_act 149 = .ok (.iload_n 1, 1) := by decide +kernel
theorem dL_act_150 : decode cL_act 150 = .ok (.bipush 24, 2) := by decide +kernel
theorem dL_act_152 : decode cL_act 152 = .ok (.invokestatic 76, 3) := by decide +kernel
theorem dL_act_155 : decode cL_act 155 = .ok (.tableswitch 341 0 22 #[105, 116, 140, 140, 168, 168, 168, 168, 168, 168, 175, 175, 175, 175, 175, 175, 202, 213, 238, 245, 267, 311, 336], 105) := by decide +kernel
theorem dL_act_260 : decode cL_act 260 = .ok (.aload_n 0, 1) := by decide +kernel
theorem dL_act_261 : decode cL_act 261 = .ok (.iload 4, 2) := by decide +kernel
theorem dL_act_263 : decode cL_act 263 = .ok (.iload 5, 2) := by decide +kernel
theorem dL_act_265 : decode cL_act 265 = .ok (.iload 7, 2) := by decide +kernel
theorem dL_act_267 : decode cL_act 267 = .ok (.invokestatic 81, 3) := by decide +kernel
end
section
theorem dL_act_270 : decode cL_act 270 = .ok (.lreturn, 1) := by decide +kernel
theorem dL_act_271 : decode cL_act 271 = .ok (.aload_n 0, 1) := by decide +kernel
theorem dL_act_272 : decode cL_act 272 = .ok (.iload_n 3, 1) := by decide +kernel
theorem dL_act_273 : decode cL_act 273 = .ok (.ifCond .eq 7, 3) := by decide +kernel
theorem dL_act_276 : decode cL_act 276 = .ok (.iload_n 1, 1) := by decide +kernel
theorem dL_act_277 : decode cL_act 277 = .ok (.goto 14, 3) := by decide +kernel
theorem dL_act_280 : decode cL_act 280 = .ok (.iconst 1, 1) := by decide +kernel
theorem dL_act_281 : decode cL_act 281 = .ok (.iload_n 1, 1) := by decide +kernel
theorem dL_act_282 : decode cL_act 282 = .ok (.bipush 6, 2) := by decide +kernel
theorem dL_act_284 : decode cL_act 284 = .ok (.ishr, 1) := by decide +kernel
theorem dL_act_285 : decode cL_act 285 = .ok (.ldc 84, 2) := by decide +kernel
theorem dL_act_287 : decode cL_act 287 = .ok (.invokestatic 76, 3) := by decide +kernel
theorem dL_act_290 : decode cL_act 290 = .ok (.iadd, 1) := by decide +kernel
theorem dL_act_291 : decode cL_act 291 = .ok (.invokestatic 85, 3) := by decide +kernel
theorem dL_act_294 : decode cL_act 294 = .ok (.lreturn, 1) := by decide +kernel
theorem dL_act_295 : decode cL_act 295 = .ok (.aload_n 0, 1) := by decide +kernel
theorem dL_act_296 : decode cL_act 296 = .ok (.iload_n 3, 1) := by decide +kernel
theorem dL_act_297 : decode cL_act 297 = .ok (.ifCond .eq 10, 3) := by decide +kernel
theorem dL_act_300 : decode cL_act 300 = .ok (.iload_n 1, 1) := by decide +kernel
theorem dL_act_301 : decode cL_act 301 = .ok (.bipush 7, 2) := by decide +kernel
theorem dL_act_303 : decode cL_act 303 = .ok (.ishr, 1) := by decide +kernel
theorem dL_act_304 : decode cL_act 304 = .ok (.goto 15, 3) := by decide +kernel
theorem dL_act_307 : decode cL_act 307 = .ok (.bipush 8, 2) := by decide +kernel
theorem dL_act_309 : decode cL_act 309 = .ok (.iload_n 1, 1) := by decide +kernel
theorem dL_act_310 : decode cL_act 310 = .ok (.bipush 7, 2) := by decide +kernel
theorem dL_act_312 : decode cL_act 312 = .ok (.ishr, 1) := by decide +kernel
theorem dL_act_313 : decode cL_act 313 = .ok (.bipush 57, 2) := by decide +kernel
theorem dL_act_315 : decode cL_act 315 = .ok (.invokestatic 76, 3) := by decide +kernel
theorem dL_act_318 : decode cL_act 318 = .ok (.iadd, 1) := by decide +kernel
theorem dL_act_319 : decode cL_act 319 = .ok (.invokestatic 88, 3) := by decide +kernel
theorem dL_act_322 : decode cL_act 322 = .ok (.lreturn, 1) := by decide +kernel
theorem dL_act_323 : decode cL_act 323 = .ok (.aload_n 0, 1) := by decide +kernel
theorem dL_act_324 : decode cL_act 324 = .ok (.iload 6, 2) := by decide +kernel
theorem dL_act_326 : decode cL_act 326 = .ok (.invokestatic 90, 3) := by decide +kernel
theorem dL_act_329 : decode cL_act 329 = .ok (.lreturn, 1) := by decide +kernel
theorem dL_act_330 : decode cL_act 330 = .ok (.aload_n 0, 1) := by decide +kernel
theorem dL_act_331 : decode cL_act 331 = .ok (.iload 6, 2) := by decide +kernel
theorem dL_act_333 : decode cL_act 333 = .ok (.iload_n 3, 1) := by decide +kernel
theorem dL_act_334 : decode cL_act 334 = .ok (.ifCond .eq 10, 3) := by decide +kernel
theorem dL_act_337 : decode cL_act 337 = .ok (.iload_n 1, 1) := by decide +kernel
theorem dL_act_338 : decode cL_act 338 = .ok (.bipush 9, 2) := by decide +kernel
theorem dL_act_340 : decode cL_act 340 = .ok (.ishr, 1) := by decide +kernel
theorem dL_act_341 : decode cL_act 341 = .ok (.goto 12, 3) := by decide +kernel
theorem dL_act_344 : decode cL_act 344 = .ok (.iload_n 1, 1) := by decide +kernel
theorem dL_act_345 : decode cL_act 345 = .ok (.bipush 14, 2) := by decide +kernel
theorem dL_act_347 : decode cL_act 347 = .ok (.ishr, 1) := by decide +kernel
theorem dL_act_348 : decode cL_act 348 = .ok (.bipush 8, 2) := by decide +kernel
theorem dL_act_350 : decode cL_act 350 = .ok (.invokestatic 76, 3) := by decide +kernel
theorem dL_act_353 : decode cL_act 353 = .ok (.invokestatic 92, 3) := by decide +kernel
theorem dL_act_356 : decode cL_act 356 = .ok (.lreturn, 1) := by decide +kernel
theorem dL_act_357 : decode cL_act 357 = .ok (.aload_n 0, 1) := by decide +kernel
theorem dL_act_358 : decode cL_act 358 = .ok (.iload 4, 2) := by decide +kernel
theorem dL_act_360 : decode cL_act 360 = .ok (.iload 5, 2) := by decide +kernel
theorem dL_act_362 : decode cL_act 362 = .ok (.iload 6, 2) := by decide +kernel
theorem dL_act_364 : decode cL_act 364 = .ok (.invokestatic 95, 3) := by decide +kernel
theorem dL_act_367 : decode cL_act 367 = .ok (.lreturn, 1) := by decide +kernel
theorem dL_act_368 : decode cL_act 368 = .ok (.aload_n 0, 1) := by decide +kernel
theorem dL_act_369 : decode cL_act 369 = .ok (.iload_n 3, 1) := by decide +kernel
theorem dL_act_370 : decode cL_act 370 = .ok (.ifCond .eq 10, 3) := by decide +kernel
theorem dL_act_373 : decode cL_act 373 = .ok (.iload_n 1, 1) := by decide +kernel
theorem dL_act_374 : decode cL_act 374 = .ok (.bipush 9, 2) := by decide +kernel
theorem dL_act_376 : decode cL_act 376 = .ok (.ishr, 1) := by decide +kernel
theorem dL_act_377 : decode cL_act 377 = .ok (.goto 12, 3) := by decide +kernel
theorem dL_act_380 : decode cL_act 380 = .ok (.iload_n 1, 1) := by decide +kernel
theorem dL_act_381 : decode cL_act 381 = .ok (.bipush 9, 2) := by decide +kernel
theorem dL_act_383 : decode cL_act 383 = .ok (.ishr, 1) := by decide +kernel
theorem dL_act_384 : decode cL_act 384 = .ok (.bipush 20, 2) := by decide +kernel
theorem dL_act_386 : decode cL_act 386 = .ok (.invokestatic 76, 3) := by decide +kernel
theorem dL_act_389 : decode cL_act 389 = .ok (.invokestatic 98, 3) := by decide +kernel
theorem dL_act_392 : decode cL_act 392 = .ok (.lreturn, 1) := by decide +kernel
theorem dL_act_393 : decode cL_act 393 = .ok (.aload_n 0, 1) := by decide +kernel
theorem dL_act_394 : decode cL_act 394 = .ok (.iload 7, 2) := by decide +kernel
theorem dL_act_396 : decode cL_act 396 = .ok (.invokestatic 100, 3) := by decide +kernel
theorem dL_act_399 : decode cL_act 399 = .ok (.lreturn, 1) := by decide +kernel
theorem dL_act_400 : decode cL_act 400 = .ok (.aload_n 0, 1) := by decide +kernel
theorem dL_act_401 : decode cL_act 401 = .ok (.iload 7, 2) := by decide +kernel
theorem dL_act_403 : decode cL_act 403 = .ok (.iload_n 1, 1) := by decide +kernel
theorem dL_act_404 : decode cL_act 404 = .ok (.bipush 21, 2) := by decide +kernel
theorem dL_act_406 : decode cL_act 406 = .ok (.ishr, 1) := by decide +kernel
theorem dL_act_407 : decode cL_act 407 = .ok (.iconst 1, 1) := by decide +kernel
theorem dL_act_408 : decode cL_act 408 = .ok (.iand, 1) := by decide +kernel
theorem dL_act_409 : decode cL_act 409 = .ok (.iconst 1, 1) := by decide +kernel
theorem dL_act_410 : decode cL_act 410 = .ok (.if_icmp .ne 7, 3) := by decide +kernel
theorem dL_act_413 : decode cL_act 413 = .ok (.iconst 1, 1) := by decide +kernel
theorem dL_act_414 : decode cL_act 414 = .ok (.goto 4, 3) := by decide +kernel
theorem dL_act_417 : decode cL_act 417 = .ok (.iconst 0, 1) := by decide +kernel
theorem dL_act_418 : decode cL_act 418 = .ok (.invokestatic 103, 3) := by decide +kernel
theorem dL_act_421 : decode cL_act 421 = .ok (.lreturn, 1) := by decide +kernel
theorem dL_act_422 : decode cL_act 422 = .ok (.aload_n 0, 1) := by decide +kernel
theorem dL_act_423 : decode cL_act 423 = .ok (.iload 4, 2) := by decide +kernel
theorem dL_act_425 : decode cL_act 425 = .ok (.iload 5, 2) := by decide +kernel
theorem dL_act_427 : decode cL_act 427 = .ok (.iload_n 3, 1) := by decide +kernel
theorem dL_act_428 : decode cL_act 428 = .ok (.ifCond .eq 10, 3) := by decide +kernel
theorem dL_act_431 : decode cL_act 431 = .ok (.iload_n 1, 1) := by decide +kernel
theorem dL_act_432 : decode cL_act 432 = .ok (.bipush 9, 2) := by decide +kernel
theorem dL_act_434 : decode cL_act 434 = .ok (.ishr, 1) := by decide +kernel
theorem dL_act_435 : decode cL_act 435 = .ok (.goto 14, 3) := by decide +kernel
theorem dL_act_438 : decode cL_act 438 = .ok (.bipush 7, 2) := by decide +kernel
theorem dL_act_440 : decode cL_act 440 = .ok (.iload_n 1, 1) := by decide +kernel
theorem dL_act_441 : decode cL_act 441 = .ok (.bipush 9, 2) := by decide +kernel
theorem dL_act_443 : decode cL_act 443 = .ok (.ishr, 1) := by decide +kernel
theorem dL_act_444 : decode cL_act 444 = .ok (.iconst 3, 1) := by decide +kernel
theorem dL_act_445 : decode cL_act 445 = .ok (.invokestatic 76, 3) := by decide +kernel
theorem dL_act_448 : decode cL_act 448 = .ok (.isub, 1) := by decide +kernel
theorem dL_act_449 : decode cL_act 449 = .ok (.iload_n 3, 1) := by decide +kernel
theorem dL_act_450 : decode cL_act 450 = .ok (.ifCond .eq 8, 3) := by decide +kernel
theorem dL_act_453 : decode cL_act 453 = .ok (.iload 5, 2) := by decide +kernel
theorem dL_act_455 : decode cL_act 455 = .ok (.goto 5, 3) := by decide +kernel
theorem dL_act_458 : decode cL_act 458 = .ok (.bipush 7, 2) := by decide +kernel
theorem dL_act_460 : decode cL_act 460 = .ok (.iload 7, 2) := by decide +kernel
theorem dL_act_462 : decode cL_act 462 = .ok (.invokestatic 106, 3) := by decide +kernel
theorem dL_act_465 : decode cL_act 465 = .ok (.lreturn, 1) := by decide +kernel
theorem dL_act_466 : decode cL_act 466 = .ok (.aload_n 0, 1) := by decide +kernel
theorem dL_act_467 : decode cL_act 467 = .ok (.iload_n 3, 1) := by decide +kernel
theorem dL_act_468 : decode cL_act 468 = .ok (.ifCond .eq 10, 3) := by decide +kernel
theorem dL_act_471 : decode cL_act 471 = .ok (.iload_n 1, 1) := by decide +kernel
theorem dL_act_472 : decode cL_act 472 = .ok (.bipush 9, 2) := by decide +kernel
theorem dL_act_474 : decode cL_act 474 = .ok (.ishr, 1) := by decide +kernel
theorem dL_act_475 : decode cL_act 475 = .ok (.goto 12, 3) := by decide +kernel
theorem dL_act_478 : decode cL_act 478 = .ok (.iload_n 1, 1) := by decide +kernel
theorem dL_act_479 : decode cL_act 479 = .ok (.bipush 9, 2) := by decide +kernel
theorem dL_act_481 : decode cL_act 481 = .ok (.ishr, 1) := by decide +kernel
theorem dL_act_482 : decode cL_act 482 = .ok (.bipush 30, 2) := by decide +kernel
theorem dL_act_484 : decode cL_act 484 = .ok (.invokestatic 76, 3) := by decide +kernel
theorem dL_act_487 : decode cL_act 487 = .ok (.invokestatic 109, 3) := by decide +kernel
theorem dL_act_490 : decode cL_act 490 = .ok (.lreturn, 1) := by decide +kernel
theorem dL_act_491 : decode cL_act 491 = .ok (.aload_n 0, 1) := by decide +kernel
theorem dL_act_492 : decode cL_act 492 = .ok (.invokestatic 111, 3) := by decide +kernel
theorem dL_act_495 : decode cL_act 495 = .ok (.lreturn, 1) := by decide +kernel
theorem dL_act_496 : decode cL_act 496 = .ok (.aload_n 0, 1) := by decide +kernel
theorem dL_act_497 : decode cL_act 497 = .ok (.iload 4, 2) := by decide +kernel
theorem dL_act_499 : decode cL_act 499 = .ok (.iload 5, 2) := by decide +kernel
theorem dL_act_501 : decode cL_act 501 = .ok (.invokestatic 114, 3) := by decide +kernel
theorem dL_act_504 : decode cL_act 504 = .ok (.lreturn, 1) := by decide +kernel
set_option maxRecDepth 20000 in
theorem ggL_areAlike_L_samples : GoodIn wsL_areAlike wsL_samples := goodIn_ca (goodIn_r _ [4, 5, 6, 7, 8, 9, 10, 11, 12, 13, 14, 15, 16, 17, 18, 19, 20, 21, 22, 23, 24, 25, 140, 141, 142, 143, 144, 145, 146, 147, 148, 149, 150, 151, 152, 153, 154, 155, 156, 157, 158, 159] (by decide +kernel) (by decide +kernel)) (goodIn_sub (fun _ h => List.mem_cons_of_mem _ (List.mem_append_left _ (List.mem_append_right _ h))) (by decide +kernel))
set_option maxRecDepth 20000 in
theorem gL_areAlike_L_samples : GoodIn wsL_areAlike (va_wsS RL 116 yL_samples wsL_samples) := goodIn_app (goodIn_of _ (by decide +kernel)) ggL_areAlike_L_samples
set_option maxRecDepth 20000 in
theorem ggL_areAlike_L_doubt : GoodIn wsL_areAlike wsL_doubt := goodIn_ca (goodIn_r _ [28, 5, 6, 29, 30, 31, 10, 32, 12, 13, 14, 15, 16, 17, 18, 19, 33, 34, 35, 23, 36, 37, 140, 141, 142, 143, 144, 145, 146, 147, 148, 149, 150, 151, 152, 153, 154, 155, 156, 157, 158, 159] (by decide +kernel) (by decide +kernel)) (goodIn_sub (fun _ h => List.mem_cons_of_mem _ (List.mem_append_left _ (List.mem_append_right _ h))) (by decide +kernel))
set_option maxRecDepth 20000 in
theorem gL_areAlike_L_doubt : GoodIn wsL_areAlike (va_wsS RL 111 yL_doubt wsL_doubt) := goodIn_app (goodIn_of _ (by decide +kernel)) ggL_areAlike_L_doubt
set_option maxRecDepth 20000 in
theorem ggL_areAlike_L_mode : GoodIn wsL_areAlike wsL_mode := goodIn_ca (goodIn_r _ [40, 5, 6, 41, 42, 43, 10, 44, 13, 14, 15, 16, 17, 18, 19, 45, 46, 47, 48, 12, 49, 50, 51, 52, 23, 53, 54, 25, 55, 56, 57, 58, 59, 60, 61, 62, 63, 64, 65, 66, 67, 68, 69, 70, 71, 72, 73, 74, 75, 76, 77, 78, 79, 80, 81, 82, 83, 84, 85, 140, 141, 142, 143, 144, 145, 146, 147, 148, 149, 150, 151, 152, 153, 154, 155, 156, 157, 158, 159, 160, 161, 162, 163] (by decide +kernel) (by decide +kernel)) (goodIn_sub (fun _ h => List.mem_cons_of_mem _ (List.mem_append_left _ (List.mem_append_right _ h))) (by decide +kernel))
set_option maxRecDepth 20000 in
theorem gL_areAlike_L_mode : GoodIn wsL_areAlike (va_wsS RL 100 yL_mode wsL_mode) := goodIn_app (goodIn_of _ (by decide +kernel)) ggL_areAlike_L_mode
set_option maxRecDepth 20000 in
theorem ggL_areAlike_L_low : GoodIn wsL_areAlike wsL_low := goodIn_r _ [88, 89] (by decide +kernel) (by decide +kernel)
set_option maxRecDepth 20000 in
theorem gL_areAlike_L_low : GoodIn wsL_areAlike (va_wsS RL 76 yL_low wsL_low) := goodIn_app (goodIn_of _ (by decide +kernel)) ggL_areAlike_L_low
set_option maxRecDepth 20000 in
theorem ggL_areAlike_L_sample : GoodIn wsL_areAlike wsL_sample := goodIn_ca (goodIn_r _ [92, 93, 6, 94, 95, 96, 10, 97, 98, 99, 12, 20, 21, 22, 23, 24, 25, 100, 101, 102, 103, 55, 140, 141, 142, 143, 144, 145, 146, 147, 148, 149, 150, 151, 152, 153, 154, 155, 156, 157, 158, 159] (by decide +kernel) (by decide +kernel)) (goodIn_sub (fun _ h => List.mem_cons_of_mem _ (List.mem_append_right _ h)) (by decide +kernel))
set_option maxRecDepth 20000 in
theorem gL_areAlike_L_sample : GoodIn wsL_areAlike (va_wsS RL 98 yL_sample wsL_sample) := goodIn_app (goodIn_of _ (by decide +kernel)) ggL_areAlike_L_sample
set_option maxRecDepth 20000 in
theorem ggL_areAlike_L_belief : GoodIn wsL_areAlike wsL_belief := goodIn_ca (goodIn_ca (goodIn_r _ [106, 93, 5, 6, 107, 108, 109, 10, 110, 49, 111, 112, 113, 98, 99, 114, 115, 116, 13, 14, 15, 16, 17, 18, 19, 68, 69, 70, 71, 72, 73, 117, 118, 119, 120, 121, 122, 59, 123, 61, 66, 67, 140, 141, 142, 143, 144, 145, 146, 147, 148, 161, 162, 163, 160] (by decide +kernel) (by decide +kernel)) (goodIn_sub (fun _ h => List.mem_cons_of_mem _ (List.mem_append_right _ h)) (by decide +kernel))) (goodIn_sub (fun _ h => List.mem_cons_of_mem _ (List.mem_append_left _ (List.mem_append_right _ h))) (by decide +kernel))
set_option maxRecDepth 20000 in
theorem gL_areAlike_L_belief : GoodIn wsL_areAlike (va_wsS RL 114 yL_belief wsL_belief) := goodIn_app (goodIn_of _ (by decide +kernel)) ggL_areAlike_L_belief
set_option maxRecDepth 20000 in
theorem ggL_areAlike_L_best : GoodIn wsL_areAlike wsL_best := goodIn_ca (goodIn_ca (goodIn_r _ [126, 93, 5, 6, 127, 128, 129, 10, 130, 98, 99, 49, 13, 14, 15, 16, 17, 18, 19, 68, 69, 70, 71, 72, 73, 131, 132, 133, 59, 134, 61, 135, 136, 137, 138, 139, 121, 122, 123, 66, 67, 140, 141, 142, 143, 144, 145, 146, 147, 148, 161, 162, 163, 160] (by decide +kernel) (by decide +kernel)) (goodIn_sub (fun _ h => List.mem_cons_of_mem _ (List.mem_append_right _ h)) (by decide +kernel))) (goodIn_sub (fun _ h => List.mem_cons_of_mem _ (List.mem_append_left _ (List.mem_append_right _ h))) (by decide +kernel))
set_option maxRecDepth 20000 in
theorem gL_areAlike_L_best : GoodIn wsL_areAlike (va_wsS RL 109 yL_best wsL_best) := goodIn_app (goodIn_of _ (by decide +kernel)) ggL_areAlike_L_best
theorem dL_areAlike_0 : decode cL_areAlike 0 = .ok (.aload_n 0, 1) := by decide +kernel
theorem dL_areAlike_1 : decode cL_areAlike 1 = .ok (.invokestatic 116, 3) := by decide +kernel
theorem dL_areAlike_4 : decode cL_areAlike 4 = .ok (.aload_n 1, 1) := by decide +kernel
theorem dL_areAlike_5 : decode cL_areAlike 5 = .ok (.invokestatic 116, 3) := by decide +kernel
theorem dL_areAlike_8 : decode cL_areAlike 8 = .ok (.lcmp, 1) := by decide +kernel
theorem dL_areAlike_9 : decode cL_areAlike 9 = .ok (.ifCond .ne 33, 3) := by decide +kernel
theorem dL_areAlike_12 : decode cL_areAlike 12 = .ok (.aload_n 0, 1) := by decide +kernel
theorem dL_areAlike_13 : decode cL_areAlike 13 = .ok (.invokestatic 111, 3) := by decide +kernel
theorem dL_areAlike_16 : decode cL_areAlike 16 = .ok (.aload_n 1, 1) := by decide +kernel
theorem dL_areAlike_17 : decode cL_areAlike 17 = .ok (.invokestatic 111, 3) := by decide +kernel
theorem dL_areAlike_20 : decode cL_areAlike 20 = .ok (.lcmp, 1) := by decide +kernel
theorem dL_areAlike_21 : decode cL_areAlike 21 = .ok (.ifCond .ne 21, 3) := by decide +kernel
theorem dL_areAlike_24 : decode cL_areAlike 24 = .ok (.aload_n 0, 1) := by decide +kernel
theorem dL_areAlike_25 : decode cL_areAlike 25 = .ok (.iconst 1, 1) := by decide +kernel
theorem dL_areAlike_26 : decode cL_areAlike 26 = .ok (.invokestatic 100, 3) := by decide +kernel
theorem dL_areAlike_29 : decode cL_areAlike 29 = .ok (.aload_n 1, 1) := by decide +kernel
theorem dL_areAlike_30 : decode cL_areAlike 30 = .ok (.iconst 1, 1) := by decide +kernel
theorem dL_areAlike_31 : decode cL_areAlike 31 = .ok (.invokestatic 100, 3) := by decide +kernel
theorem dL_areAlike_34 : decode cL_areAlike 34 = .ok (.lcmp, 1) := by decide +kernel
theorem dL_areAlike_35 : decode cL_areAlike 35 = .ok (.ifCond .ne 7, 3) := by decide +kernel
theorem dL_areAlike_38 : decode cL_areAlike 38 = .ok (.iconst 1, 1) := by decide +kernel
theorem dL_areAlike_39 : decode cL_areAlike 39 = .ok (.goto 4, 3) := by decide +kernel
theorem dL_areAlike_42 : decode cL_areAlike 42 = .ok (.iconst 0, 1) := by decide +kernel
theorem dL_areAlike_43 : decode cL_areAlike 43 = .ok (.istore_n 3, 1) := by decide +kernel
theorem dL_areAlike_44 : decode cL_areAlike 44 = .ok (.iconst 0, 1) := by decide +kernel
theorem dL_areAlike_45 : decode cL_areAlike 45 = .ok (.istore 4, 2) := by decide +kernel
theorem dL_areAlike_47 : decode cL_areAlike 47 = .ok (.iload 4, 2) := by decide +kernel
theorem dL_areAlike_49 : decode cL_areAlike 49 = .ok (.bipush 8, 2) := by decide +kernel
theorem dL_areAlike_51 : decode cL_areAlike 51 = .ok (.if_icmp .ge 97, 3) := by decide +kernel
theorem dL_areAlike_54 : decode cL_areAlike 54 = .ok (.iload_n 3, 1) := by decide +kernel
theorem dL_areAlike_55 : decode cL_areAlike 55 = .ok (.ifCond .eq 93, 3) := by decide +kernel
theorem dL_areAlike_58 : decode cL_areAlike 58 = .ok (.aload_n 0, 1) := by decide +kernel
theorem dL_areAlike_59 : decode cL_areAlike 59 = .ok (.iload_n 2, 1) := by decide +kernel
theorem dL_areAlike_60 : decode cL_areAlike 60 = .ok (.bipush 8, 2) := by decide +kernel
theorem dL_areAlike_62 : decode cL_areAlike 62 = .ok (.invokestatic 76, 3) := by decide +kernel
theorem dL_areAlike_65 : decode cL_areAlike 65 = .ok (.iload 4, 2) := by decide +kernel
theorem dL_areAlike_67 : decode cL_areAlike 67 = .ok (.iadd, 1) := by decide +kernel
theorem dL_areAlike_68 : decode cL_areAlike 68 = .ok (.invokestatic 98, 3) := by decide +kernel
theorem dL_areAlike_71 : decode cL_areAlike 71 = .ok (.aload_n 1, 1) := by decide +kernel
theorem dL_areAlike_72 : decode cL_areAlike 72 = .ok (.iload_n 2, 1) := by decide +kernel
theorem dL_areAlike_73 : decode cL_areAlike 73 = .ok (.bipush 8, 2) := by decide +kernel
theorem dL_areAlike_75 : decode cL_areAlike 75 = .ok (.invokestatic 76, 3) := by decide +kernel
theorem dL_areAlike_78 : decode cL_areAlike 78 = .ok (.iload 4, 2) := by decide +kernel
theorem dL_areAlike_80 : decode cL_areAlike 80 = .ok (.iadd, 1) := by decide +kernel
theorem dL_areAlike_81 : decode cL_areAlike 81 = .ok (.invokestatic 98, 3) := by decide +kernel
theorem dL_areAlike_84 : decode cL_areAlike 84 = .ok (.lcmp, 1) := by decide +kernel
theorem dL_areAlike_85 : decode cL_areAlike 85 = .ok (.ifCond .ne 55, 3) := by decide +kernel
theorem dL_areAlike_88 : decode cL_areAlike 88 = .ok (.aload_n 0, 1) := by decide +kernel
theorem dL_areAlike_89 : decode cL_areAlike 89 = .ok (.iload 4, 2) := by decide +kernel
theorem dL_areAlike_91 : decode cL_areAlike 91 = .ok (.iload_n 2, 1) := by decide +kernel
theorem dL_areAlike_92 : decode cL_areAlike 92 = .ok (.iconst 3, 1) := by decide +kernel
theorem dL_areAlike_93 : decode cL_areAlike 93 = .ok (.ishr, 1) := by decide +kernel
theorem dL_areAlike_94 : decode cL_areAlike 94 = .ok (.bipush 8, 2) := by decide +kernel
theorem dL_areAlike_96 : decode cL_areAlike 96 = .ok (.invokestatic 76, 3) := by decide +kernel
theorem dL_areAlike_99 : decode cL_areAlike 99 = .ok (.invokestatic 114, 3) := by decide +kernel
theorem dL_areAlike_102 : decode cL_areAlike 102 = .ok (.aload_n 1, 1) := by decide +kernel
theorem dL_areAlike_103 : decode cL_areAlike 103 = .ok (.iload 4, 2) := by decide +kernel
theorem dL_areAlike_105 : decode cL_areAlike 105 = .ok (.iload_n 2, 1) := by decide +kernel
theorem dL_areAlike_106 : decode cL_areAlike 106 = .ok (.iconst 3, 1) := by decide +kernel
theorem dL_areAlike_107 : decode cL_areAlike 107 = .ok (.ishr, 1) := by decide +kernel
theorem dL_areAlike_108 : decode cL_areAlike 108 = .ok (.bipush 8, 2) := by decide +kernel
theorem dL_areAlike_110 : decode cL_areAlike 110 = .ok (.invokestatic 76, 3) := by decide +kernel
theorem dL_areAlike_113 : decode cL_areAlike 113 = .ok (.invokestatic 114, 3) := by decide +kernel
theorem dL_areAlike_116 : decode cL_areAlike 116 = .ok (.lcmp, 1) := by decide +kernel
theorem dL_areAlike_117 : decode cL_areAlike 117 = .ok (.ifCond .ne 23, 3) := by decide +kernel
theorem dL_areAlike_120 : decode cL_areAlike 120 = .ok (.aload_n 0, 1) := by decide +kernel
theorem dL_areAlike_121 : decode cL_areAlike 121 = .ok (.iload 4, 2) := by decide +kernel
theorem dL_areAlike_123 : decode cL_areAlike 123 = .ok (.invokestatic 109, 3) := by decide +kernel
theorem dL_areAlike_126 : decode cL_areAlike 126 = .ok (.aload_n 1, 1) := by decide +kernel
theorem dL_areAlike_127 : decode cL_areAlike 127 = .ok (.iload 4, 2) := by decide +kernel
theorem dL_areAlike_129 : decode cL_areAlike 129 = .ok (.invokestatic 109, 3) := by decide +kernel
theorem dL_areAlike_132 : decode cL_areAlike 132 = .ok (.lcmp, 1) := by decide +kernel
theorem dL_areAlike_133 : decode cL_areAlike 133 = .ok (.ifCond .ne 7, 3) := by decide +kernel
theorem dL_areAlike_136 : decode cL_areAlike 136 = .ok (.iconst 1, 1) := by decide +kernel
theorem dL_areAlike_137 : decode cL_areAlike 137 = .ok (.goto 4, 3) := by decide +kernel
theorem dL_areAlike_140 : decode cL_areAlike 140 = .ok (.iconst 0, 1) := by decide +kernel
theorem dL_areAlike_141 : decode cL_areAlike 141 = .ok (.istore_n 3, 1) := by decide +kernel
theorem dL_areAlike_142 : decode cL_areAlike 142 = .ok (.iinc 4 1, 3) := by decide +kernel
theorem dL_areAlike_145 : decode cL_areAlike 145 = .ok (.goto (-98), 3) := by decide +kernel
theorem dL_areAlike_148 : decode cL_areAlike 148 = .ok (.iload_n 3, 1) := by decide +kernel
theorem dL_areAlike_149 : decode cL_areAlike 149 = .ok (.ireturn, 1) := by decide +kernel
set_option maxRecDepth 20000 in
theorem ggL_isSo_X5_toRead : GoodIn wsL_isSo wsX5_toRead := goodIn_ca (goodIn_r _ [7, 8, 9, 10, 6, 11, 12, 13, 14, 15, 16, 17, 18, 19, 20, 21, 22, 23, 24, 25, 26, 27, 28, 29, 30, 31, 32, 33, 244, 245, 246, 247, 248, 249, 250, 251, 252, 253, 254, 255] (by decide +kernel) (by decide +kernel)) (goodIn_sub (fun _ h => List.mem_cons_of_mem _ (List.mem_append_left _ (List.mem_append_left _ (List.mem_append_right _ h)))) (by decide +kernel))
set_option maxRecDepth 20000 in
theorem gL_isSo_X5_toRead : GoodIn wsL_isSo (wsV RL 37 RX5 yX5_toRead wsX5_toRead) := goodIn_app (goodIn_of _ (by decide +kernel)) ggL_isSo_X5_toRead
set_option maxRecDepth 20000 in
theorem ggL_isSo_X5_count : GoodIn wsL_isSo wsX5_count := goodIn_ca (goodIn_ca (goodIn_r _ [37, 38, 9, 10, 6, 11, 12, 13, 14, 15, 16, 39, 40, 41, 42, 43, 44, 45, 46, 47, 48, 49, 50, 51, 52, 53, 54, 55, 56, 57, 58, 59, 60, 61, 62, 63, 32, 33, 23, 24, 25, 64, 65, 66, 67, 244, 245, 246, 247, 248, 249, 250, 251, 252, 256, 257, 258, 259, 260, 261, 262, 263, 264, 265, 266, 267] (by decide +kernel) (by decide +kernel)) (goodIn_sub (fun _ h => List.mem_cons_of_mem _ (List.mem_append_left _ (List.mem_append_left _ (List.mem_append_right _ h)))) (by decide +kernel))) (goodIn_sub (fun _ h => List.mem_cons_of_mem _ (List.mem_append_left _ (List.mem_append_right _ h))) (by decide +kernel))
set_option maxRecDepth 20000 in
theorem gL_isSo_X5_count : GoodIn wsL_isSo (wsV RL 48 RX5 yX5_count wsX5_count) := goodIn_app (goodIn_of _ (by decide +kernel)) ggL_isSo_X5_count
set_option maxRecDepth 20000 in
theorem ggL_isSo_X5_belief : GoodIn wsL_isSo wsX5_belief := goodIn_ca (goodIn_ca (goodIn_r _ [71, 72, 9, 10, 6, 11, 12, 13, 14, 15, 16, 39, 40, 41, 42, 43, 44, 45, 73, 74, 75, 76, 77, 78, 23, 24, 25, 64, 65, 66, 57, 67, 59, 32, 33, 244, 245, 246, 247, 248, 249, 250, 251, 252, 268, 269, 270, 267] (by decide +kernel) (by decide +kernel)) (goodIn_sub (fun _ h => List.mem_cons_of_mem _ (List.mem_append_left _ (List.mem_append_left _ (List.mem_append_right _ h)))) (by decide +kernel))) (goodIn_sub (fun _ h => List.mem_cons_of_mem _ (List.mem_append_left _ (List.mem_append_right _ h))) (by decide +kernel))
set_option maxRecDepth 20000 in
theorem gL_isSo_X5_belief : GoodIn wsL_isSo (wsV RL 51 RX5 yX5_belief wsX5_belief) := goodIn_app (goodIn_of _ (by decide +kernel)) ggL_isSo_X5_belief
set_option maxRecDepth 20000 in
theorem ggL_isSo_X5_beliefAnew : GoodIn wsL_isSo wsX5_beliefAnew := goodIn_ca (goodIn_ca (goodIn_r _ [82, 83, 9, 10, 6, 11, 12, 13, 14, 15, 16, 39, 40, 41, 42, 43, 44, 45, 84, 85, 86, 87, 88, 89, 90, 91, 92, 93, 76, 94, 78, 95, 96, 97, 98, 29, 99, 100, 32, 33, 101, 102, 103, 57, 104, 59, 105, 106, 107, 108, 109, 110, 111, 112, 113, 114, 115, 116, 117, 118, 119, 120, 121, 122, 123, 124, 65, 66, 67, 125, 126, 127, 128, 129, 21, 22, 24, 25, 130, 131, 132, 133, 134, 135, 136, 137, 138, 27, 28, 30, 31, 139, 140, 141, 142, 143, 144, 145, 146, 147, 148, 149, 150, 151, 152, 153, 154, 155, 156, 157, 158, 159, 160, 161, 162, 163, 164, 165, 166, 167, 168, 73, 74, 75, 77, 23, 64, 244, 245, 246, 247, 248, 249, 250, 251, 252, 268, 269, 270, 253, 254, 255, 267] (by decide +kernel) (by decide +kernel)) (goodIn_sub (fun _ h => List.mem_cons_of_mem _ (List.mem_append_left _ (List.mem_append_left _ (List.mem_append_right _ h)))) (by decide +kernel))) (goodIn_sub (fun _ h => List.mem_cons_of_mem _ (List.mem_append_left _ (List.mem_append_right _ h))) (by decide +kernel))
set_option maxRecDepth 20000 in
theorem gL_isSo_X5_beliefAnew : GoodIn wsL_isSo (wsV RL 55 RX5 yX5_beliefAnew wsX5_beliefAnew) := goodIn_app (goodIn_of _ (by decide +kernel)) ggL_isSo_X5_beliefAnew
set_option maxRecDepth 20000 in
theorem ggL_isSo_X5_best : GoodIn wsL_isSo wsX5_best := goodIn_ca (goodIn_ca (goodIn_r _ [172, 12, 13, 72, 39, 40, 41, 6, 42, 43, 44, 45, 73, 74, 75, 76, 77, 78, 173, 174, 175, 57, 176, 59, 177, 178, 179, 180, 181, 65, 66, 67, 32, 33, 244, 245, 246, 247, 248, 249, 250, 251, 252, 268, 269, 270, 267] (by decide +kernel) (by decide +kernel)) (goodIn_sub (fun _ h => List.mem_cons_of_mem _ (List.mem_append_left _ (List.mem_append_left _ (List.mem_append_right _ h)))) (by decide +kernel))) (goodIn_sub (fun _ h => List.mem_cons_of_mem _ (List.mem_append_left _ (List.mem_append_right _ h))) (by decide +kernel))
set_option maxRecDepth 20000 in
theorem gL_isSo_X5_best : GoodIn wsL_isSo (wsV RL 70 RX5 yX5_best wsX5_best) := goodIn_app (goodIn_of _ (by decide +kernel)) ggL_isSo_X5_best
set_option maxRecDepth 20000 in
theorem ggL_isSo_X5_samples : GoodIn wsL_isSo wsX5_samples := goodIn_ca (goodIn_r _ [185, 38, 39, 40, 41, 6, 42, 43, 44, 45, 186, 187, 188, 49, 189, 52, 244, 245, 246, 247, 248, 249, 250, 251, 252, 256, 257, 258, 259, 260, 261, 262, 263, 264, 265, 266] (by decide +kernel) (by decide +kernel)) (goodIn_sub (fun _ h => List.mem_cons_of_mem _ (List.mem_append_left _ (List.mem_append_right _ h))) (by decide +kernel))
set_option maxRecDepth 20000 in
theorem gL_isSo_X5_samples : GoodIn wsL_isSo (wsV RL 41 RX5 yX5_samples wsX5_samples) := goodIn_app (goodIn_of _ (by decide +kernel)) ggL_isSo_X5_samples
set_option maxRecDepth 20000 in
theorem ggL_isSo_X5_mode : GoodIn wsL_isSo wsX5_mode := goodIn_ca (goodIn_r _ [193, 39, 40, 41, 6, 42, 43, 44, 45, 194, 195, 196, 197, 38, 72, 46, 47, 48, 49, 50, 51, 52, 53, 54, 55, 56, 57, 58, 59, 60, 61, 62, 63, 32, 33, 73, 74, 75, 76, 77, 78, 198, 199, 200, 201, 202, 146, 147, 148, 149, 150, 136, 151, 244, 245, 246, 247, 248, 249, 250, 251, 252, 256, 257, 258, 259, 260, 261, 262, 263, 264, 265, 266, 267, 268, 269, 270] (by decide +kernel) (by decide +kernel)) (goodIn_sub (fun _ h => List.mem_cons_of_mem _ (List.mem_append_left _ (List.mem_append_right _ h))) (by decide +kernel))
set_option maxRecDepth 20000 in
theorem gL_isSo_X5_mode : GoodIn wsL_isSo (wsV RL 58 RX5 yX5_mode wsX5_mode) := goodIn_app (goodIn_of _ (by decide +kernel)) ggL_isSo_X5_mode
set_option maxRecDepth 20000 in
theorem ggL_isSo_X5_share : GoodIn wsL_isSo wsX5_share := goodIn_ca (goodIn_ca (goodIn_ca (goodIn_r _ [206, 207, 208, 209, 9, 10, 6, 11, 12, 13, 14, 15, 16, 39, 40, 41, 42, 43, 44, 45, 194, 195, 196, 197, 38, 72, 46, 47, 48, 49, 50, 51, 52, 53, 54, 55, 56, 57, 58, 59, 60, 61, 62, 63, 32, 33, 73, 74, 75, 76, 77, 78, 210, 211, 212, 213, 214, 215, 216, 217, 218, 219, 220, 221, 244, 245, 246, 247, 248, 249, 250, 251, 252, 256, 257, 258, 259, 260, 261, 262, 263, 264, 265, 266, 267, 268, 269, 270] (by decide +kernel) (by decide +kernel)) (goodIn_sub (fun _ h => List.mem_cons_of_mem _ (List.mem_append_right _ h)) (by decide +kernel))) (goodIn_sub (fun _ h => List.mem_cons_of_mem _ (List.mem_append_left _ (List.mem_append_left _ (List.mem_append_right _ h)))) (by decide +kernel))) (goodIn_sub (fun _ h => List.mem_cons_of_mem _ (List.mem_append_left _ (List.mem_append_right _ h))) (by decide +kernel))
set_option maxRecDepth 20000 in
theorem gL_isSo_X5_share : GoodIn wsL_isSo (wsV RL 66 RX5 yX5_share wsX5_share) := goodIn_app (goodIn_of _ (by decide +kernel)) ggL_isSo_X5_share
set_option maxRecDepth 20000 in
theorem ggL_isSo_X5_doubt : GoodIn wsL_isSo wsX5_doubt := goodIn_ca (goodIn_r _ [225, 38, 39, 40, 41, 6, 42, 43, 44, 45, 226, 227, 228, 49, 229, 230, 244, 245, 246, 247, 248, 249, 250, 251, 252, 256, 257, 258, 259, 260, 261, 262, 263, 264, 265, 266] (by decide +kernel) (by decide +kernel)) (goodIn_sub (fun _ h => List.mem_cons_of_mem _ (List.mem_append_left _ (List.mem_append_right _ h))) (by decide +kernel))
set_option maxRecDepth 20000 in
theorem gL_isSo_X5_doubt : GoodIn wsL_isSo (wsV RL 73 RX5 yX5_doubt wsX5_doubt) := goodIn_app (goodIn_of _ (by decide +kernel)) ggL_isSo_X5_doubt
set_option maxRecDepth 20000 in
theorem ggL_isSo_L_sample : GoodIn wsL_isSo wsL_sample := goodIn_ca (goodIn_r _ [234, 235, 2, 236, 237, 238, 6, 239, 12, 13, 38, 186, 187, 188, 49, 189, 52, 240, 241, 242, 243, 53, 244, 245, 246, 247, 248, 249, 250, 251, 252, 256, 257, 258, 259, 260, 261, 262, 263, 264, 265, 266] (by decide +kernel) (by decide +kernel)) (goodIn_sub (fun _ h => List.mem_cons_of_mem _ (List.mem_append_left _ (List.mem_append_left _ (List.mem_append_right _ h)))) (by decide +kernel))
set_option maxRecDepth 20000 in
theorem gL_isSo_L_sample : GoodIn wsL_isSo (va_wsS RL 98 yL_sample wsL_sample) := goodIn_app (goodIn_of _ (by decide +kernel)) ggL_isSo_L_sample
theorem dL_isSo_0 : decode cL_isSo 0 = .ok (.iconst 0, 1) := by decide +kernel
theorem dL_isSo_1 : decode cL_isSo 1 = .ok (.istore_n 1, 1) := by decide +kernel
theorem dL_isSo_2 : decode cL_isSo 2 = .ok (.iconst 1, 1) := by decide +kernel
theorem dL_isSo_3 : decode cL_isSo 3 = .ok (.istore_n 2, 1) := by decide +kernel
theorem dL_isSo_4 : decode cL_isSo 4 = .ok (.iconst 0, 1) := by decide +kernel
theorem dL_isSo_5 : decode cL_isSo 5 = .ok (.istore_n 3, 1) := by decide +kernel
theorem dL_isSo_6 : decode cL_isSo 6 = .ok (.iload_n 3, 1) := by decide +kernel
theorem dL_isSo_7 : decode cL_isSo 7 = .ok (.bipush 64, 2) := by decide +kernel
theorem dL_isSo_9 : decode cL_isSo 9 = .ok (.if_icmp .ge 146, 3) := by decide +kernel
theorem dL_isSo_12 : decode cL_isSo 12 = .ok (.iload_n 2, 1) := by decide +kernel
theorem dL_isSo_13 : decode cL_isSo 13 = .ok (.ifCond .eq 142, 3) := by decide +kernel
theorem dL_isSo_16 : decode cL_isSo 16 = .ok (.iload_n 3, 1) := by decide +kernel
theorem dL_isSo_17 : decode cL_isSo 17 = .ok (.bipush 8, 2) := by decide +kernel
theorem dL_isSo_19 : decode cL_isSo 19 = .ok (.irem, 1) := by decide +kernel
theorem dL_isSo_20 : decode cL_isSo 20 = .ok (.istore 4, 2) := by decide +kernel
theorem dL_isSo_22 : decode cL_isSo 22 = .ok (.iload_n 3, 1) := by decide +kernel
theorem dL_isSo_23 : decode cL_isSo 23 = .ok (.bipush 8, 2) := by decide +kernel
theorem dL_isSo_25 : decode cL_isSo 25 = .ok (.idiv, 1) := by decide +kernel
theorem dL_isSo_26 : decode cL_isSo 26 = .ok (.istore 5, 2) := by decide +kernel
theorem dL_isSo_28 : decode cL_isSo 28 = .ok (.aload_n 0, 1) := by decide +kernel
theorem dL_isSo_29 : decode cL_isSo 29 = .ok (.iload 4, 2) := by decide +kernel
theorem dL_isSo_31 : decode cL_isSo 31 = .ok (.iload 5, 2) := by decide +kernel
theorem dL_isSo_33 : decode cL_isSo 33 = .ok (.iconst 0, 1) := by decide +kernel
theorem dL_isSo_34 : decode cL_isSo 34 = .ok (.invokevirtual 37, 3) := by decide +kernel
theorem dL_isSo_37 : decode cL_isSo 37 = .ok (.iconst (-1), 1) := by decide +kernel
theorem dL_isSo_38 : decode cL_isSo 38 = .ok (.if_icmp .ne 7, 3) := by decide +kernel
theorem dL_isSo_41 : decode cL_isSo 41 = .ok (.iconst 1, 1) := by decide +kernel
theorem dL_isSo_42 : decode cL_isSo 42 = .ok (.goto 4, 3) := by decide +kernel
theorem dL_isSo_45 : decode cL_isSo 45 = .ok (.iconst 0, 1) := by decide +kernel
theorem dL_isSo_46 : decode cL_isSo 46 = .ok (.istore 6, 2) := by decide +kernel
theorem dL_isSo_48 : decode cL_isSo 48 = .ok (.iload_n 1, 1) := by decide +kernel
theorem dL_isSo_49 : decode cL_isSo 49 = .ok (.aload_n 0, 1) := by decide +kernel
theorem dL_isSo_50 : decode cL_isSo 50 = .ok (.iload 4, 2) := by decide +kernel
theorem dL_isSo_52 : decode cL_isSo 52 = .ok (.iload 5, 2) := by decide +kernel
theorem dL_isSo_54 : decode cL_isSo 54 = .ok (.invokevirtual 48, 3) := by decide +kernel
theorem dL_isSo_57 : decode cL_isSo 57 = .ok (.iadd, 1) := by decide +kernel
theorem dL_isSo_58 : decode cL_isSo 58 = .ok (.istore_n 1, 1) := by decide +kernel
theorem dL_isSo_59 : decode cL_isSo 59 = .ok (.aload_n 0, 1) := by decide +kernel
theorem dL_isSo_60 : decode cL_isSo 60 = .ok (.iload 4, 2) := by decide +kernel
theorem dL_isSo_62 : decode cL_isSo 62 = .ok (.iload 5, 2) := by decide +kernel
theorem dL_isSo_64 : decode cL_isSo 64 = .ok (.invokevirtual 51, 3) := by decide +kernel
theorem dL_isSo_67 : decode cL_isSo 67 = .ok (.lconst 0, 1) := by decide +kernel
theorem dL_isSo_68 : decode cL_isSo 68 = .ok (.lcmp, 1) := by decide +kernel
theorem dL_isSo_69 : decode cL_isSo 69 = .ok (.ifCond .lt 78, 3) := by decide +kernel
theorem dL_isSo_72 : decode cL_isSo 72 = .ok (.aload_n 0, 1) := by decide +kernel
theorem dL_isSo_73 : decode cL_isSo 73 = .ok (.iload 4, 2) := by decide +kernel
theorem dL_isSo_75 : decode cL_isSo 75 = .ok (.iload 5, 2) := by decide +kernel
theorem dL_isSo_77 : decode cL_isSo 77 = .ok (.invokevirtual 51, 3) := by decide +kernel
theorem dL_isSo_80 : decode cL_isSo 80 = .ok (.ldc2_w 118, 3) := by decide +kernel
theorem dL_isSo_83 : decode cL_isSo 83 = .ok (.lcmp, 1) := by decide +kernel
theorem dL_isSo_84 : decode cL_isSo 84 = .ok (.ifCond .gt 63, 3) := by decide +kernel
theorem dL_isSo_87 : decode cL_isSo 87 = .ok (.iload 6, 2) := by decide +kernel
theorem dL_isSo_89 : decode cL_isSo 89 = .ok (.ifCond .eq 27, 3) := by decide +kernel
theorem dL_isSo_92 : decode cL_isSo 92 = .ok (.aload_n 0, 1) := by decide +kernel
theorem dL_isSo_93 : decode cL_isSo 93 = .ok (.iload 4, 2) := by decide +kernel
theorem dL_isSo_95 : decode cL_isSo 95 = .ok (.iload 5, 2) := by decide +kernel
theorem dL_isSo_97 : decode cL_isSo 97 = .ok (.invokevirtual 51, 3) := by decide +kernel
theorem dL_isSo_100 : decode cL_isSo 100 = .ok (.lconst 0, 1) := by decide +kernel
theorem dL_isSo_101 : decode cL_isSo 101 = .ok (.lcmp, 1) := by decide +kernel
theorem dL_isSo_102 : decode cL_isSo 102 = .ok (.ifCond .ne 45, 3) := by decide +kernel
theorem dL_isSo_105 : decode cL_isSo 105 = .ok (.aload_n 0, 1) := by decide +kernel
theorem dL_isSo_106 : decode cL_isSo 106 = .ok (.iload 4, 2) := by decide +kernel
theorem dL_isSo_108 : decode cL_isSo 108 = .ok (.iload 5, 2) := by decide +kernel
theorem dL_isSo_110 : decode cL_isSo 110 = .ok (.invokevirtual 48, 3) := by decide +kernel
theorem dL_isSo_113 : decode cL_isSo 113 = .ok (.ifCond .ne 34, 3) := by decide +kernel
theorem dL_isSo_116 : decode cL_isSo 116 = .ok (.iload_n 3, 1) := by decide +kernel
theorem dL_isSo_117 : decode cL_isSo 117 = .ok (.bipush 16, 2) := by decide +kernel
theorem dL_isSo_119 : decode cL_isSo 119 = .ok (.irem, 1) := by decide +kernel
theorem dL_isSo_120 : decode cL_isSo 120 = .ok (.ifCond .gt 23, 3) := by decide +kernel
theorem dL_isSo_123 : decode cL_isSo 123 = .ok (.aload_n 0, 1) := by decide +kernel
theorem dL_isSo_124 : decode cL_isSo 124 = .ok (.iload 4, 2) := by decide +kernel
theorem dL_isSo_126 : decode cL_isSo 126 = .ok (.iload 5, 2) := by decide +kernel
theorem dL_isSo_128 : decode cL_isSo 128 = .ok (.invokevirtual 55, 3) := by decide +kernel
theorem dL_isSo_131 : decode cL_isSo 131 = .ok (.aload_n 0, 1) := by decide +kernel
theorem dL_isSo_132 : decode cL_isSo 132 = .ok (.iload 4, 2) := by decide +kernel
theorem dL_isSo_134 : decode cL_isSo 134 = .ok (.iload 5, 2) := by decide +kernel
theorem dL_isSo_136 : decode cL_isSo 136 = .ok (.invokevirtual 51, 3) := by decide +kernel
theorem dL_isSo_139 : decode cL_isSo 139 = .ok (.lcmp, 1) := by decide +kernel
theorem dL_isSo_140 : decode cL_isSo 140 = .ok (.ifCond .ne 7, 3) := by decide +kernel
theorem dL_isSo_143 : decode cL_isSo 143 = .ok (.iconst 1, 1) := by decide +kernel
theorem dL_isSo_144 : decode cL_isSo 144 = .ok (.goto 4, 3) := by decide +kernel
theorem dL_isSo_147 : decode cL_isSo 147 = .ok (.iconst 0, 1) := by decide +kernel
theorem dL_isSo_148 : decode cL_isSo 148 = .ok (.istore_n 2, 1) := by decide +kernel
theorem dL_isSo_149 : decode cL_isSo 149 = .ok (.iinc 3 1, 3) := by decide +kernel
theorem dL_isSo_152 : decode cL_isSo 152 = .ok (.goto (-146), 3) := by decide +kernel
theorem dL_isSo_155 : decode cL_isSo 155 = .ok (.iconst 0, 1) := by decide +kernel
theorem dL_isSo_156 : decode cL_isSo 156 = .ok (.istore_n 3, 1) := by decide +kernel
theorem dL_isSo_157 : decode cL_isSo 157 = .ok (.iload_n 3, 1) := by decide +kernel
theorem dL_isSo_158 : decode cL_isSo 158 = .ok (.bipush 8, 2) := by decide +kernel
theorem dL_isSo_160 : decode cL_isSo 160 = .ok (.if_icmp .ge 116, 3) := by decide +kernel
theorem dL_isSo_163 : decode cL_isSo 163 = .ok (.iload_n 2, 1) := by decide +kernel
theorem dL_isSo_164 : decode cL_isSo 164 = .ok (.ifCond .eq 112, 3) := by decide +kernel
theorem dL_isSo_167 : decode cL_isSo 167 = .ok (.aload_n 0, 1) := by decide +kernel
theorem dL_isSo_168 : decode cL_isSo 168 = .ok (.iload_n 3, 1) := by decide +kernel
theorem dL_isSo_169 : decode cL_isSo 169 = .ok (.invokevirtual 70, 3) := by decide +kernel
theorem dL_isSo_172 : decode cL_isSo 172 = .ok (.istore 4, 2) := by decide +kernel
theorem dL_isSo_174 : decode cL_isSo 174 = .ok (.aload_n 0, 1) := by decide +kernel
theorem dL_isSo_175 : decode cL_isSo 175 = .ok (.iload_n 3, 1) := by decide +kernel
theorem dL_isSo_176 : decode cL_isSo 176 = .ok (.iconst 1, 1) := by decide +kernel
theorem dL_isSo_177 : decode cL_isSo 177 = .ok (.iadd, 1) := by decide +kernel
theorem dL_isSo_178 : decode cL_isSo 178 = .ok (.invokevirtual 70, 3) := by decide +kernel
theorem dL_isSo_181 : decode cL_isSo 181 = .ok (.istore 5, 2) := by decide +kernel
theorem dL_isSo_183 : decode cL_isSo 183 = .ok (.iload 5, 2) := by decide +kernel
theorem dL_isSo_185 : decode cL_isSo 185 = .ok (.ifCond .lt 79, 3) := by decide +kernel
theorem dL_isSo_188 : decode cL_isSo 188 = .ok (.iload 4, 2) := by decide +kernel
theorem dL_isSo_190 : decode cL_isSo 190 = .ok (.ifCond .lt 78, 3) := by decide +kernel
theorem dL_isSo_193 : decode cL_isSo 193 = .ok (.aload_n 0, 1) := by decide +kernel
theorem dL_isSo_194 : decode cL_isSo 194 = .ok (.iload 4, 2) := by decide +kernel
theorem dL_isSo_196 : decode cL_isSo 196 = .ok (.bipush 8, 2) := by decide +kernel
theorem dL_isSo_198 : decode cL_isSo 198 = .ok (.irem, 1) := by decide +kernel
theorem dL_isSo_199 : decode cL_isSo 199 = .ok (.iload 4, 2) := by decide +kernel
theorem dL_isSo_201 : decode cL_isSo 201 = .ok (.bipush 8, 2) := by decide +kernel
theorem dL_isSo_203 : decode cL_isSo 203 = .ok (.idiv, 1) := by decide +kernel
theorem dL_isSo_204 : decode cL_isSo 204 = .ok (.invokevirtual 51, 3) := by decide +kernel
theorem dL_isSo_207 : decode cL_isSo 207 = .ok (.aload_n 0, 1) := by decide +kernel
theorem dL_isSo_208 : decode cL_isSo 208 = .ok (.iload 5, 2) := by decide +kernel
theorem dL_isSo_210 : decode cL_isSo 210 = .ok (.bipush 8, 2) := by decide +kernel
theorem dL_isSo_212 : decode cL_isSo 212 = .ok (.irem, 1) := by decide +kernel
theorem dL_isSo_213 : decode cL_isSo 213 = .ok (.iload 5, 2) := by decide +kernel
theorem dL_isSo_215 : decode cL_isSo 215 = .ok (.bipush 8, 2) := by decide +kernel
theorem dL_isSo_217 : decode cL_isSo 217 = .ok (.idiv, 1) := by decide +kernel
theorem dL_isSo_218 : decode cL_isSo 218 = .ok (.invokevirtual 51, 3) := by decide +kernel
theorem dL_isSo_221 : decode cL_isSo 221 = .ok (.lcmp, 1) := by decide +kernel
theorem dL_isSo_222 : decode cL_isSo 222 = .ok (.ifCond .gt 42, 3) := by decide +kernel
theorem dL_isSo_225 : decode cL_isSo 225 = .ok (.aload_n 0, 1) := by decide +kernel
theorem dL_isSo_226 : decode cL_isSo 226 = .ok (.iload 4, 2) := by decide +kernel
theorem dL_isSo_228 : decode cL_isSo 228 = .ok (.bipush 8, 2) := by decide +kernel
theorem dL_isSo_230 : decode cL_isSo 230 = .ok (.irem, 1) := by decide +kernel
theorem dL_isSo_231 : decode cL_isSo 231 = .ok (.iload 4, 2) := by decide +kernel
theorem dL_isSo_233 : decode cL_isSo 233 = .ok (.bipush 8, 2) := by decide +kernel
theorem dL_isSo_235 : decode cL_isSo 235 = .ok (.idiv, 1) := by decide +kernel
theorem dL_isSo_236 : decode cL_isSo 236 = .ok (.invokevirtual 51, 3) := by decide +kernel
theorem dL_isSo_239 : decode cL_isSo 239 = .ok (.aload_n 0, 1) := by decide +kernel
theorem dL_isSo_240 : decode cL_isSo 240 = .ok (.iload 5, 2) := by decide +kernel
theorem dL_isSo_242 : decode cL_isSo 242 = .ok (.bipush 8, 2) := by decide +kernel
theorem dL_isSo_244 : decode cL_isSo 244 = .ok (.irem, 1) := by decide +kernel
theorem dL_isSo_245 : decode cL_isSo 245 = .ok (.iload 5, 2) := by decide +kernel
theorem dL_isSo_247 : decode cL_isSo 247 = .ok (.bipush 8, 2) := by decide +kernel
theorem dL_isSo_249 : decode cL_isSo 249 = .ok (.idiv, 1) := by decide +kernel
theorem dL_isSo_250 : decode cL_isSo 250 = .ok (.invokevirtual 51, 3) := by decide +kernel
theorem dL_isSo_253 : decode cL_isSo 253 = .ok (.lcmp, 1) := by decide +kernel
theorem dL_isSo_254 : decode cL_isSo 254 = .ok (.ifCond .ne 14, 3) := by decide +kernel
theorem dL_isSo_257 : decode cL_isSo 257 = .ok (.iload 4, 2) := by decide +kernel
theorem dL_isSo_259 : decode cL_isSo 259 = .ok (.iload 5, 2) := by decide +kernel
theorem dL_isSo_261 : decode cL_isSo 261 = .ok (.if_icmp .ge 7, 3) := by decide +kernel
theorem dL_isSo_264 : decode cL_isSo 264 = .ok (.iconst 1, 1) := by decide +kernel
theorem dL_isSo_265 : decode cL_isSo 265 = .ok (.goto 4, 3) := by decide +kernel
theorem dL_isSo_268 : decode cL_isSo 268 = .ok (.iconst 0, 1) := by decide +kernel
theorem dL_isSo_269 : decode cL_isSo 269 = .ok (.istore_n 2, 1) := by decide +kernel
theorem dL_isSo_270 : decode cL_isSo 270 = .ok (.iinc 3 1, 3) := by decide +kernel
theorem dL_isSo_273 : decode cL_isSo 273 = .ok (.goto (-116), 3) := by decide +kernel
theorem dL_isSo_276 : decode cL_isSo 276 = .ok (.iload_n 2, 1) := by decide +kernel
theorem dL_isSo_277 : decode cL_isSo 277 = .ok (.ifCond .eq 91, 3) := by decide +kernel
theorem dL_isSo_280 : decode cL_isSo 280 = .ok (.iload_n 1, 1) := by decide +kernel
theorem dL_isSo_281 : decode cL_isSo 281 = .ok (.aload_n 0, 1) := by decide +kernel
theorem dL_isSo_282 : decode cL_isSo 282 = .ok (.invokevirtual 41, 3) := by decide +kernel
theorem dL_isSo_285 : decode cL_isSo 285 = .ok (.if_icmp .ne 83, 3) := by decide +kernel
theorem dL_isSo_288 : decode cL_isSo 288 = .ok (.aload_n 0, 1) := by decide +kernel
theorem dL_isSo_289 : decode cL_isSo 289 = .ok (.iconst 0, 1) := by decide +kernel
theorem dL_isSo_290 : decode cL_isSo 290 = .ok (.invokevirtual 70, 3) := by decide +kernel
theorem dL_isSo_293 : decode cL_isSo 293 = .ok (.aload_n 0, 1) := by decide +kernel
theorem dL_isSo_294 : decode cL_isSo 294 = .ok (.iconst 0, 1) := by decide +kernel
theorem dL_isSo_295 : decode cL_isSo 295 = .ok (.invokevirtual 58, 3) := by decide +kernel
theorem dL_isSo_298 : decode cL_isSo 298 = .ok (.if_icmp .ne 70, 3) := by decide +kernel
theorem dL_isSo_301 : decode cL_isSo 301 = .ok (.aload_n 0, 1) := by decide +kernel
theorem dL_isSo_302 : decode cL_isSo 302 = .ok (.iconst 0, 1) := by decide +kernel
theorem dL_isSo_303 : decode cL_isSo 303 = .ok (.iconst 0, 1) := by decide +kernel
theorem dL_isSo_304 : decode cL_isSo 304 = .ok (.bipush 7, 2) := by decide +kernel
theorem dL_isSo_306 : decode cL_isSo 306 = .ok (.bipush 7, 2) := by decide +kernel
theorem dL_isSo_308 : decode cL_isSo 308 = .ok (.iconst 1, 1) := by decide +kernel
theorem dL_isSo_309 : decode cL_isSo 309 = .ok (.invokevirtual 66, 3) := by decide +kernel
theorem dL_isSo_312 : decode cL_isSo 312 = .ok (.sipush 1000, 3) := by decide +kernel
theorem dL_isSo_315 : decode cL_isSo 315 = .ok (.if_icmp .ne 53, 3) := by decide +kernel
theorem dL_isSo_318 : decode cL_isSo 318 = .ok (.aload_n 0, 1) := by decide +kernel
theorem dL_isSo_319 : decode cL_isSo 319 = .ok (.iconst 0, 1) := by decide +kernel
theorem dL_isSo_320 : decode cL_isSo 320 = .ok (.iconst 0, 1) := by decide +kernel
theorem dL_isSo_321 : decode cL_isSo 321 = .ok (.bipush 7, 2) := by decide +kernel
theorem dL_isSo_323 : decode cL_isSo 323 = .ok (.bipush 7, 2) := by decide +kernel
theorem dL_isSo_325 : decode cL_isSo 325 = .ok (.iconst 0, 1) := by decide +kernel
theorem dL_isSo_326 : decode cL_isSo 326 = .ok (.invokevirtual 66, 3) := by decide +kernel
theorem dL_isSo_329 : decode cL_isSo 329 = .ok (.sipush 1000, 3) := by decide +kernel
theorem dL_isSo_332 : decode cL_isSo 332 = .ok (.if_icmp .ne 36, 3) := by decide +kernel
theorem dL_isSo_335 : decode cL_isSo 335 = .ok (.aload_n 0, 1) := by decide +kernel
theorem dL_isSo_336 : decode cL_isSo 336 = .ok (.invokevirtual 73, 3) := by decide +kernel
theorem dL_isSo_339 : decode cL_isSo 339 = .ok (.ifCond .lt 29, 3) := by decide +kernel
theorem dL_isSo_342 : decode cL_isSo 342 = .ok (.aload_n 0, 1) := by decide +kernel
theorem dL_isSo_343 : decode cL_isSo 343 = .ok (.invokevirtual 73, 3) := by decide +kernel
theorem dL_isSo_346 : decode cL_isSo 346 = .ok (.sipush 256, 3) := by decide +kernel
theorem dL_isSo_349 : decode cL_isSo 349 = .ok (.if_icmp .gt 19, 3) := by decide +kernel
theorem dL_isSo_352 : decode cL_isSo 352 = .ok (.aload_n 0, 1) := by decide +kernel
theorem dL_isSo_353 : decode cL_isSo 353 = .ok (.iload_n 1, 1) := by decide +kernel
theorem dL_isSo_354 : decode cL_isSo 354 = .ok (.invokestatic 98, 3) := by decide +kernel
theorem dL_isSo_357 : decode cL_isSo 357 = .ok (.ldc2_w 16, 3) := by decide +kernel
theorem dL_isSo_360 : decode cL_isSo 360 = .ok (.lcmp, 1) := by decide +kernel
theorem dL_isSo_361 : decode cL_isSo 361 = .ok (.ifCond .ne 7, 3) := by decide +kernel
theorem dL_isSo_364 : decode cL_isSo 364 = .ok (.iconst 1, 1) := by decide +kernel
theorem dL_isSo_365 : decode cL_isSo 365 = .ok (.goto 4, 3) := by decide +kernel
theorem dL_isSo_368 : decode cL_isSo 368 = .ok (.iconst 0, 1) := by decide +kernel
theorem dL_isSo_369 : decode cL_isSo 369 = .ok (.ireturn, 1) := by decide +kernel
set_option maxRecDepth 20000 in
theorem ggL_law_X5_init : GoodIn wsL_law wsX5_init := goodIn_r _ [6, 7, 8, 9, 10, 11, 12, 13, 14, 15, 16, 17, 18, 19, 20, 21, 22, 23, 24, 25, 26, 27, 28, 29, 30, 31, 32, 33, 34, 35, 36, 37, 38, 39, 40, 41, 42, 43, 44, 45, 46, 47, 48, 49, 50, 51, 52, 53, 2, 54, 55, 56, 57, 58, 59, 60, 61, 62, 63, 64, 65, 66, 67, 68, 69, 70, 71, 72, 73, 74, 75, 76, 77, 78, 79, 80, 81, 82, 83, 84, 85, 86, 87, 88, 89, 90, 91, 92, 93, 94, 95, 96, 97, 98, 481, 482, 483, 472, 473, 474, 475, 476, 477, 478, 479, 480, 484, 485, 486, 487, 488, 489, 490, 491, 492, 493, 494, 495, 496, 497, 498, 499] (by decide +kernel) (by decide +kernel)
set_option maxRecDepth 20000 in
theorem gL_law_X5_init : GoodIn wsL_law (wsX5_init) := ggL_law_X5_init
set_option maxRecDepth 20000 in
theorem ggL_law_L_cell : GoodIn wsL_law wsL_cell := goodIn_r _ [102] (by decide +kernel) (by decide +kernel)
set_option maxRecDepth 20000 in
theorem gL_law_L_cell : GoodIn wsL_law (va_wsS RL 121 yL_cell wsL_cell) := goodIn_app (goodIn_of _ (by decide +kernel)) ggL_law_L_cell
set_option maxRecDepth 20000 in
theorem ggL_law_L_act : GoodIn wsL_law wsL_act := goodIn_ca (goodIn_ca (goodIn_ca (goodIn_r _ [105, 106, 107, 108, 101, 109, 110, 111, 112, 113, 114, 115, 3, 116, 117, 118, 2, 119, 120, 121, 13, 31, 122, 123, 124, 125, 126, 127, 57, 58, 128, 59, 60, 129, 62, 63, 12, 64, 37, 53, 54, 130, 131, 132, 133, 43, 134, 135, 136, 137, 39, 40, 41, 42, 38, 44, 45, 46, 47, 48, 49, 50, 51, 52, 55, 56, 61, 138, 139, 140, 141, 142, 143, 144, 145, 146, 147, 148, 17, 149, 150, 151, 16, 152, 69, 153, 154, 155, 156, 157, 158, 159, 21, 25, 30, 160, 161, 162, 20, 163, 83, 76, 74, 75, 164, 165, 166, 167, 168, 169, 170, 171, 172, 173, 174, 175, 176, 177, 178, 179, 24, 180, 96, 94, 181, 182, 183, 184, 81, 185, 89, 186, 187, 188, 189, 190, 191, 192, 193, 194, 195, 196, 197, 198, 199, 200, 201, 202, 203, 204, 205, 206, 207, 208, 209, 210, 211, 212, 213, 214, 215, 216, 217, 218, 219, 220, 221, 222, 223, 224, 225, 97, 226, 227, 228, 229, 230, 231, 232, 233, 234, 235, 236, 237, 238, 239, 240, 241, 242, 243, 244, 245, 246, 247, 248, 249, 250, 251, 252, 253, 254, 255, 256, 257, 258, 259, 260, 261, 262, 263, 264, 265, 266, 267, 268, 269, 28, 29, 270, 271, 272, 273, 274, 275, 276, 277, 278, 279, 280, 78, 281, 282, 283, 284, 285, 286, 287, 288, 289, 290, 291, 292, 293, 294, 295, 296, 297, 298, 299, 300, 301, 302, 303, 304, 305, 82, 306, 307, 308, 309, 310, 311, 312, 77, 313, 314, 315, 316, 317, 318, 319, 320, 321, 322, 323, 324, 325, 326, 327, 328, 329, 330, 331, 332, 333, 334, 335, 336, 337, 338, 339, 340, 341, 342, 343, 344, 345, 346, 347, 348, 349, 350, 351, 352, 353, 354, 355, 356, 357, 358, 359, 360, 361, 362, 363, 364, 365, 366, 367, 368, 369, 370, 371, 372, 373, 374, 375, 376, 377, 378, 379, 380, 381, 382, 383, 384, 385, 386, 387, 388, 389, 390, 391, 392, 393, 394, 395, 396, 397, 398, 399, 400, 401, 402, 403, 404, 405, 406, 407, 408, 409, 410, 411, 412, 413, 414, 415, 416, 417, 418, 419, 420, 421, 422, 423, 424, 425, 426, 427, 428, 429, 430, 431, 432, 433, 434, 435, 436, 472, 473, 474, 475, 476, 477, 478, 479, 480, 481, 482, 483, 484, 485, 486, 487, 488, 489, 490, 491, 492, 493, 494, 495, 496, 497, 498, 499] (by decide +kernel) (by decide +kernel)) (goodIn_sub (fun _ h => List.mem_append_left _ (List.mem_append_left _ (List.mem_append_right _ h))) (by decide +kernel))) (goodIn_sub (fun _ h => List.mem_append_left _ (List.mem_append_right _ h)) (by decide +kernel))) (goodIn_sub (fun _ h => List.mem_append_right _ h) (by decide +kernel))
set_option maxRecDepth 20000 in
theorem gL_law_L_act : GoodIn wsL_law (va_wsS RL 125 yL_act wsL_act) := goodIn_app (goodIn_of _ (by decide +kernel)) ggL_law_L_act
set_option maxRecDepth 20000 in
theorem ggL_law_L_areAlike : GoodIn wsL_law wsL_areAlike := goodIn_ca (goodIn_ca (goodIn_r _ [439, 440, 441, 101, 442, 115, 3, 443, 444, 445, 2, 446, 21, 354, 355, 356, 357, 120, 121, 31, 339, 340, 341, 20, 342, 83, 418, 419, 420, 421, 422, 423, 424, 425, 426, 427, 428, 167, 347, 348, 349, 350, 351, 352, 353, 358, 359, 360, 361, 25, 362, 303, 304, 305, 82, 76, 306, 237, 238, 81, 239, 89, 307, 245, 246, 247, 53, 54, 363, 364, 365, 24, 366, 96, 367, 368, 369, 370, 371, 255, 256, 257, 258, 259, 216, 260, 107, 108, 109, 110, 332, 333, 334, 114, 335, 336, 337, 338, 125, 126, 343, 344, 345, 346, 429, 430, 431, 432, 433, 434, 435, 122, 123, 124, 127, 57, 58, 128, 59, 60, 436, 241, 242, 243, 402, 403, 404, 405, 406, 407, 408, 409, 410, 411, 412, 413, 414, 415, 416, 417, 472, 473, 474, 475, 476, 477, 478, 479, 480, 485, 486, 487, 488, 489, 490, 491, 492, 493, 494, 495, 499, 496, 497, 498] (by decide +kernel) (by decide +kernel)) (goodIn_sub (fun _ h => List.mem_append_left _ (List.mem_append_left _ (List.mem_append_right _ h))) (by decide +kernel))) (goodIn_sub (fun _ h => List.mem_append_left _ (List.mem_append_right _ h)) (by decide +kernel))
set_option maxRecDepth 20000 in
theorem gL_law_L_areAlike : GoodIn wsL_law (va_wsS RL 128 yL_areAlike wsL_areAlike) := goodIn_app (goodIn_of _ (by decide +kernel)) ggL_law_L_areAlike
set_option maxRecDepth 20000 in
theorem ggL_law_L_samples : GoodIn wsL_law wsL_samples := goodIn_ca (goodIn_r _ [442, 115, 3, 443, 444, 445, 2, 446, 21, 354, 355, 356, 357, 120, 121, 31, 339, 340, 341, 20, 342, 83, 472, 473, 474, 475, 476, 477, 478, 479, 480, 485, 486, 487, 488, 489, 490, 491, 492, 493, 494, 495] (by decide +kernel) (by decide +kernel)) (goodIn_sub (fun _ h => List.mem_append_left _ (List.mem_append_left _ (List.mem_append_right _ h))) (by decide +kernel))
set_option maxRecDepth 20000 in
theorem gL_law_L_samples : GoodIn wsL_law (va_wsS RL 116 yL_samples wsL_samples) := goodIn_app (goodIn_of _ (by decide +kernel)) ggL_law_L_samples
set_option maxRecDepth 20000 in
theorem ggL_law_L_read : GoodIn wsL_law wsL_read := goodIn_ca (goodIn_ca (goodIn_ca (goodIn_r _ [272, 114, 141, 115, 3, 273, 274, 275, 2, 276, 146, 147, 21, 25, 193, 194, 195, 125, 126, 196, 55, 56, 197, 198, 199, 200, 120, 121, 31, 30, 277, 278, 279, 20, 280, 83, 78, 74, 76, 281, 282, 283, 12, 284, 285, 286, 216, 287, 218, 219, 220, 221, 38, 53, 54, 288, 289, 290, 291, 292, 293, 164, 165, 166, 294, 295, 296, 167, 297, 298, 299, 300, 301, 215, 217, 302, 303, 304, 305, 82, 306, 237, 238, 81, 239, 89, 307, 245, 246, 247, 308, 241, 242, 243, 309, 310, 311, 312, 77, 313, 233, 234, 235, 75, 209, 173, 174, 16, 175, 69, 176, 168, 169, 170, 171, 43, 37, 172, 314, 315, 316, 317, 318, 319, 320, 24, 321, 96, 94, 240, 322, 182, 183, 184, 185, 254, 255, 256, 257, 258, 259, 260, 323, 178, 179, 180, 181, 62, 63, 64, 249, 250, 251, 252, 253, 261, 262, 263, 264, 265, 266, 267, 268, 269, 28, 29, 472, 473, 474, 475, 476, 477, 478, 479, 480, 485, 486, 487, 488, 489, 490, 491, 492, 493, 494, 495, 481, 482, 483, 499, 484, 496, 497, 498] (by decide +kernel) (by decide +kernel)) (goodIn_sub (fun _ h => List.mem_append_right _ h) (by decide +kernel))) (goodIn_sub (fun _ h => List.mem_append_left _ (List.mem_append_right _ h)) (by decide +kernel))) (goodIn_sub (fun _ h => List.mem_append_left _ (List.mem_append_left _ (List.mem_append_right _ h))) (by decide +kernel))
set_option maxRecDepth 20000 in
theorem gL_law_L_read : GoodIn wsL_law (va_wsS RL 92 yL_read wsL_read) := goodIn_app (goodIn_of _ (by decide +kernel)) ggL_law_L_read
set_option maxRecDepth 20000 in
theorem ggL_law_L_isSo : GoodIn wsL_law wsL_isSo := goodIn_ca (goodIn_ca (goodIn_ca (goodIn_r _ [449, 450, 3, 327, 328, 329, 2, 330, 13, 122, 123, 124, 125, 126, 127, 57, 58, 193, 194, 195, 196, 55, 56, 128, 59, 60, 331, 219, 220, 12, 221, 38, 53, 54, 451, 452, 453, 454, 21, 354, 355, 356, 357, 120, 121, 31, 362, 303, 304, 20, 305, 82, 83, 76, 306, 237, 238, 81, 239, 89, 307, 245, 246, 247, 436, 241, 242, 243, 432, 433, 434, 435, 25, 363, 364, 365, 24, 366, 96, 455, 456, 457, 458, 26, 459, 460, 461, 462, 30, 29, 28, 177, 178, 179, 180, 94, 181, 62, 63, 64, 37, 182, 183, 184, 185, 463, 464, 465, 466, 97, 228, 229, 230, 231, 232, 233, 234, 235, 467, 468, 469, 470, 226, 227, 240, 471, 49, 50, 51, 52, 248, 211, 212, 213, 214, 215, 216, 217, 218, 48, 249, 250, 251, 252, 253, 254, 255, 256, 257, 258, 259, 260, 261, 262, 263, 264, 265, 318, 319, 320, 321, 322, 282, 283, 284, 285, 286, 287, 323, 405, 406, 407, 408, 409, 410, 411, 412, 413, 414, 415, 416, 417, 443, 444, 445, 446, 339, 340, 341, 342, 350, 351, 352, 353, 358, 359, 360, 361, 367, 368, 369, 370, 371, 396, 397, 398, 399, 146, 147, 400, 401, 389, 390, 391, 384, 385, 386, 387, 388, 392, 288, 289, 421, 422, 423, 424, 425, 426, 427, 428, 167, 332, 333, 101, 334, 114, 335, 336, 337, 338, 343, 344, 345, 346, 472, 473, 474, 475, 476, 477, 478, 479, 480, 481, 482, 483, 485, 486, 487, 488, 489, 490, 491, 492, 493, 494, 495, 499, 496, 497, 498] (by decide +kernel) (by decide +kernel)) (goodIn_sub (fun _ h => List.mem_append_left _ (List.mem_append_right _ h)) (by decide +kernel))) (goodIn_sub (fun _ h => List.mem_append_left _ (List.mem_append_left _ (List.mem_append_right _ h))) (by decide +kernel))) (goodIn_sub (fun _ h => List.mem_append_right _ h) (by decide +kernel))
set_option maxRecDepth 20000 in
theorem gL_law_L_isSo : GoodIn wsL_law (va_wsS RL 132 yL_isSo wsL_isSo) := goodIn_app (goodIn_of _ (by decide +kernel)) ggL_law_L_isSo
theorem dL_law_0 : decode cL_law 0 = .ok (.new 9, 3) := by decide +kernel
theorem dL_law_3 : decode cL_law 3 = .ok (.dup, 1) := by decide +kernel
theorem dL_law_4 : decode cL_law 4 = .ok (.invokespecial 120, 3) := by decide +kernel
theorem dL_law_7 : decode cL_law 7 = .ok (.astore_n 1, 1) := by decide +kernel
theorem dL_law_8 : decode cL_law 8 = .ok (.new 9, 3) := by decide +kernel
theorem dL_law_11 : decode cL_law 11 = .ok (.dup, 1) := by decide +kernel
theorem dL_law_12 : decode cL_law 12 = .ok (.invokespecial 120, 3) := by decide +kernel
theorem dL_law_15 : decode cL_law 15 = .ok (.astore_n 2, 1) := by decide +kernel
theorem dL_law_16 : decode cL_law 16 = .ok (.iconst 0, 1) := by decide +kernel
theorem dL_law_17 : decode cL_law 17 = .ok (.istore_n 3, 1) := by decide +kernel
theorem dL_law_18 : decode cL_law 18 = .ok (.iload_n 3, 1) := by decide +kernel
theorem dL_law_19 : decode cL_law 19 = .ok (.bipush 80, 2) := by decide +kernel
theorem dL_law_21 : decode cL_law 21 = .ok (.if_icmp .ge 70, 3) := by decide +kernel
theorem dL_law_24 : decode cL_law 24 = .ok (.aload_n 0, 1) := by decide +kernel
theorem dL_law_25 : decode cL_law 25 = .ok (.iload_n 3, 1) := by decide +kernel
theorem dL_law_26 : decode cL_law 26 = .ok (.invokestatic 121, 3) := by decide +kernel
theorem dL_law_29 : decode cL_law 29 = .ok (.istore 4, 2) := by decide +kernel
theorem dL_law_31 : decode cL_law 31 = .ok (.aload_n 1, 1) := by decide +kernel
theorem dL_law_32 : decode cL_law 32 = .ok (.iload 4, 2) := by decide +kernel
theorem dL_law_34 : decode cL_law 34 = .ok (.iload_n 3, 1) := by decide +kernel
theorem dL_law_35 : decode cL_law 35 = .ok (.invokestatic 125, 3) := by decide +kernel
theorem dL_law_38 : decode cL_law 38 = .ok (.lstore 5, 2) := by decide +kernel
theorem dL_law_40 : decode cL_law 40 = .ok (.lload 5, 2) := by decide +kernel
theorem dL_law_42 : decode cL_law 42 = .ok (.ldc2_w 16, 3) := by decide +kernel
theorem dL_law_45 : decode cL_law 45 = .ok (.lcmp, 1) := by decide +kernel
theorem dL_law_46 : decode cL_law 46 = .ok (.ifCond .eq 16, 3) := by decide +kernel
theorem dL_law_49 : decode cL_law 49 = .ok (.aload_n 2, 1) := by decide +kernel
theorem dL_law_50 : decode cL_law 50 = .ok (.iload 4, 2) := by decide +kernel
theorem dL_law_52 : decode cL_law 52 = .ok (.iload_n 3, 1) := by decide +kernel
theorem dL_law_53 : decode cL_law 53 = .ok (.invokestatic 125, 3) := by decide +kernel
theorem dL_law_56 : decode cL_law 56 = .ok (.lload 5, 2) := by decide +kernel
theorem dL_law_58 : decode cL_law 58 = .ok (.lcmp, 1) := by decide +kernel
theorem dL_law_59 : decode cL_law 59 = .ok (.ifCond .ne 24, 3) := by decide +kernel
theorem dL_law_62 : decode cL_law 62 = .ok (.iload_n 3, 1) := by decide +kernel
theorem dL_law_63 : decode cL_law 63 = .ok (.bipush 20, 2) := by decide +kernel
theorem dL_law_65 : decode cL_law 65 = .ok (.irem, 1) := by decide +kernel
theorem dL_law_66 : decode cL_law 66 = .ok (.bipush 19, 2) := by decide +kernel
theorem dL_law_68 : decode cL_law 68 = .ok (.if_icmp .ne 17, 3) := by decide +kernel
theorem dL_law_71 : decode cL_law 71 = .ok (.aload_n 1, 1) := by decide +kernel
theorem dL_law_72 : decode cL_law 72 = .ok (.aload_n 2, 1) := by decide +kernel
theorem dL_law_73 : decode cL_law 73 = .ok (.iload 4, 2) := by decide +kernel
theorem dL_law_75 : decode cL_law 75 = .ok (.iconst 3, 1) := by decide +kernel
theorem dL_law_76 : decode cL_law 76 = .ok (.ishr, 1) := by decide +kernel
theorem dL_law_77 : decode cL_law 77 = .ok (.invokestatic 128, 3) := by decide +kernel
theorem dL_law_80 : decode cL_law 80 = .ok (.ifCond .ne 5, 3) := by decide +kernel
theorem dL_law_83 : decode cL_law 83 = .ok (.iconst 0, 1) := by decide +kernel
theorem dL_law_84 : decode cL_law 84 = .ok (.ireturn, 1) := by decide +kernel
theorem dL_law_85 : decode cL_law 85 = .ok (.iinc 3 1, 3) := by decide +kernel
theorem dL_law_88 : decode cL_law 88 = .ok (.goto (-70), 3) := by decide +kernel
theorem dL_law_91 : decode cL_law 91 = .ok (.aload_n 1, 1) := by decide +kernel
theorem dL_law_92 : decode cL_law 92 = .ok (.invokestatic 116, 3) := by decide +kernel
theorem dL_law_95 : decode cL_law 95 = .ok (.lconst 0, 1) := by decide +kernel
theorem dL_law_96 : decode cL_law 96 = .ok (.lcmp, 1) := by decide +kernel
theorem dL_law_97 : decode cL_law 97 = .ok (.ifCond .ge 24, 3) := by decide +kernel
theorem dL_law_100 : decode cL_law 100 = .ok (.aload_n 1, 1) := by decide +kernel
theorem dL_law_101 : decode cL_law 101 = .ok (.iconst 0, 1) := by decide +kernel
theorem dL_law_102 : decode cL_law 102 = .ok (.iconst 0, 1) := by decide +kernel
theorem dL_law_103 : decode cL_law 103 = .ok (.invokestatic 92, 3) := by decide +kernel
theorem dL_law_106 : decode cL_law 106 = .ok (.ldc2_w 16, 3) := by decide +kernel
theorem dL_law_109 : decode cL_law 109 = .ok (.lcmp, 1) := by decide +kernel
theorem dL_law_110 : decode cL_law 110 = .ok (.ifCond .ne 7, 3) := by decide +kernel
theorem dL_law_113 : decode cL_law 113 = .ok (.iconst 1, 1) := by decide +kernel
theorem dL_law_114 : decode cL_law 114 = .ok (.goto 11, 3) := by decide +kernel
theorem dL_law_117 : decode cL_law 117 = .ok (.iconst 0, 1) := by decide +kernel
theorem dL_law_118 : decode cL_law 118 = .ok (.goto 7, 3) := by decide +kernel
theorem dL_law_121 : decode cL_law 121 = .ok (.aload_n 1, 1) := by decide +kernel
theorem dL_law_122 : decode cL_law 122 = .ok (.invokestatic 132, 3) := by decide +kernel
theorem dL_law_125 : decode cL_law 125 = .ok (.ireturn, 1) := by decide +kernel
abbrev vwCl : List vw_C := [(RX0, TX0, 3), (RX1, TX1, 1), (RX2, TX2, 1), (RX3, TX3, 3), (RX4, TX4, 11), (RX5, TX5, 9)]
end
