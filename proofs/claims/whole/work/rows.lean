section
-- ===== PART A: goes FIRST, ahead of the names: the tables' words, and 'selects' of the private methods out of them =====
/-- a private method of a class that the tables say can be made, by its rows of tables_1 -/
def lw_okq (q : MethodName × Nat) : Prop := (q.1.cls ≠ "java/lang/invoke/MethodHandle" ∧ q.1.cls ≠ "java/lang/invoke/VarHandle") ∧ Cond.instantiable q.1.cls q.2 ∈ tables_1 ∧ Cond.privateMethod q.1 ∈ tables_1 ∧ Cond.instanceMethod q.1 ∈ tables_1
theorem lw_p0 : lw_okq (⟨"Particleway$Field", "measure", "()V"⟩, 3) := ⟨⟨by decide +kernel, by decide +kernel⟩, List.mem_of_getElem? (i := 25) (by decide +kernel), List.mem_of_getElem? (i := 31) (by decide +kernel), List.mem_of_getElem? (i := 32) (by decide +kernel)⟩
theorem lw_p1 : lw_okq (⟨"Particleway$Field", "countedSteps", "(II)I"⟩, 3) := ⟨⟨by decide +kernel, by decide +kernel⟩, List.mem_of_getElem? (i := 25) (by decide +kernel), List.mem_of_getElem? (i := 35) (by decide +kernel), List.mem_of_getElem? (i := 36) (by decide +kernel)⟩
theorem lw_p2 : lw_okq (⟨"java/lang/Throwable", "fillInStackTrace", "(I)Ljava/lang/Throwable;"⟩, 6) := ⟨⟨by decide +kernel, by decide +kernel⟩, List.mem_of_getElem? (i := 232) (by decide +kernel), List.mem_of_getElem? (i := 230) (by decide +kernel), List.mem_of_getElem? (i := 231) (by decide +kernel)⟩
theorem lw_p3 : lw_okq (⟨"Particleway", "checkMayTell", "()V"⟩, 9) := ⟨⟨by decide +kernel, by decide +kernel⟩, List.mem_of_getElem? (i := 17) (by decide +kernel), List.mem_of_getElem? (i := 351) (by decide +kernel), List.mem_of_getElem? (i := 352) (by decide +kernel)⟩
theorem lw_p4 : lw_okq (⟨"Particleway$Samples", "drawnSteps", "()I"⟩, 11) := ⟨⟨by decide +kernel, by decide +kernel⟩, List.mem_of_getElem? (i := 84) (by decide +kernel), List.mem_of_getElem? (i := 359) (by decide +kernel), List.mem_of_getElem? (i := 360) (by decide +kernel)⟩
theorem lw_p5 : lw_okq (⟨"Particleway$Beliefs", "halveGreat", "()V"⟩, 3) := ⟨⟨by decide +kernel, by decide +kernel⟩, List.mem_of_getElem? (i := 135) (by decide +kernel), List.mem_of_getElem? (i := 401) (by decide +kernel), List.mem_of_getElem? (i := 402) (by decide +kernel)⟩
theorem lw_p6 : lw_okq (⟨"Particleway", "keep", "(II)V"⟩, 9) := ⟨⟨by decide +kernel, by decide +kernel⟩, List.mem_of_getElem? (i := 17) (by decide +kernel), List.mem_of_getElem? (i := 418) (by decide +kernel), List.mem_of_getElem? (i := 419) (by decide +kernel)⟩
theorem lw_p7 : lw_okq (⟨"Particleway$Samples", "compareFit", "(I)V"⟩, 11) := ⟨⟨by decide +kernel, by decide +kernel⟩, List.mem_of_getElem? (i := 84) (by decide +kernel), List.mem_of_getElem? (i := 443) (by decide +kernel), List.mem_of_getElem? (i := 444) (by decide +kernel)⟩
theorem lw_p8 : lw_okq (⟨"Particleway$Samples", "manyAnew", "(II)I"⟩, 11) := ⟨⟨by decide +kernel, by decide +kernel⟩, List.mem_of_getElem? (i := 84) (by decide +kernel), List.mem_of_getElem? (i := 450) (by decide +kernel), List.mem_of_getElem? (i := 451) (by decide +kernel)⟩
theorem lw_p9 : lw_okq (⟨"Particleway$Samples", "drawAnew", "(II)V"⟩, 11) := ⟨⟨by decide +kernel, by decide +kernel⟩, List.mem_of_getElem? (i := 84) (by decide +kernel), List.mem_of_getElem? (i := 462) (by decide +kernel), List.mem_of_getElem? (i := 463) (by decide +kernel)⟩
theorem lw_p10 : lw_okq (⟨"Particleway$Samples", "oldCellBeyond", "(J)I"⟩, 11) := ⟨⟨by decide +kernel, by decide +kernel⟩, List.mem_of_getElem? (i := 84) (by decide +kernel), List.mem_of_getElem? (i := 467) (by decide +kernel), List.mem_of_getElem? (i := 468) (by decide +kernel)⟩
theorem lw_p11 : lw_okq (⟨"Particleway", "checkSpread", "()V"⟩, 9) := ⟨⟨by decide +kernel, by decide +kernel⟩, List.mem_of_getElem? (i := 17) (by decide +kernel), List.mem_of_getElem? (i := 492) (by decide +kernel), List.mem_of_getElem? (i := 493) (by decide +kernel)⟩
theorem lw_p12 : lw_okq (⟨"Particleway", "repeatAllTold", "()V"⟩, 9) := ⟨⟨by decide +kernel, by decide +kernel⟩, List.mem_of_getElem? (i := 17) (by decide +kernel), List.mem_of_getElem? (i := 538) (by decide +kernel), List.mem_of_getElem? (i := 539) (by decide +kernel)⟩
theorem lw_p13 : lw_okq (⟨"Particleway$Beliefs", "fetched", "(II)J"⟩, 3) := ⟨⟨by decide +kernel, by decide +kernel⟩, List.mem_of_getElem? (i := 135) (by decide +kernel), List.mem_of_getElem? (i := 546) (by decide +kernel), List.mem_of_getElem? (i := 547) (by decide +kernel)⟩
theorem lw_p14 : lw_okq (⟨"Particleway", "chartOf", "(Z)LParticleway$Chart;"⟩, 9) := ⟨⟨by decide +kernel, by decide +kernel⟩, List.mem_of_getElem? (i := 17) (by decide +kernel), List.mem_of_getElem? (i := 558) (by decide +kernel), List.mem_of_getElem? (i := 559) (by decide +kernel)⟩
theorem lw_p15 : lw_okq (⟨"Particleway$Chart", "placeOf", "(I)I"⟩, 1) := ⟨⟨by decide +kernel, by decide +kernel⟩, List.mem_of_getElem? (i := 90) (by decide +kernel), List.mem_of_getElem? (i := 608) (by decide +kernel), List.mem_of_getElem? (i := 609) (by decide +kernel)⟩
def lw_privs_1 : List (MethodName × Nat) := [(⟨"Particleway$Field", "measure", "()V"⟩, 3), (⟨"Particleway$Field", "countedSteps", "(II)I"⟩, 3), (⟨"java/lang/Throwable", "fillInStackTrace", "(I)Ljava/lang/Throwable;"⟩, 6), (⟨"Particleway", "checkMayTell", "()V"⟩, 9), (⟨"Particleway$Samples", "drawnSteps", "()I"⟩, 11), (⟨"Particleway$Beliefs", "halveGreat", "()V"⟩, 3), (⟨"Particleway", "keep", "(II)V"⟩, 9), (⟨"Particleway$Samples", "compareFit", "(I)V"⟩, 11), (⟨"Particleway$Samples", "manyAnew", "(II)I"⟩, 11), (⟨"Particleway$Samples", "drawAnew", "(II)V"⟩, 11), (⟨"Particleway$Samples", "oldCellBeyond", "(J)I"⟩, 11), (⟨"Particleway", "checkSpread", "()V"⟩, 9), (⟨"Particleway", "repeatAllTold", "()V"⟩, 9), (⟨"Particleway$Beliefs", "fetched", "(II)J"⟩, 3), (⟨"Particleway", "chartOf", "(Z)LParticleway$Chart;"⟩, 9), (⟨"Particleway$Chart", "placeOf", "(I)I"⟩, 1)]
theorem lw_r1 : ∀ q ∈ lw_privs_1, lw_okq q := List.forall_mem_cons.mpr ⟨lw_p0, List.forall_mem_cons.mpr ⟨lw_p1, List.forall_mem_cons.mpr ⟨lw_p2, List.forall_mem_cons.mpr ⟨lw_p3, List.forall_mem_cons.mpr ⟨lw_p4, List.forall_mem_cons.mpr ⟨lw_p5, List.forall_mem_cons.mpr ⟨lw_p6, List.forall_mem_cons.mpr ⟨lw_p7, List.forall_mem_cons.mpr ⟨lw_p8, List.forall_mem_cons.mpr ⟨lw_p9, List.forall_mem_cons.mpr ⟨lw_p10, List.forall_mem_cons.mpr ⟨lw_p11, List.forall_mem_cons.mpr ⟨lw_p12, List.forall_mem_cons.mpr ⟨lw_p13, List.forall_mem_cons.mpr ⟨lw_p14, List.forall_mem_cons.mpr ⟨lw_p15, fun _ h => absurd h List.not_mem_nil⟩⟩⟩⟩⟩⟩⟩⟩⟩⟩⟩⟩⟩⟩⟩⟩
theorem lw_p16 : lw_okq (⟨"ParticlewayModel", "free", "()I"⟩, 15) := ⟨⟨by decide +kernel, by decide +kernel⟩, List.mem_of_getElem? (i := 624) (by decide +kernel), List.mem_of_getElem? (i := 690) (by decide +kernel), List.mem_of_getElem? (i := 691) (by decide +kernel)⟩
theorem lw_p17 : lw_okq (⟨"ParticlewayModel", "goesWell", "(I)Z"⟩, 15) := ⟨⟨by decide +kernel, by decide +kernel⟩, List.mem_of_getElem? (i := 624) (by decide +kernel), List.mem_of_getElem? (i := 694) (by decide +kernel), List.mem_of_getElem? (i := 695) (by decide +kernel)⟩
theorem lw_p18 : lw_okq (⟨"ParticlewayModel", "drawCell", "()I"⟩, 15) := ⟨⟨by decide +kernel, by decide +kernel⟩, List.mem_of_getElem? (i := 624) (by decide +kernel), List.mem_of_getElem? (i := 707) (by decide +kernel), List.mem_of_getElem? (i := 708) (by decide +kernel)⟩
theorem lw_p19 : lw_okq (⟨"ParticlewayModel", "next", "()I"⟩, 15) := ⟨⟨by decide +kernel, by decide +kernel⟩, List.mem_of_getElem? (i := 624) (by decide +kernel), List.mem_of_getElem? (i := 711) (by decide +kernel), List.mem_of_getElem? (i := 712) (by decide +kernel)⟩
theorem lw_p20 : lw_okq (⟨"ParticlewayModel", "believeAll", "()V"⟩, 15) := ⟨⟨by decide +kernel, by decide +kernel⟩, List.mem_of_getElem? (i := 624) (by decide +kernel), List.mem_of_getElem? (i := 716) (by decide +kernel), List.mem_of_getElem? (i := 717) (by decide +kernel)⟩
theorem lw_p21 : lw_okq (⟨"ParticlewayModel", "step", "(II)I"⟩, 15) := ⟨⟨by decide +kernel, by decide +kernel⟩, List.mem_of_getElem? (i := 624) (by decide +kernel), List.mem_of_getElem? (i := 727) (by decide +kernel), List.mem_of_getElem? (i := 728) (by decide +kernel)⟩
theorem lw_p22 : lw_okq (⟨"ParticlewayModel", "halve", "()V"⟩, 15) := ⟨⟨by decide +kernel, by decide +kernel⟩, List.mem_of_getElem? (i := 624) (by decide +kernel), List.mem_of_getElem? (i := 733) (by decide +kernel), List.mem_of_getElem? (i := 734) (by decide +kernel)⟩
theorem lw_p23 : lw_okq (⟨"ParticlewayModel", "greatest", "()J"⟩, 15) := ⟨⟨by decide +kernel, by decide +kernel⟩, List.mem_of_getElem? (i := 624) (by decide +kernel), List.mem_of_getElem? (i := 737) (by decide +kernel), List.mem_of_getElem? (i := 738) (by decide +kernel)⟩
theorem lw_p24 : lw_okq (⟨"ParticlewayModel", "weightOf", "(III)I"⟩, 15) := ⟨⟨by decide +kernel, by decide +kernel⟩, List.mem_of_getElem? (i := 624) (by decide +kernel), List.mem_of_getElem? (i := 747) (by decide +kernel), List.mem_of_getElem? (i := 748) (by decide +kernel)⟩
theorem lw_p25 : lw_okq (⟨"ParticlewayModel", "reads", "(II)I"⟩, 15) := ⟨⟨by decide +kernel, by decide +kernel⟩, List.mem_of_getElem? (i := 624) (by decide +kernel), List.mem_of_getElem? (i := 751) (by decide +kernel), List.mem_of_getElem? (i := 752) (by decide +kernel)⟩
theorem lw_p26 : lw_okq (⟨"ParticlewayModel", "judge", "(I)V"⟩, 15) := ⟨⟨by decide +kernel, by decide +kernel⟩, List.mem_of_getElem? (i := 624) (by decide +kernel), List.mem_of_getElem? (i := 755) (by decide +kernel), List.mem_of_getElem? (i := 756) (by decide +kernel)⟩
theorem lw_p27 : lw_okq (⟨"ParticlewayModel", "drawAnew", "(I)V"⟩, 15) := ⟨⟨by decide +kernel, by decide +kernel⟩, List.mem_of_getElem? (i := 624) (by decide +kernel), List.mem_of_getElem? (i := 759) (by decide +kernel), List.mem_of_getElem? (i := 760) (by decide +kernel)⟩
theorem lw_p28 : lw_okq (⟨"ParticlewayModel", "manyNew", "()I"⟩, 15) := ⟨⟨by decide +kernel, by decide +kernel⟩, List.mem_of_getElem? (i := 624) (by decide +kernel), List.mem_of_getElem? (i := 763) (by decide +kernel), List.mem_of_getElem? (i := 764) (by decide +kernel)⟩
theorem lw_p29 : lw_okq (⟨"ParticlewayModel", "oldAbove", "(I)I"⟩, 15) := ⟨⟨by decide +kernel, by decide +kernel⟩, List.mem_of_getElem? (i := 624) (by decide +kernel), List.mem_of_getElem? (i := 767) (by decide +kernel), List.mem_of_getElem? (i := 768) (by decide +kernel)⟩
theorem lw_p30 : lw_okq (⟨"ParticlewayModel", "areNone", "()Z"⟩, 15) := ⟨⟨by decide +kernel, by decide +kernel⟩, List.mem_of_getElem? (i := 624) (by decide +kernel), List.mem_of_getElem? (i := 771) (by decide +kernel), List.mem_of_getElem? (i := 772) (by decide +kernel)⟩
theorem lw_p31 : lw_okq (⟨"ParticlewayModel", "countOf", "(I)I"⟩, 15) := ⟨⟨by decide +kernel, by decide +kernel⟩, List.mem_of_getElem? (i := 624) (by decide +kernel), List.mem_of_getElem? (i := 791) (by decide +kernel), List.mem_of_getElem? (i := 792) (by decide +kernel)⟩
def lw_privs_2 : List (MethodName × Nat) := [(⟨"ParticlewayModel", "free", "()I"⟩, 15), (⟨"ParticlewayModel", "goesWell", "(I)Z"⟩, 15), (⟨"ParticlewayModel", "drawCell", "()I"⟩, 15), (⟨"ParticlewayModel", "next", "()I"⟩, 15), (⟨"ParticlewayModel", "believeAll", "()V"⟩, 15), (⟨"ParticlewayModel", "step", "(II)I"⟩, 15), (⟨"ParticlewayModel", "halve", "()V"⟩, 15), (⟨"ParticlewayModel", "greatest", "()J"⟩, 15), (⟨"ParticlewayModel", "weightOf", "(III)I"⟩, 15), (⟨"ParticlewayModel", "reads", "(II)I"⟩, 15), (⟨"ParticlewayModel", "judge", "(I)V"⟩, 15), (⟨"ParticlewayModel", "drawAnew", "(I)V"⟩, 15), (⟨"ParticlewayModel", "manyNew", "()I"⟩, 15), (⟨"ParticlewayModel", "oldAbove", "(I)I"⟩, 15), (⟨"ParticlewayModel", "areNone", "()Z"⟩, 15), (⟨"ParticlewayModel", "countOf", "(I)I"⟩, 15)]
theorem lw_r2 : ∀ q ∈ lw_privs_2, lw_okq q := List.forall_mem_cons.mpr ⟨lw_p16, List.forall_mem_cons.mpr ⟨lw_p17, List.forall_mem_cons.mpr ⟨lw_p18, List.forall_mem_cons.mpr ⟨lw_p19, List.forall_mem_cons.mpr ⟨lw_p20, List.forall_mem_cons.mpr ⟨lw_p21, List.forall_mem_cons.mpr ⟨lw_p22, List.forall_mem_cons.mpr ⟨lw_p23, List.forall_mem_cons.mpr ⟨lw_p24, List.forall_mem_cons.mpr ⟨lw_p25, List.forall_mem_cons.mpr ⟨lw_p26, List.forall_mem_cons.mpr ⟨lw_p27, List.forall_mem_cons.mpr ⟨lw_p28, List.forall_mem_cons.mpr ⟨lw_p29, List.forall_mem_cons.mpr ⟨lw_p30, List.forall_mem_cons.mpr ⟨lw_p31, fun _ h => absurd h List.not_mem_nil⟩⟩⟩⟩⟩⟩⟩⟩⟩⟩⟩⟩⟩⟩⟩⟩
theorem lw_p32 : lw_okq (⟨"ParticlewayModel", "partOf", "(IZ)J"⟩, 15) := ⟨⟨by decide +kernel, by decide +kernel⟩, List.mem_of_getElem? (i := 624) (by decide +kernel), List.mem_of_getElem? (i := 807) (by decide +kernel), List.mem_of_getElem? (i := 808) (by decide +kernel)⟩
theorem lw_p33 : lw_okq (⟨"ParticlewayModel", "ahead", "(I)I"⟩, 15) := ⟨⟨by decide +kernel, by decide +kernel⟩, List.mem_of_getElem? (i := 624) (by decide +kernel), List.mem_of_getElem? (i := 825) (by decide +kernel), List.mem_of_getElem? (i := 826) (by decide +kernel)⟩
def lw_privs_3 : List (MethodName × Nat) := [(⟨"ParticlewayModel", "partOf", "(IZ)J"⟩, 15), (⟨"ParticlewayModel", "ahead", "(I)I"⟩, 15)]
theorem lw_r3 : ∀ q ∈ lw_privs_3, lw_okq q := List.forall_mem_cons.mpr ⟨lw_p32, List.forall_mem_cons.mpr ⟨lw_p33, fun _ h => absurd h List.not_mem_nil⟩⟩
def lw_privs : List (MethodName × Nat) := lw_privs_1 ++ (lw_privs_2 ++ (lw_privs_3))
def lw_tbl : List Cond := k2_sels lw_privs ++ tables_1
theorem lw_privs_ok : ∀ q ∈ lw_privs, lw_okq q := by
  show ∀ q ∈ lw_privs_1 ++ (lw_privs_2 ++ (lw_privs_3)), lw_okq q
  exact List.forall_mem_append.mpr ⟨lw_r1, List.forall_mem_append.mpr ⟨lw_r2, lw_r3⟩⟩
/-! ===== BEGIN words of one list among another's, by their places ===== -/
theorem goodIn_r {big : List Cond} (ws : List Cond) (ps : List Nat) (hp : ws = ps.filterMap (fun i => big[i]?)) (h : ws.all goodWord = true) : GoodIn big ws := by
  intro w hw
  have h1 := List.all_eq_true.mp h w hw
  rw [hp] at hw
  obtain ⟨i, -, hi⟩ := List.mem_filterMap.mp hw
  have hm : w ∈ big := by first | exact List.mem_of_getElem? hi | exact List.getElem?_mem hi
  exact ⟨hm, good_of_word h1⟩
theorem goodIn_app {big a b : List Cond} (ha : GoodIn big a) (hb : GoodIn big b) : GoodIn big (a ++ b) := fun w h => (List.mem_append.mp h).elim (ha w) (hb w)
theorem goodIn_ca {big a b : List Cond} {c : Cond} (ha : GoodIn big (c :: a)) (hb : GoodIn big b) : GoodIn big (c :: (a ++ b)) := fun w h => (List.mem_cons.mp h).elim (fun e => ha w (List.mem_cons.mpr (Or.inl e))) (fun h => (List.mem_append.mp h).elim (fun h => ha w (List.mem_cons.mpr (Or.inr h))) (hb w))
theorem goodIn_sub {big ws : List Cond} (hm : ∀ w ∈ ws, w ∈ big) (h : ws.all goodWord = true) : GoodIn big ws := fun w hw => ⟨hm w hw, good_of_word (List.all_eq_true.mp h w hw)⟩
/-! ===== END ===== -/

/-! ===== BEGIN exceptions that leave a method, and their catching by the caller (launches without stack traces) ===== -/
section VXA
/-! The laws vx_back, vx_callV, vx_callS, vx_callSW, vx_throw0, vx_throwS follow proofs of the library, with one case more: JvmDerived/Free/Laws.lean (Back.of_free), Shelf42/LK1.lean (callV, callS), Shelf/KitTraced.lean (throwNew0V, throwNewS). -/
/-- where a method has thrown q: the class by its name, the cell, what was written, the world -/
def vx_T (XC : String → State → State → Prop) (st : State) (q : Addr) (t : State) (mc ms : Nat) (free : Addr → Prop) : Prop :=
  ∃ (E : String) (ce : Cell) (L : List Loc), XC E st t ∧ t.heap[q]? = some ce ∧ ce.vm = .none ∧ st.vm.findClass E = some ce.cls ∧ st.WarmedH t.vm ∧ st.sameButNew ({ t with vm := st.vm } : State) L mc ms ∧ ∀ z ∈ L, free z.base
def vx_Q (Qc : Array Value → State → Outcome → State → Prop) (XC : String → State → State → Prop) (mc ms : Nat) (free : Addr → Prop) : Array Value → State → Outcome → State → Prop := fun a st o t =>
  (Qc a st o t ∧ ∃ L, FrameEnd st o t L mc ms ∧ ∀ q ∈ L, free q.base) ∨ ∃ q, o = .threw q ∧ vx_T XC st q t mc ms free
/-- a callee that returns or throws -/
def vx_Met (l : Launch) (y : MethodName) (ws : List Cond) (rm : Room) (Pc : Array Value → State → Prop) (Qc : Array Value → State → Outcome → State → Prop) (XC : String → State → State → Prop) (mc ms : Nat) (free : Addr → Prop) : Prop :=
  MetFree l y (headSpec ws rm) Pc (fun _ _ _ _ _ => True) (vx_Q Qc XC mc ms free)
def vx_Post (XC : String → State → State → Prop) (mc ms : Nat) (free : Addr → Prop) : Pt → Array Value → Addr → Pt → Prop := fun A a q B =>
  ∃ (g : JFrame) (mk : MethodId) (t : State) (L : List Loc) (E : String) (ce : Cell), B.U.heap = t.heap ∧ B.U.vm = t.vm ∧ XC E (A.U.calling g mk a) t ∧ t.heap[q]? = some ce ∧ ce.vm = .none ∧ A.U.vm.findClass E = some ce.cls ∧ B.locs = A.locs ++ L ∧ (∀ z ∈ L, free z.base) ∧ B.cells = A.cells + mc ∧ B.slots = A.slots + ms
def vx_Back (l : Launch) (R : Room) (p : Program) (e : Env) (below : List Frame) (s : State) (sargs : Array Value) (y : MethodName) (len W9 : Nat)
    (Pre : Pt → Array Value → Prop) (Post : Pt → Array Value → Option Value → Pt → Prop) (PostX : Pt → Array Value → Addr → Pt → Prop) : Prop :=
  ∀ (m : MethodId) (meth : Method) (c : Code) (A : Pt) (g : JFrame) (ig : Instr) (mk : MethodId) (a : Array Value),
    Stand p l e R s m sargs below meth c A.U A.locs A.cells A.slots → g.method = m → g.locals.size = c.maxLocals → decode c.code g.pc = .ok (ig, len) →
    2 * g.monitorRoom + (g.stack.map fun v => v.category).sum ≤ W9 → A.U.methodNamed? y = some mk → Pre A a →
    (∃ (v : Option Value) (B : Pt), Stand p l e R s m sargs below meth c B.U B.locs B.cells B.slots ∧ Post A a v B ∧
      Steps p.tables e below (doInvoke e (A.U.setTop g) [] mk a).1 (B.U.setTop { g with pc := g.pc + len, stack := v.toList ++ g.stack })) ∨
    (∃ (q : Addr) (B : Pt), Stand p l e R s m sargs below meth c B.U B.locs B.cells B.slots ∧ PostX A a q B ∧
      Steps p.tables e below (doInvoke e (A.U.setTop g) [] mk a).1 ((B.U.setTop g).pushFrame (.throwing q)))
section Payer
variable {l : Launch} {R : Room} {p : Program} {e : Env} {below : List Frame} {s : State} {sargs : Array Value} {y : MethodName} {len W9 : Nat}
theorem vx_back {ws : List Cond} {rm : Room} {Pc : Array Value → State → Prop} {Qc : Array Value → State → Outcome → State → Prop} {XC : String → State → State → Prop} {mc ms : Nat} {free : Addr → Prop} {bytes : ByteArray} {maxL : Nat} {ret : Option FieldType}
    (hM : vx_Met l y ws rm Pc Qc XC mc ms free) (hblind : FrameBlind Pc) (hrc : rm.cells = mc) (hrs : rm.slots = ms)
    (hframes : rm.frames + 1 ≤ R.frames) (hlocals : W9 + (maxL + 11) + rm.locals ≤ R.locals)
    (hws : ∀ w ∈ ws, ∀ a' U, s.WarmedH U.vm → w.before a' U = true) (hcode : Cond.code y bytes maxL ret ∈ ws) (hinit : ∀ a' U, s.WarmedH U.vm → (Cond.initialized y.cls).before a' U = true) :
    vx_Back l R p e below s sargs y len W9 (PreOf R mc ms Pc) (PostOf Qc mc ms free) (vx_Post XC mc ms free) := by
  intro m meth c A g ig mk a X hg hsize hdg hW hn hp
  have h1 : (headSpec ws rm).pre.before a A.U = true := atoms_intro fun w hw => hws w hw _ _ X.warmed
  have h2 : (Cond.code y bytes maxL ret).before a A.U = true := hws _ hcode _ _ X.warmed
  have h3 : (Cond.initialized y.cls).before a A.U = true := hinit _ _ X.warmed
  have h4 : A.cells + (headSpec ws rm).room.cells ≤ R.cells := by rw [show (headSpec ws rm).room.cells = mc from hrc]; exact hp.1
  have h5 : A.slots + (headSpec ws rm).room.slots ≤ R.slots := by rw [show (headSpec ws rm).room.slots = ms from hrs]; exact hp.2.1
  have hPc : Pc a (A.U.calling g mk a) := hblind _ _ _ _ hp.2.2
  obtain ⟨U, Ls, c0, s0⟩ := A
  dsimp only [Pt.U, Pt.locs, Pt.cells, Pt.slots] at h1 h2 h3 h4 h5 X hn hPc ⊢
  obtain ⟨methY, cY, hmY, hcY, -, hlY, -, -, -, -⟩ := Cond.code_spec hn h2
  obtain ⟨kY, hkY, -⟩ := className_of_methodNamed hn
  have hinitY : kY.init = .initialized := Cond.initialized_spec (findClass_of_methodNamed hn) hkY h3
  have h : At U g.method c below := by rw [hg]; exact X.here
  have hlocals9 : W9 + (maxL + 11) + (headSpec ws rm).room.locals ≤ R.locals := hlocals
  have happ : (headSpec ws rm).appliesLoose y e.platform (U.calling g mk a) = true :=
    Spec.appliesLoose_calling (g := g) h hdg hn hkY hinitY
      (X.room_calling (g := g) (R' := (headSpec ws rm).room) hsize hmY hcY hframes (by rw [hlY]; omega) h4 h5) h1
  obtain ⟨mid, hmid⟩ := h.above
  have hfr : (U.setTop g).frames = (.java g :: mid) ++ below := by rw [State.frames_setTop' g h.top, hmid]; rfl
  obtain ⟨o, s₂, hsteps, -, hend, hq⟩ := Steps.callFree hM p X.admits X.cas X.clock (acts := []) hfr happ hPc trivial
  have hq' : vx_Q Qc XC mc ms free a (U.calling g mk a) o s₂ := hq
  rw [State.frames_setTop' g h.top] at hend
  obtain ⟨g₀, hg0⟩ := Option.isSome_iff_exists.mp h.top
  obtain ⟨r, hr⟩ := State.topJava?_eq_some.mp hg0
  have hr' : (({ U with heap := s₂.heap, slotsUsed := s₂.slotsUsed } : State).setVm s₂.vm).frames = .java g₀ :: r := hr
  rcases hq' with ⟨hqc, L, hfe, hL⟩ | ⟨q, rfl, E, ce, L, hx, hce, hcv, hcl, hW₂, hsm, hL⟩
  · obtain ⟨⟨v, rfl⟩, hW₂, e2, q2, q3, q4, q5, q6⟩ := id hfe
    have e3 : s₂ = ({ (U.calling g mk a).setFrames s₂.frames with heap := s₂.heap, slotsUsed := s₂.slotsUsed } : State).setVm s₂.vm := by
      have : s₂ = ({ s₂ with vm := (U.calling g mk a).vm } : State).setVm s₂.vm := rfl
      rw [e2] at this
      exact this
    obtain ⟨c₂, i₂, len₂, hc₂, hd₂, hf₂⟩ := hend
    have hW' : U.WarmedH s₂.vm := hW₂
    have hcc : c₂ = c := by
      have h1 : s₂.code? g.method = U.code? g.method := by
        rw [State.code?_eq, State.code?_eq, hW'.alike.method?]
      exact Option.some.inj (hc₂.symm.trans (h1.trans h.code))
    subst hcc
    have hlen : len₂ = len := by rw [hdg] at hd₂; cases hd₂; rfl
    subst hlen
    have hs₂ : s₂ = (({ U with heap := s₂.heap, slotsUsed := s₂.slotsUsed } : State).setVm s₂.vm).setTop { g with pc := g.pc + len₂, stack := v.toList ++ g.stack } := by
      refine e3.trans ?_
      rw [hf₂, State.calling_eq h.top, State.setFrames_setFrames, State.setTop_of_frames _ hr', hr]
      rfl
    have hsame : U.sameButNew ({ U with heap := s₂.heap, slotsUsed := s₂.slotsUsed } : State) L mc ms := by
      refine ⟨?_, q2, q3, q4, q5, q6⟩
      obtain ⟨t, ht, -⟩ := State.frames_cons hr
      show ({ U with heap := s₂.heap, slotsUsed := s₂.slotsUsed } : State) = { U.setFrames U.frames with heap := s₂.heap, slotsUsed := s₂.slotsUsed }
      rw [State.setFrames_self ht]
    subst hg
    refine Or.inl ⟨v, ⟨(({ U with heap := s₂.heap, slotsUsed := s₂.slotsUsed } : State).setVm s₂.vm), Ls ++ L, c0 + mc, s0 + ms⟩,
      ⟨X.admits, X.cas, X.clock, X.frames, X.room, X.hears, X.method, X.code, (X.here.setHeapUsed s₂.heap s₂.slotsUsed).setVm hW'.alike, X.tail, State.WarmedH.trans X.warmed hW', X.limits, X.bytes, X.same.trans (hsame.setVm s.vm)⟩,
      ⟨g, mk, s₂, L, rfl, rfl, hqc, rfl, hL, rfl, rfl⟩, ?_⟩
    show Steps p.tables e below _ ((({ U with heap := s₂.heap, slotsUsed := s₂.slotsUsed } : State).setVm s₂.vm).setTop { g with pc := g.pc + len₂, stack := v.toList ++ g.stack })
    rw [← hs₂]
    exact hsteps
  · obtain ⟨e2, q2, q3, q4, q5, q6⟩ := id hsm
    have e3 : s₂ = ({ (U.calling g mk a).setFrames s₂.frames with heap := s₂.heap, slotsUsed := s₂.slotsUsed } : State).setVm s₂.vm := by
      have : s₂ = ({ s₂ with vm := (U.calling g mk a).vm } : State).setVm s₂.vm := rfl
      rw [e2] at this
      exact this
    have hf₂ : s₂.frames = .throwing q :: .java g :: U.frames.tail := hend
    have hW' : U.WarmedH s₂.vm := hW₂
    have hs₂ : s₂ = ((({ U with heap := s₂.heap, slotsUsed := s₂.slotsUsed } : State).setVm s₂.vm).setTop g).pushFrame (.throwing q) := by
      refine e3.trans ?_
      rw [hf₂, State.calling_eq h.top, State.setFrames_setFrames, State.pushFrame, State.frames_setTop _ hr', State.setTop_of_frames _ hr', State.setFrames_setFrames, hr]
      rfl
    have hsame : U.sameButNew ({ U with heap := s₂.heap, slotsUsed := s₂.slotsUsed } : State) L mc ms := by
      refine ⟨?_, q2, q3, q4, q5, q6⟩
      obtain ⟨t, ht, -⟩ := State.frames_cons hr
      show ({ U with heap := s₂.heap, slotsUsed := s₂.slotsUsed } : State) = { U.setFrames U.frames with heap := s₂.heap, slotsUsed := s₂.slotsUsed }
      rw [State.setFrames_self ht]
    subst hg
    refine Or.inr ⟨q, ⟨(({ U with heap := s₂.heap, slotsUsed := s₂.slotsUsed } : State).setVm s₂.vm), Ls ++ L, c0 + mc, s0 + ms⟩,
      ⟨X.admits, X.cas, X.clock, X.frames, X.room, X.hears, X.method, X.code, (X.here.setHeapUsed s₂.heap s₂.slotsUsed).setVm hW'.alike, X.tail, State.WarmedH.trans X.warmed hW', X.limits, X.bytes, X.same.trans (hsame.setVm s.vm)⟩,
      ⟨g, mk, s₂, L, E, ce, rfl, rfl, hx, hce, hcv, hcl, rfl, hL, rfl, rfl⟩, ?_⟩
    show Steps p.tables e below _ (((({ U with heap := s₂.heap, slotsUsed := s₂.slotsUsed } : State).setVm s₂.vm).setTop g).pushFrame (.throwing q))
    rw [← hs₂]
    exact hsteps
end Payer
section Calls
variable {p : Program} {l : Launch} {e : Env} {R : Room} {s : State} {m : MethodId} {args : Array Value} {below : List Frame} {meth : Method} {c : Code} {T : State} {locs : List Loc} {cells slots : Nat}
theorem vx_callV (X : Stand p l e R s m args below meth c T locs cells slots) (hexec : p.tables.exec = Jvm.exec) {own C : String} {index : Nat} {y : MethodName} {bytes : ByteArray} {maxL : Nat} {ret : Option FieldType}
    (hown : s.vm.findClass own = some m.cls) (hlink : (Cond.methodLink own index y).before args s = true) (hinst : (Cond.instanceMethod y).before args s = true) (hsel : (Cond.selects C y y).before args s = true)
    (hcode : (Cond.code y bytes maxL ret).before args s = true) (hy : y.cls ≠ "java/lang/invoke/MethodHandle" ∧ y.cls ≠ "java/lang/invoke/VarHandle")
    {W9 : Nat} {Pre : Pt → Array Value → Prop} {Post : Pt → Array Value → Option Value → Pt → Prop} {PostX : Pt → Array Value → Addr → Pt → Prop} (hK : vx_Back l R p e below s args y 3 W9 Pre Post PostX)
    {b : Addr} {cellB : Cell} (hcell : T.heap[b]? = some cellB) (hobj : cellB.vm.isStatics = false) (hcls : s.vm.findClass C = some cellB.cls)
    {g : JFrame} (hg : g.method = m) (hsize : g.locals.size = c.maxLocals) {argsL rest : List Value} (hlen : ∀ sig, parseMethodDescriptor y.desc = some sig → argsL.length = sig.parameters.length)
    (hstack : g.stack = argsL.reverse ++ .ref b :: rest) (hW : 2 * g.monitorRoom + (rest.map fun v => v.category).sum ≤ W9) (hdg : decode c.code g.pc = .ok (.invokevirtual index, 3))
    (hpre : ∀ vm₁, s.WarmedH vm₁ → Pre ⟨T.setVm vm₁, locs, cells, slots⟩ (Value.ref b :: argsL).toArray) :
    (∃ (v : Option Value) (vm₁ : Vm) (B : Pt), s.WarmedH vm₁ ∧ Stand p l e R s m args below meth c B.U B.locs B.cells B.slots ∧ Post ⟨T.setVm vm₁, locs, cells, slots⟩ (Value.ref b :: argsL).toArray v B ∧
      ∀ target, Steps p.tables e below (B.U.setTop { g with pc := g.pc + 3, stack := v.toList ++ rest }) target → Steps p.tables e below (T.setTop g) target) ∨
    (∃ (q : Addr) (vm₁ : Vm) (B : Pt), s.WarmedH vm₁ ∧ Stand p l e R s m args below meth c B.U B.locs B.cells B.slots ∧ PostX ⟨T.setVm vm₁, locs, cells, slots⟩ (Value.ref b :: argsL).toArray q B ∧
      Steps p.tables e below (T.setTop g) ((B.U.setTop { g with stack := rest }).pushFrame (.throwing q))) := by
  obtain ⟨mk, methM, hnamed, hmethM, hstM, habM⟩ := Cond.instanceMethod_spec hinst
  obtain ⟨methM', cM, hmethM', -, -, -, -, -, -, hsigM⟩ := Cond.code_spec hnamed hcode
  cases hmethM.symm.trans hmethM'
  obtain ⟨c2, r2, m2, q1, q2, q3, q4, kP, hkP, hkPi⟩ := Cond.selects_spec hsel
  cases hcls.symm.trans q1
  cases (State.methodFound?_of_named hnamed hy).symm.trans q2
  cases hnamed.symm.trans q3
  have hselP : selectMethod e.platform s.vm cellB.cls mk = .method mk := by rw [Launch.admits_selectMethod X.admits]; exact q4
  obtain ⟨vm₁, X₁, hstep₁⟩ := X.invokevirtual hexec hown hlink hnamed hmethM hstM hkP hkPi hy (a := b) (cell := cellB) hcell
    (fun z h => by rw [h] at hobj; cases hobj) hselP hmethM habM hkP hkPi (g := g) hg (argsL := argsL) (rest := rest) (hlen _ hsigM) hstack hdg
  rcases hK m meth c ⟨T.setVm vm₁, locs, cells, slots⟩ { g with stack := rest } (.invokevirtual index) mk (Value.ref b :: argsL).toArray X₁ hg hsize hdg hW (X₁.named hnamed) (hpre vm₁ X₁.warmed) with ⟨v, B, X', hpost, hsteps⟩ | ⟨q, B, X', hpost, hsteps⟩
  · exact Or.inl ⟨v, vm₁, B, X₁.warmed, X', hpost, fun target h => hstep₁ _ fun acts => by rw [doInvoke_state]; exact hsteps.trans h⟩
  · exact Or.inr ⟨q, vm₁, B, X₁.warmed, X', hpost, hstep₁ _ fun acts => by rw [doInvoke_state]; exact hsteps⟩
theorem vx_callS (X : Stand p l e R s m args below meth c T locs cells slots) (hexec : p.tables.exec = Jvm.exec) {own : String} {index : Nat} {y : MethodName} {bytes : ByteArray} {maxL : Nat} {ret : Option FieldType}
    (hown : s.vm.findClass own = some m.cls) (hlink : (Cond.methodLink own index y).before args s = true) (hstat : (Cond.static y).before args s = true) (hinit : (Cond.initialized y.cls).before args s = true)
    (hcode : (Cond.code y bytes maxL ret).before args s = true) (hy : y.cls ≠ "java/lang/invoke/MethodHandle" ∧ y.cls ≠ "java/lang/invoke/VarHandle")
    {W9 : Nat} {Pre : Pt → Array Value → Prop} {Post : Pt → Array Value → Option Value → Pt → Prop} {PostX : Pt → Array Value → Addr → Pt → Prop} (hK : vx_Back l R p e below s args y 3 W9 Pre Post PostX)
    {g : JFrame} (hg : g.method = m) (hsize : g.locals.size = c.maxLocals) {argsL rest : List Value} (hlen : ∀ sig, parseMethodDescriptor y.desc = some sig → argsL.length = sig.parameters.length)
    (hstack : g.stack = argsL.reverse ++ rest) (hW : 2 * g.monitorRoom + (rest.map fun v => v.category).sum ≤ W9) (hdg : decode c.code g.pc = .ok (.invokestatic index, 3))
    (hpre : ∀ vm₁, s.WarmedH vm₁ → Pre ⟨T.setVm vm₁, locs, cells, slots⟩ argsL.toArray) :
    (∃ (v : Option Value) (vm₁ : Vm) (B : Pt), s.WarmedH vm₁ ∧ Stand p l e R s m args below meth c B.U B.locs B.cells B.slots ∧ Post ⟨T.setVm vm₁, locs, cells, slots⟩ argsL.toArray v B ∧
      ∀ target, Steps p.tables e below (B.U.setTop { g with pc := g.pc + 3, stack := v.toList ++ rest }) target → Steps p.tables e below (T.setTop g) target) ∨
    (∃ (q : Addr) (vm₁ : Vm) (B : Pt), s.WarmedH vm₁ ∧ Stand p l e R s m args below meth c B.U B.locs B.cells B.slots ∧ PostX ⟨T.setVm vm₁, locs, cells, slots⟩ argsL.toArray q B ∧
      Steps p.tables e below (T.setTop g) ((B.U.setTop { g with stack := rest }).pushFrame (.throwing q))) := by
  obtain ⟨mk, hnamed⟩ := Cond.code_named hcode
  obtain ⟨methM, cM, hmethM, -, -, -, -, -, -, hsigM⟩ := Cond.code_spec hnamed hcode
  have hstatic : methM.isStatic = true := Cond.static_spec hnamed hmethM hstat
  obtain ⟨kP, hkP, -⟩ := className_of_methodNamed hnamed
  have hinitP : kP.init = .initialized := Cond.initialized_spec (findClass_of_methodNamed hnamed) hkP hinit
  obtain ⟨vm₁, X₁, hstep₁⟩ := X.invokestatic hexec hown hlink hnamed hmethM hstatic hkP hinitP hy (g := g) hg (argsL := argsL) (rest := rest) (hlen _ hsigM) hstack hdg
  rcases hK m meth c ⟨T.setVm vm₁, locs, cells, slots⟩ { g with stack := rest } (.invokestatic index) mk argsL.toArray X₁ hg hsize hdg hW (X₁.named hnamed) (hpre vm₁ X₁.warmed) with ⟨v, B, X', hpost, hsteps⟩ | ⟨q, B, X', hpost, hsteps⟩
  · exact Or.inl ⟨v, vm₁, B, X₁.warmed, X', hpost, fun target h => hstep₁ _ fun acts => by rw [doInvoke_state]; exact hsteps.trans h⟩
  · exact Or.inr ⟨q, vm₁, B, X₁.warmed, X', hpost, hstep₁ _ fun acts => by rw [doInvoke_state]; exact hsteps⟩
end Calls
theorem vx_cls {s : State} {T : State} {vm₁ : Vm} {E : String} {k : ClassId} (hW : s.WarmedH vm₁) (h : (T.setVm vm₁).vm.findClass E = some k) : s.vm.findClass E = some k := by
  have h1 : vm₁.findClass E = some k := h
  rw [hW.alike.findClass] at h1
  exact h1
/-- the method's frame g, with q thrown over it -/
def vx_W (p : Program) (l : Launch) (e : Env) (R : Room) (s : State) (m : MethodId) (args : Array Value) (below : List Frame) (meth : Method) (c : Code) (H : Heap) (locs : List Loc) (cells slots : Nat) (Q : State → Prop) (g : JFrame) (q : Addr) : Prop :=
  ∀ T : State, T.heap = H → Stand p l e R s m args below meth c T locs cells slots → ∃ t, Steps p.tables e below ((T.setTop g).pushFrame (.throwing q)) t ∧ Q t
def vx_Run (p : Program) (l : Launch) (e : Env) (R : Room) (s : State) (m : MethodId) (args : Array Value) (below : List Frame) (meth : Method) (c : Code) (H : Heap) (locs : List Loc) (cells slots mc ms : Nat) (g : JFrame) (rest : List Value) (Qa : State → Outcome → State → Prop) (XC : String → State → State → Prop) (free : Addr → Prop) : Prop :=
  ∀ T : State, T.heap = H → Stand p l e R s m args below meth c T locs cells slots →
    (∃ (v : Option Value) (st₀ t T' : State) (L : List Loc), st₀.heap = H ∧ Stand p l e R s m args below meth c T' (locs ++ L) (cells + mc) (slots + ms) ∧ (∀ q ∈ L, free q.base) ∧ T'.heap = t.heap ∧ T'.vm = t.vm ∧ Qa st₀ (.returned v) t ∧
      Goes p e below T g T' { g with pc := g.pc + 3, stack := v.toList ++ rest }) ∨
    (∃ (q : Addr) (st₀ t T' : State) (L : List Loc) (E : String) (ce : Cell), st₀.heap = H ∧ Stand p l e R s m args below meth c T' (locs ++ L) (cells + mc) (slots + ms) ∧ (∀ z ∈ L, free z.base) ∧ T'.heap = t.heap ∧ T'.vm = t.vm ∧ XC E st₀ t ∧ t.heap[q]? = some ce ∧ ce.vm = .none ∧ s.vm.findClass E = some ce.cls ∧
      Steps p.tables e below (T.setTop g) ((T'.setTop { g with stack := rest }).pushFrame (.throwing q)))
def vx_X {S : Type} (px : S → Prop) (B : String → S → State → Prop) (A : Nat → Prop) : String → State → State → Prop := fun E st t => ∃ u : S, px u ∧ B E u t ∧ va_F A st t
section Runs
variable {p : Program} {l : Launch} {e : Env} {R : Room} {s : State} {m : MethodId} {args : Array Value} {below : List Frame} {meth : Method} {c : Code} {H : Heap} {locs : List Loc} {cells slots : Nat}
variable {y : MethodName} {bytes cc : ByteArray} {maxL nL mc ms n index : Nat} {ret : Option FieldType} {ws : List Cond} {rm : Room} {Pc : Array Value → State → Prop} {Qc : Array Value → State → Outcome → State → Prop} {XC : String → State → State → Prop} {free : Addr → Prop} {Ts : List Cond} {own C : String} {b : Addr} {As rest : List Value} {g : JFrame}
theorem vx_callBack (cb : CallB R s args own index y bytes maxL ret ws rm mc ms n) (hM : vx_Met l y ws rm Pc Qc XC mc ms free) (hbl : FrameBlind Pc) : vx_Back l R p e below s args y 3 8 (PreOf R mc ms Pc) (PostOf Qc mc ms free) (vx_Post XC mc ms free) := by
  obtain ⟨hrc, hrs, hfr, hlo, hws, hcw, -, hini, -⟩ := cb
  exact vx_back (bytes := bytes) (maxL := maxL) (ret := ret) hM hbl hrc hrs hfr hlo hws hcw (fun a' U hW => word_at hW (Or.inl (by first | rfl | simp [Cond.onTables, Cond.keeps, Cond.steady])) hini)
theorem vx_runV (S : CallFix p m c cc nL s args Ts own) (hM : vx_Met l y ws rm Pc Qc XC mc ms free) (cw : CallW R s args own C index y bytes maxL ret ws rm mc ms n) (hp : PreV s H C b Pc As)
    (hg : g.method = m) (hn : As.length = n) (hsize : g.locals.size = nL) (hstack : g.stack = As.reverse ++ .ref b :: rest) (hW : 2 * g.monitorRoom + (rest.map fun v => v.category).sum ≤ 8) (hdg : decode cc g.pc = .ok (.invokevirtual index, 3)) (hf : cells + mc ≤ R.cells ∧ slots + ms ≤ R.slots) :
    vx_Run p l e R s m args below meth c H locs cells slots mc ms g rest (Qc (Value.ref b :: As).toArray) XC free := by
  have hK : vx_Back l R p e below s args y 3 8 (PreOf R mc ms Pc) (PostOf Qc mc ms free) (vx_Post XC mc ms free) := vx_callBack cw.1 hM hp.1
  obtain ⟨⟨-, -, -, -, -, -, hcode, -, hy, hlen, hl⟩, hin, hse⟩ := cw
  obtain ⟨hx, hb, hml, ho, -⟩ := S
  obtain ⟨-, ⟨cellB, hcB, hoB, hclB⟩, hPc⟩ := hp
  intro T hT X
  rcases vx_callV X hx (C := C) (bytes := bytes) (maxL := maxL) (ret := ret) ho hl hin hse hcode hy hK (by rw [hT]; exact hcB) hoB hclB hg (hsize.trans hml.symm) (argsL := As) (rest := rest) (fun sig h => hn.trans (hlen sig h)) hstack hW (by rw [hb]; exact hdg)
    (fun vm₁ hW₁ => ⟨hf.1, hf.2, hPc (T.setVm vm₁) hT hW₁⟩) with ⟨v, vm₁, ⟨U', l2, c2, s2⟩, hW₁, X', ⟨g', mk, t, L, e1, e2, hq, h1, hL, h2, h3⟩, st⟩ | ⟨q, vm₁, ⟨U', l2, c2, s2⟩, hW₁, X', ⟨g', mk, t, L, E, ce, e1, e2, hq, hce, hcv, hcl, h1, hL, h2, h3⟩, st⟩
  · dsimp only [Pt.U, Pt.locs, Pt.cells, Pt.slots] at X' e1 e2 h1 h2 h3 st
    subst h1; subst h2; subst h3
    exact Or.inl ⟨v, (T.setVm vm₁).calling g' mk (Value.ref b :: As).toArray, t, U', L, hT, X', hL, e1, e2, hq, st⟩
  · dsimp only [Pt.U, Pt.locs, Pt.cells, Pt.slots] at X' e1 e2 h1 h2 h3 st hcl
    subst h1; subst h2; subst h3
    exact Or.inr ⟨q, (T.setVm vm₁).calling g' mk (Value.ref b :: As).toArray, t, U', L, E, ce, hT, X', hL, e1, e2, hq, hce, hcv, vx_cls hW₁ hcl, st⟩
theorem vx_runS (S : CallFix p m c cc nL s args Ts own) (hM : vx_Met l y ws rm Pc Qc XC mc ms free) (cw : CallB R s args own index y bytes maxL ret ws rm mc ms n ∧ (Cond.static y).before args s = true) (hp : PreS s H Pc As)
    (hg : g.method = m) (hn : As.length = n) (hsize : g.locals.size = nL) (hstack : g.stack = As.reverse ++ rest) (hW : 2 * g.monitorRoom + (rest.map fun v => v.category).sum ≤ 8) (hdg : decode cc g.pc = .ok (.invokestatic index, 3)) (hf : cells + mc ≤ R.cells ∧ slots + ms ≤ R.slots) :
    vx_Run p l e R s m args below meth c H locs cells slots mc ms g rest (Qc As.toArray) XC free := by
  have hK : vx_Back l R p e below s args y 3 8 (PreOf R mc ms Pc) (PostOf Qc mc ms free) (vx_Post XC mc ms free) := vx_callBack cw.1 hM hp.1
  obtain ⟨⟨-, -, -, -, -, -, hcode, hini, hy, hlen, hl⟩, hstt⟩ := cw
  obtain ⟨hx, hb, hml, ho, -⟩ := S
  intro T hT X
  rcases vx_callS X hx (bytes := bytes) (maxL := maxL) (ret := ret) ho hl hstt hini hcode hy hK hg (hsize.trans hml.symm) (argsL := As) (rest := rest) (fun sig h => hn.trans (hlen sig h)) hstack hW (by rw [hb]; exact hdg)
    (fun vm₁ hW₁ => ⟨hf.1, hf.2, hp.2 (T.setVm vm₁) hT hW₁⟩) with ⟨v, vm₁, ⟨U', l2, c2, s2⟩, hW₁, X', ⟨g', mk, t, L, e1, e2, hq, h1, hL, h2, h3⟩, st⟩ | ⟨q, vm₁, ⟨U', l2, c2, s2⟩, hW₁, X', ⟨g', mk, t, L, E, ce, e1, e2, hq, hce, hcv, hcl, h1, hL, h2, h3⟩, st⟩
  · dsimp only [Pt.U, Pt.locs, Pt.cells, Pt.slots] at X' e1 e2 h1 h2 h3 st
    subst h1; subst h2; subst h3
    exact Or.inl ⟨v, (T.setVm vm₁).calling g' mk As.toArray, t, U', L, hT, X', hL, e1, e2, hq, st⟩
  · dsimp only [Pt.U, Pt.locs, Pt.cells, Pt.slots] at X' e1 e2 h1 h2 h3 st hcl
    subst h1; subst h2; subst h3
    exact Or.inr ⟨q, (T.setVm vm₁).calling g' mk As.toArray, t, U', L, E, ce, hT, X', hL, e1, e2, hq, hce, hcv, vx_cls hW₁ hcl, st⟩
end Runs
section Rows
variable {p : Program} {l : Launch} {e : Env} {R : Room} {s : State} {m : MethodId} {args : Array Value} {below : List Frame} {meth : Method} {c : Code} {H : Heap} {locs : List Loc} {cells slots : Nat} {Q : State → Prop}
variable {mc ms : Nat} {free : Addr → Prop} {A0 A1 : Nat → Prop} {H0 : Heap} {a : Array Value} {pc : Nat} {ls : Array Slot} {st0 rest : List Value}
theorem vx_keep {st₀ t T' : State} {L : List Loc} (h0 : st₀.heap = H) (e1 : T'.heap = t.heap) (hS : va_S A0 H0 H locs) (hA : ∀ q, q < H.size → A1 q → A0 q) (hf : ∀ q, free q → A0 q) (hL : ∀ q ∈ L, free q.base) (hF : va_F A1 st₀ t) :
    H.size ≤ T'.heap.size ∧ (∀ q : Nat, q < H.size → ¬ A1 q → T'.heap[q]? = H[q]?) ∧ va_S A0 H0 T'.heap (locs ++ L) := by
  obtain ⟨hz, hk⟩ := hF
  rw [h0] at hz hk
  exact ⟨by rw [e1]; exact hz, fun q h1 h2 => by rw [e1]; exact hk q h1 h2,
    ⟨Nat.le_trans hS.1 (by rw [e1]; exact hz), fun q h1 h2 => by rw [e1, hk q (Nat.lt_of_lt_of_le h1 hS.1) (fun z => h2 (hA q (Nat.lt_of_lt_of_le h1 hS.1) z))]; exact hS.2.1 q h1 h2, fun q hq => by
      rcases List.mem_append.mp hq with h | h
      · exact hS.2.2 q h
      · exact hf _ (hL q h)⟩⟩
theorem vx_calli {S SX : Type} {post : Int32 → S → Prop} {px : SX → Prop} {B : S → State → Prop} {BX : String → SX → State → Prop} {AX : Nat → Prop} (hr : vx_Run p l e R s m args below meth c H locs cells slots mc ms (F0 m pc ls st0) rest (va_Qi post B A1 a) (vx_X px BX AX) free) (hS : va_S A0 H0 H locs) (hA : ∀ q, q < H.size → A1 q → A0 q) (hf : ∀ q, free q → A0 q) (hAX : ∀ q, q < H.size → AX q → A0 q)
    (kx : ∀ (E : String) (ce : Cell) (q9 : Addr) (u : SX) (t : State) (H1 : Heap) (locs1 : List Loc), t.heap = H1 → s.vm.Alike t.vm → px u → BX E u t → H.size ≤ H1.size → (∀ q : Nat, q < H.size → ¬ AX q → H1[q]? = H[q]?) → va_S A0 H0 H1 locs1 → H1[q9]? = some ce → ce.vm = .none → s.vm.findClass E = some ce.cls → vx_W p l e R s m args below meth c H1 locs1 (cells + mc) (slots + ms) Q (F0 m pc ls rest) q9)
    (kk : ∀ (r : Int32) (u : S) (t : State) (H1 : Heap) (locs1 : List Loc), t.heap = H1 → s.vm.Alike t.vm → post r u → B u t → H.size ≤ H1.size → (∀ q : Nat, q < H.size → ¬ A1 q → H1[q]? = H[q]?) → va_S A0 H0 H1 locs1 → W p l e R s m args below meth c H1 locs1 (cells + mc) (slots + ms) Q (F0 m (pc + 3) ls (.int r :: rest))) : W p l e R s m args below meth c H locs cells slots Q (F0 m pc ls st0) := by
  intro T hT X
  rcases hr T hT X with ⟨v, st₀, t, T', L, h0, X', hL, e1, e2, ⟨⟨r, u, hv, hp, hb⟩, hF⟩, st⟩ | ⟨q, st₀, t, T', L, E, ce, h0, X', hL, e1, e2, ⟨u, hp, hb, hF⟩, hce, hcv, hcl, st⟩
  · cases hv
    obtain ⟨k1, k2, k3⟩ := vx_keep h0 e1 hS hA hf hL hF
    obtain ⟨t2, a1, b1⟩ := kk r u t T'.heap (locs ++ L) e1.symm (by rw [← e2]; exact X'.warmed.alike) hp hb k1 k2 k3 T' rfl X'
    exact ⟨t2, st t2 a1, b1⟩
  · obtain ⟨k1, k2, k3⟩ := vx_keep h0 e1 hS hAX hf hL hF
    obtain ⟨t2, a1, b1⟩ := kx E ce q u t T'.heap (locs ++ L) e1.symm (by rw [← e2]; exact X'.warmed.alike) hp hb k1 k2 k3 (by rw [e1]; exact hce) hcv hcl T' rfl X'
    exact ⟨t2, st.trans a1, b1⟩
theorem vx_calll {S SX : Type} {post : Int64 → S → Prop} {px : SX → Prop} {B : S → State → Prop} {BX : String → SX → State → Prop} {AX : Nat → Prop} (hr : vx_Run p l e R s m args below meth c H locs cells slots mc ms (F0 m pc ls st0) rest (va_Ql post B A1 a) (vx_X px BX AX) free) (hS : va_S A0 H0 H locs) (hA : ∀ q, q < H.size → A1 q → A0 q) (hf : ∀ q, free q → A0 q) (hAX : ∀ q, q < H.size → AX q → A0 q)
    (kx : ∀ (E : String) (ce : Cell) (q9 : Addr) (u : SX) (t : State) (H1 : Heap) (locs1 : List Loc), t.heap = H1 → s.vm.Alike t.vm → px u → BX E u t → H.size ≤ H1.size → (∀ q : Nat, q < H.size → ¬ AX q → H1[q]? = H[q]?) → va_S A0 H0 H1 locs1 → H1[q9]? = some ce → ce.vm = .none → s.vm.findClass E = some ce.cls → vx_W p l e R s m args below meth c H1 locs1 (cells + mc) (slots + ms) Q (F0 m pc ls rest) q9)
    (kk : ∀ (r : Int64) (u : S) (t : State) (H1 : Heap) (locs1 : List Loc), t.heap = H1 → s.vm.Alike t.vm → post r u → B u t → H.size ≤ H1.size → (∀ q : Nat, q < H.size → ¬ A1 q → H1[q]? = H[q]?) → va_S A0 H0 H1 locs1 → W p l e R s m args below meth c H1 locs1 (cells + mc) (slots + ms) Q (F0 m (pc + 3) ls (.long r :: rest))) : W p l e R s m args below meth c H locs cells slots Q (F0 m pc ls st0) := by
  intro T hT X
  rcases hr T hT X with ⟨v, st₀, t, T', L, h0, X', hL, e1, e2, ⟨⟨r, u, hv, hp, hb⟩, hF⟩, st⟩ | ⟨q, st₀, t, T', L, E, ce, h0, X', hL, e1, e2, ⟨u, hp, hb, hF⟩, hce, hcv, hcl, st⟩
  · cases hv
    obtain ⟨k1, k2, k3⟩ := vx_keep h0 e1 hS hA hf hL hF
    obtain ⟨t2, a1, b1⟩ := kk r u t T'.heap (locs ++ L) e1.symm (by rw [← e2]; exact X'.warmed.alike) hp hb k1 k2 k3 T' rfl X'
    exact ⟨t2, st t2 a1, b1⟩
  · obtain ⟨k1, k2, k3⟩ := vx_keep h0 e1 hS hAX hf hL hF
    obtain ⟨t2, a1, b1⟩ := kx E ce q u t T'.heap (locs ++ L) e1.symm (by rw [← e2]; exact X'.warmed.alike) hp hb k1 k2 k3 (by rw [e1]; exact hce) hcv hcl T' rfl X'
    exact ⟨t2, st.trans a1, b1⟩
theorem vx_callf {S SX : Type} {post : UInt32 → S → Prop} {px : SX → Prop} {B : S → State → Prop} {BX : String → SX → State → Prop} {AX : Nat → Prop} (hr : vx_Run p l e R s m args below meth c H locs cells slots mc ms (F0 m pc ls st0) rest (va_Qf post B A1 a) (vx_X px BX AX) free) (hS : va_S A0 H0 H locs) (hA : ∀ q, q < H.size → A1 q → A0 q) (hf : ∀ q, free q → A0 q) (hAX : ∀ q, q < H.size → AX q → A0 q)
    (kx : ∀ (E : String) (ce : Cell) (q9 : Addr) (u : SX) (t : State) (H1 : Heap) (locs1 : List Loc), t.heap = H1 → s.vm.Alike t.vm → px u → BX E u t → H.size ≤ H1.size → (∀ q : Nat, q < H.size → ¬ AX q → H1[q]? = H[q]?) → va_S A0 H0 H1 locs1 → H1[q9]? = some ce → ce.vm = .none → s.vm.findClass E = some ce.cls → vx_W p l e R s m args below meth c H1 locs1 (cells + mc) (slots + ms) Q (F0 m pc ls rest) q9)
    (kk : ∀ (r : UInt32) (u : S) (t : State) (H1 : Heap) (locs1 : List Loc), t.heap = H1 → s.vm.Alike t.vm → post r u → B u t → H.size ≤ H1.size → (∀ q : Nat, q < H.size → ¬ A1 q → H1[q]? = H[q]?) → va_S A0 H0 H1 locs1 → W p l e R s m args below meth c H1 locs1 (cells + mc) (slots + ms) Q (F0 m (pc + 3) ls (.float r :: rest))) : W p l e R s m args below meth c H locs cells slots Q (F0 m pc ls st0) := by
  intro T hT X
  rcases hr T hT X with ⟨v, st₀, t, T', L, h0, X', hL, e1, e2, ⟨⟨r, u, hv, hp, hb⟩, hF⟩, st⟩ | ⟨q, st₀, t, T', L, E, ce, h0, X', hL, e1, e2, ⟨u, hp, hb, hF⟩, hce, hcv, hcl, st⟩
  · cases hv
    obtain ⟨k1, k2, k3⟩ := vx_keep h0 e1 hS hA hf hL hF
    obtain ⟨t2, a1, b1⟩ := kk r u t T'.heap (locs ++ L) e1.symm (by rw [← e2]; exact X'.warmed.alike) hp hb k1 k2 k3 T' rfl X'
    exact ⟨t2, st t2 a1, b1⟩
  · obtain ⟨k1, k2, k3⟩ := vx_keep h0 e1 hS hAX hf hL hF
    obtain ⟨t2, a1, b1⟩ := kx E ce q u t T'.heap (locs ++ L) e1.symm (by rw [← e2]; exact X'.warmed.alike) hp hb k1 k2 k3 (by rw [e1]; exact hce) hcv hcl T' rfl X'
    exact ⟨t2, st.trans a1, b1⟩
theorem vx_calld {S SX : Type} {post : UInt64 → S → Prop} {px : SX → Prop} {B : S → State → Prop} {BX : String → SX → State → Prop} {AX : Nat → Prop} (hr : vx_Run p l e R s m args below meth c H locs cells slots mc ms (F0 m pc ls st0) rest (va_Qd post B A1 a) (vx_X px BX AX) free) (hS : va_S A0 H0 H locs) (hA : ∀ q, q < H.size → A1 q → A0 q) (hf : ∀ q, free q → A0 q) (hAX : ∀ q, q < H.size → AX q → A0 q)
    (kx : ∀ (E : String) (ce : Cell) (q9 : Addr) (u : SX) (t : State) (H1 : Heap) (locs1 : List Loc), t.heap = H1 → s.vm.Alike t.vm → px u → BX E u t → H.size ≤ H1.size → (∀ q : Nat, q < H.size → ¬ AX q → H1[q]? = H[q]?) → va_S A0 H0 H1 locs1 → H1[q9]? = some ce → ce.vm = .none → s.vm.findClass E = some ce.cls → vx_W p l e R s m args below meth c H1 locs1 (cells + mc) (slots + ms) Q (F0 m pc ls rest) q9)
    (kk : ∀ (r : UInt64) (u : S) (t : State) (H1 : Heap) (locs1 : List Loc), t.heap = H1 → s.vm.Alike t.vm → post r u → B u t → H.size ≤ H1.size → (∀ q : Nat, q < H.size → ¬ A1 q → H1[q]? = H[q]?) → va_S A0 H0 H1 locs1 → W p l e R s m args below meth c H1 locs1 (cells + mc) (slots + ms) Q (F0 m (pc + 3) ls (.double r :: rest))) : W p l e R s m args below meth c H locs cells slots Q (F0 m pc ls st0) := by
  intro T hT X
  rcases hr T hT X with ⟨v, st₀, t, T', L, h0, X', hL, e1, e2, ⟨⟨r, u, hv, hp, hb⟩, hF⟩, st⟩ | ⟨q, st₀, t, T', L, E, ce, h0, X', hL, e1, e2, ⟨u, hp, hb, hF⟩, hce, hcv, hcl, st⟩
  · cases hv
    obtain ⟨k1, k2, k3⟩ := vx_keep h0 e1 hS hA hf hL hF
    obtain ⟨t2, a1, b1⟩ := kk r u t T'.heap (locs ++ L) e1.symm (by rw [← e2]; exact X'.warmed.alike) hp hb k1 k2 k3 T' rfl X'
    exact ⟨t2, st t2 a1, b1⟩
  · obtain ⟨k1, k2, k3⟩ := vx_keep h0 e1 hS hAX hf hL hF
    obtain ⟨t2, a1, b1⟩ := kx E ce q u t T'.heap (locs ++ L) e1.symm (by rw [← e2]; exact X'.warmed.alike) hp hb k1 k2 k3 (by rw [e1]; exact hce) hcv hcl T' rfl X'
    exact ⟨t2, st.trans a1, b1⟩
theorem vx_callv {S SX : Type} {post : S → Prop} {px : SX → Prop} {B : S → State → Prop} {BX : String → SX → State → Prop} {AX : Nat → Prop} (hr : vx_Run p l e R s m args below meth c H locs cells slots mc ms (F0 m pc ls st0) rest (va_Qv post B A1 a) (vx_X px BX AX) free) (hS : va_S A0 H0 H locs) (hA : ∀ q, q < H.size → A1 q → A0 q) (hf : ∀ q, free q → A0 q) (hAX : ∀ q, q < H.size → AX q → A0 q)
    (kx : ∀ (E : String) (ce : Cell) (q9 : Addr) (u : SX) (t : State) (H1 : Heap) (locs1 : List Loc), t.heap = H1 → s.vm.Alike t.vm → px u → BX E u t → H.size ≤ H1.size → (∀ q : Nat, q < H.size → ¬ AX q → H1[q]? = H[q]?) → va_S A0 H0 H1 locs1 → H1[q9]? = some ce → ce.vm = .none → s.vm.findClass E = some ce.cls → vx_W p l e R s m args below meth c H1 locs1 (cells + mc) (slots + ms) Q (F0 m pc ls rest) q9)
    (kk : ∀ (u : S) (t : State) (H1 : Heap) (locs1 : List Loc), t.heap = H1 → s.vm.Alike t.vm → post u → B u t → H.size ≤ H1.size → (∀ q : Nat, q < H.size → ¬ A1 q → H1[q]? = H[q]?) → va_S A0 H0 H1 locs1 → W p l e R s m args below meth c H1 locs1 (cells + mc) (slots + ms) Q (F0 m (pc + 3) ls (rest))) : W p l e R s m args below meth c H locs cells slots Q (F0 m pc ls st0) := by
  intro T hT X
  rcases hr T hT X with ⟨v, st₀, t, T', L, h0, X', hL, e1, e2, ⟨⟨u, hv, hp, hb⟩, hF⟩, st⟩ | ⟨q, st₀, t, T', L, E, ce, h0, X', hL, e1, e2, ⟨u, hp, hb, hF⟩, hce, hcv, hcl, st⟩
  · cases hv
    obtain ⟨k1, k2, k3⟩ := vx_keep h0 e1 hS hA hf hL hF
    obtain ⟨t2, a1, b1⟩ := kk u t T'.heap (locs ++ L) e1.symm (by rw [← e2]; exact X'.warmed.alike) hp hb k1 k2 k3 T' rfl X'
    exact ⟨t2, st t2 a1, b1⟩
  · obtain ⟨k1, k2, k3⟩ := vx_keep h0 e1 hS hAX hf hL hF
    obtain ⟨t2, a1, b1⟩ := kx E ce q u t T'.heap (locs ++ L) e1.symm (by rw [← e2]; exact X'.warmed.alike) hp hb k1 k2 k3 (by rw [e1]; exact hce) hcv hcl T' rfl X'
    exact ⟨t2, st.trans a1, b1⟩
/-- caught by the row x of this method's table; the rows ahead don't take it -/
theorem vx_catch {own name : String} {E : String} {ce : Cell} {q : Addr} (hown : s.vm.findClass own = some m.cls) (pre : List ExceptionTableEntry) (x : ExceptionTableEntry) (suf : List ExceptionTableEntry) (hsplit : c.exceptionTable.toList = pre ++ x :: suf)
    (hpass : ∀ z ∈ pre, covers z pc = false ∨ (z.catchType ≠ 0 ∧ ∃ nm : String, (Cond.classLink own z.catchType nm).before args s = true ∧ va_Nc E nm s)) (hx : covers x pc = true) (h0 : x.catchType ≠ 0)
    (hlink : (Cond.classLink own x.catchType name).before args s = true) (hcast : (Cond.castable E name).before args s = true) (hcell : H[q]? = some ce) (hv : ce.vm = .none) (hcl : s.vm.findClass E = some ce.cls)
    (kk : W p l e R s m args below meth c H locs cells slots Q (F0 m x.handlerPc ls [.ref q])) : vx_W p l e R s m args below meth c H locs cells slots Q (F0 m pc ls rest) q := by
  intro T hT X
  have hpl : e.platform.magicAccessors = ({} : Platform).magicAccessors := by rw [X.admits.platform]
  obtain ⟨c3, c4, hc3, hc4, hasg⟩ := Cond.castable_spec hcast
  cases Option.some.inj (hc3.symm.trans hcl)
  obtain ⟨c5, hc5, hcl5⟩ := Cond.classLink_spec hown hlink e.platform hpl
  cases Option.some.inj (hc4.symm.trans hc5)
  obtain ⟨vm', X', st⟩ := X.thenCaughtThrough q (g := F0 m pc ls rest) rfl (Steps.refl _) (by rw [hT]; exact hcell) (by rw [hv]; rfl) (by obtain ⟨k9, h9, -⟩ := Vm.findClass_spec hcl; exact ⟨k9, h9⟩) pre x suf hsplit
    (fun z hz => by
      rcases hpass z hz with h | ⟨hz0, nm, hl1, hn1⟩
      · exact Or.inl h
      · obtain ⟨c6, hc6, hcl6⟩ := Cond.classLink_spec hown hl1 e.platform hpl
        obtain ⟨a8, b8, h1, h2, h3⟩ := hn1
        cases Option.some.inj (h1.symm.trans hcl)
        cases Option.some.inj (h2.symm.trans hc6)
        exact Or.inr ⟨hz0, _, hcl6, h3⟩) hx (Or.inr ⟨h0, c4, hcl5, hasg⟩)
  obtain ⟨t, a1, b1⟩ := kk (T.setVm vm') hT X'
  exact ⟨t, st.trans a1, b1⟩
end Rows
section Ends
variable {p : Program} {l : Launch} {e : Env} {R : Room} {s : State} {m : MethodId} {args : Array Value} {below : List Frame} {meth : Method} {c : Code} {H : Heap} {locs : List Loc} {cells slots : Nat} {Q : State → Prop}
variable {mc ms : Nat} {free : Addr → Prop} {A0 A1 : Nat → Prop} {H0 : Heap} {a : Array Value} {ls : Array Slot} {st0 rest : List Value}
variable {Qc : Array Value → State → Outcome → State → Prop} {XC : String → State → State → Prop}
/-- what a body that may throw owes at its end -/
def vx_MQ (below : List Frame) (Qc : Array Value → State → Outcome → State → Prop) (XC : String → State → State → Prop) (a : Array Value) (s : State) (mc ms : Nat) (free : Addr → Prop) : State → Prop := fun t =>
  ∃ o, t.status = .running ∧ Ended t below o ∧ vx_Q Qc XC mc ms free a s o t
theorem vx_ret {g : JFrame} {mc ms : Nat} (k : W p l e R s m args below meth c H locs cells slots (MQ below Qc args s mc ms free) g) : W p l e R s m args below meth c H locs cells slots (vx_MQ below Qc XC args s mc ms free) g := by
  intro T hT X
  obtain ⟨t, a1, o, b1, b2, b3, b4⟩ := k T hT X
  exact ⟨t, a1, o, b1, b2, Or.inl ⟨b3, b4⟩⟩
/-- not caught here: it goes on to the caller -/
theorem vx_widen {g : JFrame} {q : Addr} {k n : Nat} (h1 : cells ≤ k) (h2 : slots ≤ n) (kk : vx_W p l e R s m args below meth c H locs k n Q g q) : vx_W p l e R s m args below meth c H locs cells slots Q g q := fun T hT X => kk T hT (stand_widen X h1 h2)
theorem vx_out {pc : Nat} {E : String} {ce : Cell} {q : Addr} {mc ms : Nat} (hout : ∀ x ∈ c.exceptionTable.toList, covers x pc = false) (hlocks : meth.locks = false) (hcell : H[q]? = some ce) (hv : ce.vm = .none) (hcl : s.vm.findClass E = some ce.cls)
    (hx : ∀ t : State, t.heap = H → s.vm.Alike t.vm → XC E s t) (hf : ∀ z ∈ locs, free z.base) (hc : cells ≤ mc) (hs : slots ≤ ms) :
    vx_W p l e R s m args below meth c H locs cells slots (vx_MQ below Qc XC args s mc ms free) (F0 m pc ls rest) q := by
  intro T hT X
  obtain ⟨st1, hrun, hend, hW, hsm⟩ := X.leaveThrown q (g := F0 m pc ls rest) rfl rfl rfl hout hlocks
  have hcell9 : (T.setFrames (.throwing q :: below)).heap[q]? = some ce := by
    show T.heap[q]? = some ce
    rw [hT]; exact hcell
  exact ⟨_, st1, .threw q, hrun, hend, Or.inr ⟨q, rfl, E, ce, locs, hx _ hT hW.alike, hcell9, hv, hcl, hW, hsm.mono hc hs, hf⟩⟩
theorem vx_frame {U : State} {k n : Nat} (h : s.sameButNew ({ U with vm := s.vm } : State) locs k n) : s.heap.size ≤ U.heap.size ∧ ∀ q : Nat, q < s.heap.size → (∀ z ∈ locs, z.base ≠ q) → U.heap[q]? = s.heap[q]? := by
  obtain ⟨-, h2, -, -, -, h6⟩ := h
  refine ⟨h2, fun q hq hz => ?_⟩
  obtain ⟨c9, e1, e2, e3, e4⟩ := h6 q _ (Array.getElem?_eq_getElem hq)
  have hs : c9.slots = (s.heap[q]).slots := Array.ext_getElem? fun i => e4 i fun hm => hz _ hm rfl
  have h9 : c9 = s.heap[q] := by
    rw [hs] at e2
    exact e2
  have e5 : U.heap[q]? = some c9 := e1
  rw [e5, h9, Array.getElem?_eq_getElem hq]
/-- the words of a throw but the four that speak of the heap -/
def vx_no (w : Cond) : Bool := decide (w ≠ .isRef (.static Bundle.tN "UNASSIGNED_STACK" Bundle.steD)) && decide (w ≠ .isRef (.static Bundle.tN "SUPPRESSED_SENTINEL" Bundle.listD)) && decide (w ≠ .laysStatic Bundle.tN "UNASSIGNED_STACK" Bundle.steD) && decide (w ≠ .laysStatic Bundle.tN "SUPPRESSED_SENTINEL" Bundle.listD)
def vx_at0 (own : String) (ic : Nat) (X : String) (names : List String) : List Cond := (Bundle.ownAtoms0 own ic X names).filter vx_no
def vx_atS (own : String) (ic : Nat) (X : String) (names : List String) : List Cond := (Bundle.ownAtoms own ic X names).filter vx_no
/-- a word that the tables alone decide, or a good one -/
def vx_ot (w : Cond) : Bool := w.onTables || goodWord w
theorem vx_ot_at {args a' : Array Value} {s U : State} {w : Cond} (hW : s.WarmedH U.vm) (hvm : s.vm = U.vm) (hg : vx_ot w = true) (h : w.before args s = true) : w.before a' U = true := by
  simp only [vx_ot, Bool.or_eq_true] at hg
  rcases hg with hg | hg
  · exact va_tabs hg hvm h
  · exact word_at hW (good_of_word hg) h
/-- a list's words: the good ones out of the method's own list, the others by premises of their own -/
theorem vx_hat {args : Array Value} {s : State} {L B : List Cond} (h1 : ∀ w ∈ L.filter goodWord, w.before args s = true) (h2 : ∀ w ∈ L.filter (fun w => !goodWord w), w ∈ B) (h3 : ∀ w ∈ B, w.before args s = true) : ∀ w ∈ L, w.before args s = true := by
  intro w hw
  by_cases g : goodWord w = true
  · exact h1 w (List.mem_filter.mpr ⟨hw, g⟩)
  · refine h3 w (h2 w (List.mem_filter.mpr ⟨hw, ?_⟩))
    show (!goodWord w) = true
    cases hgw : goodWord w
    · rfl
    · exact absurd hgw g
theorem vx_c {args : Array Value} {s : State} {w : Cond} {B : List Cond} (h : w.before args s = true) (t : ∀ w ∈ B, w.before args s = true) : ∀ w' ∈ w :: B, w'.before args s = true := fun w' h' => (List.mem_cons.mp h').elim (fun e => by rw [e]; exact h) (t w')
theorem vx_n {args : Array Value} {s : State} : ∀ w ∈ ([] : List Cond), w.before args s = true := fun _ h => nomatch h
theorem vx_own {args : Array Value} {s : State} {L : List Cond} (h1 : ∀ w ∈ L.filter vx_no, w.before args s = true)
    (hU : (Cond.isRef (.static Bundle.tN "UNASSIGNED_STACK" Bundle.steD)).before args s = true) (hN : (Cond.isRef (.static Bundle.tN "SUPPRESSED_SENTINEL" Bundle.listD)).before args s = true)
    (lU : (Cond.laysStatic Bundle.tN "UNASSIGNED_STACK" Bundle.steD).before args s = true) (lN : (Cond.laysStatic Bundle.tN "SUPPRESSED_SENTINEL" Bundle.listD).before args s = true) : ∀ w ∈ L, w.before args s = true := by
  intro w hw
  by_cases e1 : w = .isRef (.static Bundle.tN "UNASSIGNED_STACK" Bundle.steD)
  · rw [e1]; exact hU
  · by_cases e2 : w = .isRef (.static Bundle.tN "SUPPRESSED_SENTINEL" Bundle.listD)
    · rw [e2]; exact hN
    · by_cases e3 : w = .laysStatic Bundle.tN "UNASSIGNED_STACK" Bundle.steD
      · rw [e3]; exact lU
      · by_cases e4 : w = .laysStatic Bundle.tN "SUPPRESSED_SENTINEL" Bundle.listD
        · rw [e4]; exact lN
        · exact h1 w (List.mem_filter.mpr ⟨hw, by unfold vx_no; rw [decide_eq_true e1, decide_eq_true e2, decide_eq_true e3, decide_eq_true e4]; rfl⟩)
/-- where a static field lies, its class's statics cell in H -/
def vx_L (C n d : String) (A : Nat → Prop) (U : State) (H : Heap) : Prop := ∃ (c : ClassId) (k : Class) (i : Nat) (f : Field) (a : Nat) (cell : Cell), U.vm.findClass C = some c ∧ U.fieldFound? C n d = some (c, k, i, f) ∧ f.isStatic = true ∧ k.statics = some a ∧ H[a]? = some cell ∧ cell.vm.isStatics = true ∧ cell.cls = c ∧ f.slot < cell.slots.size ∧ k.staticTypes[f.slot]? = some f.type ∧ ¬ A a
theorem vx_L.moved {C n d : String} {A : Nat → Prop} {u U : State} {H : Heap} (hvm : u.vm.Alike U.vm) (h : vx_L C n d A u H) : vx_L C n d A U H := by
  obtain ⟨c, k, i, f, a, cell, h1, h2, h3, h4, h5, h6, h7, h8, h9, h10⟩ := h
  obtain ⟨k', hi', he⟩ := State.fieldFound?_setVm hvm h2
  exact ⟨c, k', i, f, a, cell, by rw [hvm.findClass]; exact h1, hi', h3, by rw [he]; exact h4, h5, h6, h7, h8, by rw [he]; exact h9, h10⟩
theorem vx_L.kept {C n d : String} {A : Nat → Prop} {U : State} {H H1 : Heap} (h : vx_L C n d A U H) (hq : ∀ a : Nat, a < H.size → ¬ A a → H1[a]? = H[a]?) : vx_L C n d A U H1 := by
  obtain ⟨c, k, i, f, a, cell, h1, h2, h3, h4, h5, h6, h7, h8, h9, h10⟩ := h
  exact ⟨c, k, i, f, a, cell, h1, h2, h3, h4, by rw [hq a (Array.getElem?_eq_some_iff.mp h5).1 h10]; exact h5, h6, h7, h8, h9, h10⟩
theorem vx_L.narrow {C n d : String} {A B : Nat → Prop} {U : State} {H : Heap} (h : vx_L C n d A U H) (hAB : ∀ q, B q → A q) : vx_L C n d B U H := by
  obtain ⟨c, k, i, f, a, cell, h1, h2, h3, h4, h5, h6, h7, h8, h9, h10⟩ := h
  exact ⟨c, k, i, f, a, cell, h1, h2, h3, h4, h5, h6, h7, h8, h9, fun z => h10 (hAB _ z)⟩
theorem vx_L.word {C n d : String} {A : Nat → Prop} {s : State} {args : Array Value} (h : vx_L C n d A s s.heap) : (Cond.laysStatic C n d).before args s = true := by
  obtain ⟨c, k, i, f, a, cell, h1, h2, h3, h4, h5, h6, h7, h8, h9, -⟩ := h
  show (Cond.laysStatic C n d).holds args s none s [] = true
  exact Cond.laysStatic_of h1 h2 h3 h4 h5 h6 h7 h8 h9
/-- .. and what it holds: null or some reference -/
def vx_Zq (C n d : String) (A : Nat → Prop) (U : State) (H : Heap) : Prop := va_Zq C n d A U H ∧ vx_L C n d A U H
theorem vx_Zq.moved {C n d : String} {A : Nat → Prop} {u U : State} {H : Heap} (hvm : u.vm.Alike U.vm) (h : vx_Zq C n d A u H) : vx_Zq C n d A U H := ⟨va_Zq.moved hvm h.1, vx_L.moved hvm h.2⟩
theorem vx_Zq.kept {C n d : String} {A : Nat → Prop} {U : State} {H H1 : Heap} (h : vx_Zq C n d A U H) (hq : ∀ a : Nat, a < H.size → ¬ A a → H1[a]? = H[a]?) : vx_Zq C n d A U H1 := ⟨va_Zq.kept h.1 hq, vx_L.kept h.2 hq⟩
theorem vx_Zq.narrow {C n d : String} {A B : Nat → Prop} {U : State} {H : Heap} (h : vx_Zq C n d A U H) (hAB : ∀ q, B q → A q) : vx_Zq C n d B U H := ⟨va_Zq.narrow h.1 hAB, vx_L.narrow h.2 hAB⟩
theorem vx_Zqof {args : Array Value} {s : State} {C n d : String} {A : Nat → Prop} (hl : (Cond.laysStatic C n d).before args s = true) (hini : (Cond.initialized C).before args s = true) (h : (Cond.isRef (.static C n d)).before args s = true) (hA : ∀ a : Nat, a < s.heap.size → ¬ A a) : vx_Zq C n d A s s.heap := by
  refine ⟨va_Zqof hl hini h hA, ?_⟩
  obtain ⟨c, k, i, f, a, cell, h1, h2, h3, h4, h5, h6, h7, h8, h9⟩ := Cond.laysStatic_spec hl
  exact ⟨c, k, i, f, a, cell, h1, h2, h3, h4, h5, h6, h7, h8, h9, hA a (Array.getElem?_eq_some_iff.mp h5).1⟩
theorem vx_isRef {C n d : String} {v : Value} {A : Nat → Prop} {s : State} {args : Array Value} (h : va_Z C n d v A s s.heap) (hv : v.isRef = true) : (Cond.isRef (.static C n d)).before args s = true := by
  obtain ⟨cf, kf, fi, f, a, cell, h1, h2, h3, h4, h5, h6, h7, -⟩ := h
  have he : (Term.static C n d).eval args s none [] s = some v := by
    simp [Term.eval, State.fieldNamed?, h1, h2, h4, h5, h6, h7]
  simp only [Cond.before, Cond.holds, Cond.value, he]
  cases v <;> simp_all [Value.isRef]
theorem vx_isRefq {C n d : String} {A : Nat → Prop} {s : State} {args : Array Value} (h : va_Zq C n d A s s.heap) : (Cond.isRef (.static C n d)).before args s = true := by
  rcases h with h | ⟨t, h⟩
  · exact vx_isRef h rfl
  · exact vx_isRef h rfl
/-- the same frame, seen from here: as if the method were called anew in this heap -/
theorem vx_rebase {T : State} (X : Stand p l e R s m args below meth c T locs cells slots) {R' : Room} (hf : R'.frames ≤ R.frames) (hl : R'.locals ≤ R.locals) (hc : cells + R'.cells ≤ R.cells) (hs : slots + R'.slots ≤ R.slots) :
    Stand p l e R' ((T.setVm s.vm).setFrames (.invoking m args :: below)) m args below meth c T [] 0 0 := by
  have htop : (T.setVm s.vm).topJava?.isSome := X.here.top
  have hF : ((T.setVm s.vm).setFrames (.invoking m args :: below)).frames = .invoking m args :: below := State.frames_setFrames _ (State.cur_lt_of_top htop)
  obtain ⟨g₀, hg0⟩ := Option.isSome_iff_exists.mp htop
  obtain ⟨r, hr⟩ := State.topJava?_eq_some.mp hg0
  have hl9 : e.platform.stackLimits (T.setVm s.vm).me = e.platform.stackLimits s.me := X.limits
  have hb9 : (T.setVm s.vm).me.stackBytes = s.me.stackBytes := X.bytes
  refine ⟨X.admits, X.cas, X.clock, hF, ?_, X.hears, X.method, X.code, X.here, X.tail, X.warmed, ?_, ?_, ?_⟩
  · have h := X.room
    have hU : ((T.setVm s.vm).setFrames (.invoking m args :: below)).localsInUse = s.localsInUse := by
      rw [State.localsInUse_invoking hF (meth := meth) (c := c) X.method X.code, State.localsInUse_invoking X.frames X.method X.code]
    simp only [State.hasRoom, Bool.and_eq_true, decide_eq_true_eq] at h ⊢
    obtain ⟨⟨⟨⟨h1, h2, h3, h4, h5, h6⟩, h7⟩, h8⟩, h9⟩ := h
    rw [X.frames, List.length_cons] at h2 h3
    have q1 := X.heapSize
    have q2 := X.used
    simp only [hF, hU, List.length_cons, State.stackLimits_setFrames, State.stackBytes_setFrames, hl9, hb9]
    refine ⟨⟨⟨⟨by omega, by omega, by omega, by omega, by omega, h6⟩, ?_⟩, ?_⟩, X.book⟩
    · show T.heap.size + R'.cells ≤ e.platform.maxCells
      omega
    · show T.slotsUsed + R'.slots ≤ e.platform.maxSlots
      omega
  · rw [State.stackLimits_setFrames]; rfl
  · rw [State.stackBytes_setFrames]; rfl
  · refine ⟨?_, Nat.le_refl _, Nat.le_refl _, ?_, ?_, fun a c9 h9 => ⟨c9, h9, rfl, rfl, fun _ _ => rfl⟩⟩
    · obtain ⟨t, ht, -⟩ := State.frames_cons hr
      show T.setVm s.vm = { ((T.setVm s.vm).setFrames (.invoking m args :: below)).setFrames (T.setVm s.vm).frames with heap := T.heap, slotsUsed := T.slotsUsed }
      rw [State.setFrames_setFrames, State.setFrames_self ht]
      rfl
    · show T.slotsUsed = T.slotsUsed + ((T.heap.toList.drop T.heap.size).map (·.slots.size)).sum
      rw [List.drop_eq_nil_of_le (Nat.le_of_eq Array.length_toList)]
      rfl
    · show ((T.heap.toList.drop T.heap.size).map (·.slots.size)).sum ≤ 0
      rw [List.drop_eq_nil_of_le (Nat.le_of_eq Array.length_toList)]
      exact Nat.le_refl _
/-- 'throw new E()': new; dup; invokespecial; athrow -/
theorem vx_throw0 {cc : ByteArray} {pc : Nat} (hexec : p.tables.exec = Jvm.exec) (hb : c.code = cc) (hl : l.stackTraces = false) {own cls : String} {names : List String} {ik ic mc ms : Nat} {A : Nat → Prop}
    (hown : s.vm.findClass own = some m.cls) (hcls : Bundle.fit cls = true) (hnames : ∀ n ∈ names, Bundle.fit n = true)
    (hk : (Cond.classLink own ik cls).before args s = true) (hini : (Cond.initialized cls).before args s = true) (hat : ∀ w ∈ vx_at0 own ic cls names, w.before args s = true)
    (hgood : ∀ w ∈ Cond.classLink own ik cls :: Cond.initialized cls :: vx_at0 own ic cls names, vx_ot w = true)
    (hU : vx_Zq Bundle.tN "UNASSIGNED_STACK" Bundle.steD A s s.heap) (hN : vx_Zq Bundle.tN "SUPPRESSED_SENTINEL" Bundle.listD A s s.heap) (hS : va_S A s.heap H locs) (hsize : ls.size = c.maxLocals)
    (d0 : decode cc pc = .ok (.new ik, 3)) (d3 : decode cc (pc + 3) = .ok (.dup, 1)) (d4 : decode cc (pc + 4) = .ok (.invokespecial ic, 3)) (d7 : decode cc (pc + 7) = .ok (.athrow, 1))
    (hout : ∀ x ∈ c.exceptionTable.toList, covers x (pc + 7) = false)
    (hRframes : names.length + 3 < R.frames) (hRlocals : (rest.map fun v => v.category).sum + (13 * (names.length + 1) + 42) ≤ R.locals) (hRcells : cells + 1 ≤ R.cells) (hRslots : slots + 6 ≤ R.slots) (hlocks : meth.locks = false)
    (hx : ∀ t : State, s.vm.Alike t.vm → H.size ≤ t.heap.size → (∀ q : Nat, q < H.size → t.heap[q]? = H[q]?) → XC cls s t)
    (hf : ∀ z ∈ locs, free z.base) (hc : cells + 1 ≤ mc) (hs : slots + 6 ≤ ms) :
    W p l e R s m args below meth c H locs cells slots (vx_MQ below Qc XC args s mc ms free) (F0 m pc ls rest) := by
  intro T hT X
  have htr : e.platform.stackTraces = false := (show e.platform.stackTraces = l.stackTraces by rw [X.admits.platform]).trans hl
  have Y := vx_rebase X (R' := { frames := R.frames, locals := R.locals, cells := 1, slots := 6 }) (Nat.le_refl _) (Nat.le_refl _) hRcells hRslots
  obtain ⟨s', hA⟩ : ∃ z, z = (T.setVm s.vm).setFrames (.invoking m args :: below) := ⟨_, rfl⟩
  rw [← hA] at Y
  have hvm : s'.vm = s.vm := by rw [hA]; rfl
  have hhp : s'.heap = H := by rw [hA]; exact hT
  have hW0 : s.WarmedH s'.vm := by rw [hvm]; exact State.WarmedH.refl s
  have hat' : ∀ w ∈ vx_at0 own ic cls names, w.before args s' = true := fun w hw => vx_ot_at hW0 hvm.symm (hgood w (List.mem_cons_of_mem _ (List.mem_cons_of_mem _ hw))) (hat w hw)
  have hk' : (Cond.classLink own ik cls).before args s' = true := vx_ot_at hW0 hvm.symm (hgood _ List.mem_cons_self) hk
  have hini' : (Cond.initialized cls).before args s' = true := vx_ot_at hW0 hvm.symm (hgood _ (List.mem_cons_of_mem _ List.mem_cons_self)) hini
  have hU' : vx_Zq Bundle.tN "UNASSIGNED_STACK" Bundle.steD A s' s'.heap := by rw [hhp]; exact vx_Zq.moved hW0.alike (hU.kept hS.2.1)
  have hN' : vx_Zq Bundle.tN "SUPPRESSED_SENTINEL" Bundle.listD A s' s'.heap := by rw [hhp]; exact vx_Zq.moved hW0.alike (hN.kept hS.2.1)
  have h : ∀ w ∈ Bundle.ownAtoms0 own ic cls names, w.before args s' = true := vx_own hat' (vx_isRefq hU'.1) (vx_isRefq hN'.1) hU'.2.word hN'.2.word
  have hown' : s'.vm.findClass own = some m.cls := by rw [hvm]; exact hown
  have hins : (Cond.instantiable cls 6).before args s' = true := h _ (by simp [Bundle.ownAtoms0])
  obtain ⟨vm₁, cX, kX, hfX, hkX, -, -, X₁, st1⟩ := Y.newCold hexec (own := own) (C := cls) (index := ik) (n := 6) hown' hk' hins hini'
    (g := F0 m pc ls rest) rfl (by rw [hb]; exact d0) (Nat.le_refl _) (Nat.le_refl _)
  generalize hT1 : (T.setVm vm₁).pushCell { cls := cX, slots := kX.instanceTypes.map defaultValue, vm := .none } = T1 at X₁ st1
  have hcat : (Value.ref T.heap.size).category = 1 := rfl
  have hcellA : T1.heap[T.heap.size]? = some (freshCell cX kX) := by rw [← hT1]; exact State.heap_pushCell_size _ _
  have d3' : decode c.code (pc + 3) = .ok (.dup, 1) := by rw [hb]; exact d3
  obtain ⟨U, hsteps, hrun, hend, hW, hsame, ce, hce, hO⟩ := X₁.ctorThrow0 hexec htr (own := own) (cls := cls) (names := names) (ic := ic) hown' hcls hnames h (fun x hx => nomatch hx) hfX hkX hcellA (by rw [hhp, hT]; exact Nat.le_refl _)
    (g := { method := m, pc := pc + 4, locals := ls, stack := .ref T.heap.size :: .ref T.heap.size :: rest, locked := none }) rfl hsize rfl rfl (rest := rest) rfl
    (by rw [hb]; exact d4) (by rw [hb]; exact d7) hout hRframes (by simp only [List.map_cons, List.sum_cons, hcat]; omega) hlocks
  obtain ⟨f1, f2⟩ := vx_frame hsame
  rw [hhp] at f1 f2
  have hWs : s.WarmedH U.vm := State.WarmedH.trans hW0 hW
  have hcl : s.vm.findClass cls = some ce.cls := by
    have h9 := hO.cls
    rw [hvm] at h9
    exact h9
  have hall : s.sameButNew ({ U with vm := s.vm } : State) locs mc ms := by
    subst hA
    obtain ⟨e1, e2⟩ := hsame
    rw [State.setFrames_setFrames] at e1
    have h2 : (T.setVm s.vm).sameButNew ({ U with vm := s.vm } : State) [] (0 + 1) (0 + 6) := ⟨e1, e2⟩
    have h3 := X.same.trans h2
    rw [List.append_nil] at h3
    exact h3.mono hc hs
  refine ⟨U, ?_, .threw T.heap.size, hrun, hend, Or.inr ⟨T.heap.size, rfl, cls, ce, locs, hx U hWs.alike f1 (fun q hq => f2 q hq (fun z hz => nomatch hz)), hce, hO.vm, hcl, hWs, hall, hf⟩⟩
  refine st1 _ ?_
  show Steps p.tables e below (T1.setTop { method := m, pc := pc + 3, locals := ls, stack := .ref T.heap.size :: rest, locked := none }) _
  jvm_step X₁.here [X₁.here.top, hexec, d3', Value.category]
  exact hsteps
/-- 'throw new E("text")': new; dup; ldc; invokespecial; athrow -/
theorem vx_throwS {cc : ByteArray} {pc : Nat} (hexec : p.tables.exec = Jvm.exec) (hb : c.code = cc) (hl : l.stackTraces = false) {own cls text : String} {names : List String} {ik is ic mc ms sa : Nat} {A : Nat → Prop}
    (hown : s.vm.findClass own = some m.cls) (hcls : Bundle.fit cls = true) (hnames : ∀ n ∈ names, Bundle.fit n = true)
    (hk : (Cond.classLink own ik cls).before args s = true) (hini : (Cond.initialized cls).before args s = true) (hstr : vk_R own is text sa s) (hat : ∀ w ∈ vx_atS own ic cls names, w.before args s = true)
    (hgood : ∀ w ∈ Cond.classLink own ik cls :: Cond.initialized cls :: vx_atS own ic cls names, vx_ot w = true)
    (hU : vx_Zq Bundle.tN "UNASSIGNED_STACK" Bundle.steD A s s.heap) (hN : vx_Zq Bundle.tN "SUPPRESSED_SENTINEL" Bundle.listD A s s.heap) (hS : va_S A s.heap H locs) (hsize : ls.size = c.maxLocals)
    (d0 : decode cc pc = .ok (.new ik, 3)) (d3 : decode cc (pc + 3) = .ok (.dup, 1)) (d4 : decode cc (pc + 4) = .ok (.ldc is, 2)) (d6 : decode cc (pc + 6) = .ok (.invokespecial ic, 3)) (d9 : decode cc (pc + 9) = .ok (.athrow, 1))
    (hout : ∀ x ∈ c.exceptionTable.toList, covers x (pc + 9) = false)
    (hRframes : names.length + 3 < R.frames) (hRlocals : (rest.map fun v => v.category).sum + (13 * (names.length + 1) + 43) ≤ R.locals) (hRcells : cells + 1 ≤ R.cells) (hRslots : slots + 6 ≤ R.slots) (hlocks : meth.locks = false)
    (hx : ∀ t : State, s.vm.Alike t.vm → H.size ≤ t.heap.size → (∀ q : Nat, q < H.size → t.heap[q]? = H[q]?) → XC cls s t)
    (hf : ∀ z ∈ locs, free z.base) (hc : cells + 1 ≤ mc) (hs : slots + 6 ≤ ms) :
    W p l e R s m args below meth c H locs cells slots (vx_MQ below Qc XC args s mc ms free) (F0 m pc ls rest) := by
  intro T hT X
  have htr : e.platform.stackTraces = false := (show e.platform.stackTraces = l.stackTraces by rw [X.admits.platform]).trans hl
  have Y := vx_rebase X (R' := { frames := R.frames, locals := R.locals, cells := 1, slots := 6 }) (Nat.le_refl _) (Nat.le_refl _) hRcells hRslots
  obtain ⟨s', hA⟩ : ∃ z, z = (T.setVm s.vm).setFrames (.invoking m args :: below) := ⟨_, rfl⟩
  rw [← hA] at Y
  have hvm : s'.vm = s.vm := by rw [hA]; rfl
  have hhp : s'.heap = H := by rw [hA]; exact hT
  have hW0 : s.WarmedH s'.vm := by rw [hvm]; exact State.WarmedH.refl s
  have hat' : ∀ w ∈ vx_atS own ic cls names, w.before args s' = true := fun w hw => vx_ot_at hW0 hvm.symm (hgood w (List.mem_cons_of_mem _ (List.mem_cons_of_mem _ hw))) (hat w hw)
  have hk' : (Cond.classLink own ik cls).before args s' = true := vx_ot_at hW0 hvm.symm (hgood _ List.mem_cons_self) hk
  have hini' : (Cond.initialized cls).before args s' = true := vx_ot_at hW0 hvm.symm (hgood _ (List.mem_cons_of_mem _ List.mem_cons_self)) hini
  have hU' : vx_Zq Bundle.tN "UNASSIGNED_STACK" Bundle.steD A s' s'.heap := by rw [hhp]; exact vx_Zq.moved hW0.alike (hU.kept hS.2.1)
  have hN' : vx_Zq Bundle.tN "SUPPRESSED_SENTINEL" Bundle.listD A s' s'.heap := by rw [hhp]; exact vx_Zq.moved hW0.alike (hN.kept hS.2.1)
  have h : ∀ w ∈ Bundle.ownAtoms own ic cls names, w.before args s' = true := vx_own hat' (vx_isRefq hU'.1) (vx_isRefq hN'.1) hU'.2.word hN'.2.word
  have hown' : s'.vm.findClass own = some m.cls := by rw [hvm]; exact hown
  have hins : (Cond.instantiable cls 6).before args s' = true := h _ (by simp [Bundle.ownAtoms])
  obtain ⟨vm₁, cX, kX, hfX, hkX, -, -, X₁, st1⟩ := Y.newCold hexec (own := own) (C := cls) (index := ik) (n := 6) hown' hk' hins hini'
    (g := F0 m pc ls rest) rfl (by rw [hb]; exact d0) (Nat.le_refl _) (Nat.le_refl _)
  generalize hT1 : (T.setVm vm₁).pushCell { cls := cX, slots := kX.instanceTypes.map defaultValue, vm := .none } = T1 at X₁ st1
  have hcat : (Value.ref T.heap.size).category = 1 := rfl
  have hcellA : T1.heap[T.heap.size]? = some (freshCell cX kX) := by rw [← hT1]; exact State.heap_pushCell_size _ _
  have d3' : decode c.code (pc + 3) = .ok (.dup, 1) := by rw [hb]; exact d3
  have d4' : decode c.code (pc + 4) = .ok (.ldc is, 2) := by rw [hb]; exact d4
  have hstr' : vk_R own is text sa s' := vk_R.warm hW0 hstr
  obtain ⟨U, hsteps, hrun, hend, hW, hsame, ce, hce, hO⟩ := X₁.ctorThrowS hexec htr (own := own) (cls := cls) (names := names) (ic := ic) hown' hcls hnames h (fun x hx => nomatch hx) hfX hkX hcellA (by rw [hhp, hT]; exact Nat.le_refl _) (msg := .ref sa) rfl
    (g := { method := m, pc := pc + 6, locals := ls, stack := .ref sa :: .ref T.heap.size :: .ref T.heap.size :: rest, locked := none }) rfl hsize rfl rfl (rest := rest) rfl
    (by rw [hb]; exact d6) (by rw [hb]; exact d9) hout hRframes (by simp only [List.map_cons, List.sum_cons, hcat]; omega) hlocks
  obtain ⟨f1, f2⟩ := vx_frame hsame
  rw [hhp] at f1 f2
  have hWs : s.WarmedH U.vm := State.WarmedH.trans hW0 hW
  have hcl : s.vm.findClass cls = some ce.cls := by
    have h9 := hO.cls
    rw [hvm] at h9
    exact h9
  have hall : s.sameButNew ({ U with vm := s.vm } : State) locs mc ms := by
    subst hA
    obtain ⟨e1, e2⟩ := hsame
    rw [State.setFrames_setFrames] at e1
    have h2 : (T.setVm s.vm).sameButNew ({ U with vm := s.vm } : State) [] (0 + 1) (0 + 6) := ⟨e1, e2⟩
    have h3 := X.same.trans h2
    rw [List.append_nil] at h3
    exact h3.mono hc hs
  refine ⟨U, ?_, .threw T.heap.size, hrun, hend, Or.inr ⟨T.heap.size, rfl, cls, ce, locs, hx U hWs.alike f1 (fun q hq => f2 q hq (fun z hz => nomatch hz)), hce, hO.vm, hcl, hWs, hall, hf⟩⟩
  refine st1 _ ?_
  show Steps p.tables e below (T1.setTop { method := m, pc := pc + 3, locals := ls, stack := .ref T.heap.size :: rest, locked := none }) _
  jvm_step X₁.here [X₁.here.top, hexec, d3', Value.category]
  exact X₁.ldcString hexec (own := own) (text := text) (index := is) (a := sa) hown' hstr'.1 hstr'.2
    (g := { method := m, pc := pc + 4, locals := ls, stack := .ref T.heap.size :: .ref T.heap.size :: rest, locked := none }) rfl d4' _ hsteps
/-- 'throw new E("text")', the text by a wide index -/
theorem vx_throwSW {cc : ByteArray} {pc : Nat} (hexec : p.tables.exec = Jvm.exec) (hb : c.code = cc) (hl : l.stackTraces = false) {own cls text : String} {names : List String} {ik is ic mc ms sa : Nat} {A : Nat → Prop}
    (hown : s.vm.findClass own = some m.cls) (hcls : Bundle.fit cls = true) (hnames : ∀ n ∈ names, Bundle.fit n = true)
    (hk : (Cond.classLink own ik cls).before args s = true) (hini : (Cond.initialized cls).before args s = true) (hstr : vk_R own is text sa s) (hat : ∀ w ∈ vx_atS own ic cls names, w.before args s = true)
    (hgood : ∀ w ∈ Cond.classLink own ik cls :: Cond.initialized cls :: vx_atS own ic cls names, vx_ot w = true)
    (hU : vx_Zq Bundle.tN "UNASSIGNED_STACK" Bundle.steD A s s.heap) (hN : vx_Zq Bundle.tN "SUPPRESSED_SENTINEL" Bundle.listD A s s.heap) (hS : va_S A s.heap H locs) (hsize : ls.size = c.maxLocals)
    (d0 : decode cc pc = .ok (.new ik, 3)) (d3 : decode cc (pc + 3) = .ok (.dup, 1)) (d4 : decode cc (pc + 4) = .ok (.ldc_w is, 3)) (d7 : decode cc (pc + 7) = .ok (.invokespecial ic, 3)) (d10 : decode cc (pc + 10) = .ok (.athrow, 1))
    (hout : ∀ x ∈ c.exceptionTable.toList, covers x (pc + 10) = false)
    (hRframes : names.length + 3 < R.frames) (hRlocals : (rest.map fun v => v.category).sum + (13 * (names.length + 1) + 43) ≤ R.locals) (hRcells : cells + 1 ≤ R.cells) (hRslots : slots + 6 ≤ R.slots) (hlocks : meth.locks = false)
    (hx : ∀ t : State, s.vm.Alike t.vm → H.size ≤ t.heap.size → (∀ q : Nat, q < H.size → t.heap[q]? = H[q]?) → XC cls s t)
    (hf : ∀ z ∈ locs, free z.base) (hc : cells + 1 ≤ mc) (hs : slots + 6 ≤ ms) :
    W p l e R s m args below meth c H locs cells slots (vx_MQ below Qc XC args s mc ms free) (F0 m pc ls rest) := by
  intro T hT X
  have htr : e.platform.stackTraces = false := (show e.platform.stackTraces = l.stackTraces by rw [X.admits.platform]).trans hl
  have Y := vx_rebase X (R' := { frames := R.frames, locals := R.locals, cells := 1, slots := 6 }) (Nat.le_refl _) (Nat.le_refl _) hRcells hRslots
  obtain ⟨s', hA⟩ : ∃ z, z = (T.setVm s.vm).setFrames (.invoking m args :: below) := ⟨_, rfl⟩
  rw [← hA] at Y
  have hvm : s'.vm = s.vm := by rw [hA]; rfl
  have hhp : s'.heap = H := by rw [hA]; exact hT
  have hW0 : s.WarmedH s'.vm := by rw [hvm]; exact State.WarmedH.refl s
  have hat' : ∀ w ∈ vx_atS own ic cls names, w.before args s' = true := fun w hw => vx_ot_at hW0 hvm.symm (hgood w (List.mem_cons_of_mem _ (List.mem_cons_of_mem _ hw))) (hat w hw)
  have hk' : (Cond.classLink own ik cls).before args s' = true := vx_ot_at hW0 hvm.symm (hgood _ List.mem_cons_self) hk
  have hini' : (Cond.initialized cls).before args s' = true := vx_ot_at hW0 hvm.symm (hgood _ (List.mem_cons_of_mem _ List.mem_cons_self)) hini
  have hU' : vx_Zq Bundle.tN "UNASSIGNED_STACK" Bundle.steD A s' s'.heap := by rw [hhp]; exact vx_Zq.moved hW0.alike (hU.kept hS.2.1)
  have hN' : vx_Zq Bundle.tN "SUPPRESSED_SENTINEL" Bundle.listD A s' s'.heap := by rw [hhp]; exact vx_Zq.moved hW0.alike (hN.kept hS.2.1)
  have h : ∀ w ∈ Bundle.ownAtoms own ic cls names, w.before args s' = true := vx_own hat' (vx_isRefq hU'.1) (vx_isRefq hN'.1) hU'.2.word hN'.2.word
  have hown' : s'.vm.findClass own = some m.cls := by rw [hvm]; exact hown
  have hins : (Cond.instantiable cls 6).before args s' = true := h _ (by simp [Bundle.ownAtoms])
  obtain ⟨vm₁, cX, kX, hfX, hkX, -, -, X₁, st1⟩ := Y.newCold hexec (own := own) (C := cls) (index := ik) (n := 6) hown' hk' hins hini'
    (g := F0 m pc ls rest) rfl (by rw [hb]; exact d0) (Nat.le_refl _) (Nat.le_refl _)
  generalize hT1 : (T.setVm vm₁).pushCell { cls := cX, slots := kX.instanceTypes.map defaultValue, vm := .none } = T1 at X₁ st1
  have hcat : (Value.ref T.heap.size).category = 1 := rfl
  have hcellA : T1.heap[T.heap.size]? = some (freshCell cX kX) := by rw [← hT1]; exact State.heap_pushCell_size _ _
  have d3' : decode c.code (pc + 3) = .ok (.dup, 1) := by rw [hb]; exact d3
  have d4' : decode c.code (pc + 4) = .ok (.ldc_w is, 3) := by rw [hb]; exact d4
  have hstr' : vk_R own is text sa s' := vk_R.warm hW0 hstr
  obtain ⟨U, hsteps, hrun, hend, hW, hsame, ce, hce, hO⟩ := X₁.ctorThrowS hexec htr (own := own) (cls := cls) (names := names) (ic := ic) hown' hcls hnames h (fun x hx => nomatch hx) hfX hkX hcellA (by rw [hhp, hT]; exact Nat.le_refl _) (msg := .ref sa) rfl
    (g := { method := m, pc := pc + 7, locals := ls, stack := .ref sa :: .ref T.heap.size :: .ref T.heap.size :: rest, locked := none }) rfl hsize rfl rfl (rest := rest) rfl
    (by rw [hb]; exact d7) (by rw [hb]; exact d10) hout hRframes (by simp only [List.map_cons, List.sum_cons, hcat]; omega) hlocks
  obtain ⟨f1, f2⟩ := vx_frame hsame
  rw [hhp] at f1 f2
  have hWs : s.WarmedH U.vm := State.WarmedH.trans hW0 hW
  have hcl : s.vm.findClass cls = some ce.cls := by
    have h9 := hO.cls
    rw [hvm] at h9
    exact h9
  have hall : s.sameButNew ({ U with vm := s.vm } : State) locs mc ms := by
    subst hA
    obtain ⟨e1, e2⟩ := hsame
    rw [State.setFrames_setFrames] at e1
    have h2 : (T.setVm s.vm).sameButNew ({ U with vm := s.vm } : State) [] (0 + 1) (0 + 6) := ⟨e1, e2⟩
    have h3 := X.same.trans h2
    rw [List.append_nil] at h3
    exact h3.mono hc hs
  refine ⟨U, ?_, .threw T.heap.size, hrun, hend, Or.inr ⟨T.heap.size, rfl, cls, ce, locs, hx U hWs.alike f1 (fun q hq => f2 q hq (fun z hz => nomatch hz)), hce, hO.vm, hcl, hWs, hall, hf⟩⟩
  refine st1 _ ?_
  show Steps p.tables e below (T1.setTop { method := m, pc := pc + 3, locals := ls, stack := .ref T.heap.size :: rest, locked := none }) _
  jvm_step X₁.here [X₁.here.top, hexec, d3', Value.category]
  exact X₁.ldcStringW hexec (own := own) (text := text) (index := is) (a := sa) hown' hstr'.1 hstr'.2
    (g := { method := m, pc := pc + 4, locals := ls, stack := .ref T.heap.size :: .ref T.heap.size :: rest, locked := none }) rfl d4' _ hsteps
end Ends
section Bodies
variable {l : Launch}
theorem vx_ofW {y : MethodName} {ws ws' : List Cond} {rm : Room} {Pc : Array Value → State → Prop} {Qc : Array Value → State → Outcome → State → Prop} {XC : String → State → State → Prop} {mc ms : Nat} {free : Addr → Prop} {cc : ByteArray} {maxL : Nat} {ret : Option FieldType}
    (hy : plainName y.cls = true) (hw : ws = Cond.code y cc maxL ret :: ws')
    (body : ∀ p e s m args below meth c s₁, BodyLoose p l y (headSpec ws rm) cc maxL ret e s m args below meth c s₁ → c.maxLocals = maxL → (∀ x ∈ c.exceptionTable.toList, False) → Pc args s →
      W p l e (headSpec ws rm).room s m args below meth c s.heap [] 0 0 (vx_MQ below Qc XC args s mc ms free) (entryFrame m args maxL)) : vx_Met l y ws rm Pc Qc XC mc ms free := by
  refine MetFree.of_bodyS (code := cc) (maxLocals := maxL) (ret := ret) hy ?_ ?_
  · intro args s m h hn
    obtain ⟨meth, c, h1, h2, h3, h4, h5, h6, -, -⟩ := Cond.code_spec hn (atoms_spec (ws := ws) h _ (by rw [hw]; exact List.mem_cons_self))
    exact ⟨meth, c, h1, h2, h3, h4, h5, h6⟩
  · intro p e s m args below meth c s₁ B hml hP _
    have hh0 : s₁.heap = s.heap := by rw [B.state]; rfl
    have ht : ∀ x ∈ c.exceptionTable.toList, False := by
      obtain ⟨meth9, c9, h1, h2, -, -, -, -, h7, -⟩ := Cond.code_spec B.named (atoms_spec (ws := ws) B.pre _ (by rw [hw]; exact List.mem_cons_self))
      cases Option.some.inj (h1.symm.trans B.method)
      cases Option.some.inj (h2.symm.trans (Stand.of_body B).code)
      intro x hx
      rw [Array.isEmpty_iff.mp h7] at hx
      cases hx
    obtain ⟨t, a1, o, b1, b2, b3⟩ := body p e s m args below meth c s₁ B hml ht hP s₁ hh0 (Stand.of_body B)
    exact ⟨t, o, a1, b1, b2, b3⟩
/-- the table of a body with handlers -/
theorem vx_table {p : Program} {x y : MethodName} {S : Spec} {cc bytes : ByteArray} {maxL maxL' : Nat} {ret ret' : Option FieldType} {e : Env} {s s₁ : State} {m : MethodId} {args : Array Value} {below : List Frame} {meth : Method} {c : Code} {hh : List (Nat × Nat × Nat × Nat)}
    (B : BodyLoose p l y S cc maxL ret e s m args below meth c s₁) (h : (Cond.codeWith y bytes maxL' ret' hh).before args s = true) : c.exceptionTable.toList = tableOf hh := by
  obtain ⟨m9, meth9, c9, hn9, h1, h2, -, -, h6, -⟩ := Cond.codeWith_spec h
  cases Option.some.inj (hn9.symm.trans B.named)
  cases Option.some.inj (h1.symm.trans B.method)
  cases Option.some.inj (h2.symm.trans (Stand.of_body B).code)
  rw [← h6, table_eq]
end Bodies
end VXA
/-! ===== END ===== -/
/-! ===== BEGIN a static call of a method with an exception table ===== -/
section VXS
variable {p : Program} {l : Launch} {e : Env} {R : Room} {s : State} {m : MethodId} {args : Array Value} {below : List Frame} {meth : Method} {c : Code} {T : State} {H : Heap} {locs : List Loc} {cells slots : Nat}
abbrev vx_CSW (R : Room) (s : State) (args : Array Value) (own : String) (index : Nat) (y : MethodName) (bytes : ByteArray) (maxL : Nat) (ret : Option FieldType) (hh : List (Nat × Nat × Nat × Nat)) (ws : List Cond) (rm : Room) (mc ms n : Nat) : Prop :=
  (rm.cells = mc ∧ rm.slots = ms ∧ rm.frames + 1 ≤ R.frames ∧ 8 + (maxL + 11) + rm.locals ≤ R.locals ∧ (∀ w ∈ ws, ∀ (a' : Array Value) (U : State), s.WarmedH U.vm → w.before a' U = true) ∧ Cond.codeWith y bytes maxL ret hh ∈ ws) ∧
  (Cond.codeWith y bytes maxL ret hh).before args s = true ∧ (Cond.initialized y.cls).before args s = true ∧ (y.cls ≠ "java/lang/invoke/MethodHandle" ∧ y.cls ≠ "java/lang/invoke/VarHandle") ∧
  (∀ sig, parseMethodDescriptor y.desc = some sig → n = sig.parameters.length) ∧ (Cond.methodLink own index y).before args s = true ∧ (Cond.static y).before args s = true
theorem vx_cwSW {own : String} {index maxL mc ms : Nat} {y : MethodName} {bytes : ByteArray} {ret : Option FieldType} {hh : List (Nat × Nat × Nat × Nat)} {Ts ws ws' : List Cond} {rm : Room} (n : Nat) (ht : ∀ w ∈ Ts, w.before args s = true) (hT : GoodIn Ts (va_wsS own index y ws)) (hw : ws = Cond.codeWith y bytes maxL ret hh :: ws') (hrc : rm.cells = mc) (hrs : rm.slots = ms)
    (hd : y.cls ≠ "java/lang/invoke/MethodHandle" ∧ y.cls ≠ "java/lang/invoke/VarHandle" ∧ (parseMethodDescriptor y.desc).map (fun d => d.parameters.length) = some n) (hR : rm.frames + 1 ≤ R.frames ∧ 8 + (maxL + 11) + rm.locals ≤ R.locals) :
    vx_CSW R s args own index y bytes maxL ret hh ws rm mc ms n := by
  have ok : ∀ w ∈ va_wsS own index y ws, w.before args s = true := fun w h => ht w (hT w h).1
  have hG : GoodIn Ts ws := fun w h => hT w (by unfold va_wsS; exact List.mem_append_right _ h)
  have hc : Cond.codeWith y bytes maxL ret hh ∈ ws := by rw [hw]; exact List.mem_cons_self
  refine ⟨⟨hrc, hrs, hR.1, hR.2, pay_in ht hG, hc⟩, ht _ (hG _ hc).1, ok _ (by simp [va_wsS]), ⟨hd.1, hd.2.1⟩, fun sig h => ?_, ok _ (by simp [va_wsS]), ok _ (by simp [va_wsS])⟩
  have h2 := hd.2.2
  rw [h] at h2
  exact (Option.some.inj h2).symm
theorem vx_callSW (X : Stand p l e R s m args below meth c T locs cells slots) (hexec : p.tables.exec = Jvm.exec) {own : String} {index : Nat} {y : MethodName} {bytes : ByteArray} {maxL : Nat} {ret : Option FieldType} {hh : List (Nat × Nat × Nat × Nat)}
    (hown : s.vm.findClass own = some m.cls) (hlink : (Cond.methodLink own index y).before args s = true) (hstat : (Cond.static y).before args s = true) (hinit : (Cond.initialized y.cls).before args s = true)
    (hcode : (Cond.codeWith y bytes maxL ret hh).before args s = true) (hy : y.cls ≠ "java/lang/invoke/MethodHandle" ∧ y.cls ≠ "java/lang/invoke/VarHandle")
    {W9 : Nat} {Pre : Pt → Array Value → Prop} {Post : Pt → Array Value → Option Value → Pt → Prop} (hK : Back l R p e below s args y 3 W9 Pre Post)
    {g : JFrame} (hg : g.method = m) (hsize : g.locals.size = c.maxLocals) {argsL rest : List Value} (hlen : ∀ sig, parseMethodDescriptor y.desc = some sig → argsL.length = sig.parameters.length)
    (hstack : g.stack = argsL.reverse ++ rest) (hW : 2 * g.monitorRoom + (rest.map fun v => v.category).sum ≤ W9) (hdg : decode c.code g.pc = .ok (.invokestatic index, 3))
    (hpre : ∀ vm₁, s.WarmedH vm₁ → Pre ⟨T.setVm vm₁, locs, cells, slots⟩ argsL.toArray) :
    ∃ (v : Option Value) (vm₁ : Vm) (B : Pt), s.WarmedH vm₁ ∧ Stand p l e R s m args below meth c B.U B.locs B.cells B.slots ∧ Post ⟨T.setVm vm₁, locs, cells, slots⟩ argsL.toArray v B ∧
      ∀ target, Steps p.tables e below (B.U.setTop { g with pc := g.pc + 3, stack := v.toList ++ rest }) target → Steps p.tables e below (T.setTop g) target := by
  obtain ⟨mk, methM, cM, hnamed, hmethM, -, -, -, -, -, -, hsigM⟩ := Cond.codeWith_spec hcode
  have hstatic : methM.isStatic = true := Cond.static_spec hnamed hmethM hstat
  obtain ⟨kP, hkP, -⟩ := className_of_methodNamed hnamed
  have hinitP : kP.init = .initialized := Cond.initialized_spec (findClass_of_methodNamed hnamed) hkP hinit
  obtain ⟨vm₁, X₁, hstep₁⟩ := X.invokestatic hexec hown hlink hnamed hmethM hstatic hkP hinitP hy (g := g) hg (argsL := argsL) (rest := rest) (hlen _ hsigM) hstack hdg
  obtain ⟨v, B, X', hpost, hsteps⟩ := hK m meth c ⟨T.setVm vm₁, locs, cells, slots⟩ { g with stack := rest } (.invokestatic index) mk argsL.toArray X₁ hg hsize hdg hW (X₁.named hnamed) (hpre vm₁ X₁.warmed)
  exact ⟨v, vm₁, B, X₁.warmed, X', hpost, fun target h => hstep₁ _ fun acts => by rw [doInvoke_state]; exact hsteps.trans h⟩
theorem vx_runSW {y : MethodName} {bytes cc : ByteArray} {maxL nL mc ms n index : Nat} {ret : Option FieldType} {hh : List (Nat × Nat × Nat × Nat)} {ws : List Cond} {rm : Room} {Pc : Array Value → State → Prop} {Qc : Array Value → State → Outcome → State → Prop} {free : Addr → Prop} {Ts : List Cond} {own : String} {As rest : List Value} {g : JFrame}
    (S : CallFix p m c cc nL s args Ts own) (hM : Met l y ws rm Pc Qc mc ms free) (cw : vx_CSW R s args own index y bytes maxL ret hh ws rm mc ms n) (hp : PreS s H Pc As)
    (hg : g.method = m) (hn : As.length = n) (hsize : g.locals.size = nL) (hstack : g.stack = As.reverse ++ rest) (hW : 2 * g.monitorRoom + (rest.map fun v => v.category).sum ≤ 8) (hdg : decode cc g.pc = .ok (.invokestatic index, 3)) (hf : cells + mc ≤ R.cells ∧ slots + ms ≤ R.slots) :
    va_Run p l e R s m args below meth c H locs cells slots mc ms g rest (Qc As.toArray) (free) := by
  obtain ⟨⟨hrc, hrs, hfr, hlo, hws, hcw⟩, hcode, hini, hy, hlen, hl, hstt⟩ := cw
  have hK : Back l R p e below s args y 3 8 (PreOf R mc ms Pc) (PostOf Qc mc ms free) := va_backW (hh := hh) (bytes := bytes) (maxL := maxL) (ret := ret) hM hp.1 hrc hrs hfr hlo hws hcw (fun a' U hW => word_at hW (Or.inl (by first | rfl | simp [Cond.onTables, Cond.keeps, Cond.steady])) hini)
  obtain ⟨hx, hb, hml, ho, -⟩ := S
  intro T hT X
  obtain ⟨v, vm₁, ⟨U', l2, c2, s2⟩, hW₁, X', ⟨g', mk, t, L, e1, e2, hq, h1, hL, h2, h3⟩, st⟩ := vx_callSW X hx (hh := hh) (bytes := bytes) (maxL := maxL) (ret := ret) ho hl hstt hini hcode hy hK hg (hsize.trans hml.symm) (argsL := As) (rest := rest) (fun sig h => hn.trans (hlen sig h)) hstack hW (by rw [hb]; exact hdg)
    (fun vm₁ hW₁ => ⟨hf.1, hf.2, hp.2 (T.setVm vm₁) hT hW₁⟩)
  dsimp only [Pt.U, Pt.locs, Pt.cells, Pt.slots] at X' e1 e2 h1 h2 h3 st
  subst h1; subst h2; subst h3
  exact ⟨v, (T.setVm vm₁).calling g' mk As.toArray, t, U', L, hT, X', hL, e1, e2, hq, st⟩
/-- not caught here, past rows that name other classes: it goes on to the caller -/
theorem vx_outP {p : Program} {l : Launch} {e : Env} {R : Room} {s : State} {m : MethodId} {args : Array Value} {below : List Frame} {meth : Method} {c : Code} {H : Heap} {locs : List Loc} {cells slots : Nat} {free : Addr → Prop} {ls : Array Slot} {rest : List Value} {Qc : Array Value → State → Outcome → State → Prop} {XC : String → State → State → Prop}
    {pc : Nat} {own E : String} {ce : Cell} {q : Addr} {mc ms : Nat} (hown : s.vm.findClass own = some m.cls) (hlocks : meth.locks = false)
    (hpass : ∀ z ∈ c.exceptionTable.toList, covers z pc = false ∨ (z.catchType ≠ 0 ∧ ∃ nm : String, (Cond.classLink own z.catchType nm).before args s = true ∧ va_Nc E nm s)) (hcell : H[q]? = some ce) (hv : ce.vm = .none) (hcl : s.vm.findClass E = some ce.cls)
    (hx : ∀ t : State, t.heap = H → s.vm.Alike t.vm → XC E s t) (hf : ∀ z ∈ locs, free z.base) (hc : cells ≤ mc) (hs : slots ≤ ms) :
    vx_W p l e R s m args below meth c H locs cells slots (vx_MQ below Qc XC args s mc ms free) (F0 m pc ls rest) q := by
  intro T hT X
  have hpl : e.platform.magicAccessors = ({} : Platform).magicAccessors := by rw [X.admits.platform]
  obtain ⟨vm', hW', X', st⟩ := X.outThrough hlocks q (g := F0 m pc ls rest) rfl rfl rfl (cell := ce) (by rw [hT]; exact hcell) (by rw [hv]; rfl)
    (by obtain ⟨k9, h9, -⟩ := Vm.findClass_spec hcl; exact ⟨k9, h9⟩) (fun z hz => by
      rcases hpass z hz with h | ⟨hz0, nm, hl1, hn1⟩
      · exact Or.inl h
      · obtain ⟨c6, hc6, hcl6⟩ := Cond.classLink_spec hown hl1 e.platform hpl
        obtain ⟨a8, b8, h1, h2, h3⟩ := hn1
        cases Option.some.inj (h1.symm.trans hcl)
        cases Option.some.inj (h2.symm.trans hc6)
        exact Or.inr ⟨hz0, _, hcl6, h3⟩)
  obtain ⟨g₀, hfr⟩ := X'.frames_eq
  have hcell9 : ((T.setVm vm').setFrames (.throwing q :: below)).heap[q]? = some ce := by
    show T.heap[q]? = some ce
    rw [hT]; exact hcell
  have hend : Ended ((T.setVm vm').setFrames (.throwing q :: below)) below (.threw q) := State.frames_setFrames _ (State.cur_lt_of_frames hfr)
  refine ⟨(T.setVm vm').setFrames (.throwing q :: below), ?_, .threw q, X'.here.running, hend, Or.inr ⟨q, rfl, E, ce, locs, hx _ hT (X'.ends _).1.alike, hcell9, hv, hcl, (X'.ends _).1, (X'.ends _).2.mono hc hs, hf⟩⟩
  rw [X.pushThrowing_eq]
  exact st
/-- a thing of a world lies in the heap -/
theorem vx_lt {D : va_G} {cl : List vw_C} {ws : va_W} {H1 : Heap} (h : va_P D cl ws H1) {k : Nat} {q : Nat × va_E} (hk : ws[k]? = some q) : q.1 < H1.size := (h k q hk).lt
end VXS
/-! ===== END ===== -/
/-! ===== BEGIN methods with a table of their own: called by a name, returning or throwing ===== -/
section VXH
/-! vx_backW, vx_callVX, vx_callSX, vx_callVW, vx_runVW, vx_runVX, vx_runSX, vx_ofWH follow the same proofs as their sisters above (Free/Laws.lean, Shelf42/LK1.lean); vx_outP calls Shelf42/NT130.lean (outThrough). -/
section
variable {l : Launch} {R : Room} {p : Program} {e : Env} {below : List Frame} {s : State} {sargs : Array Value} {y : MethodName} {len W9 : Nat}
theorem vx_backW {ws : List Cond} {rm : Room} {Pc : Array Value → State → Prop} {Qc : Array Value → State → Outcome → State → Prop} {XC : String → State → State → Prop} {mc ms : Nat} {free : Addr → Prop} {bytes : ByteArray} {maxL : Nat} {ret : Option FieldType} {hh : List (Nat × Nat × Nat × Nat)}
    (hM : vx_Met l y ws rm Pc Qc XC mc ms free) (hblind : FrameBlind Pc) (hrc : rm.cells = mc) (hrs : rm.slots = ms)
    (hframes : rm.frames + 1 ≤ R.frames) (hlocals : W9 + (maxL + 11) + rm.locals ≤ R.locals)
    (hws : ∀ w ∈ ws, ∀ a' U, s.WarmedH U.vm → w.before a' U = true) (hcode : Cond.codeWith y bytes maxL ret hh ∈ ws) (hinit : ∀ a' U, s.WarmedH U.vm → (Cond.initialized y.cls).before a' U = true) :
    vx_Back l R p e below s sargs y len W9 (PreOf R mc ms Pc) (PostOf Qc mc ms free) (vx_Post XC mc ms free) := by
  intro m meth c A g ig mk a X hg hsize hdg hW hn hp
  have h1 : (headSpec ws rm).pre.before a A.U = true := atoms_intro fun w hw => hws w hw _ _ X.warmed
  have h2 : (Cond.codeWith y bytes maxL ret hh).before a A.U = true := hws _ hcode _ _ X.warmed
  have h3 : (Cond.initialized y.cls).before a A.U = true := hinit _ _ X.warmed
  have h4 : A.cells + (headSpec ws rm).room.cells ≤ R.cells := by rw [show (headSpec ws rm).room.cells = mc from hrc]; exact hp.1
  have h5 : A.slots + (headSpec ws rm).room.slots ≤ R.slots := by rw [show (headSpec ws rm).room.slots = ms from hrs]; exact hp.2.1
  have hPc : Pc a (A.U.calling g mk a) := hblind _ _ _ _ hp.2.2
  obtain ⟨U, Ls, c0, s0⟩ := A
  dsimp only [Pt.U, Pt.locs, Pt.cells, Pt.slots] at h1 h2 h3 h4 h5 X hn hPc ⊢
  obtain ⟨m9, methY, cY, hn9, hmY, hcY, -, hlY, -⟩ := Cond.codeWith_spec h2
  cases Option.some.inj (hn9.symm.trans hn)
  obtain ⟨kY, hkY, -⟩ := className_of_methodNamed hn
  have hinitY : kY.init = .initialized := Cond.initialized_spec (findClass_of_methodNamed hn) hkY h3
  have h : At U g.method c below := by rw [hg]; exact X.here
  have hlocals9 : W9 + (maxL + 11) + (headSpec ws rm).room.locals ≤ R.locals := hlocals
  have happ : (headSpec ws rm).appliesLoose y e.platform (U.calling g mk a) = true :=
    Spec.appliesLoose_calling (g := g) h hdg hn hkY hinitY
      (X.room_calling (g := g) (R' := (headSpec ws rm).room) hsize hmY hcY hframes (by rw [hlY]; omega) h4 h5) h1
  obtain ⟨mid, hmid⟩ := h.above
  have hfr : (U.setTop g).frames = (.java g :: mid) ++ below := by rw [State.frames_setTop' g h.top, hmid]; rfl
  obtain ⟨o, s₂, hsteps, -, hend, hq⟩ := Steps.callFree hM p X.admits X.cas X.clock (acts := []) hfr happ hPc trivial
  have hq' : vx_Q Qc XC mc ms free a (U.calling g mk a) o s₂ := hq
  rw [State.frames_setTop' g h.top] at hend
  obtain ⟨g₀, hg0⟩ := Option.isSome_iff_exists.mp h.top
  obtain ⟨r, hr⟩ := State.topJava?_eq_some.mp hg0
  have hr' : (({ U with heap := s₂.heap, slotsUsed := s₂.slotsUsed } : State).setVm s₂.vm).frames = .java g₀ :: r := hr
  rcases hq' with ⟨hqc, L, hfe, hL⟩ | ⟨q, rfl, E, ce, L, hx, hce, hcv, hcl, hW₂, hsm, hL⟩
  · obtain ⟨⟨v, rfl⟩, hW₂, e2, q2, q3, q4, q5, q6⟩ := id hfe
    have e3 : s₂ = ({ (U.calling g mk a).setFrames s₂.frames with heap := s₂.heap, slotsUsed := s₂.slotsUsed } : State).setVm s₂.vm := by
      have : s₂ = ({ s₂ with vm := (U.calling g mk a).vm } : State).setVm s₂.vm := rfl
      rw [e2] at this
      exact this
    obtain ⟨c₂, i₂, len₂, hc₂, hd₂, hf₂⟩ := hend
    have hW' : U.WarmedH s₂.vm := hW₂
    have hcc : c₂ = c := by
      have h1 : s₂.code? g.method = U.code? g.method := by
        rw [State.code?_eq, State.code?_eq, hW'.alike.method?]
      exact Option.some.inj (hc₂.symm.trans (h1.trans h.code))
    subst hcc
    have hlen : len₂ = len := by rw [hdg] at hd₂; cases hd₂; rfl
    subst hlen
    have hs₂ : s₂ = (({ U with heap := s₂.heap, slotsUsed := s₂.slotsUsed } : State).setVm s₂.vm).setTop { g with pc := g.pc + len₂, stack := v.toList ++ g.stack } := by
      refine e3.trans ?_
      rw [hf₂, State.calling_eq h.top, State.setFrames_setFrames, State.setTop_of_frames _ hr', hr]
      rfl
    have hsame : U.sameButNew ({ U with heap := s₂.heap, slotsUsed := s₂.slotsUsed } : State) L mc ms := by
      refine ⟨?_, q2, q3, q4, q5, q6⟩
      obtain ⟨t, ht, -⟩ := State.frames_cons hr
      show ({ U with heap := s₂.heap, slotsUsed := s₂.slotsUsed } : State) = { U.setFrames U.frames with heap := s₂.heap, slotsUsed := s₂.slotsUsed }
      rw [State.setFrames_self ht]
    subst hg
    refine Or.inl ⟨v, ⟨(({ U with heap := s₂.heap, slotsUsed := s₂.slotsUsed } : State).setVm s₂.vm), Ls ++ L, c0 + mc, s0 + ms⟩,
      ⟨X.admits, X.cas, X.clock, X.frames, X.room, X.hears, X.method, X.code, (X.here.setHeapUsed s₂.heap s₂.slotsUsed).setVm hW'.alike, X.tail, State.WarmedH.trans X.warmed hW', X.limits, X.bytes, X.same.trans (hsame.setVm s.vm)⟩,
      ⟨g, mk, s₂, L, rfl, rfl, hqc, rfl, hL, rfl, rfl⟩, ?_⟩
    show Steps p.tables e below _ ((({ U with heap := s₂.heap, slotsUsed := s₂.slotsUsed } : State).setVm s₂.vm).setTop { g with pc := g.pc + len₂, stack := v.toList ++ g.stack })
    rw [← hs₂]
    exact hsteps
  · obtain ⟨e2, q2, q3, q4, q5, q6⟩ := id hsm
    have e3 : s₂ = ({ (U.calling g mk a).setFrames s₂.frames with heap := s₂.heap, slotsUsed := s₂.slotsUsed } : State).setVm s₂.vm := by
      have : s₂ = ({ s₂ with vm := (U.calling g mk a).vm } : State).setVm s₂.vm := rfl
      rw [e2] at this
      exact this
    have hf₂ : s₂.frames = .throwing q :: .java g :: U.frames.tail := hend
    have hW' : U.WarmedH s₂.vm := hW₂
    have hs₂ : s₂ = ((({ U with heap := s₂.heap, slotsUsed := s₂.slotsUsed } : State).setVm s₂.vm).setTop g).pushFrame (.throwing q) := by
      refine e3.trans ?_
      rw [hf₂, State.calling_eq h.top, State.setFrames_setFrames, State.pushFrame, State.frames_setTop _ hr', State.setTop_of_frames _ hr', State.setFrames_setFrames, hr]
      rfl
    have hsame : U.sameButNew ({ U with heap := s₂.heap, slotsUsed := s₂.slotsUsed } : State) L mc ms := by
      refine ⟨?_, q2, q3, q4, q5, q6⟩
      obtain ⟨t, ht, -⟩ := State.frames_cons hr
      show ({ U with heap := s₂.heap, slotsUsed := s₂.slotsUsed } : State) = { U.setFrames U.frames with heap := s₂.heap, slotsUsed := s₂.slotsUsed }
      rw [State.setFrames_self ht]
    subst hg
    refine Or.inr ⟨q, ⟨(({ U with heap := s₂.heap, slotsUsed := s₂.slotsUsed } : State).setVm s₂.vm), Ls ++ L, c0 + mc, s0 + ms⟩,
      ⟨X.admits, X.cas, X.clock, X.frames, X.room, X.hears, X.method, X.code, (X.here.setHeapUsed s₂.heap s₂.slotsUsed).setVm hW'.alike, X.tail, State.WarmedH.trans X.warmed hW', X.limits, X.bytes, X.same.trans (hsame.setVm s.vm)⟩,
      ⟨g, mk, s₂, L, E, ce, rfl, rfl, hx, hce, hcv, hcl, rfl, hL, rfl, rfl⟩, ?_⟩
    show Steps p.tables e below _ (((({ U with heap := s₂.heap, slotsUsed := s₂.slotsUsed } : State).setVm s₂.vm).setTop g).pushFrame (.throwing q))
    rw [← hs₂]
    exact hsteps
end
variable {p : Program} {l : Launch} {e : Env} {R : Room} {s : State} {m : MethodId} {args : Array Value} {below : List Frame} {meth : Method} {c : Code} {T : State} {H : Heap} {locs : List Loc} {cells slots : Nat}
theorem vx_callVX (X : Stand p l e R s m args below meth c T locs cells slots) (hexec : p.tables.exec = Jvm.exec) {own C : String} {index : Nat} {y : MethodName} {bytes : ByteArray} {maxL : Nat} {ret : Option FieldType} {hh : List (Nat × Nat × Nat × Nat)}
    (hown : s.vm.findClass own = some m.cls) (hlink : (Cond.methodLink own index y).before args s = true) (hinst : (Cond.instanceMethod y).before args s = true) (hsel : (Cond.selects C y y).before args s = true)
    (hcode : (Cond.codeWith y bytes maxL ret hh).before args s = true) (hy : y.cls ≠ "java/lang/invoke/MethodHandle" ∧ y.cls ≠ "java/lang/invoke/VarHandle")
    {W9 : Nat} {Pre : Pt → Array Value → Prop} {Post : Pt → Array Value → Option Value → Pt → Prop} {PostX : Pt → Array Value → Addr → Pt → Prop} (hK : vx_Back l R p e below s args y 3 W9 Pre Post PostX)
    {b : Addr} {cellB : Cell} (hcell : T.heap[b]? = some cellB) (hobj : cellB.vm.isStatics = false) (hcls : s.vm.findClass C = some cellB.cls)
    {g : JFrame} (hg : g.method = m) (hsize : g.locals.size = c.maxLocals) {argsL rest : List Value} (hlen : ∀ sig, parseMethodDescriptor y.desc = some sig → argsL.length = sig.parameters.length)
    (hstack : g.stack = argsL.reverse ++ .ref b :: rest) (hW : 2 * g.monitorRoom + (rest.map fun v => v.category).sum ≤ W9) (hdg : decode c.code g.pc = .ok (.invokevirtual index, 3))
    (hpre : ∀ vm₁, s.WarmedH vm₁ → Pre ⟨T.setVm vm₁, locs, cells, slots⟩ (Value.ref b :: argsL).toArray) :
    (∃ (v : Option Value) (vm₁ : Vm) (B : Pt), s.WarmedH vm₁ ∧ Stand p l e R s m args below meth c B.U B.locs B.cells B.slots ∧ Post ⟨T.setVm vm₁, locs, cells, slots⟩ (Value.ref b :: argsL).toArray v B ∧
      ∀ target, Steps p.tables e below (B.U.setTop { g with pc := g.pc + 3, stack := v.toList ++ rest }) target → Steps p.tables e below (T.setTop g) target) ∨
    (∃ (q : Addr) (vm₁ : Vm) (B : Pt), s.WarmedH vm₁ ∧ Stand p l e R s m args below meth c B.U B.locs B.cells B.slots ∧ PostX ⟨T.setVm vm₁, locs, cells, slots⟩ (Value.ref b :: argsL).toArray q B ∧
      Steps p.tables e below (T.setTop g) ((B.U.setTop { g with stack := rest }).pushFrame (.throwing q))) := by
  obtain ⟨mk, methM, hnamed, hmethM, hstM, habM⟩ := Cond.instanceMethod_spec hinst
  obtain ⟨m8, methM', cM, hn8, hmethM', -, -, -, -, -, -, hsigM⟩ := Cond.codeWith_spec hcode
  cases Option.some.inj (hn8.symm.trans hnamed)
  cases hmethM.symm.trans hmethM'
  obtain ⟨c2, r2, m2, q1, q2, q3, q4, kP, hkP, hkPi⟩ := Cond.selects_spec hsel
  cases hcls.symm.trans q1
  cases (State.methodFound?_of_named hnamed hy).symm.trans q2
  cases hnamed.symm.trans q3
  have hselP : selectMethod e.platform s.vm cellB.cls mk = .method mk := by rw [Launch.admits_selectMethod X.admits]; exact q4
  obtain ⟨vm₁, X₁, hstep₁⟩ := X.invokevirtual hexec hown hlink hnamed hmethM hstM hkP hkPi hy (a := b) (cell := cellB) hcell
    (fun z h => by rw [h] at hobj; cases hobj) hselP hmethM habM hkP hkPi (g := g) hg (argsL := argsL) (rest := rest) (hlen _ hsigM) hstack hdg
  rcases hK m meth c ⟨T.setVm vm₁, locs, cells, slots⟩ { g with stack := rest } (.invokevirtual index) mk (Value.ref b :: argsL).toArray X₁ hg hsize hdg hW (X₁.named hnamed) (hpre vm₁ X₁.warmed) with ⟨v, B, X', hpost, hsteps⟩ | ⟨q, B, X', hpost, hsteps⟩
  · exact Or.inl ⟨v, vm₁, B, X₁.warmed, X', hpost, fun target h => hstep₁ _ fun acts => by rw [doInvoke_state]; exact hsteps.trans h⟩
  · exact Or.inr ⟨q, vm₁, B, X₁.warmed, X', hpost, hstep₁ _ fun acts => by rw [doInvoke_state]; exact hsteps⟩
theorem vx_callSX (X : Stand p l e R s m args below meth c T locs cells slots) (hexec : p.tables.exec = Jvm.exec) {own : String} {index : Nat} {y : MethodName} {bytes : ByteArray} {maxL : Nat} {ret : Option FieldType} {hh : List (Nat × Nat × Nat × Nat)}
    (hown : s.vm.findClass own = some m.cls) (hlink : (Cond.methodLink own index y).before args s = true) (hstat : (Cond.static y).before args s = true) (hinit : (Cond.initialized y.cls).before args s = true)
    (hcode : (Cond.codeWith y bytes maxL ret hh).before args s = true) (hy : y.cls ≠ "java/lang/invoke/MethodHandle" ∧ y.cls ≠ "java/lang/invoke/VarHandle")
    {W9 : Nat} {Pre : Pt → Array Value → Prop} {Post : Pt → Array Value → Option Value → Pt → Prop} {PostX : Pt → Array Value → Addr → Pt → Prop} (hK : vx_Back l R p e below s args y 3 W9 Pre Post PostX)
    {g : JFrame} (hg : g.method = m) (hsize : g.locals.size = c.maxLocals) {argsL rest : List Value} (hlen : ∀ sig, parseMethodDescriptor y.desc = some sig → argsL.length = sig.parameters.length)
    (hstack : g.stack = argsL.reverse ++ rest) (hW : 2 * g.monitorRoom + (rest.map fun v => v.category).sum ≤ W9) (hdg : decode c.code g.pc = .ok (.invokestatic index, 3))
    (hpre : ∀ vm₁, s.WarmedH vm₁ → Pre ⟨T.setVm vm₁, locs, cells, slots⟩ argsL.toArray) :
    (∃ (v : Option Value) (vm₁ : Vm) (B : Pt), s.WarmedH vm₁ ∧ Stand p l e R s m args below meth c B.U B.locs B.cells B.slots ∧ Post ⟨T.setVm vm₁, locs, cells, slots⟩ argsL.toArray v B ∧
      ∀ target, Steps p.tables e below (B.U.setTop { g with pc := g.pc + 3, stack := v.toList ++ rest }) target → Steps p.tables e below (T.setTop g) target) ∨
    (∃ (q : Addr) (vm₁ : Vm) (B : Pt), s.WarmedH vm₁ ∧ Stand p l e R s m args below meth c B.U B.locs B.cells B.slots ∧ PostX ⟨T.setVm vm₁, locs, cells, slots⟩ argsL.toArray q B ∧
      Steps p.tables e below (T.setTop g) ((B.U.setTop { g with stack := rest }).pushFrame (.throwing q))) := by
  obtain ⟨mk, methM, cM, hnamed, hmethM, -, -, -, -, -, -, hsigM⟩ := Cond.codeWith_spec hcode
  have hstatic : methM.isStatic = true := Cond.static_spec hnamed hmethM hstat
  obtain ⟨kP, hkP, -⟩ := className_of_methodNamed hnamed
  have hinitP : kP.init = .initialized := Cond.initialized_spec (findClass_of_methodNamed hnamed) hkP hinit
  obtain ⟨vm₁, X₁, hstep₁⟩ := X.invokestatic hexec hown hlink hnamed hmethM hstatic hkP hinitP hy (g := g) hg (argsL := argsL) (rest := rest) (hlen _ hsigM) hstack hdg
  rcases hK m meth c ⟨T.setVm vm₁, locs, cells, slots⟩ { g with stack := rest } (.invokestatic index) mk argsL.toArray X₁ hg hsize hdg hW (X₁.named hnamed) (hpre vm₁ X₁.warmed) with ⟨v, B, X', hpost, hsteps⟩ | ⟨q, B, X', hpost, hsteps⟩
  · exact Or.inl ⟨v, vm₁, B, X₁.warmed, X', hpost, fun target h => hstep₁ _ fun acts => by rw [doInvoke_state]; exact hsteps.trans h⟩
  · exact Or.inr ⟨q, vm₁, B, X₁.warmed, X', hpost, hstep₁ _ fun acts => by rw [doInvoke_state]; exact hsteps⟩
theorem vx_callVW (X : Stand p l e R s m args below meth c T locs cells slots) (hexec : p.tables.exec = Jvm.exec) {own C : String} {index : Nat} {y : MethodName} {bytes : ByteArray} {maxL : Nat} {ret : Option FieldType} {hh : List (Nat × Nat × Nat × Nat)}
    (hown : s.vm.findClass own = some m.cls) (hlink : (Cond.methodLink own index y).before args s = true) (hinst : (Cond.instanceMethod y).before args s = true) (hsel : (Cond.selects C y y).before args s = true)
    (hcode : (Cond.codeWith y bytes maxL ret hh).before args s = true) (hy : y.cls ≠ "java/lang/invoke/MethodHandle" ∧ y.cls ≠ "java/lang/invoke/VarHandle")
    {W9 : Nat} {Pre : Pt → Array Value → Prop} {Post : Pt → Array Value → Option Value → Pt → Prop} (hK : Back l R p e below s args y 3 W9 Pre Post)
    {b : Addr} {cellB : Cell} (hcell : T.heap[b]? = some cellB) (hobj : cellB.vm.isStatics = false) (hcls : s.vm.findClass C = some cellB.cls)
    {g : JFrame} (hg : g.method = m) (hsize : g.locals.size = c.maxLocals) {argsL rest : List Value} (hlen : ∀ sig, parseMethodDescriptor y.desc = some sig → argsL.length = sig.parameters.length)
    (hstack : g.stack = argsL.reverse ++ .ref b :: rest) (hW : 2 * g.monitorRoom + (rest.map fun v => v.category).sum ≤ W9) (hdg : decode c.code g.pc = .ok (.invokevirtual index, 3))
    (hpre : ∀ vm₁, s.WarmedH vm₁ → Pre ⟨T.setVm vm₁, locs, cells, slots⟩ (Value.ref b :: argsL).toArray) :
    ∃ (v : Option Value) (vm₁ : Vm) (B : Pt), s.WarmedH vm₁ ∧ Stand p l e R s m args below meth c B.U B.locs B.cells B.slots ∧ Post ⟨T.setVm vm₁, locs, cells, slots⟩ (Value.ref b :: argsL).toArray v B ∧
      ∀ target, Steps p.tables e below (B.U.setTop { g with pc := g.pc + 3, stack := v.toList ++ rest }) target → Steps p.tables e below (T.setTop g) target := by
  obtain ⟨mk, methM, hnamed, hmethM, hstM, habM⟩ := Cond.instanceMethod_spec hinst
  obtain ⟨m8, methM', cM, hn8, hmethM', -, -, -, -, -, -, hsigM⟩ := Cond.codeWith_spec hcode
  cases Option.some.inj (hn8.symm.trans hnamed)
  cases hmethM.symm.trans hmethM'
  obtain ⟨c2, r2, m2, q1, q2, q3, q4, kP, hkP, hkPi⟩ := Cond.selects_spec hsel
  cases hcls.symm.trans q1
  cases (State.methodFound?_of_named hnamed hy).symm.trans q2
  cases hnamed.symm.trans q3
  have hselP : selectMethod e.platform s.vm cellB.cls mk = .method mk := by rw [Launch.admits_selectMethod X.admits]; exact q4
  obtain ⟨vm₁, X₁, hstep₁⟩ := X.invokevirtual hexec hown hlink hnamed hmethM hstM hkP hkPi hy (a := b) (cell := cellB) hcell
    (fun z h => by rw [h] at hobj; cases hobj) hselP hmethM habM hkP hkPi (g := g) hg (argsL := argsL) (rest := rest) (hlen _ hsigM) hstack hdg
  obtain ⟨v, B, X', hpost, hsteps⟩ := hK m meth c ⟨T.setVm vm₁, locs, cells, slots⟩ { g with stack := rest } (.invokevirtual index) mk (Value.ref b :: argsL).toArray X₁ hg hsize hdg hW (X₁.named hnamed) (hpre vm₁ X₁.warmed)
  exact ⟨v, vm₁, B, X₁.warmed, X', hpost, fun target h => hstep₁ _ fun acts => by rw [doInvoke_state]; exact hsteps.trans h⟩
abbrev vx_CVW (R : Room) (s : State) (args : Array Value) (own C : String) (index : Nat) (y : MethodName) (bytes : ByteArray) (maxL : Nat) (ret : Option FieldType) (hh : List (Nat × Nat × Nat × Nat)) (ws : List Cond) (rm : Room) (mc ms n : Nat) : Prop :=
  (rm.cells = mc ∧ rm.slots = ms ∧ rm.frames + 1 ≤ R.frames ∧ 8 + (maxL + 11) + rm.locals ≤ R.locals ∧ (∀ w ∈ ws, ∀ (a' : Array Value) (U : State), s.WarmedH U.vm → w.before a' U = true) ∧ Cond.codeWith y bytes maxL ret hh ∈ ws) ∧
  (Cond.codeWith y bytes maxL ret hh).before args s = true ∧ (Cond.initialized y.cls).before args s = true ∧ (y.cls ≠ "java/lang/invoke/MethodHandle" ∧ y.cls ≠ "java/lang/invoke/VarHandle") ∧
  (∀ sig, parseMethodDescriptor y.desc = some sig → n = sig.parameters.length) ∧ (Cond.methodLink own index y).before args s = true ∧ (Cond.instanceMethod y).before args s = true ∧ (Cond.selects C y y).before args s = true
theorem vx_cwVW {own C : String} {index maxL mc ms : Nat} {y : MethodName} {bytes : ByteArray} {ret : Option FieldType} {hh : List (Nat × Nat × Nat × Nat)} {Ts ws ws' : List Cond} {rm : Room} (n : Nat) (ht : ∀ w ∈ Ts, w.before args s = true) (hT : GoodIn Ts (wsV own index C y ws)) (hw : ws = Cond.codeWith y bytes maxL ret hh :: ws') (hrc : rm.cells = mc) (hrs : rm.slots = ms)
    (hd : y.cls = C ∧ y.cls ≠ "java/lang/invoke/MethodHandle" ∧ y.cls ≠ "java/lang/invoke/VarHandle" ∧ (parseMethodDescriptor y.desc).map (fun d => d.parameters.length) = some n) (hR : rm.frames + 1 ≤ R.frames ∧ 8 + (maxL + 11) + rm.locals ≤ R.locals) :
    vx_CVW R s args own C index y bytes maxL ret hh ws rm mc ms n := by
  obtain ⟨hC, hd⟩ := hd
  subst hC
  have ok : ∀ w ∈ wsV own index y.cls y ws, w.before args s = true := fun w h => ht w (hT w h).1
  have hG : GoodIn Ts ws := fun w h => hT w (by unfold wsV; exact List.mem_append_right _ h)
  have hc : Cond.codeWith y bytes maxL ret hh ∈ ws := by rw [hw]; exact List.mem_cons_self
  refine ⟨⟨hrc, hrs, hR.1, hR.2, pay_in ht hG, hc⟩, ht _ (hG _ hc).1, ok _ (by simp [wsV]), ⟨hd.1, hd.2.1⟩, fun sig h => ?_, ok _ (by simp [wsV]), ok _ (by simp [wsV]), ok _ (by simp [wsV])⟩
  have h2 := hd.2.2
  rw [h] at h2
  exact (Option.some.inj h2).symm
theorem vx_runVW {y : MethodName} {bytes cc : ByteArray} {maxL nL mc ms n index : Nat} {ret : Option FieldType} {hh : List (Nat × Nat × Nat × Nat)} {ws : List Cond} {rm : Room} {Pc : Array Value → State → Prop} {Qc : Array Value → State → Outcome → State → Prop} {free : Addr → Prop} {Ts : List Cond} {own C : String} {b : Addr} {As rest : List Value} {g : JFrame}
    (S : CallFix p m c cc nL s args Ts own) (hM : Met l y ws rm Pc Qc mc ms free) (cw : vx_CVW R s args own C index y bytes maxL ret hh ws rm mc ms n) (hp : PreV s H C b Pc As)
    (hg : g.method = m) (hn : As.length = n) (hsize : g.locals.size = nL) (hstack : g.stack = As.reverse ++ .ref b :: rest) (hW : 2 * g.monitorRoom + (rest.map fun v => v.category).sum ≤ 8) (hdg : decode cc g.pc = .ok (.invokevirtual index, 3)) (hf : cells + mc ≤ R.cells ∧ slots + ms ≤ R.slots) :
    va_Run p l e R s m args below meth c H locs cells slots mc ms g rest (Qc (Value.ref b :: As).toArray) free := by
  obtain ⟨⟨hrc, hrs, hfr, hlo, hws, hcw⟩, hcode, hini, hy, hlen, hl, hin, hse⟩ := cw
  have hK : Back l R p e below s args y 3 8 (PreOf R mc ms Pc) (PostOf Qc mc ms free) := va_backW (hh := hh) (bytes := bytes) (maxL := maxL) (ret := ret) hM hp.1 hrc hrs hfr hlo hws hcw (fun a' U hW => word_at hW (Or.inl (by first | rfl | simp [Cond.onTables, Cond.keeps, Cond.steady])) hini)
  obtain ⟨hx, hb, hml, ho, -⟩ := S
  obtain ⟨-, ⟨cellB, hcB, hoB, hclB⟩, hPc⟩ := hp
  intro T hT X
  obtain ⟨v, vm₁, ⟨U', l2, c2, s2⟩, hW₁, X', ⟨g', mk, t, L, e1, e2, hq, h1, hL, h2, h3⟩, st⟩ := vx_callVW X hx (C := C) (hh := hh) (bytes := bytes) (maxL := maxL) (ret := ret) ho hl hin hse hcode hy hK (by rw [hT]; exact hcB) hoB hclB hg (hsize.trans hml.symm) (argsL := As) (rest := rest) (fun sig h => hn.trans (hlen sig h)) hstack hW (by rw [hb]; exact hdg)
    (fun vm₁ hW₁ => ⟨hf.1, hf.2, hPc (T.setVm vm₁) hT hW₁⟩)
  dsimp only [Pt.U, Pt.locs, Pt.cells, Pt.slots] at X' e1 e2 h1 h2 h3 st
  subst h1; subst h2; subst h3
  exact ⟨v, (T.setVm vm₁).calling g' mk (Value.ref b :: As).toArray, t, U', L, hT, X', hL, e1, e2, hq, st⟩
section
variable {y : MethodName} {bytes cc : ByteArray} {maxL nL mc ms n index : Nat} {ret : Option FieldType} {ws : List Cond} {rm : Room} {Pc : Array Value → State → Prop} {Qc : Array Value → State → Outcome → State → Prop} {XC : String → State → State → Prop} {free : Addr → Prop} {Ts : List Cond} {own C : String} {b : Addr} {As rest : List Value} {g : JFrame}
theorem vx_runVX {hh : List (Nat × Nat × Nat × Nat)} (S : CallFix p m c cc nL s args Ts own) (hM : vx_Met l y ws rm Pc Qc XC mc ms free) (cw : vx_CVW R s args own C index y bytes maxL ret hh ws rm mc ms n) (hp : PreV s H C b Pc As)
    (hg : g.method = m) (hn : As.length = n) (hsize : g.locals.size = nL) (hstack : g.stack = As.reverse ++ .ref b :: rest) (hW : 2 * g.monitorRoom + (rest.map fun v => v.category).sum ≤ 8) (hdg : decode cc g.pc = .ok (.invokevirtual index, 3)) (hf : cells + mc ≤ R.cells ∧ slots + ms ≤ R.slots) :
    vx_Run p l e R s m args below meth c H locs cells slots mc ms g rest (Qc (Value.ref b :: As).toArray) XC free := by
  obtain ⟨⟨hrc, hrs, hfr, hlo, hws, hcw⟩, hcode, hini, hy, hlen, hl, hin, hse⟩ := cw
  have hK : vx_Back l R p e below s args y 3 8 (PreOf R mc ms Pc) (PostOf Qc mc ms free) (vx_Post XC mc ms free) := vx_backW (hh := hh) (bytes := bytes) (maxL := maxL) (ret := ret) hM hp.1 hrc hrs hfr hlo hws hcw (fun a' U hW => word_at hW (Or.inl (by first | rfl | simp [Cond.onTables, Cond.keeps, Cond.steady])) hini)
  obtain ⟨hx, hb, hml, ho, -⟩ := S
  obtain ⟨-, ⟨cellB, hcB, hoB, hclB⟩, hPc⟩ := hp
  intro T hT X
  rcases vx_callVX X hx (C := C) (hh := hh) (bytes := bytes) (maxL := maxL) (ret := ret) ho hl hin hse hcode hy hK (by rw [hT]; exact hcB) hoB hclB hg (hsize.trans hml.symm) (argsL := As) (rest := rest) (fun sig h => hn.trans (hlen sig h)) hstack hW (by rw [hb]; exact hdg)
    (fun vm₁ hW₁ => ⟨hf.1, hf.2, hPc (T.setVm vm₁) hT hW₁⟩) with ⟨v, vm₁, ⟨U', l2, c2, s2⟩, hW₁, X', ⟨g', mk, t, L, e1, e2, hq, h1, hL, h2, h3⟩, st⟩ | ⟨q, vm₁, ⟨U', l2, c2, s2⟩, hW₁, X', ⟨g', mk, t, L, E, ce, e1, e2, hq, hce, hcv, hcl, h1, hL, h2, h3⟩, st⟩
  · dsimp only [Pt.U, Pt.locs, Pt.cells, Pt.slots] at X' e1 e2 h1 h2 h3 st
    subst h1; subst h2; subst h3
    exact Or.inl ⟨v, (T.setVm vm₁).calling g' mk (Value.ref b :: As).toArray, t, U', L, hT, X', hL, e1, e2, hq, st⟩
  · dsimp only [Pt.U, Pt.locs, Pt.cells, Pt.slots] at X' e1 e2 h1 h2 h3 st hcl
    subst h1; subst h2; subst h3
    exact Or.inr ⟨q, (T.setVm vm₁).calling g' mk (Value.ref b :: As).toArray, t, U', L, E, ce, hT, X', hL, e1, e2, hq, hce, hcv, vx_cls hW₁ hcl, st⟩
theorem vx_runSX {hh : List (Nat × Nat × Nat × Nat)} (S : CallFix p m c cc nL s args Ts own) (hM : vx_Met l y ws rm Pc Qc XC mc ms free) (cw : vx_CSW R s args own index y bytes maxL ret hh ws rm mc ms n) (hp : PreS s H Pc As)
    (hg : g.method = m) (hn : As.length = n) (hsize : g.locals.size = nL) (hstack : g.stack = As.reverse ++ rest) (hW : 2 * g.monitorRoom + (rest.map fun v => v.category).sum ≤ 8) (hdg : decode cc g.pc = .ok (.invokestatic index, 3)) (hf : cells + mc ≤ R.cells ∧ slots + ms ≤ R.slots) :
    vx_Run p l e R s m args below meth c H locs cells slots mc ms g rest (Qc As.toArray) XC free := by
  obtain ⟨⟨hrc, hrs, hfr, hlo, hws, hcw⟩, hcode, hini, hy, hlen, hl, hstt⟩ := cw
  have hK : vx_Back l R p e below s args y 3 8 (PreOf R mc ms Pc) (PostOf Qc mc ms free) (vx_Post XC mc ms free) := vx_backW (hh := hh) (bytes := bytes) (maxL := maxL) (ret := ret) hM hp.1 hrc hrs hfr hlo hws hcw (fun a' U hW => word_at hW (Or.inl (by first | rfl | simp [Cond.onTables, Cond.keeps, Cond.steady])) hini)
  obtain ⟨hx, hb, hml, ho, -⟩ := S
  intro T hT X
  rcases vx_callSX X hx (hh := hh) (bytes := bytes) (maxL := maxL) (ret := ret) ho hl hstt hini hcode hy hK hg (hsize.trans hml.symm) (argsL := As) (rest := rest) (fun sig h => hn.trans (hlen sig h)) hstack hW (by rw [hb]; exact hdg)
    (fun vm₁ hW₁ => ⟨hf.1, hf.2, hp.2 (T.setVm vm₁) hT hW₁⟩) with ⟨v, vm₁, ⟨U', l2, c2, s2⟩, hW₁, X', ⟨g', mk, t, L, e1, e2, hq, h1, hL, h2, h3⟩, st⟩ | ⟨q, vm₁, ⟨U', l2, c2, s2⟩, hW₁, X', ⟨g', mk, t, L, E, ce, e1, e2, hq, hce, hcv, hcl, h1, hL, h2, h3⟩, st⟩
  · dsimp only [Pt.U, Pt.locs, Pt.cells, Pt.slots] at X' e1 e2 h1 h2 h3 st
    subst h1; subst h2; subst h3
    exact Or.inl ⟨v, (T.setVm vm₁).calling g' mk As.toArray, t, U', L, hT, X', hL, e1, e2, hq, st⟩
  · dsimp only [Pt.U, Pt.locs, Pt.cells, Pt.slots] at X' e1 e2 h1 h2 h3 st hcl
    subst h1; subst h2; subst h3
    exact Or.inr ⟨q, (T.setVm vm₁).calling g' mk As.toArray, t, U', L, E, ce, hT, X', hL, e1, e2, hq, hce, hcv, vx_cls hW₁ hcl, st⟩
end
end VXH
theorem vx_ofWH {l : Launch} {y : MethodName} {ws ws' : List Cond} {rm : Room} {Pc : Array Value → State → Prop} {Qc : Array Value → State → Outcome → State → Prop} {XC : String → State → State → Prop} {mc ms : Nat} {free : Addr → Prop} {cc : ByteArray} {maxL : Nat} {ret : Option FieldType} {hh : List (Nat × Nat × Nat × Nat)}
    (hy : plainName y.cls = true) (hw : ws = Cond.codeWith y cc maxL ret hh :: ws')
    (body : ∀ p e s m args below meth c s₁, BodyLoose p l y (headSpec ws rm) cc maxL ret e s m args below meth c s₁ → c.maxLocals = maxL → Pc args s →
      W p l e (headSpec ws rm).room s m args below meth c s.heap [] 0 0 (vx_MQ below Qc XC args s mc ms free) (entryFrame m args maxL)) : vx_Met l y ws rm Pc Qc XC mc ms free := by
  refine MetFree.of_bodyS (code := cc) (maxLocals := maxL) (ret := ret) hy ?_ ?_
  · intro args s m h hn
    obtain ⟨m9, meth, c, hn9, h1, h2, h3, h4, -, h5, h6, -⟩ := Cond.codeWith_spec (atoms_spec (ws := ws) h _ (by rw [hw]; exact List.mem_cons_self))
    cases hn.symm.trans hn9
    exact ⟨meth, c, h1, h2, h3, h4, h5, h6⟩
  · intro p e s m args below meth c s₁ B hml hP _
    have hh0 : s₁.heap = s.heap := by rw [B.state]; rfl
    obtain ⟨t, a1, o, b1, b2, b3⟩ := body p e s m args below meth c s₁ B hml hP s₁ hh0 (Stand.of_body B)
    exact ⟨t, o, a1, b1, b2, b3⟩
/-! ===== END ===== -/
end
section
/-! ===== BEGIN printed: names, fields, word lists, decode rows ===== -/
def RX0 : String := "Particleway$Beliefs"
def TX0 : u_T := fun k => match k with
  | 0 => ("Particleway$Beliefs", "field", "LParticleway$Field;", true)
  | 1 => ("Particleway$Beliefs", "now", "LParticleway$Chart;", true)
  | _ => ("Particleway$Beliefs", "before", "LParticleway$Chart;", true)
def tyX0 : Nat → FieldType := fun k => match k with
  | 0 => .object "Particleway$Field"
  | 1 => .object "Particleway$Chart"
  | _ => .object "Particleway$Chart"
abbrev wsX00 : List Cond := u_ws RX0 TX0 3
theorem nmX0 : ∀ a, a < 3 → ∀ b, b < 3 → a ≠ b → (TX0 a).2.1 ≠ (TX0 b).2.1 := by decide +kernel
theorem tyX0_ok : ∀ k, k < 3 → parseFieldDescriptor (TX0 k).2.2.1 = some (tyX0 k) := by decide +kernel
abbrev cX0_init : ByteArray := prog_2_method_1_code
def yX0_init : MethodName := ⟨RX0, "<init>", "(LParticleway$Field;)V"⟩
abbrev cX0_chart : ByteArray := prog_2_method_2_code
def yX0_chart : MethodName := ⟨RX0, "chart", "()LParticleway$Chart;"⟩
abbrev cX0_begin : ByteArray := prog_2_method_3_code
def yX0_begin : MethodName := ⟨RX0, "begin", "()V"⟩
abbrev cX0_push : ByteArray := prog_2_method_4_code
def yX0_push : MethodName := ⟨RX0, "push", "(I)V"⟩
abbrev cX0_fetch : ByteArray := prog_2_method_5_code
def yX0_fetch : MethodName := ⟨RX0, "fetch", "(I)V"⟩
abbrev cX0_fetched : ByteArray := prog_2_method_6_code
def yX0_fetched : MethodName := ⟨RX0, "fetched", "(II)J"⟩
abbrev cX0_weigh : ByteArray := prog_2_method_7_code
def yX0_weigh : MethodName := ⟨RX0, "weigh", "(II)V"⟩
abbrev cX0_halveGreat : ByteArray := prog_2_method_8_code
def yX0_halveGreat : MethodName := ⟨RX0, "halveGreat", "()V"⟩
def RX1 : String := "Particleway$Chance"
def TX1 : u_T := fun k => match k with
  | _ => ("Particleway$Chance", "x", "I", false)
def tyX1 : Nat → FieldType := fun k => match k with
  | _ => .int
abbrev wsX10 : List Cond := u_ws RX1 TX1 1
theorem nmX1 : ∀ a, a < 1 → ∀ b, b < 1 → a ≠ b → (TX1 a).2.1 ≠ (TX1 b).2.1 := by decide +kernel
theorem tyX1_ok : ∀ k, k < 1 → parseFieldDescriptor (TX1 k).2.2.1 = some (tyX1 k) := by decide +kernel
abbrev cX1_init : ByteArray := prog_3_method_1_code
def yX1_init : MethodName := ⟨RX1, "<init>", "()V"⟩
abbrev cX1_change : ByteArray := prog_3_method_2_code
def yX1_change : MethodName := ⟨RX1, "change", "(I)I"⟩
abbrev cX1_remainder : ByteArray := prog_3_method_3_code
def yX1_remainder : MethodName := ⟨RX1, "remainder", "(I)I"⟩
def RX2 : String := "Particleway$Chart"
def TX2 : u_T := fun k => match k with
  | _ => ("Particleway$Chart", "numbers", "[J", true)
def tyX2 : Nat → FieldType := fun k => match k with
  | _ => .array .long
abbrev wsX20 : List Cond := u_ws RX2 TX2 1
theorem nmX2 : ∀ a, a < 1 → ∀ b, b < 1 → a ≠ b → (TX2 a).2.1 ≠ (TX2 b).2.1 := by decide +kernel
theorem tyX2_ok : ∀ k, k < 1 → parseFieldDescriptor (TX2 k).2.2.1 = some (tyX2 k) := by decide +kernel
abbrev cX2_init : ByteArray := prog_4_method_1_code
def yX2_init : MethodName := ⟨RX2, "<init>", "()V"⟩
abbrev cX2_at : ByteArray := prog_4_method_2_code
def yX2_at : MethodName := ⟨RX2, "at", "(I)J"⟩
abbrev cX2_put : ByteArray := prog_4_method_3_code
def yX2_put : MethodName := ⟨RX2, "put", "(IJ)V"⟩
abbrev cX2_add : ByteArray := prog_4_method_4_code
def yX2_add : MethodName := ⟨RX2, "add", "(IJ)V"⟩
abbrev cX2_clear : ByteArray := prog_4_method_5_code
def yX2_clear : MethodName := ⟨RX2, "clear", "()V"⟩
abbrev cX2_halve : ByteArray := prog_4_method_6_code
def yX2_halve : MethodName := ⟨RX2, "halve", "()V"⟩
abbrev cX2_copy : ByteArray := prog_4_method_7_code
def yX2_copy : MethodName := ⟨RX2, "copy", "(LParticleway$Chart;)V"⟩
abbrev cX2_greatest : ByteArray := prog_4_method_8_code
def yX2_greatest : MethodName := ⟨RX2, "greatest", "()J"⟩
abbrev cX2_greatestCell : ByteArray := prog_4_method_9_code
def yX2_greatestCell : MethodName := ⟨RX2, "greatestCell", "()I"⟩
abbrev cX2_sum : ByteArray := prog_4_method_10_code
def yX2_sum : MethodName := ⟨RX2, "sum", "()J"⟩
abbrev cX2_sumOf : ByteArray := prog_4_method_11_code
def yX2_sumOf : MethodName := ⟨RX2, "sumOf", "(IIII)J"⟩
abbrev cX2_coordinateSum : ByteArray := prog_4_method_12_code
def yX2_coordinateSum : MethodName := ⟨RX2, "coordinateSum", "(Z)J"⟩
abbrev cX2_cellAtPlace : ByteArray := prog_4_method_13_code
def yX2_cellAtPlace : MethodName := ⟨RX2, "cellAtPlace", "(I)I"⟩
abbrev cX2_placeOf : ByteArray := prog_4_method_14_code
def yX2_placeOf : MethodName := ⟨RX2, "placeOf", "(I)I"⟩
def RX3 : String := "Particleway$Field"
def TX3 : u_T := fun k => match k with
  | 0 => ("Particleway$Field", "walls", "[Z", true)
  | 1 => ("Particleway$Field", "ahead", "[I", true)
  | _ => ("Particleway$Field", "free", "I", false)
def tyX3 : Nat → FieldType := fun k => match k with
  | 0 => .array .boolean
  | 1 => .array .int
  | _ => .int
abbrev wsX30 : List Cond := u_ws RX3 TX3 3
theorem nmX3 : ∀ a, a < 3 → ∀ b, b < 3 → a ≠ b → (TX3 a).2.1 ≠ (TX3 b).2.1 := by decide +kernel
theorem tyX3_ok : ∀ k, k < 3 → parseFieldDescriptor (TX3 k).2.2.1 = some (tyX3 k) := by decide +kernel
abbrev cX3_init : ByteArray := prog_5_method_1_code
def yX3_init : MethodName := ⟨RX3, "<init>", "()V"⟩
abbrev cX3_isFree : ByteArray := prog_5_method_2_code
def yX3_isFree : MethodName := ⟨RX3, "isFree", "(I)Z"⟩
abbrev cX3_freeCells : ByteArray := prog_5_method_3_code
def yX3_freeCells : MethodName := ⟨RX3, "freeCells", "()I"⟩
abbrev cX3_build : ByteArray := prog_5_method_4_code
def yX3_build : MethodName := ⟨RX3, "build", "(IZ)V"⟩
abbrev cX3_drawnCell : ByteArray := prog_5_method_5_code
def yX3_drawnCell : MethodName := ⟨RX3, "drawnCell", "(LParticleway$Chance;)I"⟩
abbrev cX3_stepsAhead : ByteArray := prog_5_method_6_code
def yX3_stepsAhead : MethodName := ⟨RX3, "stepsAhead", "(II)I"⟩
abbrev cX3_led : ByteArray := prog_5_method_7_code
def yX3_led : MethodName := ⟨RX3, "led", "(III)I"⟩
abbrev cX3_weight : ByteArray := prog_5_method_8_code
def yX3_weight : MethodName := ⟨RX3, "weight", "(III)I"⟩
abbrev cX3_shifted : ByteArray := prog_5_method_9_code
def yX3_shifted : MethodName := ⟨RX3, "shifted", "(III)I"⟩
abbrev cX3_measure : ByteArray := prog_5_method_10_code
def yX3_measure : MethodName := ⟨RX3, "measure", "()V"⟩
abbrev cX3_countedSteps : ByteArray := prog_5_method_11_code
def yX3_countedSteps : MethodName := ⟨RX3, "countedSteps", "(II)I"⟩
def RX4 : String := "Particleway$Samples"
def TX4 : u_T := fun k => match k with
  | 0 => ("Particleway$Samples", "field", "LParticleway$Field;", true)
  | 1 => ("Particleway$Samples", "chance", "LParticleway$Chance;", true)
  | 2 => ("Particleway$Samples", "cells", "[I", true)
  | 3 => ("Particleway$Samples", "oldCells", "[I", true)
  | 4 => ("Particleway$Samples", "weights", "[I", true)
  | 5 => ("Particleway$Samples", "counts", "LParticleway$Chart;", true)
  | 6 => ("Particleway$Samples", "many", "I", false)
  | 7 => ("Particleway$Samples", "isRead", "Z", false)
  | 8 => ("Particleway$Samples", "slow", "I", false)
  | 9 => ("Particleway$Samples", "fast", "I", false)
  | _ => ("Particleway$Samples", "doubt", "I", false)
def tyX4 : Nat → FieldType := fun k => match k with
  | 0 => .object "Particleway$Field"
  | 1 => .object "Particleway$Chance"
  | 2 => .array .int
  | 3 => .array .int
  | 4 => .array .int
  | 5 => .object "Particleway$Chart"
  | 6 => .int
  | 7 => .boolean
  | 8 => .int
  | 9 => .int
  | _ => .int
abbrev wsX40 : List Cond := u_ws RX4 TX4 11
theorem nmX4 : ∀ a, a < 11 → ∀ b, b < 11 → a ≠ b → (TX4 a).2.1 ≠ (TX4 b).2.1 := by decide +kernel
theorem tyX4_ok : ∀ k, k < 11 → parseFieldDescriptor (TX4 k).2.2.1 = some (tyX4 k) := by decide +kernel
abbrev cX4_init : ByteArray := prog_6_method_1_code
def yX4_init : MethodName := ⟨RX4, "<init>", "(LParticleway$Field;LParticleway$Chance;)V"⟩
abbrev cX4_size : ByteArray := prog_6_method_2_code
def yX4_size : MethodName := ⟨RX4, "size", "()I"⟩
abbrev cX4_cellOf : ByteArray := prog_6_method_3_code
def yX4_cellOf : MethodName := ⟨RX4, "cellOf", "(I)I"⟩
abbrev cX4_lastDoubt : ByteArray := prog_6_method_4_code
def yX4_lastDoubt : MethodName := ⟨RX4, "lastDoubt", "()I"⟩
abbrev cX4_chart : ByteArray := prog_6_method_5_code
def yX4_chart : MethodName := ⟨RX4, "chart", "()LParticleway$Chart;"⟩
abbrev cX4_begin : ByteArray := prog_6_method_6_code
def yX4_begin : MethodName := ⟨RX4, "begin", "(I)V"⟩
abbrev cX4_move : ByteArray := prog_6_method_7_code
def yX4_move : MethodName := ⟨RX4, "move", "(I)V"⟩
abbrev cX4_drawnSteps : ByteArray := prog_6_method_8_code
def yX4_drawnSteps : MethodName := ⟨RX4, "drawnSteps", "()I"⟩
abbrev cX4_weigh : ByteArray := prog_6_method_9_code
def yX4_weigh : MethodName := ⟨RX4, "weigh", "(II)I"⟩
abbrev cX4_compareFit : ByteArray := prog_6_method_10_code
def yX4_compareFit : MethodName := ⟨RX4, "compareFit", "(I)V"⟩
abbrev cX4_manyAnew : ByteArray := prog_6_method_11_code
def yX4_manyAnew : MethodName := ⟨RX4, "manyAnew", "(II)I"⟩
abbrev cX4_drawAnew : ByteArray := prog_6_method_12_code
def yX4_drawAnew : MethodName := ⟨RX4, "drawAnew", "(II)V"⟩
abbrev cX4_oldCellBeyond : ByteArray := prog_6_method_13_code
def yX4_oldCellBeyond : MethodName := ⟨RX4, "oldCellBeyond", "(J)I"⟩
def RX5 : String := "Particleway"
def TX5 : u_T := fun k => match k with
  | 0 => ("Particleway", "field", "LParticleway$Field;", true)
  | 1 => ("Particleway", "chance", "LParticleway$Chance;", true)
  | 2 => ("Particleway", "samples", "LParticleway$Samples;", true)
  | 3 => ("Particleway", "beliefs", "LParticleway$Beliefs;", true)
  | 4 => ("Particleway", "beliefsAnew", "LParticleway$Beliefs;", true)
  | 5 => ("Particleway", "toldDirections", "[I", true)
  | 6 => ("Particleway", "toldReadings", "[I", true)
  | 7 => ("Particleway", "told", "I", false)
  | _ => ("Particleway", "isSpread", "Z", false)
def tyX5 : Nat → FieldType := fun k => match k with
  | 0 => .object "Particleway$Field"
  | 1 => .object "Particleway$Chance"
  | 2 => .object "Particleway$Samples"
  | 3 => .object "Particleway$Beliefs"
  | 4 => .object "Particleway$Beliefs"
  | 5 => .array .int
  | 6 => .array .int
  | 7 => .int
  | _ => .boolean
abbrev wsX50 : List Cond := u_ws RX5 TX5 9
theorem nmX5 : ∀ a, a < 9 → ∀ b, b < 9 → a ≠ b → (TX5 a).2.1 ≠ (TX5 b).2.1 := by decide +kernel
theorem tyX5_ok : ∀ k, k < 9 → parseFieldDescriptor (TX5 k).2.2.1 = some (tyX5 k) := by decide +kernel
abbrev cX5_init : ByteArray := prog_1_method_1_code
def yX5_init : MethodName := ⟨RX5, "<init>", "()V"⟩
abbrev cX5_wall : ByteArray := prog_1_method_2_code
def yX5_wall : MethodName := ⟨RX5, "wall", "(IIZ)Z"⟩
abbrev cX5_draw : ByteArray := prog_1_method_3_code
def yX5_draw : MethodName := ⟨RX5, "draw", "(I)I"⟩
abbrev cX5_spread : ByteArray := prog_1_method_4_code
def yX5_spread : MethodName := ⟨RX5, "spread", "(I)V"⟩
abbrev cX5_drive : ByteArray := prog_1_method_5_code
def yX5_drive : MethodName := ⟨RX5, "drive", "(I)V"⟩
abbrev cX5_read : ByteArray := prog_1_method_6_code
def yX5_read : MethodName := ⟨RX5, "read", "(II)I"⟩
abbrev cX5_toRead : ByteArray := prog_1_method_7_code
def yX5_toRead : MethodName := ⟨RX5, "toRead", "(III)I"⟩
abbrev cX5_samples : ByteArray := prog_1_method_8_code
def yX5_samples : MethodName := ⟨RX5, "samples", "()I"⟩
abbrev cX5_sample : ByteArray := prog_1_method_9_code
def yX5_sample : MethodName := ⟨RX5, "sample", "(I)I"⟩
abbrev cX5_count : ByteArray := prog_1_method_10_code
def yX5_count : MethodName := ⟨RX5, "count", "(II)I"⟩
abbrev cX5_belief : ByteArray := prog_1_method_11_code
def yX5_belief : MethodName := ⟨RX5, "belief", "(II)J"⟩
abbrev cX5_beliefAnew : ByteArray := prog_1_method_12_code
def yX5_beliefAnew : MethodName := ⟨RX5, "beliefAnew", "(II)J"⟩
abbrev cX5_mode : ByteArray := prog_1_method_13_code
def yX5_mode : MethodName := ⟨RX5, "mode", "(Z)I"⟩
abbrev cX5_mean : ByteArray := prog_1_method_14_code
def yX5_mean : MethodName := ⟨RX5, "mean", "(ZZ)I"⟩
abbrev cX5_share : ByteArray := prog_1_method_15_code
def yX5_share : MethodName := ⟨RX5, "share", "(IIIIZ)I"⟩
abbrev cX5_best : ByteArray := prog_1_method_16_code
def yX5_best : MethodName := ⟨RX5, "best", "(I)I"⟩
abbrev cX5_doubt : ByteArray := prog_1_method_17_code
def yX5_doubt : MethodName := ⟨RX5, "doubt", "()I"⟩
abbrev cX5_checkCell : ByteArray := prog_1_method_18_code
def yX5_checkCell : MethodName := ⟨RX5, "checkCell", "(II)V"⟩
abbrev cX5_checkDirection : ByteArray := prog_1_method_19_code
def yX5_checkDirection : MethodName := ⟨RX5, "checkDirection", "(I)V"⟩
abbrev cX5_checkSpread : ByteArray := prog_1_method_20_code
def yX5_checkSpread : MethodName := ⟨RX5, "checkSpread", "()V"⟩
abbrev cX5_checkMayTell : ByteArray := prog_1_method_21_code
def yX5_checkMayTell : MethodName := ⟨RX5, "checkMayTell", "()V"⟩
abbrev cX5_keep : ByteArray := prog_1_method_22_code
def yX5_keep : MethodName := ⟨RX5, "keep", "(II)V"⟩
abbrev cX5_repeatAllTold : ByteArray := prog_1_method_23_code
def yX5_repeatAllTold : MethodName := ⟨RX5, "repeatAllTold", "()V"⟩
abbrev cX5_chartOf : ByteArray := prog_1_method_24_code
def yX5_chartOf : MethodName := ⟨RX5, "chartOf", "(Z)LParticleway$Chart;"⟩
abbrev cX5_isInField : ByteArray := prog_1_method_25_code
def yX5_isInField : MethodName := ⟨RX5, "isInField", "(II)Z"⟩
abbrev cX5_isCell : ByteArray := prog_1_method_26_code
def yX5_isCell : MethodName := ⟨RX5, "isCell", "(I)Z"⟩
abbrev cX5_isDirection : ByteArray := prog_1_method_27_code
def yX5_isDirection : MethodName := ⟨RX5, "isDirection", "(I)Z"⟩
abbrev cX5_numberOf : ByteArray := prog_1_method_28_code
def yX5_numberOf : MethodName := ⟨RX5, "numberOf", "(II)I"⟩
abbrev cX5_quotient : ByteArray := prog_1_method_29_code
def yX5_quotient : MethodName := ⟨RX5, "quotient", "(JJ)J"⟩
def RX6 : String := "ParticlewayModel"
def TX6 : u_T := fun k => match k with
  | 0 => ("ParticlewayModel", "thrown", "I", false)
  | 1 => ("ParticlewayModel", "isWall", "[Z", true)
  | 2 => ("ParticlewayModel", "chance", "I", false)
  | 3 => ("ParticlewayModel", "isSpread", "Z", false)
  | 4 => ("ParticlewayModel", "samples", "I", false)
  | 5 => ("ParticlewayModel", "sample", "[I", true)
  | 6 => ("ParticlewayModel", "old", "[I", true)
  | 7 => ("ParticlewayModel", "weight", "[I", true)
  | 8 => ("ParticlewayModel", "belief", "[J", true)
  | 9 => ("ParticlewayModel", "fresh", "[J", true)
  | 10 => ("ParticlewayModel", "acts", "I", false)
  | 11 => ("ParticlewayModel", "readings", "I", false)
  | 12 => ("ParticlewayModel", "slow", "I", false)
  | 13 => ("ParticlewayModel", "fast", "I", false)
  | _ => ("ParticlewayModel", "doubt", "I", false)
def tyX6 : Nat → FieldType := fun k => match k with
  | 0 => .int
  | 1 => .array .boolean
  | 2 => .int
  | 3 => .boolean
  | 4 => .int
  | 5 => .array .int
  | 6 => .array .int
  | 7 => .array .int
  | 8 => .array .long
  | 9 => .array .long
  | 10 => .int
  | 11 => .int
  | 12 => .int
  | 13 => .int
  | _ => .int
abbrev wsX60 : List Cond := u_ws RX6 TX6 15
theorem nmX6 : ∀ a, a < 15 → ∀ b, b < 15 → a ≠ b → (TX6 a).2.1 ≠ (TX6 b).2.1 := by decide +kernel
theorem tyX6_ok : ∀ k, k < 15 → parseFieldDescriptor (TX6 k).2.2.1 = some (tyX6 k) := by decide +kernel
abbrev cX6_init : ByteArray := prog_8_method_1_code
def yX6_init : MethodName := ⟨RX6, "<init>", "()V"⟩
abbrev cX6_thrown : ByteArray := prog_8_method_2_code
def yX6_thrown : MethodName := ⟨RX6, "thrown", "()I"⟩
abbrev cX6_goesWell : ByteArray := prog_8_method_3_code
def yX6_goesWell : MethodName := ⟨RX6, "goesWell", "(I)Z"⟩
abbrev cX6_in : ByteArray := prog_8_method_4_code
def yX6_in : MethodName := ⟨RX6, "in", "(III)Z"⟩
abbrev cX6_isCell : ByteArray := prog_8_method_5_code
def yX6_isCell : MethodName := ⟨RX6, "isCell", "(II)Z"⟩
abbrev cX6_isDirection : ByteArray := prog_8_method_6_code
def yX6_isDirection : MethodName := ⟨RX6, "isDirection", "(I)Z"⟩
abbrev cX6_free : ByteArray := prog_8_method_7_code
def yX6_free : MethodName := ⟨RX6, "free", "()I"⟩
abbrev cX6_wall : ByteArray := prog_8_method_8_code
def yX6_wall : MethodName := ⟨RX6, "wall", "(IIZ)Z"⟩
abbrev cX6_draw : ByteArray := prog_8_method_9_code
def yX6_draw : MethodName := ⟨RX6, "draw", "(I)I"⟩
abbrev cX6_next : ByteArray := prog_8_method_10_code
def yX6_next : MethodName := ⟨RX6, "next", "()I"⟩
abbrev cX6_drawCell : ByteArray := prog_8_method_11_code
def yX6_drawCell : MethodName := ⟨RX6, "drawCell", "()I"⟩
abbrev cX6_step : ByteArray := prog_8_method_12_code
def yX6_step : MethodName := ⟨RX6, "step", "(II)I"⟩
abbrev cX6_reads : ByteArray := prog_8_method_13_code
def yX6_reads : MethodName := ⟨RX6, "reads", "(II)I"⟩
abbrev cX6_weightOf : ByteArray := prog_8_method_14_code
def yX6_weightOf : MethodName := ⟨RX6, "weightOf", "(III)I"⟩
abbrev cX6_believeAll : ByteArray := prog_8_method_15_code
def yX6_believeAll : MethodName := ⟨RX6, "believeAll", "()V"⟩
abbrev cX6_spread : ByteArray := prog_8_method_16_code
def yX6_spread : MethodName := ⟨RX6, "spread", "(I)V"⟩
abbrev cX6_areNone : ByteArray := prog_8_method_17_code
def yX6_areNone : MethodName := ⟨RX6, "areNone", "()Z"⟩
abbrev cX6_greatest : ByteArray := prog_8_method_18_code
def yX6_greatest : MethodName := ⟨RX6, "greatest", "()J"⟩
abbrev cX6_halve : ByteArray := prog_8_method_19_code
def yX6_halve : MethodName := ⟨RX6, "halve", "()V"⟩
abbrev cX6_drive : ByteArray := prog_8_method_20_code
def yX6_drive : MethodName := ⟨RX6, "drive", "(I)V"⟩
abbrev cX6_judge : ByteArray := prog_8_method_21_code
def yX6_judge : MethodName := ⟨RX6, "judge", "(I)V"⟩
abbrev cX6_manyNew : ByteArray := prog_8_method_22_code
def yX6_manyNew : MethodName := ⟨RX6, "manyNew", "()I"⟩
abbrev cX6_oldAbove : ByteArray := prog_8_method_23_code
def yX6_oldAbove : MethodName := ⟨RX6, "oldAbove", "(I)I"⟩
abbrev cX6_drawAnew : ByteArray := prog_8_method_24_code
def yX6_drawAnew : MethodName := ⟨RX6, "drawAnew", "(I)V"⟩
abbrev cX6_read : ByteArray := prog_8_method_25_code
def yX6_read : MethodName := ⟨RX6, "read", "(II)I"⟩
abbrev cX6_toRead : ByteArray := prog_8_method_26_code
def yX6_toRead : MethodName := ⟨RX6, "toRead", "(III)I"⟩
abbrev cX6_samples : ByteArray := prog_8_method_27_code
def yX6_samples : MethodName := ⟨RX6, "samples", "()I"⟩
abbrev cX6_sample : ByteArray := prog_8_method_28_code
def yX6_sample : MethodName := ⟨RX6, "sample", "(I)I"⟩
abbrev cX6_countOf : ByteArray := prog_8_method_29_code
def yX6_countOf : MethodName := ⟨RX6, "countOf", "(I)I"⟩
abbrev cX6_count : ByteArray := prog_8_method_30_code
def yX6_count : MethodName := ⟨RX6, "count", "(II)I"⟩
abbrev cX6_belief : ByteArray := prog_8_method_31_code
def yX6_belief : MethodName := ⟨RX6, "belief", "(II)J"⟩
abbrev cX6_beliefAnew : ByteArray := prog_8_method_32_code
def yX6_beliefAnew : MethodName := ⟨RX6, "beliefAnew", "(II)J"⟩
abbrev cX6_partOf : ByteArray := prog_8_method_33_code
def yX6_partOf : MethodName := ⟨RX6, "partOf", "(IZ)J"⟩
abbrev cX6_mode : ByteArray := prog_8_method_34_code
def yX6_mode : MethodName := ⟨RX6, "mode", "(Z)I"⟩
abbrev cX6_mean : ByteArray := prog_8_method_35_code
def yX6_mean : MethodName := ⟨RX6, "mean", "(ZZ)I"⟩
abbrev cX6_share : ByteArray := prog_8_method_36_code
def yX6_share : MethodName := ⟨RX6, "share", "(IIIIZ)I"⟩
abbrev cX6_ahead : ByteArray := prog_8_method_37_code
def yX6_ahead : MethodName := ⟨RX6, "ahead", "(I)I"⟩
abbrev cX6_best : ByteArray := prog_8_method_38_code
def yX6_best : MethodName := ⟨RX6, "best", "(I)I"⟩
abbrev cX6_doubt : ByteArray := prog_8_method_39_code
def yX6_doubt : MethodName := ⟨RX6, "doubt", "()I"⟩
def RJ9 : String := "java/lang/Math"
def TJ9 : u_T := fun k => match k with
  | _ => ("", "", "", false)
def tyJ9 : Nat → FieldType := fun k => match k with
  | _ => .int
abbrev wsJ90 : List Cond := u_ws RJ9 TJ9 0
theorem nmJ9 : ∀ a, a < 0 → ∀ b, b < 0 → a ≠ b → (TJ9 a).2.1 ≠ (TJ9 b).2.1 := by decide +kernel
theorem tyJ9_ok : ∀ k, k < 0 → parseFieldDescriptor (TJ9 k).2.2.1 = some (tyJ9 k) := by decide +kernel
abbrev cJ9_abs_0f7a4 : ByteArray := prog_13_method_59_code
def yJ9_abs_0f7a4 : MethodName := ⟨RJ9, "abs", "(I)I"⟩
abbrev cJ9_max_7cf53 : ByteArray := prog_13_method_65_code
def yJ9_max_7cf53 : MethodName := ⟨RJ9, "max", "(II)I"⟩
abbrev cJ9_max_f86c9 : ByteArray := prog_13_method_66_code
def yJ9_max_f86c9 : MethodName := ⟨RJ9, "max", "(JJ)J"⟩
abbrev cJ9_min_7cf53 : ByteArray := prog_13_method_69_code
def yJ9_min_7cf53 : MethodName := ⟨RJ9, "min", "(II)I"⟩
def RJ10 : String := "java/lang/System"
def TJ10 : u_T := fun k => match k with
  | _ => ("", "", "", false)
def tyJ10 : Nat → FieldType := fun k => match k with
  | _ => .int
abbrev wsJ100 : List Cond := u_ws RJ10 TJ10 0
theorem nmJ10 : ∀ a, a < 0 → ∀ b, b < 0 → a ≠ b → (TJ10 a).2.1 ≠ (TJ10 b).2.1 := by decide +kernel
theorem tyJ10_ok : ∀ k, k < 0 → parseFieldDescriptor (TJ10 k).2.2.1 = some (tyJ10 k) := by decide +kernel
def RL : String := "ParticlewayLaw"
abbrev cL_wall : ByteArray := method_3_code
def yL_wall : MethodName := ⟨RL, "wall", "(LParticleway;IIZ[J)I"⟩
abbrev cL_draw : ByteArray := method_4_code
def yL_draw : MethodName := ⟨RL, "draw", "(LParticleway;I[J)I"⟩
abbrev cL_spread : ByteArray := method_5_code
def yL_spread : MethodName := ⟨RL, "spread", "(LParticleway;I)I"⟩
abbrev cL_drive : ByteArray := method_6_code
def yL_drive : MethodName := ⟨RL, "drive", "(LParticleway;I)I"⟩
abbrev cL_read : ByteArray := method_7_code
def yL_read : MethodName := ⟨RL, "read", "(LParticleway;II[J)I"⟩
abbrev cL_toRead : ByteArray := method_8_code
def yL_toRead : MethodName := ⟨RL, "toRead", "(LParticleway;III[J)I"⟩
abbrev cL_samples : ByteArray := method_9_code
def yL_samples : MethodName := ⟨RL, "samples", "(LParticleway;[J)I"⟩
abbrev cL_sample : ByteArray := method_10_code
def yL_sample : MethodName := ⟨RL, "sample", "(LParticleway;I[J)I"⟩
abbrev cL_count : ByteArray := method_11_code
def yL_count : MethodName := ⟨RL, "count", "(LParticleway;II[J)I"⟩
abbrev cL_belief : ByteArray := method_12_code
def yL_belief : MethodName := ⟨RL, "belief", "(LParticleway;II[J)I"⟩
abbrev cL_beliefAnew : ByteArray := method_13_code
def yL_beliefAnew : MethodName := ⟨RL, "beliefAnew", "(LParticleway;II[J)I"⟩
abbrev cL_mode : ByteArray := method_14_code
def yL_mode : MethodName := ⟨RL, "mode", "(LParticleway;Z[J)I"⟩
abbrev cL_mean : ByteArray := method_15_code
def yL_mean : MethodName := ⟨RL, "mean", "(LParticleway;ZZ[J)I"⟩
abbrev cL_share : ByteArray := method_16_code
def yL_share : MethodName := ⟨RL, "share", "(LParticleway;IIIIZ[J)I"⟩
abbrev cL_best : ByteArray := method_17_code
def yL_best : MethodName := ⟨RL, "best", "(LParticleway;I[J)I"⟩
abbrev cL_doubt : ByteArray := method_18_code
def yL_doubt : MethodName := ⟨RL, "doubt", "(LParticleway;[J)I"⟩
abbrev cL_law : ByteArray := code
def yL_law : MethodName := ⟨RL, "law", "([I)Z"⟩
def wsX2_init : List Cond := .code yX2_init cX2_init 1 none :: ([.methodLink RX2 3 objectInit, .instanceMethod objectInit, .code objectInit ⟨#[0xb1]⟩ 1 none, .arrayClass .long, .fieldLink RX2 9 "Particleway$Chart" "numbers" "[J"] ++ wsX20)
def wsX0_init : List Cond := .code yX0_init cX0_init 2 none :: ([.methodLink RX0 3 objectInit, .instanceMethod objectInit, .code objectInit ⟨#[0xb1]⟩ 1 none, .fieldLink RX0 9 "Particleway$Beliefs" "field" "LParticleway$Field;", .classLink RX0 15 RX2, .instantiable RX2 1, .initialized RX2, .fieldLink RX0 18 "Particleway$Beliefs" "now" "LParticleway$Chart;", .fieldLink RX0 22 "Particleway$Beliefs" "before" "LParticleway$Chart;", .methodLink RX0 17 yX2_init, .instanceMethod yX2_init, .code yX2_init cX2_init 1 none, .methodLink RX2 3 objectInit, .arrayClass .long, .fieldLink RX2 9 "Particleway$Chart" "numbers" "[J"] ++ wsX00 ++ wsX20)
def wsX0_chart : List Cond := .code yX0_chart cX0_chart 1 (some (.object "Particleway$Chart")) :: ([.fieldLink RX0 18 "Particleway$Beliefs" "now" "LParticleway$Chart;"] ++ wsX00)
def wsX5_isCell : List Cond := .code yX5_isCell cX5_isCell 1 (some .boolean) :: ([])
def wsX3_isFree : List Cond := .code yX3_isFree cX3_isFree 2 (some .boolean) :: ([.fieldLink RX3 9 "Particleway$Field" "walls" "[Z", .static yX5_isCell, .initialized RX5, .code yX5_isCell cX5_isCell 1 (some .boolean)] ++ wsX30)
def wsX2_put : List Cond := .code yX2_put cX2_put 4 none :: ([.fieldLink RX2 9 "Particleway$Chart" "numbers" "[J", .static yX5_isCell, .initialized RX5, .code yX5_isCell cX5_isCell 1 (some .boolean)] ++ wsX20)
def wsX0_begin : List Cond := .code yX0_begin cX0_begin 2 none :: ([.fieldLink RX0 18 "Particleway$Beliefs" "now" "LParticleway$Chart;", .fieldLink RX0 9 "Particleway$Beliefs" "field" "LParticleway$Field;", .methodLink RX0 25 yX3_isFree, .instanceMethod yX3_isFree, .selects RX3 yX3_isFree yX3_isFree, .initialized RX3, .code yX3_isFree cX3_isFree 2 (some .boolean), .fieldLink RX3 9 "Particleway$Field" "walls" "[Z", .static yX5_isCell, .initialized RX5, .code yX5_isCell cX5_isCell 1 (some .boolean), .methodLink RX0 31 yX2_put, .instanceMethod yX2_put, .selects RX2 yX2_put yX2_put, .initialized RX2, .code yX2_put cX2_put 4 none, .fieldLink RX2 9 "Particleway$Chart" "numbers" "[J"] ++ wsX00 ++ wsX30 ++ wsX20)
def wsX2_copy : List Cond := .code yX2_copy cX2_copy 2 none :: ([.fieldLink RX2 9 "Particleway$Chart" "numbers" "[J", .methodLink RX2 21 arraycopyName, .native arraycopyName, .static arraycopyName, .initialized "java/lang/System"] ++ wsX20)
def wsX2_clear : List Cond := .code yX2_clear cX2_clear 2 none :: ([.fieldLink RX2 9 "Particleway$Chart" "numbers" "[J"] ++ wsX20)
def wsX2_at : List Cond := .code yX2_at cX2_at 2 (some .long) :: ([.fieldLink RX2 9 "Particleway$Chart" "numbers" "[J", .static yX5_isCell, .initialized RX5, .code yX5_isCell cX5_isCell 1 (some .boolean)] ++ wsX20)
def wsX2_add : List Cond := .code yX2_add cX2_add 4 none :: ([.fieldLink RX2 9 "Particleway$Chart" "numbers" "[J", .static yX5_isCell, .initialized RX5, .code yX5_isCell cX5_isCell 1 (some .boolean)] ++ wsX20)
def wsX5_isDirection : List Cond := .code yX5_isDirection cX5_isDirection 1 (some .boolean) :: ([])
def wsX3_stepsAhead : List Cond := .code yX3_stepsAhead cX3_stepsAhead 3 (some .int) :: ([.fieldLink RX3 15 "Particleway$Field" "ahead" "[I", .static yX5_isCell, .initialized RX5, .code yX5_isCell cX5_isCell 1 (some .boolean), .static yX5_isDirection, .code yX5_isDirection cX5_isDirection 1 (some .boolean)] ++ wsX30)
def wsX5_isInField : List Cond := .code yX5_isInField cX5_isInField 2 (some .boolean) :: ([])
def wsX5_numberOf : List Cond := .code yX5_numberOf cX5_numberOf 2 (some .int) :: ([])
def wsX3_shifted : List Cond := .code yX3_shifted cX3_shifted 5 (some .int) :: ([.fieldLink RX3 55 "Particleway$Field" "STEP_X" "[I", .fieldLink RX3 58 "Particleway$Field" "STEP_Y" "[I", .static yX5_isCell, .initialized RX5, .code yX5_isCell cX5_isCell 1 (some .boolean), .static yX5_isDirection, .code yX5_isDirection cX5_isDirection 1 (some .boolean), .static yX5_isInField, .code yX5_isInField cX5_isInField 2 (some .boolean), .static yX5_numberOf, .code yX5_numberOf cX5_numberOf 2 (some .int)])
def wsX3_led : List Cond := .code yX3_led cX3_led 4 (some .int) :: ([.methodLink RX3 43 Lib.Math.min.name, .static Lib.Math.min.name, .initialized "java/lang/Math", .code Lib.Math.min.name Lib.Math.min.code 2 (some .int), .methodLink RX3 39 yX3_stepsAhead, .instanceMethod yX3_stepsAhead, .selects RX3 yX3_stepsAhead yX3_stepsAhead, .initialized RX3, .code yX3_stepsAhead cX3_stepsAhead 3 (some .int), .fieldLink RX3 15 "Particleway$Field" "ahead" "[I", .static yX5_isCell, .initialized RX5, .code yX5_isCell cX5_isCell 1 (some .boolean), .static yX5_isDirection, .code yX5_isDirection cX5_isDirection 1 (some .boolean), .methodLink RX3 48 yX3_shifted, .static yX3_shifted, .code yX3_shifted cX3_shifted 5 (some .int), .fieldLink RX3 55 "Particleway$Field" "STEP_X" "[I", .fieldLink RX3 58 "Particleway$Field" "STEP_Y" "[I", .static yX5_isInField, .code yX5_isInField cX5_isInField 2 (some .boolean), .static yX5_numberOf, .code yX5_numberOf cX5_numberOf 2 (some .int)] ++ wsX30)
def wsX2_greatest : List Cond := .code yX2_greatest cX2_greatest 4 (some .long) :: ([.fieldLink RX2 9 "Particleway$Chart" "numbers" "[J", .methodLink RX2 27 Lib.MathLoose.max_long.x, .static Lib.MathLoose.max_long.x, .initialized "java/lang/Math", .code Lib.MathLoose.max_long.x Lib.MathLoose.max_long.code 4 (some .long)] ++ wsX20)
def wsX2_halve : List Cond := .code yX2_halve cX2_halve 2 none :: ([.fieldLink RX2 9 "Particleway$Chart" "numbers" "[J", .constantLong RX2 19 (2)] ++ wsX20)
def wsX0_halveGreat : List Cond := .code yX0_halveGreat cX0_halveGreat 2 none :: ([.fieldLink RX0 18 "Particleway$Beliefs" "now" "LParticleway$Chart;", .constantLong RX0 77 (1099511627776), .methodLink RX0 70 yX2_greatest, .instanceMethod yX2_greatest, .selects RX2 yX2_greatest yX2_greatest, .initialized RX2, .code yX2_greatest cX2_greatest 4 (some .long), .fieldLink RX2 9 "Particleway$Chart" "numbers" "[J", .methodLink RX2 27 Lib.MathLoose.max_long.x, .static Lib.MathLoose.max_long.x, .initialized "java/lang/Math", .code Lib.MathLoose.max_long.x Lib.MathLoose.max_long.code 4 (some .long), .methodLink RX0 79 yX2_halve, .instanceMethod yX2_halve, .selects RX2 yX2_halve yX2_halve, .code yX2_halve cX2_halve 2 none, .constantLong RX2 19 (2)] ++ wsX00 ++ wsX20)
def wsX0_push_r1 : List Cond := [Cond.fieldLink RX0 22 "Particleway$Beliefs" "before" "LParticleway$Chart;", Cond.fieldLink RX0 18 "Particleway$Beliefs" "now" "LParticleway$Chart;", Cond.fieldLink RX0 9 "Particleway$Beliefs" "field" "LParticleway$Field;", Cond.constantLong RX0 42 (3), Cond.constantLong RX0 55 (12), Cond.methodLink RX0 35 yX2_copy, Cond.instanceMethod yX2_copy, Cond.selects RX2 yX2_copy yX2_copy, Cond.initialized RX2, Cond.code yX2_copy cX2_copy 2 none, Cond.fieldLink RX2 9 "Particleway$Chart" "numbers" "[J", Cond.methodLink RX2 21 arraycopyName, Cond.native arraycopyName, Cond.static arraycopyName, Cond.initialized "java/lang/System", Cond.methodLink RX0 39 yX2_clear, Cond.instanceMethod yX2_clear, Cond.selects RX2 yX2_clear yX2_clear, Cond.code yX2_clear cX2_clear 2 none, Cond.methodLink RX0 25 yX3_isFree, Cond.instanceMethod yX3_isFree, Cond.selects RX3 yX3_isFree yX3_isFree, Cond.initialized RX3, Cond.code yX3_isFree cX3_isFree 2 (some .boolean)]
def wsX0_push_r2 : List Cond := [Cond.fieldLink RX3 9 "Particleway$Field" "walls" "[Z", Cond.static yX5_isCell, Cond.initialized RX5, Cond.code yX5_isCell cX5_isCell 1 (some .boolean), Cond.methodLink RX0 44 yX2_at, Cond.instanceMethod yX2_at, Cond.selects RX2 yX2_at yX2_at, Cond.code yX2_at cX2_at 2 (some .long), Cond.methodLink RX0 48 yX2_add, Cond.instanceMethod yX2_add, Cond.selects RX2 yX2_add yX2_add, Cond.code yX2_add cX2_add 4 none, Cond.methodLink RX0 51 yX3_led, Cond.instanceMethod yX3_led, Cond.selects RX3 yX3_led yX3_led, Cond.code yX3_led cX3_led 4 (some .int), Cond.methodLink RX3 43 Lib.Math.min.name, Cond.static Lib.Math.min.name, Cond.initialized "java/lang/Math", Cond.code Lib.Math.min.name Lib.Math.min.code 2 (some .int), Cond.methodLink RX3 39 yX3_stepsAhead, Cond.instanceMethod yX3_stepsAhead, Cond.selects RX3 yX3_stepsAhead yX3_stepsAhead, Cond.code yX3_stepsAhead cX3_stepsAhead 3 (some .int)]
def wsX0_push_r3 : List Cond := [Cond.fieldLink RX3 15 "Particleway$Field" "ahead" "[I", Cond.static yX5_isDirection, Cond.code yX5_isDirection cX5_isDirection 1 (some .boolean), Cond.methodLink RX3 48 yX3_shifted, Cond.static yX3_shifted, Cond.code yX3_shifted cX3_shifted 5 (some .int), Cond.fieldLink RX3 55 "Particleway$Field" "STEP_X" "[I", Cond.fieldLink RX3 58 "Particleway$Field" "STEP_Y" "[I", Cond.static yX5_isInField, Cond.code yX5_isInField cX5_isInField 2 (some .boolean), Cond.static yX5_numberOf, Cond.code yX5_numberOf cX5_numberOf 2 (some .int), Cond.methodLink RX0 57 yX0_halveGreat, Cond.instanceMethod yX0_halveGreat, Cond.selects RX0 yX0_halveGreat yX0_halveGreat, Cond.initialized RX0, Cond.code yX0_halveGreat cX0_halveGreat 2 none, Cond.constantLong RX0 77 (1099511627776), Cond.methodLink RX0 70 yX2_greatest, Cond.instanceMethod yX2_greatest, Cond.selects RX2 yX2_greatest yX2_greatest, Cond.code yX2_greatest cX2_greatest 4 (some .long), Cond.methodLink RX2 27 Lib.MathLoose.max_long.x, Cond.static Lib.MathLoose.max_long.x]
def wsX0_push_r4 : List Cond := [Cond.code Lib.MathLoose.max_long.x Lib.MathLoose.max_long.code 4 (some .long), Cond.methodLink RX0 79 yX2_halve, Cond.instanceMethod yX2_halve, Cond.selects RX2 yX2_halve yX2_halve, Cond.code yX2_halve cX2_halve 2 none, Cond.constantLong RX2 19 (2)]
def wsX0_push : List Cond := .code yX0_push cX0_push 3 none :: ((wsX0_push_r1 ++ (wsX0_push_r2 ++ (wsX0_push_r3 ++ wsX0_push_r4))) ++ wsX00 ++ wsX20 ++ wsX30)
def wsX0_fetched_r1 : List Cond := [Cond.constantLong RX0 42 (3), Cond.fieldLink RX0 22 "Particleway$Beliefs" "before" "LParticleway$Chart;", Cond.fieldLink RX0 9 "Particleway$Beliefs" "field" "LParticleway$Field;", Cond.constantLong RX0 55 (12), Cond.methodLink RX0 44 yX2_at, Cond.instanceMethod yX2_at, Cond.selects RX2 yX2_at yX2_at, Cond.initialized RX2, Cond.code yX2_at cX2_at 2 (some .long), Cond.fieldLink RX2 9 "Particleway$Chart" "numbers" "[J", Cond.static yX5_isCell, Cond.initialized RX5, Cond.code yX5_isCell cX5_isCell 1 (some .boolean), Cond.methodLink RX0 64 yX3_shifted, Cond.static yX3_shifted, Cond.initialized RX3, Cond.code yX3_shifted cX3_shifted 5 (some .int), Cond.fieldLink RX3 55 "Particleway$Field" "STEP_X" "[I", Cond.fieldLink RX3 58 "Particleway$Field" "STEP_Y" "[I", Cond.static yX5_isDirection, Cond.code yX5_isDirection cX5_isDirection 1 (some .boolean), Cond.static yX5_isInField, Cond.code yX5_isInField cX5_isInField 2 (some .boolean), Cond.static yX5_numberOf]
def wsX0_fetched_r2 : List Cond := [Cond.code yX5_numberOf cX5_numberOf 2 (some .int), Cond.methodLink RX0 25 yX3_isFree, Cond.instanceMethod yX3_isFree, Cond.selects RX3 yX3_isFree yX3_isFree, Cond.code yX3_isFree cX3_isFree 2 (some .boolean), Cond.fieldLink RX3 9 "Particleway$Field" "walls" "[Z", Cond.methodLink RX0 51 yX3_led, Cond.instanceMethod yX3_led, Cond.selects RX3 yX3_led yX3_led, Cond.code yX3_led cX3_led 4 (some .int), Cond.methodLink RX3 43 Lib.Math.min.name, Cond.static Lib.Math.min.name, Cond.initialized "java/lang/Math", Cond.code Lib.Math.min.name Lib.Math.min.code 2 (some .int), Cond.methodLink RX3 39 yX3_stepsAhead, Cond.instanceMethod yX3_stepsAhead, Cond.selects RX3 yX3_stepsAhead yX3_stepsAhead, Cond.code yX3_stepsAhead cX3_stepsAhead 3 (some .int), Cond.fieldLink RX3 15 "Particleway$Field" "ahead" "[I", Cond.methodLink RX3 48 yX3_shifted]
def wsX0_fetched : List Cond := .code yX0_fetched cX0_fetched 7 (some .long) :: ((wsX0_fetched_r1 ++ wsX0_fetched_r2) ++ wsX00 ++ wsX20 ++ wsX30)
def wsX0_fetch_r1 : List Cond := [Cond.fieldLink RX0 22 "Particleway$Beliefs" "before" "LParticleway$Chart;", Cond.fieldLink RX0 18 "Particleway$Beliefs" "now" "LParticleway$Chart;", Cond.methodLink RX0 35 yX2_copy, Cond.instanceMethod yX2_copy, Cond.selects RX2 yX2_copy yX2_copy, Cond.initialized RX2, Cond.code yX2_copy cX2_copy 2 none, Cond.fieldLink RX2 9 "Particleway$Chart" "numbers" "[J", Cond.methodLink RX2 21 arraycopyName, Cond.native arraycopyName, Cond.static arraycopyName, Cond.initialized "java/lang/System", Cond.methodLink RX0 60 yX0_fetched, Cond.instanceMethod yX0_fetched, Cond.selects RX0 yX0_fetched yX0_fetched, Cond.initialized RX0, Cond.code yX0_fetched cX0_fetched 7 (some .long), Cond.constantLong RX0 42 (3), Cond.fieldLink RX0 9 "Particleway$Beliefs" "field" "LParticleway$Field;", Cond.constantLong RX0 55 (12), Cond.methodLink RX0 44 yX2_at, Cond.instanceMethod yX2_at, Cond.selects RX2 yX2_at yX2_at, Cond.code yX2_at cX2_at 2 (some .long)]
def wsX0_fetch_r2 : List Cond := [Cond.static yX5_isCell, Cond.initialized RX5, Cond.code yX5_isCell cX5_isCell 1 (some .boolean), Cond.methodLink RX0 64 yX3_shifted, Cond.static yX3_shifted, Cond.initialized RX3, Cond.code yX3_shifted cX3_shifted 5 (some .int), Cond.fieldLink RX3 55 "Particleway$Field" "STEP_X" "[I", Cond.fieldLink RX3 58 "Particleway$Field" "STEP_Y" "[I", Cond.static yX5_isDirection, Cond.code yX5_isDirection cX5_isDirection 1 (some .boolean), Cond.static yX5_isInField, Cond.code yX5_isInField cX5_isInField 2 (some .boolean), Cond.static yX5_numberOf, Cond.code yX5_numberOf cX5_numberOf 2 (some .int), Cond.methodLink RX0 25 yX3_isFree, Cond.instanceMethod yX3_isFree, Cond.selects RX3 yX3_isFree yX3_isFree, Cond.code yX3_isFree cX3_isFree 2 (some .boolean), Cond.fieldLink RX3 9 "Particleway$Field" "walls" "[Z", Cond.methodLink RX0 51 yX3_led, Cond.instanceMethod yX3_led, Cond.selects RX3 yX3_led yX3_led, Cond.code yX3_led cX3_led 4 (some .int)]
def wsX0_fetch_r3 : List Cond := [Cond.methodLink RX3 43 Lib.Math.min.name, Cond.static Lib.Math.min.name, Cond.initialized "java/lang/Math", Cond.code Lib.Math.min.name Lib.Math.min.code 2 (some .int), Cond.methodLink RX3 39 yX3_stepsAhead, Cond.instanceMethod yX3_stepsAhead, Cond.selects RX3 yX3_stepsAhead yX3_stepsAhead, Cond.code yX3_stepsAhead cX3_stepsAhead 3 (some .int), Cond.fieldLink RX3 15 "Particleway$Field" "ahead" "[I", Cond.methodLink RX3 48 yX3_shifted, Cond.methodLink RX0 31 yX2_put, Cond.instanceMethod yX2_put, Cond.selects RX2 yX2_put yX2_put, Cond.code yX2_put cX2_put 4 none, Cond.methodLink RX0 57 yX0_halveGreat, Cond.instanceMethod yX0_halveGreat, Cond.selects RX0 yX0_halveGreat yX0_halveGreat, Cond.code yX0_halveGreat cX0_halveGreat 2 none, Cond.constantLong RX0 77 (1099511627776), Cond.methodLink RX0 70 yX2_greatest, Cond.instanceMethod yX2_greatest, Cond.selects RX2 yX2_greatest yX2_greatest, Cond.code yX2_greatest cX2_greatest 4 (some .long), Cond.methodLink RX2 27 Lib.MathLoose.max_long.x]
def wsX0_fetch_r4 : List Cond := [Cond.static Lib.MathLoose.max_long.x, Cond.code Lib.MathLoose.max_long.x Lib.MathLoose.max_long.code 4 (some .long), Cond.methodLink RX0 79 yX2_halve, Cond.instanceMethod yX2_halve, Cond.selects RX2 yX2_halve yX2_halve, Cond.code yX2_halve cX2_halve 2 none, Cond.constantLong RX2 19 (2)]
def wsX0_fetch : List Cond := .code yX0_fetch cX0_fetch 3 none :: ((wsX0_fetch_r1 ++ (wsX0_fetch_r2 ++ (wsX0_fetch_r3 ++ wsX0_fetch_r4))) ++ wsX00 ++ wsX20 ++ wsX30)
def wsX3_weight : List Cond := .code yX3_weight cX3_weight 4 (some .int) :: ([.methodLink RX3 52 Lib.Math.abs.name, .static Lib.Math.abs.name, .initialized "java/lang/Math", .code Lib.Math.abs.name Lib.Math.abs.code 1 (some .int), .methodLink RX3 39 yX3_stepsAhead, .instanceMethod yX3_stepsAhead, .selects RX3 yX3_stepsAhead yX3_stepsAhead, .initialized RX3, .code yX3_stepsAhead cX3_stepsAhead 3 (some .int), .fieldLink RX3 15 "Particleway$Field" "ahead" "[I", .static yX5_isCell, .initialized RX5, .code yX5_isCell cX5_isCell 1 (some .boolean), .static yX5_isDirection, .code yX5_isDirection cX5_isDirection 1 (some .boolean)] ++ wsX30)
def wsX0_weigh_r1 : List Cond := [Cond.fieldLink RX0 18 "Particleway$Beliefs" "now" "LParticleway$Chart;", Cond.fieldLink RX0 9 "Particleway$Beliefs" "field" "LParticleway$Field;", Cond.methodLink RX0 44 yX2_at, Cond.instanceMethod yX2_at, Cond.selects RX2 yX2_at yX2_at, Cond.initialized RX2, Cond.code yX2_at cX2_at 2 (some .long), Cond.fieldLink RX2 9 "Particleway$Chart" "numbers" "[J", Cond.static yX5_isCell, Cond.initialized RX5, Cond.code yX5_isCell cX5_isCell 1 (some .boolean), Cond.methodLink RX0 67 yX3_weight, Cond.instanceMethod yX3_weight, Cond.selects RX3 yX3_weight yX3_weight, Cond.initialized RX3, Cond.code yX3_weight cX3_weight 4 (some .int), Cond.methodLink RX3 52 Lib.Math.abs.name, Cond.static Lib.Math.abs.name, Cond.initialized "java/lang/Math", Cond.code Lib.Math.abs.name Lib.Math.abs.code 1 (some .int), Cond.methodLink RX3 39 yX3_stepsAhead, Cond.instanceMethod yX3_stepsAhead, Cond.selects RX3 yX3_stepsAhead yX3_stepsAhead, Cond.code yX3_stepsAhead cX3_stepsAhead 3 (some .int)]
def wsX0_weigh_r2 : List Cond := [Cond.fieldLink RX3 15 "Particleway$Field" "ahead" "[I", Cond.static yX5_isDirection, Cond.code yX5_isDirection cX5_isDirection 1 (some .boolean), Cond.methodLink RX0 31 yX2_put, Cond.instanceMethod yX2_put, Cond.selects RX2 yX2_put yX2_put, Cond.code yX2_put cX2_put 4 none, Cond.methodLink RX0 70 yX2_greatest, Cond.instanceMethod yX2_greatest, Cond.selects RX2 yX2_greatest yX2_greatest, Cond.code yX2_greatest cX2_greatest 4 (some .long), Cond.methodLink RX2 27 Lib.MathLoose.max_long.x, Cond.static Lib.MathLoose.max_long.x, Cond.code Lib.MathLoose.max_long.x Lib.MathLoose.max_long.code 4 (some .long), Cond.methodLink RX0 74 yX0_begin, Cond.instanceMethod yX0_begin, Cond.selects RX0 yX0_begin yX0_begin, Cond.initialized RX0, Cond.code yX0_begin cX0_begin 2 none, Cond.methodLink RX0 25 yX3_isFree, Cond.instanceMethod yX3_isFree, Cond.selects RX3 yX3_isFree yX3_isFree, Cond.code yX3_isFree cX3_isFree 2 (some .boolean), Cond.fieldLink RX3 9 "Particleway$Field" "walls" "[Z"]
def wsX0_weigh_r3 : List Cond := [Cond.methodLink RX0 57 yX0_halveGreat, Cond.instanceMethod yX0_halveGreat, Cond.selects RX0 yX0_halveGreat yX0_halveGreat, Cond.code yX0_halveGreat cX0_halveGreat 2 none, Cond.constantLong RX0 77 (1099511627776), Cond.methodLink RX0 79 yX2_halve, Cond.instanceMethod yX2_halve, Cond.selects RX2 yX2_halve yX2_halve, Cond.code yX2_halve cX2_halve 2 none, Cond.constantLong RX2 19 (2)]
def wsX0_weigh : List Cond := .code yX0_weigh cX0_weigh 4 none :: ((wsX0_weigh_r1 ++ (wsX0_weigh_r2 ++ wsX0_weigh_r3)) ++ wsX00 ++ wsX20 ++ wsX30)
def wsX1_init : List Cond := .code yX1_init cX1_init 1 none :: ([.methodLink RX1 1 objectInit, .instanceMethod objectInit, .code objectInit ⟨#[0xb1]⟩ 1 none, .fieldLink RX1 7 "Particleway$Chance" "x" "I"] ++ wsX10)
def wsX1_change : List Cond := .code yX1_change cX1_change 3 (some .int) :: ([.fieldLink RX1 7 "Particleway$Chance" "x" "I"] ++ wsX10)
def wsX1_remainder : List Cond := .code yX1_remainder cX1_remainder 2 (some .int) :: ([.fieldLink RX1 7 "Particleway$Chance" "x" "I", .constant RX1 13 (65537)] ++ wsX10)
def wsX2_greatestCell : List Cond := .code yX2_greatestCell cX2_greatestCell 4 (some .int) :: ([.fieldLink RX2 9 "Particleway$Chart" "numbers" "[J", .methodLink RX2 33 yX2_greatest, .instanceMethod yX2_greatest, .selects RX2 yX2_greatest yX2_greatest, .initialized RX2, .code yX2_greatest cX2_greatest 4 (some .long), .methodLink RX2 27 Lib.MathLoose.max_long.x, .static Lib.MathLoose.max_long.x, .initialized "java/lang/Math", .code Lib.MathLoose.max_long.x Lib.MathLoose.max_long.code 4 (some .long)] ++ wsX20)
def wsX2_sumOf : List Cond := .code yX2_sumOf cX2_sumOf 10 (some .long) :: ([.fieldLink RX2 9 "Particleway$Chart" "numbers" "[J"] ++ wsX20)
def wsX2_sum : List Cond := .code yX2_sum cX2_sum 1 (some .long) :: ([.methodLink RX2 37 yX2_sumOf, .instanceMethod yX2_sumOf, .selects RX2 yX2_sumOf yX2_sumOf, .initialized RX2, .code yX2_sumOf cX2_sumOf 10 (some .long), .fieldLink RX2 9 "Particleway$Chart" "numbers" "[J"] ++ wsX20)
def wsX2_coordinateSum : List Cond := .code yX2_coordinateSum cX2_coordinateSum 5 (some .long) :: ([.fieldLink RX2 9 "Particleway$Chart" "numbers" "[J"] ++ wsX20)
def wsX2_placeOf : List Cond := .code yX2_placeOf cX2_placeOf 5 (some .int) :: ([.fieldLink RX2 9 "Particleway$Chart" "numbers" "[J", .methodLink RX2 45 yX2_at, .instanceMethod yX2_at, .selects RX2 yX2_at yX2_at, .initialized RX2, .code yX2_at cX2_at 2 (some .long), .static yX5_isCell, .initialized RX5, .code yX5_isCell cX5_isCell 1 (some .boolean)] ++ wsX20)
def wsX2_cellAtPlace : List Cond := .code yX2_cellAtPlace cX2_cellAtPlace 3 (some .int) :: ([.fieldLink RX2 9 "Particleway$Chart" "numbers" "[J", .methodLink RX2 41 yX2_placeOf, .instanceMethod yX2_placeOf, .selects RX2 yX2_placeOf yX2_placeOf, .initialized RX2, .code yX2_placeOf cX2_placeOf 5 (some .int), .methodLink RX2 45 yX2_at, .instanceMethod yX2_at, .selects RX2 yX2_at yX2_at, .code yX2_at cX2_at 2 (some .long), .static yX5_isCell, .initialized RX5, .code yX5_isCell cX5_isCell 1 (some .boolean)] ++ wsX20)
def wsX3_countedSteps : List Cond := .code yX3_countedSteps cX3_countedSteps 4 (some .int) :: ([.methodLink RX3 48 yX3_shifted, .static yX3_shifted, .initialized RX3, .code yX3_shifted cX3_shifted 5 (some .int), .fieldLink RX3 55 "Particleway$Field" "STEP_X" "[I", .fieldLink RX3 58 "Particleway$Field" "STEP_Y" "[I", .static yX5_isCell, .initialized RX5, .code yX5_isCell cX5_isCell 1 (some .boolean), .static yX5_isDirection, .code yX5_isDirection cX5_isDirection 1 (some .boolean), .static yX5_isInField, .code yX5_isInField cX5_isInField 2 (some .boolean), .static yX5_numberOf, .code yX5_numberOf cX5_numberOf 2 (some .int), .methodLink RX3 71 yX3_isFree, .instanceMethod yX3_isFree, .selects RX3 yX3_isFree yX3_isFree, .code yX3_isFree cX3_isFree 2 (some .boolean), .fieldLink RX3 9 "Particleway$Field" "walls" "[Z"] ++ wsX30)
def wsX3_measure_r1 : List Cond := [Cond.fieldLink RX3 26 "Particleway$Field" "free" "I", Cond.fieldLink RX3 9 "Particleway$Field" "walls" "[Z", Cond.fieldLink RX3 15 "Particleway$Field" "ahead" "[I", Cond.methodLink RX3 68 yX3_countedSteps, Cond.instanceMethod yX3_countedSteps, Cond.selects RX3 yX3_countedSteps yX3_countedSteps, Cond.initialized RX3, Cond.code yX3_countedSteps cX3_countedSteps 4 (some .int), Cond.methodLink RX3 48 yX3_shifted, Cond.static yX3_shifted, Cond.code yX3_shifted cX3_shifted 5 (some .int), Cond.fieldLink RX3 55 "Particleway$Field" "STEP_X" "[I", Cond.fieldLink RX3 58 "Particleway$Field" "STEP_Y" "[I", Cond.static yX5_isCell, Cond.initialized RX5, Cond.code yX5_isCell cX5_isCell 1 (some .boolean), Cond.static yX5_isDirection, Cond.code yX5_isDirection cX5_isDirection 1 (some .boolean), Cond.static yX5_isInField, Cond.code yX5_isInField cX5_isInField 2 (some .boolean), Cond.static yX5_numberOf, Cond.code yX5_numberOf cX5_numberOf 2 (some .int), Cond.methodLink RX3 71 yX3_isFree, Cond.instanceMethod yX3_isFree]
def wsX3_measure_r2 : List Cond := [Cond.selects RX3 yX3_isFree yX3_isFree, Cond.code yX3_isFree cX3_isFree 2 (some .boolean)]
def wsX3_measure : List Cond := .code yX3_measure cX3_measure 3 none :: ((wsX3_measure_r1 ++ wsX3_measure_r2) ++ wsX30)
def wsX3_init_r1 : List Cond := [Cond.methodLink RX3 3 objectInit, Cond.instanceMethod objectInit, Cond.code objectInit ⟨#[0xb1]⟩ 1 none, Cond.arrayClass .boolean, Cond.fieldLink RX3 9 "Particleway$Field" "walls" "[Z", Cond.arrayClass .int, Cond.fieldLink RX3 15 "Particleway$Field" "ahead" "[I", Cond.methodLink RX3 19 yX3_measure, Cond.instanceMethod yX3_measure, Cond.selects RX3 yX3_measure yX3_measure, Cond.initialized RX3, Cond.code yX3_measure cX3_measure 3 none, Cond.fieldLink RX3 26 "Particleway$Field" "free" "I", Cond.methodLink RX3 68 yX3_countedSteps, Cond.instanceMethod yX3_countedSteps, Cond.selects RX3 yX3_countedSteps yX3_countedSteps, Cond.code yX3_countedSteps cX3_countedSteps 4 (some .int), Cond.methodLink RX3 48 yX3_shifted, Cond.static yX3_shifted, Cond.code yX3_shifted cX3_shifted 5 (some .int), Cond.fieldLink RX3 55 "Particleway$Field" "STEP_X" "[I", Cond.fieldLink RX3 58 "Particleway$Field" "STEP_Y" "[I", Cond.static yX5_isCell, Cond.initialized RX5]
def wsX3_init_r2 : List Cond := [Cond.code yX5_isCell cX5_isCell 1 (some .boolean), Cond.static yX5_isDirection, Cond.code yX5_isDirection cX5_isDirection 1 (some .boolean), Cond.static yX5_isInField, Cond.code yX5_isInField cX5_isInField 2 (some .boolean), Cond.static yX5_numberOf, Cond.code yX5_numberOf cX5_numberOf 2 (some .int), Cond.methodLink RX3 71 yX3_isFree, Cond.instanceMethod yX3_isFree, Cond.selects RX3 yX3_isFree yX3_isFree, Cond.code yX3_isFree cX3_isFree 2 (some .boolean)]
def wsX3_init : List Cond := .code yX3_init cX3_init 1 none :: ((wsX3_init_r1 ++ wsX3_init_r2) ++ wsX30)
def wsX3_freeCells : List Cond := .code yX3_freeCells cX3_freeCells 1 (some .int) :: ([.fieldLink RX3 26 "Particleway$Field" "free" "I"] ++ wsX30)
def wsX3_build_r1 : List Cond := [Cond.fieldLink RX3 9 "Particleway$Field" "walls" "[Z", Cond.static yX5_isCell, Cond.initialized RX5, Cond.code yX5_isCell cX5_isCell 1 (some .boolean), Cond.methodLink RX3 19 yX3_measure, Cond.instanceMethod yX3_measure, Cond.selects RX3 yX3_measure yX3_measure, Cond.initialized RX3, Cond.code yX3_measure cX3_measure 3 none, Cond.fieldLink RX3 26 "Particleway$Field" "free" "I", Cond.fieldLink RX3 15 "Particleway$Field" "ahead" "[I", Cond.methodLink RX3 68 yX3_countedSteps, Cond.instanceMethod yX3_countedSteps, Cond.selects RX3 yX3_countedSteps yX3_countedSteps, Cond.code yX3_countedSteps cX3_countedSteps 4 (some .int), Cond.methodLink RX3 48 yX3_shifted, Cond.static yX3_shifted, Cond.code yX3_shifted cX3_shifted 5 (some .int), Cond.fieldLink RX3 55 "Particleway$Field" "STEP_X" "[I", Cond.fieldLink RX3 58 "Particleway$Field" "STEP_Y" "[I", Cond.static yX5_isDirection, Cond.code yX5_isDirection cX5_isDirection 1 (some .boolean), Cond.static yX5_isInField, Cond.code yX5_isInField cX5_isInField 2 (some .boolean)]
def wsX3_build_r2 : List Cond := [Cond.static yX5_numberOf, Cond.code yX5_numberOf cX5_numberOf 2 (some .int), Cond.methodLink RX3 71 yX3_isFree, Cond.instanceMethod yX3_isFree, Cond.selects RX3 yX3_isFree yX3_isFree, Cond.code yX3_isFree cX3_isFree 2 (some .boolean)]
def wsX3_build : List Cond := .code yX3_build cX3_build 3 none :: ((wsX3_build_r1 ++ wsX3_build_r2) ++ wsX30)
def wsX3_drawnCell : List Cond := .code yX3_drawnCell cX3_drawnCell 4 (some .int) :: ([.fieldLink RX3 26 "Particleway$Field" "free" "I", .fieldLink RX3 9 "Particleway$Field" "walls" "[Z", .methodLink RX3 30 yX1_remainder, .instanceMethod yX1_remainder, .selects RX1 yX1_remainder yX1_remainder, .initialized RX1, .code yX1_remainder cX1_remainder 2 (some .int), .fieldLink RX1 7 "Particleway$Chance" "x" "I", .constant RX1 13 (65537)] ++ wsX30 ++ wsX10)
def wsX4_init : List Cond := .code yX4_init cX4_init 3 none :: ([.methodLink RX4 3 objectInit, .instanceMethod objectInit, .code objectInit ⟨#[0xb1]⟩ 1 none, .fieldLink RX4 9 "Particleway$Samples" "field" "LParticleway$Field;", .fieldLink RX4 15 "Particleway$Samples" "chance" "LParticleway$Chance;", .arrayClass .int, .fieldLink RX4 19 "Particleway$Samples" "cells" "[I", .fieldLink RX4 23 "Particleway$Samples" "oldCells" "[I", .fieldLink RX4 26 "Particleway$Samples" "weights" "[I", .classLink RX4 29 RX2, .instantiable RX2 1, .initialized RX2, .fieldLink RX4 32 "Particleway$Samples" "counts" "LParticleway$Chart;", .fieldLink RX4 36 "Particleway$Samples" "many" "I", .methodLink RX4 31 yX2_init, .instanceMethod yX2_init, .code yX2_init cX2_init 1 none, .methodLink RX2 3 objectInit, .arrayClass .long, .fieldLink RX2 9 "Particleway$Chart" "numbers" "[J"] ++ wsX40 ++ wsX20)
def wsX4_size : List Cond := .code yX4_size cX4_size 1 (some .int) :: ([.fieldLink RX4 36 "Particleway$Samples" "many" "I"] ++ wsX40)
def wsX4_cellOf : List Cond := .code yX4_cellOf cX4_cellOf 2 (some .int) :: ([.fieldLink RX4 19 "Particleway$Samples" "cells" "[I"] ++ wsX40)
def wsX4_lastDoubt : List Cond := .code yX4_lastDoubt cX4_lastDoubt 1 (some .int) :: ([.fieldLink RX4 40 "Particleway$Samples" "doubt" "I"] ++ wsX40)
def wsX4_chart : List Cond := .code yX4_chart cX4_chart 2 (some (.object "Particleway$Chart")) :: ([.fieldLink RX4 32 "Particleway$Samples" "counts" "LParticleway$Chart;", .fieldLink RX4 36 "Particleway$Samples" "many" "I", .fieldLink RX4 19 "Particleway$Samples" "cells" "[I", .methodLink RX4 43 yX2_clear, .instanceMethod yX2_clear, .selects RX2 yX2_clear yX2_clear, .initialized RX2, .code yX2_clear cX2_clear 2 none, .fieldLink RX2 9 "Particleway$Chart" "numbers" "[J", .methodLink RX4 46 yX2_add, .instanceMethod yX2_add, .selects RX2 yX2_add yX2_add, .code yX2_add cX2_add 4 none, .static yX5_isCell, .initialized RX5, .code yX5_isCell cX5_isCell 1 (some .boolean)] ++ wsX40 ++ wsX20)
def wsX4_begin : List Cond := .code yX4_begin cX4_begin 3 none :: ([.fieldLink RX4 36 "Particleway$Samples" "many" "I", .fieldLink RX4 19 "Particleway$Samples" "cells" "[I", .fieldLink RX4 9 "Particleway$Samples" "field" "LParticleway$Field;", .fieldLink RX4 15 "Particleway$Samples" "chance" "LParticleway$Chance;", .fieldLink RX4 56 "Particleway$Samples" "isRead" "Z", .fieldLink RX4 60 "Particleway$Samples" "slow" "I", .fieldLink RX4 63 "Particleway$Samples" "fast" "I", .fieldLink RX4 40 "Particleway$Samples" "doubt" "I", .methodLink RX4 50 yX3_drawnCell, .instanceMethod yX3_drawnCell, .selects RX3 yX3_drawnCell yX3_drawnCell, .initialized RX3, .code yX3_drawnCell cX3_drawnCell 4 (some .int), .fieldLink RX3 26 "Particleway$Field" "free" "I", .fieldLink RX3 9 "Particleway$Field" "walls" "[Z", .methodLink RX3 30 yX1_remainder, .instanceMethod yX1_remainder, .selects RX1 yX1_remainder yX1_remainder, .initialized RX1, .code yX1_remainder cX1_remainder 2 (some .int), .fieldLink RX1 7 "Particleway$Chance" "x" "I", .constant RX1 13 (65537)] ++ wsX40 ++ wsX30 ++ wsX10)
def wsX4_drawnSteps : List Cond := .code yX4_drawnSteps cX4_drawnSteps 2 (some .int) :: ([.fieldLink RX4 15 "Particleway$Samples" "chance" "LParticleway$Chance;", .methodLink RX4 74 yX1_remainder, .instanceMethod yX1_remainder, .selects RX1 yX1_remainder yX1_remainder, .initialized RX1, .code yX1_remainder cX1_remainder 2 (some .int), .fieldLink RX1 7 "Particleway$Chance" "x" "I", .constant RX1 13 (65537)] ++ wsX40 ++ wsX10)
def wsX4_move_r1 : List Cond := [Cond.fieldLink RX4 36 "Particleway$Samples" "many" "I", Cond.fieldLink RX4 19 "Particleway$Samples" "cells" "[I", Cond.fieldLink RX4 9 "Particleway$Samples" "field" "LParticleway$Field;", Cond.methodLink RX4 66 yX4_drawnSteps, Cond.instanceMethod yX4_drawnSteps, Cond.selects RX4 yX4_drawnSteps yX4_drawnSteps, Cond.initialized RX4, Cond.code yX4_drawnSteps cX4_drawnSteps 2 (some .int), Cond.fieldLink RX4 15 "Particleway$Samples" "chance" "LParticleway$Chance;", Cond.methodLink RX4 74 yX1_remainder, Cond.instanceMethod yX1_remainder, Cond.selects RX1 yX1_remainder yX1_remainder, Cond.initialized RX1, Cond.code yX1_remainder cX1_remainder 2 (some .int), Cond.fieldLink RX1 7 "Particleway$Chance" "x" "I", Cond.constant RX1 13 (65537), Cond.methodLink RX4 70 yX3_led, Cond.instanceMethod yX3_led, Cond.selects RX3 yX3_led yX3_led, Cond.initialized RX3, Cond.code yX3_led cX3_led 4 (some .int), Cond.methodLink RX3 43 Lib.Math.min.name, Cond.static Lib.Math.min.name, Cond.initialized "java/lang/Math"]
def wsX4_move_r2 : List Cond := [Cond.code Lib.Math.min.name Lib.Math.min.code 2 (some .int), Cond.methodLink RX3 39 yX3_stepsAhead, Cond.instanceMethod yX3_stepsAhead, Cond.selects RX3 yX3_stepsAhead yX3_stepsAhead, Cond.code yX3_stepsAhead cX3_stepsAhead 3 (some .int), Cond.fieldLink RX3 15 "Particleway$Field" "ahead" "[I", Cond.static yX5_isCell, Cond.initialized RX5, Cond.code yX5_isCell cX5_isCell 1 (some .boolean), Cond.static yX5_isDirection, Cond.code yX5_isDirection cX5_isDirection 1 (some .boolean), Cond.methodLink RX3 48 yX3_shifted, Cond.static yX3_shifted, Cond.code yX3_shifted cX3_shifted 5 (some .int), Cond.fieldLink RX3 55 "Particleway$Field" "STEP_X" "[I", Cond.fieldLink RX3 58 "Particleway$Field" "STEP_Y" "[I", Cond.static yX5_isInField, Cond.code yX5_isInField cX5_isInField 2 (some .boolean), Cond.static yX5_numberOf, Cond.code yX5_numberOf cX5_numberOf 2 (some .int)]
def wsX4_move : List Cond := .code yX4_move cX4_move 3 none :: ((wsX4_move_r1 ++ wsX4_move_r2) ++ wsX40 ++ wsX10 ++ wsX30)
def wsX5_quotient : List Cond := .code yX5_quotient cX5_quotient 4 (some .long) :: ([])
def wsX4_compareFit : List Cond := .code yX4_compareFit cX4_compareFit 2 none :: ([.fieldLink RX4 56 "Particleway$Samples" "isRead" "Z", .fieldLink RX4 60 "Particleway$Samples" "slow" "I", .fieldLink RX4 63 "Particleway$Samples" "fast" "I", .methodLink RX4 99 Lib.Math.max.name, .static Lib.Math.max.name, .initialized "java/lang/Math", .code Lib.Math.max.name Lib.Math.max.code 2 (some .int), .fieldLink RX4 40 "Particleway$Samples" "doubt" "I"] ++ wsX40)
def wsX4_manyAnew_r1 : List Cond := [Cond.fieldLink RX4 9 "Particleway$Samples" "field" "LParticleway$Field;", Cond.methodLink RX4 112 Lib.Math.min.name, Cond.static Lib.Math.min.name, Cond.initialized "java/lang/Math", Cond.code Lib.Math.min.name Lib.Math.min.code 2 (some .int), Cond.methodLink RX4 104 yX4_chart, Cond.instanceMethod yX4_chart, Cond.selects RX4 yX4_chart yX4_chart, Cond.initialized RX4, Cond.code yX4_chart cX4_chart 2 (some (.object "Particleway$Chart")), Cond.fieldLink RX4 32 "Particleway$Samples" "counts" "LParticleway$Chart;", Cond.fieldLink RX4 36 "Particleway$Samples" "many" "I", Cond.fieldLink RX4 19 "Particleway$Samples" "cells" "[I", Cond.methodLink RX4 43 yX2_clear, Cond.instanceMethod yX2_clear, Cond.selects RX2 yX2_clear yX2_clear, Cond.initialized RX2, Cond.code yX2_clear cX2_clear 2 none, Cond.fieldLink RX2 9 "Particleway$Chart" "numbers" "[J", Cond.methodLink RX4 46 yX2_add, Cond.instanceMethod yX2_add, Cond.selects RX2 yX2_add yX2_add, Cond.code yX2_add cX2_add 4 none, Cond.static yX5_isCell]
def wsX4_manyAnew_r2 : List Cond := [Cond.initialized RX5, Cond.code yX5_isCell cX5_isCell 1 (some .boolean), Cond.methodLink RX4 108 yX2_at, Cond.instanceMethod yX2_at, Cond.selects RX2 yX2_at yX2_at, Cond.code yX2_at cX2_at 2 (some .long), Cond.methodLink RX4 80 yX3_weight, Cond.instanceMethod yX3_weight, Cond.selects RX3 yX3_weight yX3_weight, Cond.initialized RX3, Cond.code yX3_weight cX3_weight 4 (some .int), Cond.methodLink RX3 52 Lib.Math.abs.name, Cond.static Lib.Math.abs.name, Cond.code Lib.Math.abs.name Lib.Math.abs.code 1 (some .int), Cond.methodLink RX3 39 yX3_stepsAhead, Cond.instanceMethod yX3_stepsAhead, Cond.selects RX3 yX3_stepsAhead yX3_stepsAhead, Cond.code yX3_stepsAhead cX3_stepsAhead 3 (some .int), Cond.fieldLink RX3 15 "Particleway$Field" "ahead" "[I", Cond.static yX5_isDirection, Cond.code yX5_isDirection cX5_isDirection 1 (some .boolean)]
def wsX4_manyAnew : List Cond := .code yX4_manyAnew cX4_manyAnew 6 (some .int) :: ((wsX4_manyAnew_r1 ++ wsX4_manyAnew_r2) ++ wsX40 ++ wsX20 ++ wsX30)
def wsX4_oldCellBeyond : List Cond := .code yX4_oldCellBeyond cX4_oldCellBeyond 5 (some .int) :: ([.fieldLink RX4 36 "Particleway$Samples" "many" "I", .fieldLink RX4 26 "Particleway$Samples" "weights" "[I", .fieldLink RX4 23 "Particleway$Samples" "oldCells" "[I"] ++ wsX40)
def wsX4_drawAnew_r1 : List Cond := [Cond.fieldLink RX4 19 "Particleway$Samples" "cells" "[I", Cond.fieldLink RX4 23 "Particleway$Samples" "oldCells" "[I", Cond.methodLink RX4 115 arraycopyName, Cond.native arraycopyName, Cond.static arraycopyName, Cond.initialized "java/lang/System", Cond.fieldLink RX4 15 "Particleway$Samples" "chance" "LParticleway$Chance;", Cond.fieldLink RX4 40 "Particleway$Samples" "doubt" "I", Cond.fieldLink RX4 9 "Particleway$Samples" "field" "LParticleway$Field;", Cond.fieldLink RX4 36 "Particleway$Samples" "many" "I", Cond.methodLink RX4 74 yX1_remainder, Cond.instanceMethod yX1_remainder, Cond.selects RX1 yX1_remainder yX1_remainder, Cond.initialized RX1, Cond.code yX1_remainder cX1_remainder 2 (some .int), Cond.fieldLink RX1 7 "Particleway$Chance" "x" "I", Cond.constant RX1 13 (65537), Cond.methodLink RX4 50 yX3_drawnCell, Cond.instanceMethod yX3_drawnCell, Cond.selects RX3 yX3_drawnCell yX3_drawnCell, Cond.initialized RX3, Cond.code yX3_drawnCell cX3_drawnCell 4 (some .int), Cond.fieldLink RX3 26 "Particleway$Field" "free" "I", Cond.fieldLink RX3 9 "Particleway$Field" "walls" "[Z"]
def wsX4_drawAnew_r2 : List Cond := [Cond.methodLink RX3 30 yX1_remainder, Cond.static yX5_quotient, Cond.initialized RX5, Cond.code yX5_quotient cX5_quotient 4 (some .long), Cond.methodLink RX4 121 yX4_oldCellBeyond, Cond.instanceMethod yX4_oldCellBeyond, Cond.selects RX4 yX4_oldCellBeyond yX4_oldCellBeyond, Cond.initialized RX4, Cond.code yX4_oldCellBeyond cX4_oldCellBeyond 5 (some .int), Cond.fieldLink RX4 26 "Particleway$Samples" "weights" "[I"]
def wsX4_drawAnew : List Cond := .code yX4_drawAnew cX4_drawAnew 6 none :: ((wsX4_drawAnew_r1 ++ wsX4_drawAnew_r2) ++ wsX40 ++ wsX10 ++ wsX30)
def wsX4_weigh_r1 : List Cond := [Cond.fieldLink RX4 36 "Particleway$Samples" "many" "I", Cond.fieldLink RX4 26 "Particleway$Samples" "weights" "[I", Cond.fieldLink RX4 9 "Particleway$Samples" "field" "LParticleway$Field;", Cond.fieldLink RX4 19 "Particleway$Samples" "cells" "[I", Cond.methodLink RX4 80 yX3_weight, Cond.instanceMethod yX3_weight, Cond.selects RX3 yX3_weight yX3_weight, Cond.initialized RX3, Cond.code yX3_weight cX3_weight 4 (some .int), Cond.methodLink RX3 52 Lib.Math.abs.name, Cond.static Lib.Math.abs.name, Cond.initialized "java/lang/Math", Cond.code Lib.Math.abs.name Lib.Math.abs.code 1 (some .int), Cond.methodLink RX3 39 yX3_stepsAhead, Cond.instanceMethod yX3_stepsAhead, Cond.selects RX3 yX3_stepsAhead yX3_stepsAhead, Cond.code yX3_stepsAhead cX3_stepsAhead 3 (some .int), Cond.fieldLink RX3 15 "Particleway$Field" "ahead" "[I", Cond.static yX5_isCell, Cond.initialized RX5, Cond.code yX5_isCell cX5_isCell 1 (some .boolean), Cond.static yX5_isDirection, Cond.code yX5_isDirection cX5_isDirection 1 (some .boolean), Cond.static yX5_quotient]
def wsX4_weigh_r2 : List Cond := [Cond.code yX5_quotient cX5_quotient 4 (some .long), Cond.methodLink RX4 87 yX4_compareFit, Cond.instanceMethod yX4_compareFit, Cond.selects RX4 yX4_compareFit yX4_compareFit, Cond.initialized RX4, Cond.code yX4_compareFit cX4_compareFit 2 none, Cond.fieldLink RX4 56 "Particleway$Samples" "isRead" "Z", Cond.fieldLink RX4 60 "Particleway$Samples" "slow" "I", Cond.fieldLink RX4 63 "Particleway$Samples" "fast" "I", Cond.methodLink RX4 99 Lib.Math.max.name, Cond.static Lib.Math.max.name, Cond.code Lib.Math.max.name Lib.Math.max.code 2 (some .int), Cond.fieldLink RX4 40 "Particleway$Samples" "doubt" "I", Cond.methodLink RX4 91 yX4_manyAnew, Cond.instanceMethod yX4_manyAnew, Cond.selects RX4 yX4_manyAnew yX4_manyAnew, Cond.code yX4_manyAnew cX4_manyAnew 6 (some .int), Cond.methodLink RX4 112 Lib.Math.min.name, Cond.static Lib.Math.min.name, Cond.code Lib.Math.min.name Lib.Math.min.code 2 (some .int), Cond.methodLink RX4 104 yX4_chart, Cond.instanceMethod yX4_chart, Cond.selects RX4 yX4_chart yX4_chart, Cond.code yX4_chart cX4_chart 2 (some (.object "Particleway$Chart"))]
def wsX4_weigh_r3 : List Cond := [Cond.fieldLink RX4 32 "Particleway$Samples" "counts" "LParticleway$Chart;", Cond.methodLink RX4 43 yX2_clear, Cond.instanceMethod yX2_clear, Cond.selects RX2 yX2_clear yX2_clear, Cond.initialized RX2, Cond.code yX2_clear cX2_clear 2 none, Cond.fieldLink RX2 9 "Particleway$Chart" "numbers" "[J", Cond.methodLink RX4 46 yX2_add, Cond.instanceMethod yX2_add, Cond.selects RX2 yX2_add yX2_add, Cond.code yX2_add cX2_add 4 none, Cond.methodLink RX4 108 yX2_at, Cond.instanceMethod yX2_at, Cond.selects RX2 yX2_at yX2_at, Cond.code yX2_at cX2_at 2 (some .long), Cond.methodLink RX4 95 yX4_drawAnew, Cond.instanceMethod yX4_drawAnew, Cond.selects RX4 yX4_drawAnew yX4_drawAnew, Cond.code yX4_drawAnew cX4_drawAnew 6 none, Cond.fieldLink RX4 23 "Particleway$Samples" "oldCells" "[I", Cond.methodLink RX4 115 arraycopyName, Cond.native arraycopyName, Cond.static arraycopyName, Cond.initialized "java/lang/System"]
def wsX4_weigh_r4 : List Cond := [Cond.fieldLink RX4 15 "Particleway$Samples" "chance" "LParticleway$Chance;", Cond.methodLink RX4 74 yX1_remainder, Cond.instanceMethod yX1_remainder, Cond.selects RX1 yX1_remainder yX1_remainder, Cond.initialized RX1, Cond.code yX1_remainder cX1_remainder 2 (some .int), Cond.fieldLink RX1 7 "Particleway$Chance" "x" "I", Cond.constant RX1 13 (65537), Cond.methodLink RX4 50 yX3_drawnCell, Cond.instanceMethod yX3_drawnCell, Cond.selects RX3 yX3_drawnCell yX3_drawnCell, Cond.code yX3_drawnCell cX3_drawnCell 4 (some .int), Cond.fieldLink RX3 26 "Particleway$Field" "free" "I", Cond.fieldLink RX3 9 "Particleway$Field" "walls" "[Z", Cond.methodLink RX3 30 yX1_remainder, Cond.methodLink RX4 121 yX4_oldCellBeyond, Cond.instanceMethod yX4_oldCellBeyond, Cond.selects RX4 yX4_oldCellBeyond yX4_oldCellBeyond, Cond.code yX4_oldCellBeyond cX4_oldCellBeyond 5 (some .int)]
def wsX4_weigh : List Cond := .code yX4_weigh cX4_weigh 5 (some .int) :: ((wsX4_weigh_r1 ++ (wsX4_weigh_r2 ++ (wsX4_weigh_r3 ++ wsX4_weigh_r4))) ++ wsX40 ++ wsX30 ++ wsX20 ++ wsX10)
def wsX5_init_r1 : List Cond := [Cond.methodLink RX5 1 objectInit, Cond.instanceMethod objectInit, Cond.code objectInit ⟨#[0xb1]⟩ 1 none, Cond.classLink RX5 7 RX3, Cond.instantiable RX3 3, Cond.initialized RX3, Cond.fieldLink RX5 10 "Particleway" "field" "LParticleway$Field;", Cond.classLink RX5 16 RX1, Cond.instantiable RX1 1, Cond.initialized RX1, Cond.fieldLink RX5 19 "Particleway" "chance" "LParticleway$Chance;", Cond.classLink RX5 23 RX4, Cond.instantiable RX4 11, Cond.initialized RX4, Cond.fieldLink RX5 28 "Particleway" "samples" "LParticleway$Samples;", Cond.classLink RX5 32 RX0, Cond.instantiable RX0 3, Cond.initialized RX0, Cond.fieldLink RX5 37 "Particleway" "beliefs" "LParticleway$Beliefs;", Cond.fieldLink RX5 41 "Particleway" "beliefsAnew" "LParticleway$Beliefs;", Cond.arrayClass .int, Cond.fieldLink RX5 44 "Particleway" "toldDirections" "[I", Cond.fieldLink RX5 48 "Particleway" "toldReadings" "[I", Cond.fieldLink RX5 51 "Particleway" "told" "I"]
def wsX5_init_r2 : List Cond := [Cond.fieldLink RX5 55 "Particleway" "isSpread" "Z", Cond.methodLink RX5 9 yX3_init, Cond.instanceMethod yX3_init, Cond.code yX3_init cX3_init 1 none, Cond.methodLink RX3 3 objectInit, Cond.arrayClass .boolean, Cond.fieldLink RX3 9 "Particleway$Field" "walls" "[Z", Cond.fieldLink RX3 15 "Particleway$Field" "ahead" "[I", Cond.methodLink RX3 19 yX3_measure, Cond.instanceMethod yX3_measure, Cond.selects RX3 yX3_measure yX3_measure, Cond.code yX3_measure cX3_measure 3 none, Cond.fieldLink RX3 26 "Particleway$Field" "free" "I", Cond.methodLink RX3 68 yX3_countedSteps, Cond.instanceMethod yX3_countedSteps, Cond.selects RX3 yX3_countedSteps yX3_countedSteps, Cond.code yX3_countedSteps cX3_countedSteps 4 (some .int), Cond.methodLink RX3 48 yX3_shifted, Cond.static yX3_shifted, Cond.code yX3_shifted cX3_shifted 5 (some .int), Cond.fieldLink RX3 55 "Particleway$Field" "STEP_X" "[I", Cond.fieldLink RX3 58 "Particleway$Field" "STEP_Y" "[I", Cond.static yX5_isCell, Cond.initialized RX5]
def wsX5_init_r3 : List Cond := [Cond.code yX5_isCell cX5_isCell 1 (some .boolean), Cond.static yX5_isDirection, Cond.code yX5_isDirection cX5_isDirection 1 (some .boolean), Cond.static yX5_isInField, Cond.code yX5_isInField cX5_isInField 2 (some .boolean), Cond.static yX5_numberOf, Cond.code yX5_numberOf cX5_numberOf 2 (some .int), Cond.methodLink RX3 71 yX3_isFree, Cond.instanceMethod yX3_isFree, Cond.selects RX3 yX3_isFree yX3_isFree, Cond.code yX3_isFree cX3_isFree 2 (some .boolean), Cond.methodLink RX5 18 yX1_init, Cond.instanceMethod yX1_init, Cond.code yX1_init cX1_init 1 none, Cond.methodLink RX1 1 objectInit, Cond.fieldLink RX1 7 "Particleway$Chance" "x" "I", Cond.methodLink RX5 25 yX4_init, Cond.instanceMethod yX4_init, Cond.code yX4_init cX4_init 3 none, Cond.methodLink RX4 3 objectInit, Cond.fieldLink RX4 9 "Particleway$Samples" "field" "LParticleway$Field;", Cond.fieldLink RX4 15 "Particleway$Samples" "chance" "LParticleway$Chance;", Cond.fieldLink RX4 19 "Particleway$Samples" "cells" "[I", Cond.fieldLink RX4 23 "Particleway$Samples" "oldCells" "[I"]
def wsX5_init_r4 : List Cond := [Cond.fieldLink RX4 26 "Particleway$Samples" "weights" "[I", Cond.classLink RX4 29 RX2, Cond.instantiable RX2 1, Cond.initialized RX2, Cond.fieldLink RX4 32 "Particleway$Samples" "counts" "LParticleway$Chart;", Cond.fieldLink RX4 36 "Particleway$Samples" "many" "I", Cond.methodLink RX4 31 yX2_init, Cond.instanceMethod yX2_init, Cond.code yX2_init cX2_init 1 none, Cond.methodLink RX2 3 objectInit, Cond.arrayClass .long, Cond.fieldLink RX2 9 "Particleway$Chart" "numbers" "[J", Cond.methodLink RX5 34 yX0_init, Cond.instanceMethod yX0_init, Cond.code yX0_init cX0_init 2 none, Cond.methodLink RX0 3 objectInit, Cond.fieldLink RX0 9 "Particleway$Beliefs" "field" "LParticleway$Field;", Cond.classLink RX0 15 RX2, Cond.fieldLink RX0 18 "Particleway$Beliefs" "now" "LParticleway$Chart;", Cond.fieldLink RX0 22 "Particleway$Beliefs" "before" "LParticleway$Chart;", Cond.methodLink RX0 17 yX2_init]
def wsX5_init : List Cond := .code yX5_init cX5_init 1 none :: ((wsX5_init_r1 ++ (wsX5_init_r2 ++ (wsX5_init_r3 ++ wsX5_init_r4))) ++ wsX30 ++ wsX50 ++ wsX10 ++ wsX40 ++ wsX00 ++ wsX20)
def wsX5_checkCell : List Cond := .code yX5_checkCell cX5_checkCell 2 none :: ([.classLink RX5 125 "java/lang/IndexOutOfBoundsException", .initialized "java/lang/IndexOutOfBoundsException", .methodLink RX5 178 yX5_isInField, .static yX5_isInField, .initialized RX5, .code yX5_isInField cX5_isInField 2 (some .boolean)] ++ (vx_at0 RX5 127 "java/lang/IndexOutOfBoundsException" ["java/lang/RuntimeException", "java/lang/Exception"]).filter goodWord)
def wsX5_wall_r1 : List Cond := [Cond.classLink RX5 75 "java/lang/IllegalStateException", Cond.initialized "java/lang/IllegalStateException", Cond.fieldLink RX5 10 "Particleway" "field" "LParticleway$Field;", Cond.fieldLink RX5 55 "Particleway" "isSpread" "Z", Cond.methodLink RX5 59 yX5_checkCell, Cond.static yX5_checkCell, Cond.initialized RX5, Cond.code yX5_checkCell cX5_checkCell 2 none, Cond.classLink RX5 125 "java/lang/IndexOutOfBoundsException", Cond.initialized "java/lang/IndexOutOfBoundsException", Cond.methodLink RX5 178 yX5_isInField, Cond.static yX5_isInField, Cond.code yX5_isInField cX5_isInField 2 (some .boolean), Cond.methodLink RX5 63 yX5_numberOf, Cond.static yX5_numberOf, Cond.code yX5_numberOf cX5_numberOf 2 (some .int), Cond.methodLink RX5 67 yX3_isFree, Cond.instanceMethod yX3_isFree, Cond.selects RX3 yX3_isFree yX3_isFree, Cond.initialized RX3, Cond.code yX3_isFree cX3_isFree 2 (some .boolean), Cond.fieldLink RX3 9 "Particleway$Field" "walls" "[Z", Cond.static yX5_isCell, Cond.code yX5_isCell cX5_isCell 1 (some .boolean)]
def wsX5_wall_r2 : List Cond := [Cond.methodLink RX5 71 yX3_freeCells, Cond.instanceMethod yX3_freeCells, Cond.selects RX3 yX3_freeCells yX3_freeCells, Cond.code yX3_freeCells cX3_freeCells 1 (some .int), Cond.fieldLink RX3 26 "Particleway$Field" "free" "I", Cond.methodLink RX5 78 yX3_build, Cond.instanceMethod yX3_build, Cond.selects RX3 yX3_build yX3_build, Cond.code yX3_build cX3_build 3 none, Cond.methodLink RX3 19 yX3_measure, Cond.instanceMethod yX3_measure, Cond.selects RX3 yX3_measure yX3_measure, Cond.code yX3_measure cX3_measure 3 none, Cond.fieldLink RX3 15 "Particleway$Field" "ahead" "[I", Cond.methodLink RX3 68 yX3_countedSteps, Cond.instanceMethod yX3_countedSteps, Cond.selects RX3 yX3_countedSteps yX3_countedSteps, Cond.code yX3_countedSteps cX3_countedSteps 4 (some .int), Cond.methodLink RX3 48 yX3_shifted, Cond.static yX3_shifted, Cond.code yX3_shifted cX3_shifted 5 (some .int), Cond.fieldLink RX3 55 "Particleway$Field" "STEP_X" "[I", Cond.fieldLink RX3 58 "Particleway$Field" "STEP_Y" "[I", Cond.static yX5_isDirection]
def wsX5_wall_r3 : List Cond := [Cond.code yX5_isDirection cX5_isDirection 1 (some .boolean), Cond.methodLink RX3 71 yX3_isFree]
def wsX5_wall : List Cond := .code yX5_wall cX5_wall 7 (some .boolean) :: ((wsX5_wall_r1 ++ (wsX5_wall_r2 ++ wsX5_wall_r3)) ++ wsX50 ++ wsX30 ++ (vx_at0 RX5 77 "java/lang/IllegalStateException" ["java/lang/RuntimeException", "java/lang/Exception"]).filter goodWord ++ (vx_at0 RX5 127 "java/lang/IndexOutOfBoundsException" ["java/lang/RuntimeException", "java/lang/Exception"]).filter goodWord)
def wsX5_draw : List Cond := .code yX5_draw cX5_draw 2 (some .int) :: ([.classLink RX5 83 "java/lang/IllegalArgumentException", .initialized "java/lang/IllegalArgumentException", .constant RX5 82 (65536), .fieldLink RX5 19 "Particleway" "chance" "LParticleway$Chance;", .methodLink RX5 86 yX1_change, .instanceMethod yX1_change, .selects RX1 yX1_change yX1_change, .initialized RX1, .code yX1_change cX1_change 3 (some .int), .fieldLink RX1 7 "Particleway$Chance" "x" "I"] ++ wsX50 ++ wsX10 ++ (vx_at0 RX5 85 "java/lang/IllegalArgumentException" ["java/lang/RuntimeException", "java/lang/Exception"]).filter goodWord)
def wsX5_spread_r1 : List Cond := [Cond.classLink RX5 83 "java/lang/IllegalArgumentException", Cond.initialized "java/lang/IllegalArgumentException", Cond.fieldLink RX5 28 "Particleway" "samples" "LParticleway$Samples;", Cond.fieldLink RX5 37 "Particleway" "beliefs" "LParticleway$Beliefs;", Cond.fieldLink RX5 51 "Particleway" "told" "I", Cond.fieldLink RX5 55 "Particleway" "isSpread" "Z", Cond.methodLink RX5 90 yX4_begin, Cond.instanceMethod yX4_begin, Cond.selects RX4 yX4_begin yX4_begin, Cond.initialized RX4, Cond.code yX4_begin cX4_begin 3 none, Cond.fieldLink RX4 36 "Particleway$Samples" "many" "I", Cond.fieldLink RX4 19 "Particleway$Samples" "cells" "[I", Cond.fieldLink RX4 9 "Particleway$Samples" "field" "LParticleway$Field;", Cond.fieldLink RX4 15 "Particleway$Samples" "chance" "LParticleway$Chance;", Cond.fieldLink RX4 56 "Particleway$Samples" "isRead" "Z", Cond.fieldLink RX4 60 "Particleway$Samples" "slow" "I", Cond.fieldLink RX4 63 "Particleway$Samples" "fast" "I", Cond.fieldLink RX4 40 "Particleway$Samples" "doubt" "I", Cond.methodLink RX4 50 yX3_drawnCell, Cond.instanceMethod yX3_drawnCell, Cond.selects RX3 yX3_drawnCell yX3_drawnCell, Cond.initialized RX3, Cond.code yX3_drawnCell cX3_drawnCell 4 (some .int)]
def wsX5_spread_r2 : List Cond := [Cond.fieldLink RX3 26 "Particleway$Field" "free" "I", Cond.fieldLink RX3 9 "Particleway$Field" "walls" "[Z", Cond.methodLink RX3 30 yX1_remainder, Cond.instanceMethod yX1_remainder, Cond.selects RX1 yX1_remainder yX1_remainder, Cond.initialized RX1, Cond.code yX1_remainder cX1_remainder 2 (some .int), Cond.fieldLink RX1 7 "Particleway$Chance" "x" "I", Cond.constant RX1 13 (65537), Cond.methodLink RX5 94 yX0_begin, Cond.instanceMethod yX0_begin, Cond.selects RX0 yX0_begin yX0_begin, Cond.initialized RX0, Cond.code yX0_begin cX0_begin 2 none, Cond.fieldLink RX0 18 "Particleway$Beliefs" "now" "LParticleway$Chart;", Cond.fieldLink RX0 9 "Particleway$Beliefs" "field" "LParticleway$Field;", Cond.methodLink RX0 25 yX3_isFree, Cond.instanceMethod yX3_isFree, Cond.selects RX3 yX3_isFree yX3_isFree, Cond.code yX3_isFree cX3_isFree 2 (some .boolean), Cond.static yX5_isCell, Cond.initialized RX5, Cond.code yX5_isCell cX5_isCell 1 (some .boolean), Cond.methodLink RX0 31 yX2_put]
def wsX5_spread_r3 : List Cond := [Cond.instanceMethod yX2_put, Cond.selects RX2 yX2_put yX2_put, Cond.initialized RX2, Cond.code yX2_put cX2_put 4 none, Cond.fieldLink RX2 9 "Particleway$Chart" "numbers" "[J"]
def wsX5_spread : List Cond := .code yX5_spread cX5_spread 2 none :: ((wsX5_spread_r1 ++ (wsX5_spread_r2 ++ wsX5_spread_r3)) ++ wsX50 ++ wsX40 ++ wsX30 ++ wsX10 ++ wsX00 ++ wsX20 ++ (vx_at0 RX5 85 "java/lang/IllegalArgumentException" ["java/lang/RuntimeException", "java/lang/Exception"]).filter goodWord)
def wsX5_checkDirection : List Cond := .code yX5_checkDirection cX5_checkDirection 1 none :: ([.classLink RX5 125 "java/lang/IndexOutOfBoundsException", .initialized "java/lang/IndexOutOfBoundsException", .methodLink RX5 182 yX5_isDirection, .static yX5_isDirection, .initialized RX5, .code yX5_isDirection cX5_isDirection 1 (some .boolean)] ++ (vx_at0 RX5 127 "java/lang/IndexOutOfBoundsException" ["java/lang/RuntimeException", "java/lang/Exception"]).filter goodWord)
def wsX5_checkMayTell : List Cond := .code yX5_checkMayTell cX5_checkMayTell 1 none :: ([.classLink RX5 75 "java/lang/IllegalStateException", .initialized "java/lang/IllegalStateException", .fieldLink RX5 55 "Particleway" "isSpread" "Z", .fieldLink RX5 51 "Particleway" "told" "I"] ++ wsX50 ++ (vx_at0 RX5 77 "java/lang/IllegalStateException" ["java/lang/RuntimeException", "java/lang/Exception"]).filter goodWord)
def wsX5_keep : List Cond := .code yX5_keep cX5_keep 3 none :: ([.fieldLink RX5 51 "Particleway" "told" "I", .fieldLink RX5 44 "Particleway" "toldDirections" "[I", .fieldLink RX5 48 "Particleway" "toldReadings" "[I"] ++ wsX50)
def wsX5_drive_r1 : List Cond := [Cond.fieldLink RX5 28 "Particleway" "samples" "LParticleway$Samples;", Cond.fieldLink RX5 37 "Particleway" "beliefs" "LParticleway$Beliefs;", Cond.methodLink RX5 96 yX5_checkDirection, Cond.static yX5_checkDirection, Cond.initialized RX5, Cond.code yX5_checkDirection cX5_checkDirection 1 none, Cond.classLink RX5 125 "java/lang/IndexOutOfBoundsException", Cond.initialized "java/lang/IndexOutOfBoundsException", Cond.methodLink RX5 182 yX5_isDirection, Cond.static yX5_isDirection, Cond.code yX5_isDirection cX5_isDirection 1 (some .boolean), Cond.methodLink RX5 99 yX5_checkMayTell, Cond.instanceMethod yX5_checkMayTell, Cond.selects RX5 yX5_checkMayTell yX5_checkMayTell, Cond.code yX5_checkMayTell cX5_checkMayTell 1 none, Cond.classLink RX5 75 "java/lang/IllegalStateException", Cond.initialized "java/lang/IllegalStateException", Cond.fieldLink RX5 55 "Particleway" "isSpread" "Z", Cond.fieldLink RX5 51 "Particleway" "told" "I", Cond.methodLink RX5 102 yX4_move, Cond.instanceMethod yX4_move, Cond.selects RX4 yX4_move yX4_move, Cond.initialized RX4, Cond.code yX4_move cX4_move 3 none]
def wsX5_drive_r2 : List Cond := [Cond.fieldLink RX4 36 "Particleway$Samples" "many" "I", Cond.fieldLink RX4 19 "Particleway$Samples" "cells" "[I", Cond.fieldLink RX4 9 "Particleway$Samples" "field" "LParticleway$Field;", Cond.methodLink RX4 66 yX4_drawnSteps, Cond.instanceMethod yX4_drawnSteps, Cond.selects RX4 yX4_drawnSteps yX4_drawnSteps, Cond.code yX4_drawnSteps cX4_drawnSteps 2 (some .int), Cond.fieldLink RX4 15 "Particleway$Samples" "chance" "LParticleway$Chance;", Cond.methodLink RX4 74 yX1_remainder, Cond.instanceMethod yX1_remainder, Cond.selects RX1 yX1_remainder yX1_remainder, Cond.initialized RX1, Cond.code yX1_remainder cX1_remainder 2 (some .int), Cond.fieldLink RX1 7 "Particleway$Chance" "x" "I", Cond.constant RX1 13 (65537), Cond.methodLink RX4 70 yX3_led, Cond.instanceMethod yX3_led, Cond.selects RX3 yX3_led yX3_led, Cond.initialized RX3, Cond.code yX3_led cX3_led 4 (some .int), Cond.methodLink RX3 43 Lib.Math.min.name, Cond.static Lib.Math.min.name, Cond.initialized "java/lang/Math", Cond.code Lib.Math.min.name Lib.Math.min.code 2 (some .int)]
def wsX5_drive_r3 : List Cond := [Cond.methodLink RX3 39 yX3_stepsAhead, Cond.instanceMethod yX3_stepsAhead, Cond.selects RX3 yX3_stepsAhead yX3_stepsAhead, Cond.code yX3_stepsAhead cX3_stepsAhead 3 (some .int), Cond.fieldLink RX3 15 "Particleway$Field" "ahead" "[I", Cond.static yX5_isCell, Cond.code yX5_isCell cX5_isCell 1 (some .boolean), Cond.methodLink RX3 48 yX3_shifted, Cond.static yX3_shifted, Cond.code yX3_shifted cX3_shifted 5 (some .int), Cond.fieldLink RX3 55 "Particleway$Field" "STEP_X" "[I", Cond.fieldLink RX3 58 "Particleway$Field" "STEP_Y" "[I", Cond.static yX5_isInField, Cond.code yX5_isInField cX5_isInField 2 (some .boolean), Cond.static yX5_numberOf, Cond.code yX5_numberOf cX5_numberOf 2 (some .int), Cond.methodLink RX5 105 yX0_push, Cond.instanceMethod yX0_push, Cond.selects RX0 yX0_push yX0_push, Cond.initialized RX0, Cond.code yX0_push cX0_push 3 none, Cond.fieldLink RX0 22 "Particleway$Beliefs" "before" "LParticleway$Chart;", Cond.fieldLink RX0 18 "Particleway$Beliefs" "now" "LParticleway$Chart;", Cond.fieldLink RX0 9 "Particleway$Beliefs" "field" "LParticleway$Field;"]
def wsX5_drive_r4 : List Cond := [Cond.constantLong RX0 42 (3), Cond.constantLong RX0 55 (12), Cond.methodLink RX0 35 yX2_copy, Cond.instanceMethod yX2_copy, Cond.selects RX2 yX2_copy yX2_copy, Cond.initialized RX2, Cond.code yX2_copy cX2_copy 2 none, Cond.fieldLink RX2 9 "Particleway$Chart" "numbers" "[J", Cond.methodLink RX2 21 arraycopyName, Cond.native arraycopyName, Cond.static arraycopyName, Cond.initialized "java/lang/System", Cond.methodLink RX0 39 yX2_clear, Cond.instanceMethod yX2_clear, Cond.selects RX2 yX2_clear yX2_clear, Cond.code yX2_clear cX2_clear 2 none, Cond.methodLink RX0 25 yX3_isFree, Cond.instanceMethod yX3_isFree, Cond.selects RX3 yX3_isFree yX3_isFree, Cond.code yX3_isFree cX3_isFree 2 (some .boolean), Cond.fieldLink RX3 9 "Particleway$Field" "walls" "[Z", Cond.methodLink RX0 44 yX2_at, Cond.instanceMethod yX2_at, Cond.selects RX2 yX2_at yX2_at]
def wsX5_drive_r5 : List Cond := [Cond.code yX2_at cX2_at 2 (some .long), Cond.methodLink RX0 48 yX2_add, Cond.instanceMethod yX2_add, Cond.selects RX2 yX2_add yX2_add, Cond.code yX2_add cX2_add 4 none, Cond.methodLink RX0 51 yX3_led, Cond.methodLink RX0 57 yX0_halveGreat, Cond.instanceMethod yX0_halveGreat, Cond.selects RX0 yX0_halveGreat yX0_halveGreat, Cond.code yX0_halveGreat cX0_halveGreat 2 none, Cond.constantLong RX0 77 (1099511627776), Cond.methodLink RX0 70 yX2_greatest, Cond.instanceMethod yX2_greatest, Cond.selects RX2 yX2_greatest yX2_greatest, Cond.code yX2_greatest cX2_greatest 4 (some .long), Cond.methodLink RX2 27 Lib.MathLoose.max_long.x, Cond.static Lib.MathLoose.max_long.x, Cond.code Lib.MathLoose.max_long.x Lib.MathLoose.max_long.code 4 (some .long), Cond.methodLink RX0 79 yX2_halve, Cond.instanceMethod yX2_halve, Cond.selects RX2 yX2_halve yX2_halve, Cond.code yX2_halve cX2_halve 2 none, Cond.constantLong RX2 19 (2), Cond.methodLink RX5 108 yX5_keep]
def wsX5_drive_r6 : List Cond := [Cond.instanceMethod yX5_keep, Cond.selects RX5 yX5_keep yX5_keep, Cond.code yX5_keep cX5_keep 3 none, Cond.fieldLink RX5 44 "Particleway" "toldDirections" "[I", Cond.fieldLink RX5 48 "Particleway" "toldReadings" "[I"]
def wsX5_drive : List Cond := .code yX5_drive cX5_drive 2 none :: ((wsX5_drive_r1 ++ (wsX5_drive_r2 ++ (wsX5_drive_r3 ++ (wsX5_drive_r4 ++ (wsX5_drive_r5 ++ wsX5_drive_r6))))) ++ wsX50 ++ wsX40 ++ wsX10 ++ wsX30 ++ wsX00 ++ wsX20 ++ (vx_at0 RX5 127 "java/lang/IndexOutOfBoundsException" ["java/lang/RuntimeException", "java/lang/Exception"]).filter goodWord ++ (vx_at0 RX5 77 "java/lang/IllegalStateException" ["java/lang/RuntimeException", "java/lang/Exception"]).filter goodWord)
def wsX5_read_r1 : List Cond := [Cond.classLink RX5 83 "java/lang/IllegalArgumentException", Cond.initialized "java/lang/IllegalArgumentException", Cond.fieldLink RX5 28 "Particleway" "samples" "LParticleway$Samples;", Cond.fieldLink RX5 37 "Particleway" "beliefs" "LParticleway$Beliefs;", Cond.methodLink RX5 96 yX5_checkDirection, Cond.static yX5_checkDirection, Cond.initialized RX5, Cond.code yX5_checkDirection cX5_checkDirection 1 none, Cond.classLink RX5 125 "java/lang/IndexOutOfBoundsException", Cond.initialized "java/lang/IndexOutOfBoundsException", Cond.methodLink RX5 182 yX5_isDirection, Cond.static yX5_isDirection, Cond.code yX5_isDirection cX5_isDirection 1 (some .boolean), Cond.methodLink RX5 99 yX5_checkMayTell, Cond.instanceMethod yX5_checkMayTell, Cond.selects RX5 yX5_checkMayTell yX5_checkMayTell, Cond.code yX5_checkMayTell cX5_checkMayTell 1 none, Cond.classLink RX5 75 "java/lang/IllegalStateException", Cond.initialized "java/lang/IllegalStateException", Cond.fieldLink RX5 55 "Particleway" "isSpread" "Z", Cond.fieldLink RX5 51 "Particleway" "told" "I", Cond.methodLink RX5 111 yX4_weigh, Cond.instanceMethod yX4_weigh, Cond.selects RX4 yX4_weigh yX4_weigh]
def wsX5_read_r2 : List Cond := [Cond.initialized RX4, Cond.code yX4_weigh cX4_weigh 5 (some .int), Cond.fieldLink RX4 36 "Particleway$Samples" "many" "I", Cond.fieldLink RX4 26 "Particleway$Samples" "weights" "[I", Cond.fieldLink RX4 9 "Particleway$Samples" "field" "LParticleway$Field;", Cond.fieldLink RX4 19 "Particleway$Samples" "cells" "[I", Cond.methodLink RX4 80 yX3_weight, Cond.instanceMethod yX3_weight, Cond.selects RX3 yX3_weight yX3_weight, Cond.initialized RX3, Cond.code yX3_weight cX3_weight 4 (some .int), Cond.methodLink RX3 52 Lib.Math.abs.name, Cond.static Lib.Math.abs.name, Cond.initialized "java/lang/Math", Cond.code Lib.Math.abs.name Lib.Math.abs.code 1 (some .int), Cond.methodLink RX3 39 yX3_stepsAhead, Cond.instanceMethod yX3_stepsAhead, Cond.selects RX3 yX3_stepsAhead yX3_stepsAhead, Cond.code yX3_stepsAhead cX3_stepsAhead 3 (some .int), Cond.fieldLink RX3 15 "Particleway$Field" "ahead" "[I", Cond.static yX5_isCell, Cond.code yX5_isCell cX5_isCell 1 (some .boolean), Cond.static yX5_quotient, Cond.code yX5_quotient cX5_quotient 4 (some .long)]
def wsX5_read_r3 : List Cond := [Cond.methodLink RX4 87 yX4_compareFit, Cond.instanceMethod yX4_compareFit, Cond.selects RX4 yX4_compareFit yX4_compareFit, Cond.code yX4_compareFit cX4_compareFit 2 none, Cond.fieldLink RX4 56 "Particleway$Samples" "isRead" "Z", Cond.fieldLink RX4 60 "Particleway$Samples" "slow" "I", Cond.fieldLink RX4 63 "Particleway$Samples" "fast" "I", Cond.methodLink RX4 99 Lib.Math.max.name, Cond.static Lib.Math.max.name, Cond.code Lib.Math.max.name Lib.Math.max.code 2 (some .int), Cond.fieldLink RX4 40 "Particleway$Samples" "doubt" "I", Cond.methodLink RX4 91 yX4_manyAnew, Cond.instanceMethod yX4_manyAnew, Cond.selects RX4 yX4_manyAnew yX4_manyAnew, Cond.code yX4_manyAnew cX4_manyAnew 6 (some .int), Cond.methodLink RX4 112 Lib.Math.min.name, Cond.static Lib.Math.min.name, Cond.code Lib.Math.min.name Lib.Math.min.code 2 (some .int), Cond.methodLink RX4 104 yX4_chart, Cond.instanceMethod yX4_chart, Cond.selects RX4 yX4_chart yX4_chart, Cond.code yX4_chart cX4_chart 2 (some (.object "Particleway$Chart")), Cond.fieldLink RX4 32 "Particleway$Samples" "counts" "LParticleway$Chart;", Cond.methodLink RX4 43 yX2_clear]
def wsX5_read_r4 : List Cond := [Cond.instanceMethod yX2_clear, Cond.selects RX2 yX2_clear yX2_clear, Cond.initialized RX2, Cond.code yX2_clear cX2_clear 2 none, Cond.fieldLink RX2 9 "Particleway$Chart" "numbers" "[J", Cond.methodLink RX4 46 yX2_add, Cond.instanceMethod yX2_add, Cond.selects RX2 yX2_add yX2_add, Cond.code yX2_add cX2_add 4 none, Cond.methodLink RX4 108 yX2_at, Cond.instanceMethod yX2_at, Cond.selects RX2 yX2_at yX2_at, Cond.code yX2_at cX2_at 2 (some .long), Cond.methodLink RX4 95 yX4_drawAnew, Cond.instanceMethod yX4_drawAnew, Cond.selects RX4 yX4_drawAnew yX4_drawAnew, Cond.code yX4_drawAnew cX4_drawAnew 6 none, Cond.fieldLink RX4 23 "Particleway$Samples" "oldCells" "[I", Cond.methodLink RX4 115 arraycopyName, Cond.native arraycopyName, Cond.static arraycopyName, Cond.initialized "java/lang/System", Cond.fieldLink RX4 15 "Particleway$Samples" "chance" "LParticleway$Chance;", Cond.methodLink RX4 74 yX1_remainder]
def wsX5_read_r5 : List Cond := [Cond.instanceMethod yX1_remainder, Cond.selects RX1 yX1_remainder yX1_remainder, Cond.initialized RX1, Cond.code yX1_remainder cX1_remainder 2 (some .int), Cond.fieldLink RX1 7 "Particleway$Chance" "x" "I", Cond.constant RX1 13 (65537), Cond.methodLink RX4 50 yX3_drawnCell, Cond.instanceMethod yX3_drawnCell, Cond.selects RX3 yX3_drawnCell yX3_drawnCell, Cond.code yX3_drawnCell cX3_drawnCell 4 (some .int), Cond.fieldLink RX3 26 "Particleway$Field" "free" "I", Cond.fieldLink RX3 9 "Particleway$Field" "walls" "[Z", Cond.methodLink RX3 30 yX1_remainder, Cond.methodLink RX4 121 yX4_oldCellBeyond, Cond.instanceMethod yX4_oldCellBeyond, Cond.selects RX4 yX4_oldCellBeyond yX4_oldCellBeyond, Cond.code yX4_oldCellBeyond cX4_oldCellBeyond 5 (some .int), Cond.methodLink RX5 114 yX0_weigh, Cond.instanceMethod yX0_weigh, Cond.selects RX0 yX0_weigh yX0_weigh, Cond.initialized RX0, Cond.code yX0_weigh cX0_weigh 4 none, Cond.fieldLink RX0 18 "Particleway$Beliefs" "now" "LParticleway$Chart;", Cond.fieldLink RX0 9 "Particleway$Beliefs" "field" "LParticleway$Field;"]
def wsX5_read_r6 : List Cond := [Cond.methodLink RX0 44 yX2_at, Cond.methodLink RX0 67 yX3_weight, Cond.methodLink RX0 31 yX2_put, Cond.instanceMethod yX2_put, Cond.selects RX2 yX2_put yX2_put, Cond.code yX2_put cX2_put 4 none, Cond.methodLink RX0 70 yX2_greatest, Cond.instanceMethod yX2_greatest, Cond.selects RX2 yX2_greatest yX2_greatest, Cond.code yX2_greatest cX2_greatest 4 (some .long), Cond.methodLink RX2 27 Lib.MathLoose.max_long.x, Cond.static Lib.MathLoose.max_long.x, Cond.code Lib.MathLoose.max_long.x Lib.MathLoose.max_long.code 4 (some .long), Cond.methodLink RX0 74 yX0_begin, Cond.instanceMethod yX0_begin, Cond.selects RX0 yX0_begin yX0_begin, Cond.code yX0_begin cX0_begin 2 none, Cond.methodLink RX0 25 yX3_isFree, Cond.instanceMethod yX3_isFree, Cond.selects RX3 yX3_isFree yX3_isFree, Cond.code yX3_isFree cX3_isFree 2 (some .boolean), Cond.methodLink RX0 57 yX0_halveGreat, Cond.instanceMethod yX0_halveGreat, Cond.selects RX0 yX0_halveGreat yX0_halveGreat]
def wsX5_read_r7 : List Cond := [Cond.code yX0_halveGreat cX0_halveGreat 2 none, Cond.constantLong RX0 77 (1099511627776), Cond.methodLink RX0 79 yX2_halve, Cond.instanceMethod yX2_halve, Cond.selects RX2 yX2_halve yX2_halve, Cond.code yX2_halve cX2_halve 2 none, Cond.constantLong RX2 19 (2), Cond.methodLink RX5 108 yX5_keep, Cond.instanceMethod yX5_keep, Cond.selects RX5 yX5_keep yX5_keep, Cond.code yX5_keep cX5_keep 3 none, Cond.fieldLink RX5 44 "Particleway" "toldDirections" "[I", Cond.fieldLink RX5 48 "Particleway" "toldReadings" "[I"]
def wsX5_read : List Cond := .code yX5_read cX5_read 4 (some .int) :: ((wsX5_read_r1 ++ (wsX5_read_r2 ++ (wsX5_read_r3 ++ (wsX5_read_r4 ++ (wsX5_read_r5 ++ (wsX5_read_r6 ++ wsX5_read_r7)))))) ++ wsX50 ++ wsX40 ++ wsX30 ++ wsX20 ++ wsX10 ++ wsX00 ++ (vx_at0 RX5 85 "java/lang/IllegalArgumentException" ["java/lang/RuntimeException", "java/lang/Exception"]).filter goodWord ++ (vx_at0 RX5 127 "java/lang/IndexOutOfBoundsException" ["java/lang/RuntimeException", "java/lang/Exception"]).filter goodWord ++ (vx_at0 RX5 77 "java/lang/IllegalStateException" ["java/lang/RuntimeException", "java/lang/Exception"]).filter goodWord)
def wsX5_toRead_r1 : List Cond := [Cond.fieldLink RX5 10 "Particleway" "field" "LParticleway$Field;", Cond.methodLink RX5 59 yX5_checkCell, Cond.static yX5_checkCell, Cond.initialized RX5, Cond.code yX5_checkCell cX5_checkCell 2 none, Cond.classLink RX5 125 "java/lang/IndexOutOfBoundsException", Cond.initialized "java/lang/IndexOutOfBoundsException", Cond.methodLink RX5 178 yX5_isInField, Cond.static yX5_isInField, Cond.code yX5_isInField cX5_isInField 2 (some .boolean), Cond.methodLink RX5 96 yX5_checkDirection, Cond.static yX5_checkDirection, Cond.code yX5_checkDirection cX5_checkDirection 1 none, Cond.methodLink RX5 182 yX5_isDirection, Cond.static yX5_isDirection, Cond.code yX5_isDirection cX5_isDirection 1 (some .boolean), Cond.methodLink RX5 63 yX5_numberOf, Cond.static yX5_numberOf, Cond.code yX5_numberOf cX5_numberOf 2 (some .int), Cond.methodLink RX5 116 yX3_stepsAhead, Cond.instanceMethod yX3_stepsAhead, Cond.selects RX3 yX3_stepsAhead yX3_stepsAhead, Cond.initialized RX3, Cond.code yX3_stepsAhead cX3_stepsAhead 3 (some .int)]
def wsX5_toRead_r2 : List Cond := [Cond.fieldLink RX3 15 "Particleway$Field" "ahead" "[I", Cond.static yX5_isCell, Cond.code yX5_isCell cX5_isCell 1 (some .boolean)]
def wsX5_toRead : List Cond := .code yX5_toRead cX5_toRead 4 (some .int) :: ((wsX5_toRead_r1 ++ wsX5_toRead_r2) ++ wsX50 ++ wsX30 ++ (vx_at0 RX5 127 "java/lang/IndexOutOfBoundsException" ["java/lang/RuntimeException", "java/lang/Exception"]).filter goodWord)
def wsX5_checkSpread : List Cond := .code yX5_checkSpread cX5_checkSpread 1 none :: ([.classLink RX5 75 "java/lang/IllegalStateException", .initialized "java/lang/IllegalStateException", .fieldLink RX5 55 "Particleway" "isSpread" "Z"] ++ wsX50 ++ (vx_at0 RX5 77 "java/lang/IllegalStateException" ["java/lang/RuntimeException", "java/lang/Exception"]).filter goodWord)
def wsX5_samples : List Cond := .code yX5_samples cX5_samples 1 (some .int) :: ([.fieldLink RX5 28 "Particleway" "samples" "LParticleway$Samples;", .methodLink RX5 119 yX5_checkSpread, .instanceMethod yX5_checkSpread, .selects RX5 yX5_checkSpread yX5_checkSpread, .initialized RX5, .code yX5_checkSpread cX5_checkSpread 1 none, .classLink RX5 75 "java/lang/IllegalStateException", .initialized "java/lang/IllegalStateException", .fieldLink RX5 55 "Particleway" "isSpread" "Z", .methodLink RX5 122 yX4_size, .instanceMethod yX4_size, .selects RX4 yX4_size yX4_size, .initialized RX4, .code yX4_size cX4_size 1 (some .int), .fieldLink RX4 36 "Particleway$Samples" "many" "I"] ++ wsX50 ++ wsX40 ++ (vx_at0 RX5 77 "java/lang/IllegalStateException" ["java/lang/RuntimeException", "java/lang/Exception"]).filter goodWord)
def wsX5_sample : List Cond := .code yX5_sample cX5_sample 2 (some .int) :: ([.classLink RX5 125 "java/lang/IndexOutOfBoundsException", .initialized "java/lang/IndexOutOfBoundsException", .fieldLink RX5 28 "Particleway" "samples" "LParticleway$Samples;", .methodLink RX5 122 yX4_size, .instanceMethod yX4_size, .selects RX4 yX4_size yX4_size, .initialized RX4, .code yX4_size cX4_size 1 (some .int), .fieldLink RX4 36 "Particleway$Samples" "many" "I", .methodLink RX5 128 yX4_cellOf, .instanceMethod yX4_cellOf, .selects RX4 yX4_cellOf yX4_cellOf, .code yX4_cellOf cX4_cellOf 2 (some .int), .fieldLink RX4 19 "Particleway$Samples" "cells" "[I"] ++ wsX50 ++ wsX40 ++ (vx_at0 RX5 127 "java/lang/IndexOutOfBoundsException" ["java/lang/RuntimeException", "java/lang/Exception"]).filter goodWord)
def wsX5_count_r1 : List Cond := [Cond.fieldLink RX5 28 "Particleway" "samples" "LParticleway$Samples;", Cond.methodLink RX5 59 yX5_checkCell, Cond.static yX5_checkCell, Cond.initialized RX5, Cond.code yX5_checkCell cX5_checkCell 2 none, Cond.classLink RX5 125 "java/lang/IndexOutOfBoundsException", Cond.initialized "java/lang/IndexOutOfBoundsException", Cond.methodLink RX5 178 yX5_isInField, Cond.static yX5_isInField, Cond.code yX5_isInField cX5_isInField 2 (some .boolean), Cond.methodLink RX5 119 yX5_checkSpread, Cond.instanceMethod yX5_checkSpread, Cond.selects RX5 yX5_checkSpread yX5_checkSpread, Cond.code yX5_checkSpread cX5_checkSpread 1 none, Cond.classLink RX5 75 "java/lang/IllegalStateException", Cond.initialized "java/lang/IllegalStateException", Cond.fieldLink RX5 55 "Particleway" "isSpread" "Z", Cond.methodLink RX5 131 yX4_chart, Cond.instanceMethod yX4_chart, Cond.selects RX4 yX4_chart yX4_chart, Cond.initialized RX4, Cond.code yX4_chart cX4_chart 2 (some (.object "Particleway$Chart")), Cond.fieldLink RX4 32 "Particleway$Samples" "counts" "LParticleway$Chart;", Cond.fieldLink RX4 36 "Particleway$Samples" "many" "I"]
def wsX5_count_r2 : List Cond := [Cond.fieldLink RX4 19 "Particleway$Samples" "cells" "[I", Cond.methodLink RX4 43 yX2_clear, Cond.instanceMethod yX2_clear, Cond.selects RX2 yX2_clear yX2_clear, Cond.initialized RX2, Cond.code yX2_clear cX2_clear 2 none, Cond.fieldLink RX2 9 "Particleway$Chart" "numbers" "[J", Cond.methodLink RX4 46 yX2_add, Cond.instanceMethod yX2_add, Cond.selects RX2 yX2_add yX2_add, Cond.code yX2_add cX2_add 4 none, Cond.static yX5_isCell, Cond.code yX5_isCell cX5_isCell 1 (some .boolean), Cond.methodLink RX5 63 yX5_numberOf, Cond.static yX5_numberOf, Cond.code yX5_numberOf cX5_numberOf 2 (some .int), Cond.methodLink RX5 135 yX2_at, Cond.instanceMethod yX2_at, Cond.selects RX2 yX2_at yX2_at, Cond.code yX2_at cX2_at 2 (some .long)]
def wsX5_count : List Cond := .code yX5_count cX5_count 3 (some .int) :: ((wsX5_count_r1 ++ wsX5_count_r2) ++ wsX50 ++ wsX40 ++ wsX20 ++ (vx_at0 RX5 127 "java/lang/IndexOutOfBoundsException" ["java/lang/RuntimeException", "java/lang/Exception"]).filter goodWord ++ (vx_at0 RX5 77 "java/lang/IllegalStateException" ["java/lang/RuntimeException", "java/lang/Exception"]).filter goodWord)
def wsX5_belief_r1 : List Cond := [Cond.fieldLink RX5 37 "Particleway" "beliefs" "LParticleway$Beliefs;", Cond.methodLink RX5 59 yX5_checkCell, Cond.static yX5_checkCell, Cond.initialized RX5, Cond.code yX5_checkCell cX5_checkCell 2 none, Cond.classLink RX5 125 "java/lang/IndexOutOfBoundsException", Cond.initialized "java/lang/IndexOutOfBoundsException", Cond.methodLink RX5 178 yX5_isInField, Cond.static yX5_isInField, Cond.code yX5_isInField cX5_isInField 2 (some .boolean), Cond.methodLink RX5 119 yX5_checkSpread, Cond.instanceMethod yX5_checkSpread, Cond.selects RX5 yX5_checkSpread yX5_checkSpread, Cond.code yX5_checkSpread cX5_checkSpread 1 none, Cond.classLink RX5 75 "java/lang/IllegalStateException", Cond.initialized "java/lang/IllegalStateException", Cond.fieldLink RX5 55 "Particleway" "isSpread" "Z", Cond.methodLink RX5 141 yX0_chart, Cond.instanceMethod yX0_chart, Cond.selects RX0 yX0_chart yX0_chart, Cond.initialized RX0, Cond.code yX0_chart cX0_chart 1 (some (.object "Particleway$Chart")), Cond.fieldLink RX0 18 "Particleway$Beliefs" "now" "LParticleway$Chart;", Cond.methodLink RX5 63 yX5_numberOf]
def wsX5_belief_r2 : List Cond := [Cond.static yX5_numberOf, Cond.code yX5_numberOf cX5_numberOf 2 (some .int), Cond.methodLink RX5 135 yX2_at, Cond.instanceMethod yX2_at, Cond.selects RX2 yX2_at yX2_at, Cond.initialized RX2, Cond.code yX2_at cX2_at 2 (some .long), Cond.fieldLink RX2 9 "Particleway$Chart" "numbers" "[J", Cond.static yX5_isCell, Cond.code yX5_isCell cX5_isCell 1 (some .boolean)]
def wsX5_belief : List Cond := .code yX5_belief cX5_belief 3 (some .long) :: ((wsX5_belief_r1 ++ wsX5_belief_r2) ++ wsX50 ++ wsX00 ++ wsX20 ++ (vx_at0 RX5 127 "java/lang/IndexOutOfBoundsException" ["java/lang/RuntimeException", "java/lang/Exception"]).filter goodWord ++ (vx_at0 RX5 77 "java/lang/IllegalStateException" ["java/lang/RuntimeException", "java/lang/Exception"]).filter goodWord)
def wsX5_repeatAllTold_r1 : List Cond := [Cond.fieldLink RX5 41 "Particleway" "beliefsAnew" "LParticleway$Beliefs;", Cond.fieldLink RX5 51 "Particleway" "told" "I", Cond.fieldLink RX5 48 "Particleway" "toldReadings" "[I", Cond.fieldLink RX5 44 "Particleway" "toldDirections" "[I", Cond.methodLink RX5 94 yX0_begin, Cond.instanceMethod yX0_begin, Cond.selects RX0 yX0_begin yX0_begin, Cond.initialized RX0, Cond.code yX0_begin cX0_begin 2 none, Cond.fieldLink RX0 18 "Particleway$Beliefs" "now" "LParticleway$Chart;", Cond.fieldLink RX0 9 "Particleway$Beliefs" "field" "LParticleway$Field;", Cond.methodLink RX0 25 yX3_isFree, Cond.instanceMethod yX3_isFree, Cond.selects RX3 yX3_isFree yX3_isFree, Cond.initialized RX3, Cond.code yX3_isFree cX3_isFree 2 (some .boolean), Cond.fieldLink RX3 9 "Particleway$Field" "walls" "[Z", Cond.static yX5_isCell, Cond.initialized RX5, Cond.code yX5_isCell cX5_isCell 1 (some .boolean), Cond.methodLink RX0 31 yX2_put, Cond.instanceMethod yX2_put, Cond.selects RX2 yX2_put yX2_put, Cond.initialized RX2]
def wsX5_repeatAllTold_r2 : List Cond := [Cond.code yX2_put cX2_put 4 none, Cond.fieldLink RX2 9 "Particleway$Chart" "numbers" "[J", Cond.methodLink RX5 185 yX0_fetch, Cond.instanceMethod yX0_fetch, Cond.selects RX0 yX0_fetch yX0_fetch, Cond.code yX0_fetch cX0_fetch 3 none, Cond.fieldLink RX0 22 "Particleway$Beliefs" "before" "LParticleway$Chart;", Cond.methodLink RX0 35 yX2_copy, Cond.instanceMethod yX2_copy, Cond.selects RX2 yX2_copy yX2_copy, Cond.code yX2_copy cX2_copy 2 none, Cond.methodLink RX2 21 arraycopyName, Cond.native arraycopyName, Cond.static arraycopyName, Cond.initialized "java/lang/System", Cond.methodLink RX0 60 yX0_fetched, Cond.instanceMethod yX0_fetched, Cond.selects RX0 yX0_fetched yX0_fetched, Cond.code yX0_fetched cX0_fetched 7 (some .long), Cond.constantLong RX0 42 (3), Cond.constantLong RX0 55 (12), Cond.methodLink RX0 44 yX2_at, Cond.instanceMethod yX2_at, Cond.selects RX2 yX2_at yX2_at]
def wsX5_repeatAllTold_r3 : List Cond := [Cond.code yX2_at cX2_at 2 (some .long), Cond.methodLink RX0 64 yX3_shifted, Cond.static yX3_shifted, Cond.code yX3_shifted cX3_shifted 5 (some .int), Cond.fieldLink RX3 55 "Particleway$Field" "STEP_X" "[I", Cond.fieldLink RX3 58 "Particleway$Field" "STEP_Y" "[I", Cond.static yX5_isDirection, Cond.code yX5_isDirection cX5_isDirection 1 (some .boolean), Cond.static yX5_isInField, Cond.code yX5_isInField cX5_isInField 2 (some .boolean), Cond.static yX5_numberOf, Cond.code yX5_numberOf cX5_numberOf 2 (some .int), Cond.methodLink RX0 51 yX3_led, Cond.instanceMethod yX3_led, Cond.selects RX3 yX3_led yX3_led, Cond.code yX3_led cX3_led 4 (some .int), Cond.methodLink RX3 43 Lib.Math.min.name, Cond.static Lib.Math.min.name, Cond.initialized "java/lang/Math", Cond.code Lib.Math.min.name Lib.Math.min.code 2 (some .int), Cond.methodLink RX3 39 yX3_stepsAhead, Cond.instanceMethod yX3_stepsAhead, Cond.selects RX3 yX3_stepsAhead yX3_stepsAhead, Cond.code yX3_stepsAhead cX3_stepsAhead 3 (some .int)]
def wsX5_repeatAllTold_r4 : List Cond := [Cond.fieldLink RX3 15 "Particleway$Field" "ahead" "[I", Cond.methodLink RX3 48 yX3_shifted, Cond.methodLink RX0 57 yX0_halveGreat, Cond.instanceMethod yX0_halveGreat, Cond.selects RX0 yX0_halveGreat yX0_halveGreat, Cond.code yX0_halveGreat cX0_halveGreat 2 none, Cond.constantLong RX0 77 (1099511627776), Cond.methodLink RX0 70 yX2_greatest, Cond.instanceMethod yX2_greatest, Cond.selects RX2 yX2_greatest yX2_greatest, Cond.code yX2_greatest cX2_greatest 4 (some .long), Cond.methodLink RX2 27 Lib.MathLoose.max_long.x, Cond.static Lib.MathLoose.max_long.x, Cond.code Lib.MathLoose.max_long.x Lib.MathLoose.max_long.code 4 (some .long), Cond.methodLink RX0 79 yX2_halve, Cond.instanceMethod yX2_halve, Cond.selects RX2 yX2_halve yX2_halve, Cond.code yX2_halve cX2_halve 2 none, Cond.constantLong RX2 19 (2), Cond.methodLink RX5 114 yX0_weigh, Cond.instanceMethod yX0_weigh, Cond.selects RX0 yX0_weigh yX0_weigh, Cond.code yX0_weigh cX0_weigh 4 none, Cond.methodLink RX0 67 yX3_weight]
def wsX5_repeatAllTold_r5 : List Cond := [Cond.instanceMethod yX3_weight, Cond.selects RX3 yX3_weight yX3_weight, Cond.code yX3_weight cX3_weight 4 (some .int), Cond.methodLink RX3 52 Lib.Math.abs.name, Cond.static Lib.Math.abs.name, Cond.code Lib.Math.abs.name Lib.Math.abs.code 1 (some .int), Cond.methodLink RX0 74 yX0_begin]
def wsX5_repeatAllTold : List Cond := .code yX5_repeatAllTold cX5_repeatAllTold 2 none :: ((wsX5_repeatAllTold_r1 ++ (wsX5_repeatAllTold_r2 ++ (wsX5_repeatAllTold_r3 ++ (wsX5_repeatAllTold_r4 ++ wsX5_repeatAllTold_r5)))) ++ wsX50 ++ wsX00 ++ wsX30 ++ wsX20)
def wsX5_beliefAnew_r1 : List Cond := [Cond.fieldLink RX5 41 "Particleway" "beliefsAnew" "LParticleway$Beliefs;", Cond.methodLink RX5 59 yX5_checkCell, Cond.static yX5_checkCell, Cond.initialized RX5, Cond.code yX5_checkCell cX5_checkCell 2 none, Cond.classLink RX5 125 "java/lang/IndexOutOfBoundsException", Cond.initialized "java/lang/IndexOutOfBoundsException", Cond.methodLink RX5 178 yX5_isInField, Cond.static yX5_isInField, Cond.code yX5_isInField cX5_isInField 2 (some .boolean), Cond.methodLink RX5 119 yX5_checkSpread, Cond.instanceMethod yX5_checkSpread, Cond.selects RX5 yX5_checkSpread yX5_checkSpread, Cond.code yX5_checkSpread cX5_checkSpread 1 none, Cond.classLink RX5 75 "java/lang/IllegalStateException", Cond.initialized "java/lang/IllegalStateException", Cond.fieldLink RX5 55 "Particleway" "isSpread" "Z", Cond.methodLink RX5 142 yX5_repeatAllTold, Cond.instanceMethod yX5_repeatAllTold, Cond.selects RX5 yX5_repeatAllTold yX5_repeatAllTold, Cond.code yX5_repeatAllTold cX5_repeatAllTold 2 none, Cond.fieldLink RX5 51 "Particleway" "told" "I", Cond.fieldLink RX5 48 "Particleway" "toldReadings" "[I", Cond.fieldLink RX5 44 "Particleway" "toldDirections" "[I"]
def wsX5_beliefAnew_r2 : List Cond := [Cond.methodLink RX5 94 yX0_begin, Cond.instanceMethod yX0_begin, Cond.selects RX0 yX0_begin yX0_begin, Cond.initialized RX0, Cond.code yX0_begin cX0_begin 2 none, Cond.fieldLink RX0 18 "Particleway$Beliefs" "now" "LParticleway$Chart;", Cond.fieldLink RX0 9 "Particleway$Beliefs" "field" "LParticleway$Field;", Cond.methodLink RX0 25 yX3_isFree, Cond.instanceMethod yX3_isFree, Cond.selects RX3 yX3_isFree yX3_isFree, Cond.initialized RX3, Cond.code yX3_isFree cX3_isFree 2 (some .boolean), Cond.fieldLink RX3 9 "Particleway$Field" "walls" "[Z", Cond.static yX5_isCell, Cond.code yX5_isCell cX5_isCell 1 (some .boolean), Cond.methodLink RX0 31 yX2_put, Cond.instanceMethod yX2_put, Cond.selects RX2 yX2_put yX2_put, Cond.initialized RX2, Cond.code yX2_put cX2_put 4 none, Cond.fieldLink RX2 9 "Particleway$Chart" "numbers" "[J", Cond.methodLink RX5 185 yX0_fetch, Cond.instanceMethod yX0_fetch, Cond.selects RX0 yX0_fetch yX0_fetch]
def wsX5_beliefAnew_r3 : List Cond := [Cond.code yX0_fetch cX0_fetch 3 none, Cond.fieldLink RX0 22 "Particleway$Beliefs" "before" "LParticleway$Chart;", Cond.methodLink RX0 35 yX2_copy, Cond.instanceMethod yX2_copy, Cond.selects RX2 yX2_copy yX2_copy, Cond.code yX2_copy cX2_copy 2 none, Cond.methodLink RX2 21 arraycopyName, Cond.native arraycopyName, Cond.static arraycopyName, Cond.initialized "java/lang/System", Cond.methodLink RX0 60 yX0_fetched, Cond.instanceMethod yX0_fetched, Cond.selects RX0 yX0_fetched yX0_fetched, Cond.code yX0_fetched cX0_fetched 7 (some .long), Cond.constantLong RX0 42 (3), Cond.constantLong RX0 55 (12), Cond.methodLink RX0 44 yX2_at, Cond.instanceMethod yX2_at, Cond.selects RX2 yX2_at yX2_at, Cond.code yX2_at cX2_at 2 (some .long), Cond.methodLink RX0 64 yX3_shifted, Cond.static yX3_shifted, Cond.code yX3_shifted cX3_shifted 5 (some .int), Cond.fieldLink RX3 55 "Particleway$Field" "STEP_X" "[I"]
def wsX5_beliefAnew_r4 : List Cond := [Cond.fieldLink RX3 58 "Particleway$Field" "STEP_Y" "[I", Cond.static yX5_isDirection, Cond.code yX5_isDirection cX5_isDirection 1 (some .boolean), Cond.static yX5_numberOf, Cond.code yX5_numberOf cX5_numberOf 2 (some .int), Cond.methodLink RX0 51 yX3_led, Cond.instanceMethod yX3_led, Cond.selects RX3 yX3_led yX3_led, Cond.code yX3_led cX3_led 4 (some .int), Cond.methodLink RX3 43 Lib.Math.min.name, Cond.static Lib.Math.min.name, Cond.initialized "java/lang/Math", Cond.code Lib.Math.min.name Lib.Math.min.code 2 (some .int), Cond.methodLink RX3 39 yX3_stepsAhead, Cond.instanceMethod yX3_stepsAhead, Cond.selects RX3 yX3_stepsAhead yX3_stepsAhead, Cond.code yX3_stepsAhead cX3_stepsAhead 3 (some .int), Cond.fieldLink RX3 15 "Particleway$Field" "ahead" "[I", Cond.methodLink RX3 48 yX3_shifted, Cond.methodLink RX0 57 yX0_halveGreat, Cond.instanceMethod yX0_halveGreat, Cond.selects RX0 yX0_halveGreat yX0_halveGreat, Cond.code yX0_halveGreat cX0_halveGreat 2 none, Cond.constantLong RX0 77 (1099511627776)]
def wsX5_beliefAnew_r5 : List Cond := [Cond.methodLink RX0 70 yX2_greatest, Cond.instanceMethod yX2_greatest, Cond.selects RX2 yX2_greatest yX2_greatest, Cond.code yX2_greatest cX2_greatest 4 (some .long), Cond.methodLink RX2 27 Lib.MathLoose.max_long.x, Cond.static Lib.MathLoose.max_long.x, Cond.code Lib.MathLoose.max_long.x Lib.MathLoose.max_long.code 4 (some .long), Cond.methodLink RX0 79 yX2_halve, Cond.instanceMethod yX2_halve, Cond.selects RX2 yX2_halve yX2_halve, Cond.code yX2_halve cX2_halve 2 none, Cond.constantLong RX2 19 (2), Cond.methodLink RX5 114 yX0_weigh, Cond.instanceMethod yX0_weigh, Cond.selects RX0 yX0_weigh yX0_weigh, Cond.code yX0_weigh cX0_weigh 4 none, Cond.methodLink RX0 67 yX3_weight, Cond.instanceMethod yX3_weight, Cond.selects RX3 yX3_weight yX3_weight, Cond.code yX3_weight cX3_weight 4 (some .int), Cond.methodLink RX3 52 Lib.Math.abs.name, Cond.static Lib.Math.abs.name, Cond.code Lib.Math.abs.name Lib.Math.abs.code 1 (some .int), Cond.methodLink RX0 74 yX0_begin]
def wsX5_beliefAnew_r6 : List Cond := [Cond.methodLink RX5 141 yX0_chart, Cond.instanceMethod yX0_chart, Cond.selects RX0 yX0_chart yX0_chart, Cond.code yX0_chart cX0_chart 1 (some (.object "Particleway$Chart")), Cond.methodLink RX5 63 yX5_numberOf, Cond.methodLink RX5 135 yX2_at]
def wsX5_beliefAnew : List Cond := .code yX5_beliefAnew cX5_beliefAnew 3 (some .long) :: ((wsX5_beliefAnew_r1 ++ (wsX5_beliefAnew_r2 ++ (wsX5_beliefAnew_r3 ++ (wsX5_beliefAnew_r4 ++ (wsX5_beliefAnew_r5 ++ wsX5_beliefAnew_r6))))) ++ wsX50 ++ wsX00 ++ wsX30 ++ wsX20 ++ (vx_at0 RX5 127 "java/lang/IndexOutOfBoundsException" ["java/lang/RuntimeException", "java/lang/Exception"]).filter goodWord ++ (vx_at0 RX5 77 "java/lang/IllegalStateException" ["java/lang/RuntimeException", "java/lang/Exception"]).filter goodWord)
def wsX5_chartOf_r1 : List Cond := [Cond.fieldLink RX5 28 "Particleway" "samples" "LParticleway$Samples;", Cond.fieldLink RX5 37 "Particleway" "beliefs" "LParticleway$Beliefs;", Cond.methodLink RX5 131 yX4_chart, Cond.instanceMethod yX4_chart, Cond.selects RX4 yX4_chart yX4_chart, Cond.initialized RX4, Cond.code yX4_chart cX4_chart 2 (some (.object "Particleway$Chart")), Cond.fieldLink RX4 32 "Particleway$Samples" "counts" "LParticleway$Chart;", Cond.fieldLink RX4 36 "Particleway$Samples" "many" "I", Cond.fieldLink RX4 19 "Particleway$Samples" "cells" "[I", Cond.methodLink RX4 43 yX2_clear, Cond.instanceMethod yX2_clear, Cond.selects RX2 yX2_clear yX2_clear, Cond.initialized RX2, Cond.code yX2_clear cX2_clear 2 none, Cond.fieldLink RX2 9 "Particleway$Chart" "numbers" "[J", Cond.methodLink RX4 46 yX2_add, Cond.instanceMethod yX2_add, Cond.selects RX2 yX2_add yX2_add, Cond.code yX2_add cX2_add 4 none, Cond.static yX5_isCell, Cond.initialized RX5, Cond.code yX5_isCell cX5_isCell 1 (some .boolean), Cond.methodLink RX5 141 yX0_chart]
def wsX5_chartOf_r2 : List Cond := [Cond.instanceMethod yX0_chart, Cond.selects RX0 yX0_chart yX0_chart, Cond.initialized RX0, Cond.code yX0_chart cX0_chart 1 (some (.object "Particleway$Chart")), Cond.fieldLink RX0 18 "Particleway$Beliefs" "now" "LParticleway$Chart;"]
def wsX5_chartOf : List Cond := .code yX5_chartOf cX5_chartOf 2 (some (.object "Particleway$Chart")) :: ((wsX5_chartOf_r1 ++ wsX5_chartOf_r2) ++ wsX50 ++ wsX40 ++ wsX20 ++ wsX00)
def wsX5_mode_r1 : List Cond := [Cond.methodLink RX5 119 yX5_checkSpread, Cond.instanceMethod yX5_checkSpread, Cond.selects RX5 yX5_checkSpread yX5_checkSpread, Cond.initialized RX5, Cond.code yX5_checkSpread cX5_checkSpread 1 none, Cond.classLink RX5 75 "java/lang/IllegalStateException", Cond.initialized "java/lang/IllegalStateException", Cond.fieldLink RX5 55 "Particleway" "isSpread" "Z", Cond.methodLink RX5 145 yX5_chartOf, Cond.instanceMethod yX5_chartOf, Cond.selects RX5 yX5_chartOf yX5_chartOf, Cond.code yX5_chartOf cX5_chartOf 2 (some (.object "Particleway$Chart")), Cond.fieldLink RX5 28 "Particleway" "samples" "LParticleway$Samples;", Cond.fieldLink RX5 37 "Particleway" "beliefs" "LParticleway$Beliefs;", Cond.methodLink RX5 131 yX4_chart, Cond.instanceMethod yX4_chart, Cond.selects RX4 yX4_chart yX4_chart, Cond.initialized RX4, Cond.code yX4_chart cX4_chart 2 (some (.object "Particleway$Chart")), Cond.fieldLink RX4 32 "Particleway$Samples" "counts" "LParticleway$Chart;", Cond.fieldLink RX4 36 "Particleway$Samples" "many" "I", Cond.fieldLink RX4 19 "Particleway$Samples" "cells" "[I", Cond.methodLink RX4 43 yX2_clear, Cond.instanceMethod yX2_clear]
def wsX5_mode_r2 : List Cond := [Cond.selects RX2 yX2_clear yX2_clear, Cond.initialized RX2, Cond.code yX2_clear cX2_clear 2 none, Cond.fieldLink RX2 9 "Particleway$Chart" "numbers" "[J", Cond.methodLink RX4 46 yX2_add, Cond.instanceMethod yX2_add, Cond.selects RX2 yX2_add yX2_add, Cond.code yX2_add cX2_add 4 none, Cond.static yX5_isCell, Cond.code yX5_isCell cX5_isCell 1 (some .boolean), Cond.methodLink RX5 141 yX0_chart, Cond.instanceMethod yX0_chart, Cond.selects RX0 yX0_chart yX0_chart, Cond.initialized RX0, Cond.code yX0_chart cX0_chart 1 (some (.object "Particleway$Chart")), Cond.fieldLink RX0 18 "Particleway$Beliefs" "now" "LParticleway$Chart;", Cond.methodLink RX5 149 yX2_greatestCell, Cond.instanceMethod yX2_greatestCell, Cond.selects RX2 yX2_greatestCell yX2_greatestCell, Cond.code yX2_greatestCell cX2_greatestCell 4 (some .int), Cond.methodLink RX2 33 yX2_greatest, Cond.instanceMethod yX2_greatest, Cond.selects RX2 yX2_greatest yX2_greatest, Cond.code yX2_greatest cX2_greatest 4 (some .long)]
def wsX5_mode_r3 : List Cond := [Cond.methodLink RX2 27 Lib.MathLoose.max_long.x, Cond.static Lib.MathLoose.max_long.x, Cond.initialized "java/lang/Math", Cond.code Lib.MathLoose.max_long.x Lib.MathLoose.max_long.code 4 (some .long)]
def wsX5_mode : List Cond := .code yX5_mode cX5_mode 2 (some .int) :: ((wsX5_mode_r1 ++ (wsX5_mode_r2 ++ wsX5_mode_r3)) ++ wsX50 ++ wsX40 ++ wsX20 ++ wsX00 ++ (vx_at0 RX5 77 "java/lang/IllegalStateException" ["java/lang/RuntimeException", "java/lang/Exception"]).filter goodWord)
def wsX5_mean_r1 : List Cond := [Cond.constantLong RX5 152 (100), Cond.methodLink RX5 119 yX5_checkSpread, Cond.instanceMethod yX5_checkSpread, Cond.selects RX5 yX5_checkSpread yX5_checkSpread, Cond.initialized RX5, Cond.code yX5_checkSpread cX5_checkSpread 1 none, Cond.classLink RX5 75 "java/lang/IllegalStateException", Cond.initialized "java/lang/IllegalStateException", Cond.fieldLink RX5 55 "Particleway" "isSpread" "Z", Cond.methodLink RX5 145 yX5_chartOf, Cond.instanceMethod yX5_chartOf, Cond.selects RX5 yX5_chartOf yX5_chartOf, Cond.code yX5_chartOf cX5_chartOf 2 (some (.object "Particleway$Chart")), Cond.fieldLink RX5 28 "Particleway" "samples" "LParticleway$Samples;", Cond.fieldLink RX5 37 "Particleway" "beliefs" "LParticleway$Beliefs;", Cond.methodLink RX5 131 yX4_chart, Cond.instanceMethod yX4_chart, Cond.selects RX4 yX4_chart yX4_chart, Cond.initialized RX4, Cond.code yX4_chart cX4_chart 2 (some (.object "Particleway$Chart")), Cond.fieldLink RX4 32 "Particleway$Samples" "counts" "LParticleway$Chart;", Cond.fieldLink RX4 36 "Particleway$Samples" "many" "I", Cond.fieldLink RX4 19 "Particleway$Samples" "cells" "[I", Cond.methodLink RX4 43 yX2_clear]
def wsX5_mean_r2 : List Cond := [Cond.instanceMethod yX2_clear, Cond.selects RX2 yX2_clear yX2_clear, Cond.initialized RX2, Cond.code yX2_clear cX2_clear 2 none, Cond.fieldLink RX2 9 "Particleway$Chart" "numbers" "[J", Cond.methodLink RX4 46 yX2_add, Cond.instanceMethod yX2_add, Cond.selects RX2 yX2_add yX2_add, Cond.code yX2_add cX2_add 4 none, Cond.static yX5_isCell, Cond.code yX5_isCell cX5_isCell 1 (some .boolean), Cond.methodLink RX5 141 yX0_chart, Cond.instanceMethod yX0_chart, Cond.selects RX0 yX0_chart yX0_chart, Cond.initialized RX0, Cond.code yX0_chart cX0_chart 1 (some (.object "Particleway$Chart")), Cond.fieldLink RX0 18 "Particleway$Beliefs" "now" "LParticleway$Chart;", Cond.methodLink RX5 154 yX2_coordinateSum, Cond.instanceMethod yX2_coordinateSum, Cond.selects RX2 yX2_coordinateSum yX2_coordinateSum, Cond.code yX2_coordinateSum cX2_coordinateSum 5 (some .long), Cond.methodLink RX5 158 yX2_sum, Cond.instanceMethod yX2_sum, Cond.selects RX2 yX2_sum yX2_sum]
def wsX5_mean_r3 : List Cond := [Cond.code yX2_sum cX2_sum 1 (some .long), Cond.methodLink RX2 37 yX2_sumOf, Cond.instanceMethod yX2_sumOf, Cond.selects RX2 yX2_sumOf yX2_sumOf, Cond.code yX2_sumOf cX2_sumOf 10 (some .long), Cond.methodLink RX5 162 yX5_quotient, Cond.static yX5_quotient, Cond.code yX5_quotient cX5_quotient 4 (some .long)]
def wsX5_mean : List Cond := .code yX5_mean cX5_mean 4 (some .int) :: ((wsX5_mean_r1 ++ (wsX5_mean_r2 ++ wsX5_mean_r3)) ++ wsX50 ++ wsX40 ++ wsX20 ++ wsX00 ++ (vx_at0 RX5 77 "java/lang/IllegalStateException" ["java/lang/RuntimeException", "java/lang/Exception"]).filter goodWord)
def wsX5_share_r1 : List Cond := [Cond.classLink RX5 83 "java/lang/IllegalArgumentException", Cond.initialized "java/lang/IllegalArgumentException", Cond.constantLong RX5 166 (1000), Cond.methodLink RX5 59 yX5_checkCell, Cond.static yX5_checkCell, Cond.initialized RX5, Cond.code yX5_checkCell cX5_checkCell 2 none, Cond.classLink RX5 125 "java/lang/IndexOutOfBoundsException", Cond.initialized "java/lang/IndexOutOfBoundsException", Cond.methodLink RX5 178 yX5_isInField, Cond.static yX5_isInField, Cond.code yX5_isInField cX5_isInField 2 (some .boolean), Cond.methodLink RX5 119 yX5_checkSpread, Cond.instanceMethod yX5_checkSpread, Cond.selects RX5 yX5_checkSpread yX5_checkSpread, Cond.code yX5_checkSpread cX5_checkSpread 1 none, Cond.classLink RX5 75 "java/lang/IllegalStateException", Cond.initialized "java/lang/IllegalStateException", Cond.fieldLink RX5 55 "Particleway" "isSpread" "Z", Cond.methodLink RX5 145 yX5_chartOf, Cond.instanceMethod yX5_chartOf, Cond.selects RX5 yX5_chartOf yX5_chartOf, Cond.code yX5_chartOf cX5_chartOf 2 (some (.object "Particleway$Chart")), Cond.fieldLink RX5 28 "Particleway" "samples" "LParticleway$Samples;"]
def wsX5_share_r2 : List Cond := [Cond.fieldLink RX5 37 "Particleway" "beliefs" "LParticleway$Beliefs;", Cond.methodLink RX5 131 yX4_chart, Cond.instanceMethod yX4_chart, Cond.selects RX4 yX4_chart yX4_chart, Cond.initialized RX4, Cond.code yX4_chart cX4_chart 2 (some (.object "Particleway$Chart")), Cond.fieldLink RX4 32 "Particleway$Samples" "counts" "LParticleway$Chart;", Cond.fieldLink RX4 36 "Particleway$Samples" "many" "I", Cond.fieldLink RX4 19 "Particleway$Samples" "cells" "[I", Cond.methodLink RX4 43 yX2_clear, Cond.instanceMethod yX2_clear, Cond.selects RX2 yX2_clear yX2_clear, Cond.initialized RX2, Cond.code yX2_clear cX2_clear 2 none, Cond.fieldLink RX2 9 "Particleway$Chart" "numbers" "[J", Cond.methodLink RX4 46 yX2_add, Cond.instanceMethod yX2_add, Cond.selects RX2 yX2_add yX2_add, Cond.code yX2_add cX2_add 4 none, Cond.static yX5_isCell, Cond.code yX5_isCell cX5_isCell 1 (some .boolean), Cond.methodLink RX5 141 yX0_chart, Cond.instanceMethod yX0_chart, Cond.selects RX0 yX0_chart yX0_chart]
def wsX5_share_r3 : List Cond := [Cond.initialized RX0, Cond.code yX0_chart cX0_chart 1 (some (.object "Particleway$Chart")), Cond.fieldLink RX0 18 "Particleway$Beliefs" "now" "LParticleway$Chart;", Cond.methodLink RX5 168 yX2_sumOf, Cond.instanceMethod yX2_sumOf, Cond.selects RX2 yX2_sumOf yX2_sumOf, Cond.code yX2_sumOf cX2_sumOf 10 (some .long), Cond.methodLink RX5 158 yX2_sum, Cond.instanceMethod yX2_sum, Cond.selects RX2 yX2_sum yX2_sum, Cond.code yX2_sum cX2_sum 1 (some .long), Cond.methodLink RX2 37 yX2_sumOf, Cond.methodLink RX5 162 yX5_quotient, Cond.static yX5_quotient, Cond.code yX5_quotient cX5_quotient 4 (some .long)]
def wsX5_share : List Cond := .code yX5_share cX5_share 7 (some .int) :: ((wsX5_share_r1 ++ (wsX5_share_r2 ++ wsX5_share_r3)) ++ wsX50 ++ wsX40 ++ wsX20 ++ wsX00 ++ (vx_at0 RX5 85 "java/lang/IllegalArgumentException" ["java/lang/RuntimeException", "java/lang/Exception"]).filter goodWord ++ (vx_at0 RX5 127 "java/lang/IndexOutOfBoundsException" ["java/lang/RuntimeException", "java/lang/Exception"]).filter goodWord ++ (vx_at0 RX5 77 "java/lang/IllegalStateException" ["java/lang/RuntimeException", "java/lang/Exception"]).filter goodWord)
def wsX5_best_r1 : List Cond := [Cond.classLink RX5 125 "java/lang/IndexOutOfBoundsException", Cond.initialized "java/lang/IndexOutOfBoundsException", Cond.fieldLink RX5 37 "Particleway" "beliefs" "LParticleway$Beliefs;", Cond.methodLink RX5 119 yX5_checkSpread, Cond.instanceMethod yX5_checkSpread, Cond.selects RX5 yX5_checkSpread yX5_checkSpread, Cond.initialized RX5, Cond.code yX5_checkSpread cX5_checkSpread 1 none, Cond.classLink RX5 75 "java/lang/IllegalStateException", Cond.initialized "java/lang/IllegalStateException", Cond.fieldLink RX5 55 "Particleway" "isSpread" "Z", Cond.methodLink RX5 141 yX0_chart, Cond.instanceMethod yX0_chart, Cond.selects RX0 yX0_chart yX0_chart, Cond.initialized RX0, Cond.code yX0_chart cX0_chart 1 (some (.object "Particleway$Chart")), Cond.fieldLink RX0 18 "Particleway$Beliefs" "now" "LParticleway$Chart;", Cond.methodLink RX5 172 yX2_cellAtPlace, Cond.instanceMethod yX2_cellAtPlace, Cond.selects RX2 yX2_cellAtPlace yX2_cellAtPlace, Cond.initialized RX2, Cond.code yX2_cellAtPlace cX2_cellAtPlace 3 (some .int), Cond.fieldLink RX2 9 "Particleway$Chart" "numbers" "[J", Cond.methodLink RX2 41 yX2_placeOf]
def wsX5_best_r2 : List Cond := [Cond.instanceMethod yX2_placeOf, Cond.selects RX2 yX2_placeOf yX2_placeOf, Cond.code yX2_placeOf cX2_placeOf 5 (some .int), Cond.methodLink RX2 45 yX2_at, Cond.instanceMethod yX2_at, Cond.selects RX2 yX2_at yX2_at, Cond.code yX2_at cX2_at 2 (some .long), Cond.static yX5_isCell, Cond.code yX5_isCell cX5_isCell 1 (some .boolean)]
def wsX5_best : List Cond := .code yX5_best cX5_best 2 (some .int) :: ((wsX5_best_r1 ++ wsX5_best_r2) ++ wsX50 ++ wsX00 ++ wsX20 ++ (vx_at0 RX5 127 "java/lang/IndexOutOfBoundsException" ["java/lang/RuntimeException", "java/lang/Exception"]).filter goodWord ++ (vx_at0 RX5 77 "java/lang/IllegalStateException" ["java/lang/RuntimeException", "java/lang/Exception"]).filter goodWord)
def wsX5_doubt : List Cond := .code yX5_doubt cX5_doubt 1 (some .int) :: ([.fieldLink RX5 28 "Particleway" "samples" "LParticleway$Samples;", .methodLink RX5 119 yX5_checkSpread, .instanceMethod yX5_checkSpread, .selects RX5 yX5_checkSpread yX5_checkSpread, .initialized RX5, .code yX5_checkSpread cX5_checkSpread 1 none, .classLink RX5 75 "java/lang/IllegalStateException", .initialized "java/lang/IllegalStateException", .fieldLink RX5 55 "Particleway" "isSpread" "Z", .methodLink RX5 175 yX4_lastDoubt, .instanceMethod yX4_lastDoubt, .selects RX4 yX4_lastDoubt yX4_lastDoubt, .initialized RX4, .code yX4_lastDoubt cX4_lastDoubt 1 (some .int), .fieldLink RX4 40 "Particleway$Samples" "doubt" "I"] ++ wsX50 ++ wsX40 ++ (vx_at0 RX5 77 "java/lang/IllegalStateException" ["java/lang/RuntimeException", "java/lang/Exception"]).filter goodWord)
def wsX6_init : List Cond := .code yX6_init cX6_init 1 none :: ([.methodLink RX6 1 objectInit, .instanceMethod objectInit, .code objectInit ⟨#[0xb1]⟩ 1 none, .arrayClass .boolean, .fieldLink RX6 7 "ParticlewayModel" "isWall" "[Z", .fieldLink RX6 13 "ParticlewayModel" "chance" "I", .arrayClass .int, .fieldLink RX6 17 "ParticlewayModel" "sample" "[I", .fieldLink RX6 21 "ParticlewayModel" "old" "[I", .fieldLink RX6 24 "ParticlewayModel" "weight" "[I", .arrayClass .long, .fieldLink RX6 27 "ParticlewayModel" "belief" "[J", .fieldLink RX6 31 "ParticlewayModel" "fresh" "[J"] ++ wsX60)
def wsX6_thrown : List Cond := .code yX6_thrown cX6_thrown 1 (some .int) :: ([.fieldLink RX6 34 "ParticlewayModel" "thrown" "I"] ++ wsX60)
def wsX6_goesWell : List Cond := .code yX6_goesWell cX6_goesWell 2 (some .boolean) :: ([.fieldLink RX6 34 "ParticlewayModel" "thrown" "I"] ++ wsX60)
def wsX6_in : List Cond := .code yX6_in cX6_in 3 (some .boolean) :: ([])
def wsX6_isCell : List Cond := .code yX6_isCell cX6_isCell 2 (some .boolean) :: ([.methodLink RX6 37 yX6_in, .static yX6_in, .initialized RX6, .code yX6_in cX6_in 3 (some .boolean)])
def wsX6_isDirection : List Cond := .code yX6_isDirection cX6_isDirection 1 (some .boolean) :: ([.methodLink RX6 37 yX6_in, .static yX6_in, .initialized RX6, .code yX6_in cX6_in 3 (some .boolean)])
def wsX6_free : List Cond := .code yX6_free cX6_free 3 (some .int) :: ([.fieldLink RX6 7 "ParticlewayModel" "isWall" "[Z"] ++ wsX60)
def wsX6_wall : List Cond := .code yX6_wall cX6_wall 8 (some .boolean) :: ([.fieldLink RX6 7 "ParticlewayModel" "isWall" "[Z", .fieldLink RX6 49 "ParticlewayModel" "isSpread" "Z", .methodLink RX6 41 yX6_isCell, .static yX6_isCell, .initialized RX6, .code yX6_isCell cX6_isCell 2 (some .boolean), .methodLink RX6 37 yX6_in, .static yX6_in, .code yX6_in cX6_in 3 (some .boolean), .methodLink RX6 45 yX6_free, .instanceMethod yX6_free, .selects RX6 yX6_free yX6_free, .code yX6_free cX6_free 3 (some .int), .methodLink RX6 53 yX6_goesWell, .instanceMethod yX6_goesWell, .selects RX6 yX6_goesWell yX6_goesWell, .code yX6_goesWell cX6_goesWell 2 (some .boolean), .fieldLink RX6 34 "ParticlewayModel" "thrown" "I"] ++ wsX60)
def wsX6_draw : List Cond := .code yX6_draw cX6_draw 3 (some .int) :: ([.constant RX6 57 (65536), .fieldLink RX6 13 "ParticlewayModel" "chance" "I", .methodLink RX6 37 yX6_in, .static yX6_in, .initialized RX6, .code yX6_in cX6_in 3 (some .boolean), .methodLink RX6 53 yX6_goesWell, .instanceMethod yX6_goesWell, .selects RX6 yX6_goesWell yX6_goesWell, .code yX6_goesWell cX6_goesWell 2 (some .boolean), .fieldLink RX6 34 "ParticlewayModel" "thrown" "I"] ++ wsX60)
def wsX6_next : List Cond := .code yX6_next cX6_next 1 (some .int) :: ([.fieldLink RX6 13 "ParticlewayModel" "chance" "I", .constant RX6 58 (65537)] ++ wsX60)
def wsX6_drawCell : List Cond := .code yX6_drawCell cX6_drawCell 3 (some .int) :: ([.fieldLink RX6 7 "ParticlewayModel" "isWall" "[Z", .methodLink RX6 59 yX6_next, .instanceMethod yX6_next, .selects RX6 yX6_next yX6_next, .initialized RX6, .code yX6_next cX6_next 1 (some .int), .fieldLink RX6 13 "ParticlewayModel" "chance" "I", .constant RX6 58 (65537), .methodLink RX6 45 yX6_free, .instanceMethod yX6_free, .selects RX6 yX6_free yX6_free, .code yX6_free cX6_free 3 (some .int)] ++ wsX60)
def wsX6_step : List Cond := .code yX6_step cX6_step 5 (some .int) :: ([.fieldLink RX6 7 "ParticlewayModel" "isWall" "[Z", .methodLink RX6 41 yX6_isCell, .static yX6_isCell, .initialized RX6, .code yX6_isCell cX6_isCell 2 (some .boolean), .methodLink RX6 37 yX6_in, .static yX6_in, .code yX6_in cX6_in 3 (some .boolean)] ++ wsX60)
def wsX6_reads : List Cond := .code yX6_reads cX6_reads 5 (some .int) :: ([.methodLink RX6 62 yX6_step, .instanceMethod yX6_step, .selects RX6 yX6_step yX6_step, .initialized RX6, .code yX6_step cX6_step 5 (some .int), .fieldLink RX6 7 "ParticlewayModel" "isWall" "[Z", .methodLink RX6 41 yX6_isCell, .static yX6_isCell, .code yX6_isCell cX6_isCell 2 (some .boolean), .methodLink RX6 37 yX6_in, .static yX6_in, .code yX6_in cX6_in 3 (some .boolean)] ++ wsX60)
def wsX6_weightOf : List Cond := .code yX6_weightOf cX6_weightOf 5 (some .int) :: ([.methodLink RX6 66 yX6_reads, .instanceMethod yX6_reads, .selects RX6 yX6_reads yX6_reads, .initialized RX6, .code yX6_reads cX6_reads 5 (some .int), .methodLink RX6 62 yX6_step, .instanceMethod yX6_step, .selects RX6 yX6_step yX6_step, .code yX6_step cX6_step 5 (some .int), .fieldLink RX6 7 "ParticlewayModel" "isWall" "[Z", .methodLink RX6 41 yX6_isCell, .static yX6_isCell, .code yX6_isCell cX6_isCell 2 (some .boolean), .methodLink RX6 37 yX6_in, .static yX6_in, .code yX6_in cX6_in 3 (some .boolean)] ++ wsX60)
def wsX6_believeAll : List Cond := .code yX6_believeAll cX6_believeAll 2 none :: ([.fieldLink RX6 27 "ParticlewayModel" "belief" "[J", .fieldLink RX6 7 "ParticlewayModel" "isWall" "[Z"] ++ wsX60)
def wsX6_spread_r1 : List Cond := [Cond.fieldLink RX6 49 "ParticlewayModel" "isSpread" "Z", Cond.fieldLink RX6 69 "ParticlewayModel" "samples" "I", Cond.fieldLink RX6 17 "ParticlewayModel" "sample" "[I", Cond.fieldLink RX6 78 "ParticlewayModel" "acts" "I", Cond.fieldLink RX6 81 "ParticlewayModel" "readings" "I", Cond.fieldLink RX6 84 "ParticlewayModel" "doubt" "I", Cond.methodLink RX6 37 yX6_in, Cond.static yX6_in, Cond.initialized RX6, Cond.code yX6_in cX6_in 3 (some .boolean), Cond.methodLink RX6 53 yX6_goesWell, Cond.instanceMethod yX6_goesWell, Cond.selects RX6 yX6_goesWell yX6_goesWell, Cond.code yX6_goesWell cX6_goesWell 2 (some .boolean), Cond.fieldLink RX6 34 "ParticlewayModel" "thrown" "I", Cond.methodLink RX6 72 yX6_drawCell, Cond.instanceMethod yX6_drawCell, Cond.selects RX6 yX6_drawCell yX6_drawCell, Cond.code yX6_drawCell cX6_drawCell 3 (some .int), Cond.fieldLink RX6 7 "ParticlewayModel" "isWall" "[Z", Cond.methodLink RX6 59 yX6_next, Cond.instanceMethod yX6_next, Cond.selects RX6 yX6_next yX6_next, Cond.code yX6_next cX6_next 1 (some .int)]
def wsX6_spread_r2 : List Cond := [Cond.fieldLink RX6 13 "ParticlewayModel" "chance" "I", Cond.constant RX6 58 (65537), Cond.methodLink RX6 45 yX6_free, Cond.instanceMethod yX6_free, Cond.selects RX6 yX6_free yX6_free, Cond.code yX6_free cX6_free 3 (some .int), Cond.methodLink RX6 75 yX6_believeAll, Cond.instanceMethod yX6_believeAll, Cond.selects RX6 yX6_believeAll yX6_believeAll, Cond.code yX6_believeAll cX6_believeAll 2 none, Cond.fieldLink RX6 27 "ParticlewayModel" "belief" "[J"]
def wsX6_spread : List Cond := .code yX6_spread cX6_spread 3 none :: ((wsX6_spread_r1 ++ wsX6_spread_r2) ++ wsX60)
def wsX6_areNone : List Cond := .code yX6_areNone cX6_areNone 3 (some .boolean) :: ([.fieldLink RX6 27 "ParticlewayModel" "belief" "[J"] ++ wsX60)
def wsX6_greatest : List Cond := .code yX6_greatest cX6_greatest 4 (some .long) :: ([.fieldLink RX6 27 "ParticlewayModel" "belief" "[J"] ++ wsX60)
def wsX6_halve : List Cond := .code yX6_halve cX6_halve 2 none :: ([.constantLong RX6 91 (1099511627776), .fieldLink RX6 27 "ParticlewayModel" "belief" "[J", .constantLong RX6 93 (2), .methodLink RX6 87 yX6_greatest, .instanceMethod yX6_greatest, .selects RX6 yX6_greatest yX6_greatest, .initialized RX6, .code yX6_greatest cX6_greatest 4 (some .long)] ++ wsX60)
def wsX6_drive_r1 : List Cond := [Cond.fieldLink RX6 49 "ParticlewayModel" "isSpread" "Z", Cond.fieldLink RX6 78 "ParticlewayModel" "acts" "I", Cond.fieldLink RX6 69 "ParticlewayModel" "samples" "I", Cond.fieldLink RX6 17 "ParticlewayModel" "sample" "[I", Cond.fieldLink RX6 31 "ParticlewayModel" "fresh" "[J", Cond.fieldLink RX6 7 "ParticlewayModel" "isWall" "[Z", Cond.constantLong RX6 98 (12), Cond.fieldLink RX6 27 "ParticlewayModel" "belief" "[J", Cond.constantLong RX6 100 (3), Cond.methodLink RX6 95 yX6_isDirection, Cond.static yX6_isDirection, Cond.initialized RX6, Cond.code yX6_isDirection cX6_isDirection 1 (some .boolean), Cond.methodLink RX6 37 yX6_in, Cond.static yX6_in, Cond.code yX6_in cX6_in 3 (some .boolean), Cond.methodLink RX6 53 yX6_goesWell, Cond.instanceMethod yX6_goesWell, Cond.selects RX6 yX6_goesWell yX6_goesWell, Cond.code yX6_goesWell cX6_goesWell 2 (some .boolean), Cond.fieldLink RX6 34 "ParticlewayModel" "thrown" "I", Cond.methodLink RX6 59 yX6_next, Cond.instanceMethod yX6_next, Cond.selects RX6 yX6_next yX6_next]
def wsX6_drive_r2 : List Cond := [Cond.code yX6_next cX6_next 1 (some .int), Cond.fieldLink RX6 13 "ParticlewayModel" "chance" "I", Cond.constant RX6 58 (65537), Cond.methodLink RX6 62 yX6_step, Cond.instanceMethod yX6_step, Cond.selects RX6 yX6_step yX6_step, Cond.code yX6_step cX6_step 5 (some .int), Cond.methodLink RX6 41 yX6_isCell, Cond.static yX6_isCell, Cond.code yX6_isCell cX6_isCell 2 (some .boolean), Cond.methodLink RX6 102 yX6_halve, Cond.instanceMethod yX6_halve, Cond.selects RX6 yX6_halve yX6_halve, Cond.code yX6_halve cX6_halve 2 none, Cond.constantLong RX6 91 (1099511627776), Cond.constantLong RX6 93 (2), Cond.methodLink RX6 87 yX6_greatest, Cond.instanceMethod yX6_greatest, Cond.selects RX6 yX6_greatest yX6_greatest, Cond.code yX6_greatest cX6_greatest 4 (some .long)]
def wsX6_drive : List Cond := .code yX6_drive cX6_drive 6 none :: ((wsX6_drive_r1 ++ wsX6_drive_r2) ++ wsX60)
def wsX6_judge : List Cond := .code yX6_judge cX6_judge 4 none :: ([.fieldLink RX6 69 "ParticlewayModel" "samples" "I", .fieldLink RX6 81 "ParticlewayModel" "readings" "I", .fieldLink RX6 105 "ParticlewayModel" "slow" "I", .fieldLink RX6 108 "ParticlewayModel" "fast" "I", .fieldLink RX6 84 "ParticlewayModel" "doubt" "I"] ++ wsX60)
def wsX6_manyNew : List Cond := .code yX6_manyNew cX6_manyNew 5 (some .int) :: ([.fieldLink RX6 69 "ParticlewayModel" "samples" "I", .fieldLink RX6 24 "ParticlewayModel" "weight" "[I", .fieldLink RX6 17 "ParticlewayModel" "sample" "[I"] ++ wsX60)
def wsX6_oldAbove : List Cond := .code yX6_oldAbove cX6_oldAbove 4 (some .int) :: ([.fieldLink RX6 24 "ParticlewayModel" "weight" "[I", .fieldLink RX6 21 "ParticlewayModel" "old" "[I"] ++ wsX60)
def wsX6_drawAnew_r1 : List Cond := [Cond.fieldLink RX6 69 "ParticlewayModel" "samples" "I", Cond.fieldLink RX6 21 "ParticlewayModel" "old" "[I", Cond.fieldLink RX6 17 "ParticlewayModel" "sample" "[I", Cond.fieldLink RX6 84 "ParticlewayModel" "doubt" "I", Cond.methodLink RX6 111 yX6_manyNew, Cond.instanceMethod yX6_manyNew, Cond.selects RX6 yX6_manyNew yX6_manyNew, Cond.initialized RX6, Cond.code yX6_manyNew cX6_manyNew 5 (some .int), Cond.fieldLink RX6 24 "ParticlewayModel" "weight" "[I", Cond.methodLink RX6 59 yX6_next, Cond.instanceMethod yX6_next, Cond.selects RX6 yX6_next yX6_next, Cond.code yX6_next cX6_next 1 (some .int), Cond.fieldLink RX6 13 "ParticlewayModel" "chance" "I", Cond.constant RX6 58 (65537), Cond.methodLink RX6 72 yX6_drawCell, Cond.instanceMethod yX6_drawCell, Cond.selects RX6 yX6_drawCell yX6_drawCell, Cond.code yX6_drawCell cX6_drawCell 3 (some .int), Cond.fieldLink RX6 7 "ParticlewayModel" "isWall" "[Z", Cond.methodLink RX6 45 yX6_free, Cond.instanceMethod yX6_free, Cond.selects RX6 yX6_free yX6_free]
def wsX6_drawAnew_r2 : List Cond := [Cond.code yX6_free cX6_free 3 (some .int), Cond.methodLink RX6 114 yX6_oldAbove, Cond.instanceMethod yX6_oldAbove, Cond.selects RX6 yX6_oldAbove yX6_oldAbove, Cond.code yX6_oldAbove cX6_oldAbove 4 (some .int)]
def wsX6_drawAnew : List Cond := .code yX6_drawAnew cX6_drawAnew 6 none :: ((wsX6_drawAnew_r1 ++ wsX6_drawAnew_r2) ++ wsX60)
def wsX6_read_r1 : List Cond := [Cond.fieldLink RX6 49 "ParticlewayModel" "isSpread" "Z", Cond.fieldLink RX6 78 "ParticlewayModel" "acts" "I", Cond.fieldLink RX6 69 "ParticlewayModel" "samples" "I", Cond.fieldLink RX6 24 "ParticlewayModel" "weight" "[I", Cond.fieldLink RX6 17 "ParticlewayModel" "sample" "[I", Cond.fieldLink RX6 27 "ParticlewayModel" "belief" "[J", Cond.fieldLink RX6 7 "ParticlewayModel" "isWall" "[Z", Cond.methodLink RX6 95 yX6_isDirection, Cond.static yX6_isDirection, Cond.initialized RX6, Cond.code yX6_isDirection cX6_isDirection 1 (some .boolean), Cond.methodLink RX6 37 yX6_in, Cond.static yX6_in, Cond.code yX6_in cX6_in 3 (some .boolean), Cond.methodLink RX6 53 yX6_goesWell, Cond.instanceMethod yX6_goesWell, Cond.selects RX6 yX6_goesWell yX6_goesWell, Cond.code yX6_goesWell cX6_goesWell 2 (some .boolean), Cond.fieldLink RX6 34 "ParticlewayModel" "thrown" "I", Cond.methodLink RX6 118 yX6_weightOf, Cond.instanceMethod yX6_weightOf, Cond.selects RX6 yX6_weightOf yX6_weightOf, Cond.code yX6_weightOf cX6_weightOf 5 (some .int), Cond.methodLink RX6 66 yX6_reads]
def wsX6_read_r2 : List Cond := [Cond.instanceMethod yX6_reads, Cond.selects RX6 yX6_reads yX6_reads, Cond.code yX6_reads cX6_reads 5 (some .int), Cond.methodLink RX6 62 yX6_step, Cond.instanceMethod yX6_step, Cond.selects RX6 yX6_step yX6_step, Cond.code yX6_step cX6_step 5 (some .int), Cond.methodLink RX6 41 yX6_isCell, Cond.static yX6_isCell, Cond.code yX6_isCell cX6_isCell 2 (some .boolean), Cond.methodLink RX6 122 yX6_judge, Cond.instanceMethod yX6_judge, Cond.selects RX6 yX6_judge yX6_judge, Cond.code yX6_judge cX6_judge 4 none, Cond.fieldLink RX6 81 "ParticlewayModel" "readings" "I", Cond.fieldLink RX6 105 "ParticlewayModel" "slow" "I", Cond.fieldLink RX6 108 "ParticlewayModel" "fast" "I", Cond.fieldLink RX6 84 "ParticlewayModel" "doubt" "I", Cond.methodLink RX6 126 yX6_drawAnew, Cond.instanceMethod yX6_drawAnew, Cond.selects RX6 yX6_drawAnew yX6_drawAnew, Cond.code yX6_drawAnew cX6_drawAnew 6 none, Cond.fieldLink RX6 21 "ParticlewayModel" "old" "[I", Cond.methodLink RX6 111 yX6_manyNew]
def wsX6_read_r3 : List Cond := [Cond.instanceMethod yX6_manyNew, Cond.selects RX6 yX6_manyNew yX6_manyNew, Cond.code yX6_manyNew cX6_manyNew 5 (some .int), Cond.methodLink RX6 59 yX6_next, Cond.instanceMethod yX6_next, Cond.selects RX6 yX6_next yX6_next, Cond.code yX6_next cX6_next 1 (some .int), Cond.fieldLink RX6 13 "ParticlewayModel" "chance" "I", Cond.constant RX6 58 (65537), Cond.methodLink RX6 72 yX6_drawCell, Cond.instanceMethod yX6_drawCell, Cond.selects RX6 yX6_drawCell yX6_drawCell, Cond.code yX6_drawCell cX6_drawCell 3 (some .int), Cond.methodLink RX6 45 yX6_free, Cond.instanceMethod yX6_free, Cond.selects RX6 yX6_free yX6_free, Cond.code yX6_free cX6_free 3 (some .int), Cond.methodLink RX6 114 yX6_oldAbove, Cond.instanceMethod yX6_oldAbove, Cond.selects RX6 yX6_oldAbove yX6_oldAbove, Cond.code yX6_oldAbove cX6_oldAbove 4 (some .int), Cond.methodLink RX6 129 yX6_areNone, Cond.instanceMethod yX6_areNone, Cond.selects RX6 yX6_areNone yX6_areNone]
def wsX6_read_r4 : List Cond := [Cond.code yX6_areNone cX6_areNone 3 (some .boolean), Cond.methodLink RX6 75 yX6_believeAll, Cond.instanceMethod yX6_believeAll, Cond.selects RX6 yX6_believeAll yX6_believeAll, Cond.code yX6_believeAll cX6_believeAll 2 none, Cond.methodLink RX6 102 yX6_halve, Cond.instanceMethod yX6_halve, Cond.selects RX6 yX6_halve yX6_halve, Cond.code yX6_halve cX6_halve 2 none, Cond.constantLong RX6 91 (1099511627776), Cond.constantLong RX6 93 (2), Cond.methodLink RX6 87 yX6_greatest, Cond.instanceMethod yX6_greatest, Cond.selects RX6 yX6_greatest yX6_greatest, Cond.code yX6_greatest cX6_greatest 4 (some .long)]
def wsX6_read : List Cond := .code yX6_read cX6_read 7 (some .int) :: ((wsX6_read_r1 ++ (wsX6_read_r2 ++ (wsX6_read_r3 ++ wsX6_read_r4))) ++ wsX60)
def wsX6_toRead : List Cond := .code yX6_toRead cX6_toRead 4 (some .int) :: ([.fieldLink RX6 7 "ParticlewayModel" "isWall" "[Z", .methodLink RX6 41 yX6_isCell, .static yX6_isCell, .initialized RX6, .code yX6_isCell cX6_isCell 2 (some .boolean), .methodLink RX6 37 yX6_in, .static yX6_in, .code yX6_in cX6_in 3 (some .boolean), .methodLink RX6 95 yX6_isDirection, .static yX6_isDirection, .code yX6_isDirection cX6_isDirection 1 (some .boolean), .methodLink RX6 53 yX6_goesWell, .instanceMethod yX6_goesWell, .selects RX6 yX6_goesWell yX6_goesWell, .code yX6_goesWell cX6_goesWell 2 (some .boolean), .fieldLink RX6 34 "ParticlewayModel" "thrown" "I", .methodLink RX6 66 yX6_reads, .instanceMethod yX6_reads, .selects RX6 yX6_reads yX6_reads, .code yX6_reads cX6_reads 5 (some .int), .methodLink RX6 62 yX6_step, .instanceMethod yX6_step, .selects RX6 yX6_step yX6_step, .code yX6_step cX6_step 5 (some .int)] ++ wsX60)
def wsX6_samples : List Cond := .code yX6_samples cX6_samples 1 (some .int) :: ([.fieldLink RX6 49 "ParticlewayModel" "isSpread" "Z", .fieldLink RX6 69 "ParticlewayModel" "samples" "I", .methodLink RX6 53 yX6_goesWell, .instanceMethod yX6_goesWell, .selects RX6 yX6_goesWell yX6_goesWell, .initialized RX6, .code yX6_goesWell cX6_goesWell 2 (some .boolean), .fieldLink RX6 34 "ParticlewayModel" "thrown" "I"] ++ wsX60)
def wsX6_sample : List Cond := .code yX6_sample cX6_sample 2 (some .int) :: ([.fieldLink RX6 49 "ParticlewayModel" "isSpread" "Z", .fieldLink RX6 69 "ParticlewayModel" "samples" "I", .fieldLink RX6 17 "ParticlewayModel" "sample" "[I", .methodLink RX6 37 yX6_in, .static yX6_in, .initialized RX6, .code yX6_in cX6_in 3 (some .boolean), .methodLink RX6 53 yX6_goesWell, .instanceMethod yX6_goesWell, .selects RX6 yX6_goesWell yX6_goesWell, .code yX6_goesWell cX6_goesWell 2 (some .boolean), .fieldLink RX6 34 "ParticlewayModel" "thrown" "I"] ++ wsX60)
def wsX6_countOf : List Cond := .code yX6_countOf cX6_countOf 4 (some .int) :: ([.fieldLink RX6 69 "ParticlewayModel" "samples" "I", .fieldLink RX6 17 "ParticlewayModel" "sample" "[I"] ++ wsX60)
def wsX6_count : List Cond := .code yX6_count cX6_count 4 (some .int) :: ([.fieldLink RX6 49 "ParticlewayModel" "isSpread" "Z", .methodLink RX6 41 yX6_isCell, .static yX6_isCell, .initialized RX6, .code yX6_isCell cX6_isCell 2 (some .boolean), .methodLink RX6 37 yX6_in, .static yX6_in, .code yX6_in cX6_in 3 (some .boolean), .methodLink RX6 53 yX6_goesWell, .instanceMethod yX6_goesWell, .selects RX6 yX6_goesWell yX6_goesWell, .code yX6_goesWell cX6_goesWell 2 (some .boolean), .fieldLink RX6 34 "ParticlewayModel" "thrown" "I", .methodLink RX6 133 yX6_countOf, .instanceMethod yX6_countOf, .selects RX6 yX6_countOf yX6_countOf, .code yX6_countOf cX6_countOf 4 (some .int), .fieldLink RX6 69 "ParticlewayModel" "samples" "I", .fieldLink RX6 17 "ParticlewayModel" "sample" "[I"] ++ wsX60)
def wsX6_belief : List Cond := .code yX6_belief cX6_belief 4 (some .long) :: ([.fieldLink RX6 49 "ParticlewayModel" "isSpread" "Z", .fieldLink RX6 27 "ParticlewayModel" "belief" "[J", .methodLink RX6 41 yX6_isCell, .static yX6_isCell, .initialized RX6, .code yX6_isCell cX6_isCell 2 (some .boolean), .methodLink RX6 37 yX6_in, .static yX6_in, .code yX6_in cX6_in 3 (some .boolean), .methodLink RX6 53 yX6_goesWell, .instanceMethod yX6_goesWell, .selects RX6 yX6_goesWell yX6_goesWell, .code yX6_goesWell cX6_goesWell 2 (some .boolean), .fieldLink RX6 34 "ParticlewayModel" "thrown" "I"] ++ wsX60)
def wsX6_beliefAnew : List Cond := .code yX6_beliefAnew cX6_beliefAnew 4 (some .long) :: ([.fieldLink RX6 49 "ParticlewayModel" "isSpread" "Z", .fieldLink RX6 27 "ParticlewayModel" "belief" "[J", .methodLink RX6 41 yX6_isCell, .static yX6_isCell, .initialized RX6, .code yX6_isCell cX6_isCell 2 (some .boolean), .methodLink RX6 37 yX6_in, .static yX6_in, .code yX6_in cX6_in 3 (some .boolean), .methodLink RX6 53 yX6_goesWell, .instanceMethod yX6_goesWell, .selects RX6 yX6_goesWell yX6_goesWell, .code yX6_goesWell cX6_goesWell 2 (some .boolean), .fieldLink RX6 34 "ParticlewayModel" "thrown" "I"] ++ wsX60)
def wsX6_partOf : List Cond := .code yX6_partOf cX6_partOf 3 (some .long) :: ([.fieldLink RX6 27 "ParticlewayModel" "belief" "[J", .methodLink RX6 133 yX6_countOf, .instanceMethod yX6_countOf, .selects RX6 yX6_countOf yX6_countOf, .initialized RX6, .code yX6_countOf cX6_countOf 4 (some .int), .fieldLink RX6 69 "ParticlewayModel" "samples" "I", .fieldLink RX6 17 "ParticlewayModel" "sample" "[I"] ++ wsX60)
def wsX6_mode : List Cond := .code yX6_mode cX6_mode 4 (some .int) :: ([.fieldLink RX6 49 "ParticlewayModel" "isSpread" "Z", .methodLink RX6 53 yX6_goesWell, .instanceMethod yX6_goesWell, .selects RX6 yX6_goesWell yX6_goesWell, .initialized RX6, .code yX6_goesWell cX6_goesWell 2 (some .boolean), .fieldLink RX6 34 "ParticlewayModel" "thrown" "I", .methodLink RX6 136 yX6_partOf, .instanceMethod yX6_partOf, .selects RX6 yX6_partOf yX6_partOf, .code yX6_partOf cX6_partOf 3 (some .long), .fieldLink RX6 27 "ParticlewayModel" "belief" "[J", .methodLink RX6 133 yX6_countOf, .instanceMethod yX6_countOf, .selects RX6 yX6_countOf yX6_countOf, .code yX6_countOf cX6_countOf 4 (some .int), .fieldLink RX6 69 "ParticlewayModel" "samples" "I", .fieldLink RX6 17 "ParticlewayModel" "sample" "[I"] ++ wsX60)
def wsX6_mean : List Cond := .code yX6_mean cX6_mean 10 (some .int) :: ([.fieldLink RX6 49 "ParticlewayModel" "isSpread" "Z", .constantLong RX6 140 (100), .methodLink RX6 53 yX6_goesWell, .instanceMethod yX6_goesWell, .selects RX6 yX6_goesWell yX6_goesWell, .initialized RX6, .code yX6_goesWell cX6_goesWell 2 (some .boolean), .fieldLink RX6 34 "ParticlewayModel" "thrown" "I", .methodLink RX6 136 yX6_partOf, .instanceMethod yX6_partOf, .selects RX6 yX6_partOf yX6_partOf, .code yX6_partOf cX6_partOf 3 (some .long), .fieldLink RX6 27 "ParticlewayModel" "belief" "[J", .methodLink RX6 133 yX6_countOf, .instanceMethod yX6_countOf, .selects RX6 yX6_countOf yX6_countOf, .code yX6_countOf cX6_countOf 4 (some .int), .fieldLink RX6 69 "ParticlewayModel" "samples" "I", .fieldLink RX6 17 "ParticlewayModel" "sample" "[I"] ++ wsX60)
def wsX6_share_r1 : List Cond := [Cond.fieldLink RX6 49 "ParticlewayModel" "isSpread" "Z", Cond.constantLong RX6 142 (1000), Cond.methodLink RX6 41 yX6_isCell, Cond.static yX6_isCell, Cond.initialized RX6, Cond.code yX6_isCell cX6_isCell 2 (some .boolean), Cond.methodLink RX6 37 yX6_in, Cond.static yX6_in, Cond.code yX6_in cX6_in 3 (some .boolean), Cond.methodLink RX6 53 yX6_goesWell, Cond.instanceMethod yX6_goesWell, Cond.selects RX6 yX6_goesWell yX6_goesWell, Cond.code yX6_goesWell cX6_goesWell 2 (some .boolean), Cond.fieldLink RX6 34 "ParticlewayModel" "thrown" "I", Cond.methodLink RX6 136 yX6_partOf, Cond.instanceMethod yX6_partOf, Cond.selects RX6 yX6_partOf yX6_partOf, Cond.code yX6_partOf cX6_partOf 3 (some .long), Cond.fieldLink RX6 27 "ParticlewayModel" "belief" "[J", Cond.methodLink RX6 133 yX6_countOf, Cond.instanceMethod yX6_countOf, Cond.selects RX6 yX6_countOf yX6_countOf, Cond.code yX6_countOf cX6_countOf 4 (some .int), Cond.fieldLink RX6 69 "ParticlewayModel" "samples" "I"]
def wsX6_share_r2 : List Cond := [Cond.fieldLink RX6 17 "ParticlewayModel" "sample" "[I"]
def wsX6_share : List Cond := .code yX6_share cX6_share 15 (some .int) :: ((wsX6_share_r1 ++ wsX6_share_r2) ++ wsX60)
def wsX6_ahead : List Cond := .code yX6_ahead cX6_ahead 4 (some .int) :: ([.fieldLink RX6 27 "ParticlewayModel" "belief" "[J"] ++ wsX60)
def wsX6_best : List Cond := .code yX6_best cX6_best 4 (some .int) :: ([.fieldLink RX6 49 "ParticlewayModel" "isSpread" "Z", .fieldLink RX6 27 "ParticlewayModel" "belief" "[J", .methodLink RX6 53 yX6_goesWell, .instanceMethod yX6_goesWell, .selects RX6 yX6_goesWell yX6_goesWell, .initialized RX6, .code yX6_goesWell cX6_goesWell 2 (some .boolean), .fieldLink RX6 34 "ParticlewayModel" "thrown" "I", .methodLink RX6 144 yX6_ahead, .instanceMethod yX6_ahead, .selects RX6 yX6_ahead yX6_ahead, .code yX6_ahead cX6_ahead 4 (some .int)] ++ wsX60)
def wsX6_doubt : List Cond := .code yX6_doubt cX6_doubt 1 (some .int) :: ([.fieldLink RX6 49 "ParticlewayModel" "isSpread" "Z", .fieldLink RX6 84 "ParticlewayModel" "doubt" "I", .methodLink RX6 53 yX6_goesWell, .instanceMethod yX6_goesWell, .selects RX6 yX6_goesWell yX6_goesWell, .initialized RX6, .code yX6_goesWell cX6_goesWell 2 (some .boolean), .fieldLink RX6 34 "ParticlewayModel" "thrown" "I"] ++ wsX60)
def wsJ9_abs_0f7a4 : List Cond := .code yJ9_abs_0f7a4 cJ9_abs_0f7a4 1 (some .int) :: ([])
def wsJ9_max_7cf53 : List Cond := .code yJ9_max_7cf53 cJ9_max_7cf53 2 (some .int) :: ([])
def wsJ9_max_f86c9 : List Cond := .code yJ9_max_f86c9 cJ9_max_f86c9 4 (some .long) :: ([])
def wsJ9_min_7cf53 : List Cond := .code yJ9_min_7cf53 cJ9_min_7cf53 2 (some .int) :: ([])
def wsL_wall_r1 : List Cond := [Cond.classLink RL 13 "java/lang/IndexOutOfBoundsException", Cond.classLink RL 15 "java/lang/IllegalStateException", Cond.methodLink RL 7 yX5_wall, Cond.instanceMethod yX5_wall, Cond.selects RX5 yX5_wall yX5_wall, Cond.initialized RX5, Cond.code yX5_wall cX5_wall 7 (some .boolean), Cond.classLink RX5 75 "java/lang/IllegalStateException", Cond.initialized "java/lang/IllegalStateException", Cond.fieldLink RX5 10 "Particleway" "field" "LParticleway$Field;", Cond.fieldLink RX5 55 "Particleway" "isSpread" "Z", Cond.methodLink RX5 59 yX5_checkCell, Cond.static yX5_checkCell, Cond.code yX5_checkCell cX5_checkCell 2 none, Cond.classLink RX5 125 "java/lang/IndexOutOfBoundsException", Cond.initialized "java/lang/IndexOutOfBoundsException", Cond.methodLink RX5 178 yX5_isInField, Cond.static yX5_isInField, Cond.code yX5_isInField cX5_isInField 2 (some .boolean), Cond.methodLink RX5 63 yX5_numberOf, Cond.static yX5_numberOf, Cond.code yX5_numberOf cX5_numberOf 2 (some .int), Cond.methodLink RX5 67 yX3_isFree, Cond.instanceMethod yX3_isFree]
def wsL_wall_r2 : List Cond := [Cond.selects RX3 yX3_isFree yX3_isFree, Cond.initialized RX3, Cond.code yX3_isFree cX3_isFree 2 (some .boolean), Cond.fieldLink RX3 9 "Particleway$Field" "walls" "[Z", Cond.static yX5_isCell, Cond.code yX5_isCell cX5_isCell 1 (some .boolean), Cond.methodLink RX5 71 yX3_freeCells, Cond.instanceMethod yX3_freeCells, Cond.selects RX3 yX3_freeCells yX3_freeCells, Cond.code yX3_freeCells cX3_freeCells 1 (some .int), Cond.fieldLink RX3 26 "Particleway$Field" "free" "I", Cond.methodLink RX5 78 yX3_build, Cond.instanceMethod yX3_build, Cond.selects RX3 yX3_build yX3_build, Cond.code yX3_build cX3_build 3 none, Cond.methodLink RX3 19 yX3_measure, Cond.instanceMethod yX3_measure, Cond.selects RX3 yX3_measure yX3_measure, Cond.code yX3_measure cX3_measure 3 none, Cond.fieldLink RX3 15 "Particleway$Field" "ahead" "[I", Cond.methodLink RX3 68 yX3_countedSteps, Cond.instanceMethod yX3_countedSteps, Cond.selects RX3 yX3_countedSteps yX3_countedSteps, Cond.code yX3_countedSteps cX3_countedSteps 4 (some .int)]
def wsL_wall_r3 : List Cond := [Cond.methodLink RX3 48 yX3_shifted, Cond.static yX3_shifted, Cond.code yX3_shifted cX3_shifted 5 (some .int), Cond.fieldLink RX3 55 "Particleway$Field" "STEP_X" "[I", Cond.fieldLink RX3 58 "Particleway$Field" "STEP_Y" "[I", Cond.static yX5_isDirection, Cond.code yX5_isDirection cX5_isDirection 1 (some .boolean), Cond.methodLink RX3 71 yX3_isFree]
def wsL_wall : List Cond := .codeWith yL_wall cL_wall 6 (some .int) [(0, 19, 22, 13), (0, 19, 26, 15)] :: ((wsL_wall_r1 ++ (wsL_wall_r2 ++ wsL_wall_r3)) ++ wsX50 ++ wsX30 ++ (vx_at0 RX5 77 "java/lang/IllegalStateException" ["java/lang/RuntimeException", "java/lang/Exception"]).filter goodWord ++ (vx_at0 RX5 127 "java/lang/IndexOutOfBoundsException" ["java/lang/RuntimeException", "java/lang/Exception"]).filter goodWord)
def wsL_draw : List Cond := .codeWith yL_draw cL_draw 4 (some .int) [(0, 9, 12, 21)] :: ([.classLink RL 21 "java/lang/IllegalArgumentException", .methodLink RL 17 yX5_draw, .instanceMethod yX5_draw, .selects RX5 yX5_draw yX5_draw, .initialized RX5, .code yX5_draw cX5_draw 2 (some .int), .classLink RX5 83 "java/lang/IllegalArgumentException", .initialized "java/lang/IllegalArgumentException", .constant RX5 82 (65536), .fieldLink RX5 19 "Particleway" "chance" "LParticleway$Chance;", .methodLink RX5 86 yX1_change, .instanceMethod yX1_change, .selects RX1 yX1_change yX1_change, .initialized RX1, .code yX1_change cX1_change 3 (some .int), .fieldLink RX1 7 "Particleway$Chance" "x" "I"] ++ wsX50 ++ wsX10 ++ (vx_at0 RX5 85 "java/lang/IllegalArgumentException" ["java/lang/RuntimeException", "java/lang/Exception"]).filter goodWord)
def wsL_spread_r1 : List Cond := [Cond.classLink RL 21 "java/lang/IllegalArgumentException", Cond.methodLink RL 23 yX5_spread, Cond.instanceMethod yX5_spread, Cond.selects RX5 yX5_spread yX5_spread, Cond.initialized RX5, Cond.code yX5_spread cX5_spread 2 none, Cond.classLink RX5 83 "java/lang/IllegalArgumentException", Cond.initialized "java/lang/IllegalArgumentException", Cond.fieldLink RX5 28 "Particleway" "samples" "LParticleway$Samples;", Cond.fieldLink RX5 37 "Particleway" "beliefs" "LParticleway$Beliefs;", Cond.fieldLink RX5 51 "Particleway" "told" "I", Cond.fieldLink RX5 55 "Particleway" "isSpread" "Z", Cond.methodLink RX5 90 yX4_begin, Cond.instanceMethod yX4_begin, Cond.selects RX4 yX4_begin yX4_begin, Cond.initialized RX4, Cond.code yX4_begin cX4_begin 3 none, Cond.fieldLink RX4 36 "Particleway$Samples" "many" "I", Cond.fieldLink RX4 19 "Particleway$Samples" "cells" "[I", Cond.fieldLink RX4 9 "Particleway$Samples" "field" "LParticleway$Field;", Cond.fieldLink RX4 15 "Particleway$Samples" "chance" "LParticleway$Chance;", Cond.fieldLink RX4 56 "Particleway$Samples" "isRead" "Z", Cond.fieldLink RX4 60 "Particleway$Samples" "slow" "I", Cond.fieldLink RX4 63 "Particleway$Samples" "fast" "I"]
def wsL_spread_r2 : List Cond := [Cond.fieldLink RX4 40 "Particleway$Samples" "doubt" "I", Cond.methodLink RX4 50 yX3_drawnCell, Cond.instanceMethod yX3_drawnCell, Cond.selects RX3 yX3_drawnCell yX3_drawnCell, Cond.initialized RX3, Cond.code yX3_drawnCell cX3_drawnCell 4 (some .int), Cond.fieldLink RX3 26 "Particleway$Field" "free" "I", Cond.fieldLink RX3 9 "Particleway$Field" "walls" "[Z", Cond.methodLink RX3 30 yX1_remainder, Cond.instanceMethod yX1_remainder, Cond.selects RX1 yX1_remainder yX1_remainder, Cond.initialized RX1, Cond.code yX1_remainder cX1_remainder 2 (some .int), Cond.fieldLink RX1 7 "Particleway$Chance" "x" "I", Cond.constant RX1 13 (65537), Cond.methodLink RX5 94 yX0_begin, Cond.instanceMethod yX0_begin, Cond.selects RX0 yX0_begin yX0_begin, Cond.initialized RX0, Cond.code yX0_begin cX0_begin 2 none, Cond.fieldLink RX0 18 "Particleway$Beliefs" "now" "LParticleway$Chart;", Cond.fieldLink RX0 9 "Particleway$Beliefs" "field" "LParticleway$Field;", Cond.methodLink RX0 25 yX3_isFree, Cond.instanceMethod yX3_isFree]
def wsL_spread_r3 : List Cond := [Cond.selects RX3 yX3_isFree yX3_isFree, Cond.code yX3_isFree cX3_isFree 2 (some .boolean), Cond.static yX5_isCell, Cond.code yX5_isCell cX5_isCell 1 (some .boolean), Cond.methodLink RX0 31 yX2_put, Cond.instanceMethod yX2_put, Cond.selects RX2 yX2_put yX2_put, Cond.initialized RX2, Cond.code yX2_put cX2_put 4 none, Cond.fieldLink RX2 9 "Particleway$Chart" "numbers" "[J"]
def wsL_spread : List Cond := .codeWith yL_spread cL_spread 3 (some .int) [(0, 5, 8, 21)] :: ((wsL_spread_r1 ++ (wsL_spread_r2 ++ wsL_spread_r3)) ++ wsX50 ++ wsX40 ++ wsX30 ++ wsX10 ++ wsX00 ++ wsX20 ++ (vx_at0 RX5 85 "java/lang/IllegalArgumentException" ["java/lang/RuntimeException", "java/lang/Exception"]).filter goodWord)
def wsL_drive_r1 : List Cond := [Cond.classLink RL 13 "java/lang/IndexOutOfBoundsException", Cond.classLink RL 15 "java/lang/IllegalStateException", Cond.methodLink RL 27 yX5_drive, Cond.instanceMethod yX5_drive, Cond.selects RX5 yX5_drive yX5_drive, Cond.initialized RX5, Cond.code yX5_drive cX5_drive 2 none, Cond.fieldLink RX5 28 "Particleway" "samples" "LParticleway$Samples;", Cond.fieldLink RX5 37 "Particleway" "beliefs" "LParticleway$Beliefs;", Cond.methodLink RX5 96 yX5_checkDirection, Cond.static yX5_checkDirection, Cond.code yX5_checkDirection cX5_checkDirection 1 none, Cond.classLink RX5 125 "java/lang/IndexOutOfBoundsException", Cond.initialized "java/lang/IndexOutOfBoundsException", Cond.methodLink RX5 182 yX5_isDirection, Cond.static yX5_isDirection, Cond.code yX5_isDirection cX5_isDirection 1 (some .boolean), Cond.methodLink RX5 99 yX5_checkMayTell, Cond.instanceMethod yX5_checkMayTell, Cond.selects RX5 yX5_checkMayTell yX5_checkMayTell, Cond.code yX5_checkMayTell cX5_checkMayTell 1 none, Cond.classLink RX5 75 "java/lang/IllegalStateException", Cond.initialized "java/lang/IllegalStateException", Cond.fieldLink RX5 55 "Particleway" "isSpread" "Z"]
def wsL_drive_r2 : List Cond := [Cond.fieldLink RX5 51 "Particleway" "told" "I", Cond.methodLink RX5 102 yX4_move, Cond.instanceMethod yX4_move, Cond.selects RX4 yX4_move yX4_move, Cond.initialized RX4, Cond.code yX4_move cX4_move 3 none, Cond.fieldLink RX4 36 "Particleway$Samples" "many" "I", Cond.fieldLink RX4 19 "Particleway$Samples" "cells" "[I", Cond.fieldLink RX4 9 "Particleway$Samples" "field" "LParticleway$Field;", Cond.methodLink RX4 66 yX4_drawnSteps, Cond.instanceMethod yX4_drawnSteps, Cond.selects RX4 yX4_drawnSteps yX4_drawnSteps, Cond.code yX4_drawnSteps cX4_drawnSteps 2 (some .int), Cond.fieldLink RX4 15 "Particleway$Samples" "chance" "LParticleway$Chance;", Cond.methodLink RX4 74 yX1_remainder, Cond.instanceMethod yX1_remainder, Cond.selects RX1 yX1_remainder yX1_remainder, Cond.initialized RX1, Cond.code yX1_remainder cX1_remainder 2 (some .int), Cond.fieldLink RX1 7 "Particleway$Chance" "x" "I", Cond.constant RX1 13 (65537), Cond.methodLink RX4 70 yX3_led, Cond.instanceMethod yX3_led, Cond.selects RX3 yX3_led yX3_led]
def wsL_drive_r3 : List Cond := [Cond.initialized RX3, Cond.code yX3_led cX3_led 4 (some .int), Cond.methodLink RX3 43 Lib.Math.min.name, Cond.static Lib.Math.min.name, Cond.initialized "java/lang/Math", Cond.code Lib.Math.min.name Lib.Math.min.code 2 (some .int), Cond.methodLink RX3 39 yX3_stepsAhead, Cond.instanceMethod yX3_stepsAhead, Cond.selects RX3 yX3_stepsAhead yX3_stepsAhead, Cond.code yX3_stepsAhead cX3_stepsAhead 3 (some .int), Cond.fieldLink RX3 15 "Particleway$Field" "ahead" "[I", Cond.static yX5_isCell, Cond.code yX5_isCell cX5_isCell 1 (some .boolean), Cond.methodLink RX3 48 yX3_shifted, Cond.static yX3_shifted, Cond.code yX3_shifted cX3_shifted 5 (some .int), Cond.fieldLink RX3 55 "Particleway$Field" "STEP_X" "[I", Cond.fieldLink RX3 58 "Particleway$Field" "STEP_Y" "[I", Cond.static yX5_isInField, Cond.code yX5_isInField cX5_isInField 2 (some .boolean), Cond.static yX5_numberOf, Cond.code yX5_numberOf cX5_numberOf 2 (some .int), Cond.methodLink RX5 105 yX0_push, Cond.instanceMethod yX0_push]
def wsL_drive_r4 : List Cond := [Cond.selects RX0 yX0_push yX0_push, Cond.initialized RX0, Cond.code yX0_push cX0_push 3 none, Cond.fieldLink RX0 22 "Particleway$Beliefs" "before" "LParticleway$Chart;", Cond.fieldLink RX0 18 "Particleway$Beliefs" "now" "LParticleway$Chart;", Cond.fieldLink RX0 9 "Particleway$Beliefs" "field" "LParticleway$Field;", Cond.constantLong RX0 42 (3), Cond.constantLong RX0 55 (12), Cond.methodLink RX0 35 yX2_copy, Cond.instanceMethod yX2_copy, Cond.selects RX2 yX2_copy yX2_copy, Cond.initialized RX2, Cond.code yX2_copy cX2_copy 2 none, Cond.fieldLink RX2 9 "Particleway$Chart" "numbers" "[J", Cond.methodLink RX2 21 arraycopyName, Cond.native arraycopyName, Cond.static arraycopyName, Cond.initialized "java/lang/System", Cond.methodLink RX0 39 yX2_clear, Cond.instanceMethod yX2_clear, Cond.selects RX2 yX2_clear yX2_clear, Cond.code yX2_clear cX2_clear 2 none, Cond.methodLink RX0 25 yX3_isFree, Cond.instanceMethod yX3_isFree]
def wsL_drive_r5 : List Cond := [Cond.selects RX3 yX3_isFree yX3_isFree, Cond.code yX3_isFree cX3_isFree 2 (some .boolean), Cond.fieldLink RX3 9 "Particleway$Field" "walls" "[Z", Cond.methodLink RX0 44 yX2_at, Cond.instanceMethod yX2_at, Cond.selects RX2 yX2_at yX2_at, Cond.code yX2_at cX2_at 2 (some .long), Cond.methodLink RX0 48 yX2_add, Cond.instanceMethod yX2_add, Cond.selects RX2 yX2_add yX2_add, Cond.code yX2_add cX2_add 4 none, Cond.methodLink RX0 51 yX3_led, Cond.methodLink RX0 57 yX0_halveGreat, Cond.instanceMethod yX0_halveGreat, Cond.selects RX0 yX0_halveGreat yX0_halveGreat, Cond.code yX0_halveGreat cX0_halveGreat 2 none, Cond.constantLong RX0 77 (1099511627776), Cond.methodLink RX0 70 yX2_greatest, Cond.instanceMethod yX2_greatest, Cond.selects RX2 yX2_greatest yX2_greatest, Cond.code yX2_greatest cX2_greatest 4 (some .long), Cond.methodLink RX2 27 Lib.MathLoose.max_long.x, Cond.static Lib.MathLoose.max_long.x, Cond.code Lib.MathLoose.max_long.x Lib.MathLoose.max_long.code 4 (some .long)]
def wsL_drive_r6 : List Cond := [Cond.methodLink RX0 79 yX2_halve, Cond.instanceMethod yX2_halve, Cond.selects RX2 yX2_halve yX2_halve, Cond.code yX2_halve cX2_halve 2 none, Cond.constantLong RX2 19 (2), Cond.methodLink RX5 108 yX5_keep, Cond.instanceMethod yX5_keep, Cond.selects RX5 yX5_keep yX5_keep, Cond.code yX5_keep cX5_keep 3 none, Cond.fieldLink RX5 44 "Particleway" "toldDirections" "[I", Cond.fieldLink RX5 48 "Particleway" "toldReadings" "[I"]
def wsL_drive : List Cond := .codeWith yL_drive cL_drive 3 (some .int) [(0, 5, 8, 13), (0, 5, 11, 15)] :: ((wsL_drive_r1 ++ (wsL_drive_r2 ++ (wsL_drive_r3 ++ (wsL_drive_r4 ++ (wsL_drive_r5 ++ wsL_drive_r6))))) ++ wsX50 ++ wsX40 ++ wsX10 ++ wsX30 ++ wsX00 ++ wsX20 ++ (vx_at0 RX5 127 "java/lang/IndexOutOfBoundsException" ["java/lang/RuntimeException", "java/lang/Exception"]).filter goodWord ++ (vx_at0 RX5 77 "java/lang/IllegalStateException" ["java/lang/RuntimeException", "java/lang/Exception"]).filter goodWord)
def wsL_read_r1 : List Cond := [Cond.classLink RL 13 "java/lang/IndexOutOfBoundsException", Cond.classLink RL 21 "java/lang/IllegalArgumentException", Cond.classLink RL 15 "java/lang/IllegalStateException", Cond.methodLink RL 30 yX5_read, Cond.instanceMethod yX5_read, Cond.selects RX5 yX5_read yX5_read, Cond.initialized RX5, Cond.code yX5_read cX5_read 4 (some .int), Cond.classLink RX5 83 "java/lang/IllegalArgumentException", Cond.initialized "java/lang/IllegalArgumentException", Cond.fieldLink RX5 28 "Particleway" "samples" "LParticleway$Samples;", Cond.fieldLink RX5 37 "Particleway" "beliefs" "LParticleway$Beliefs;", Cond.methodLink RX5 96 yX5_checkDirection, Cond.static yX5_checkDirection, Cond.code yX5_checkDirection cX5_checkDirection 1 none, Cond.classLink RX5 125 "java/lang/IndexOutOfBoundsException", Cond.initialized "java/lang/IndexOutOfBoundsException", Cond.methodLink RX5 182 yX5_isDirection, Cond.static yX5_isDirection, Cond.code yX5_isDirection cX5_isDirection 1 (some .boolean), Cond.methodLink RX5 99 yX5_checkMayTell, Cond.instanceMethod yX5_checkMayTell, Cond.selects RX5 yX5_checkMayTell yX5_checkMayTell, Cond.code yX5_checkMayTell cX5_checkMayTell 1 none]
def wsL_read_r2 : List Cond := [Cond.classLink RX5 75 "java/lang/IllegalStateException", Cond.initialized "java/lang/IllegalStateException", Cond.fieldLink RX5 55 "Particleway" "isSpread" "Z", Cond.fieldLink RX5 51 "Particleway" "told" "I", Cond.methodLink RX5 111 yX4_weigh, Cond.instanceMethod yX4_weigh, Cond.selects RX4 yX4_weigh yX4_weigh, Cond.initialized RX4, Cond.code yX4_weigh cX4_weigh 5 (some .int), Cond.fieldLink RX4 36 "Particleway$Samples" "many" "I", Cond.fieldLink RX4 26 "Particleway$Samples" "weights" "[I", Cond.fieldLink RX4 9 "Particleway$Samples" "field" "LParticleway$Field;", Cond.fieldLink RX4 19 "Particleway$Samples" "cells" "[I", Cond.methodLink RX4 80 yX3_weight, Cond.instanceMethod yX3_weight, Cond.selects RX3 yX3_weight yX3_weight, Cond.initialized RX3, Cond.code yX3_weight cX3_weight 4 (some .int), Cond.methodLink RX3 52 Lib.Math.abs.name, Cond.static Lib.Math.abs.name, Cond.initialized "java/lang/Math", Cond.code Lib.Math.abs.name Lib.Math.abs.code 1 (some .int), Cond.methodLink RX3 39 yX3_stepsAhead, Cond.instanceMethod yX3_stepsAhead]
def wsL_read_r3 : List Cond := [Cond.selects RX3 yX3_stepsAhead yX3_stepsAhead, Cond.code yX3_stepsAhead cX3_stepsAhead 3 (some .int), Cond.fieldLink RX3 15 "Particleway$Field" "ahead" "[I", Cond.static yX5_isCell, Cond.code yX5_isCell cX5_isCell 1 (some .boolean), Cond.static yX5_quotient, Cond.code yX5_quotient cX5_quotient 4 (some .long), Cond.methodLink RX4 87 yX4_compareFit, Cond.instanceMethod yX4_compareFit, Cond.selects RX4 yX4_compareFit yX4_compareFit, Cond.code yX4_compareFit cX4_compareFit 2 none, Cond.fieldLink RX4 56 "Particleway$Samples" "isRead" "Z", Cond.fieldLink RX4 60 "Particleway$Samples" "slow" "I", Cond.fieldLink RX4 63 "Particleway$Samples" "fast" "I", Cond.methodLink RX4 99 Lib.Math.max.name, Cond.static Lib.Math.max.name, Cond.code Lib.Math.max.name Lib.Math.max.code 2 (some .int), Cond.fieldLink RX4 40 "Particleway$Samples" "doubt" "I", Cond.methodLink RX4 91 yX4_manyAnew, Cond.instanceMethod yX4_manyAnew, Cond.selects RX4 yX4_manyAnew yX4_manyAnew, Cond.code yX4_manyAnew cX4_manyAnew 6 (some .int), Cond.methodLink RX4 112 Lib.Math.min.name, Cond.static Lib.Math.min.name]
def wsL_read_r4 : List Cond := [Cond.code Lib.Math.min.name Lib.Math.min.code 2 (some .int), Cond.methodLink RX4 104 yX4_chart, Cond.instanceMethod yX4_chart, Cond.selects RX4 yX4_chart yX4_chart, Cond.code yX4_chart cX4_chart 2 (some (.object "Particleway$Chart")), Cond.fieldLink RX4 32 "Particleway$Samples" "counts" "LParticleway$Chart;", Cond.methodLink RX4 43 yX2_clear, Cond.instanceMethod yX2_clear, Cond.selects RX2 yX2_clear yX2_clear, Cond.initialized RX2, Cond.code yX2_clear cX2_clear 2 none, Cond.fieldLink RX2 9 "Particleway$Chart" "numbers" "[J", Cond.methodLink RX4 46 yX2_add, Cond.instanceMethod yX2_add, Cond.selects RX2 yX2_add yX2_add, Cond.code yX2_add cX2_add 4 none, Cond.methodLink RX4 108 yX2_at, Cond.instanceMethod yX2_at, Cond.selects RX2 yX2_at yX2_at, Cond.code yX2_at cX2_at 2 (some .long), Cond.methodLink RX4 95 yX4_drawAnew, Cond.instanceMethod yX4_drawAnew, Cond.selects RX4 yX4_drawAnew yX4_drawAnew, Cond.code yX4_drawAnew cX4_drawAnew 6 none]
def wsL_read_r5 : List Cond := [Cond.fieldLink RX4 23 "Particleway$Samples" "oldCells" "[I", Cond.methodLink RX4 115 arraycopyName, Cond.native arraycopyName, Cond.static arraycopyName, Cond.initialized "java/lang/System", Cond.fieldLink RX4 15 "Particleway$Samples" "chance" "LParticleway$Chance;", Cond.methodLink RX4 74 yX1_remainder, Cond.instanceMethod yX1_remainder, Cond.selects RX1 yX1_remainder yX1_remainder, Cond.initialized RX1, Cond.code yX1_remainder cX1_remainder 2 (some .int), Cond.fieldLink RX1 7 "Particleway$Chance" "x" "I", Cond.constant RX1 13 (65537), Cond.methodLink RX4 50 yX3_drawnCell, Cond.instanceMethod yX3_drawnCell, Cond.selects RX3 yX3_drawnCell yX3_drawnCell, Cond.code yX3_drawnCell cX3_drawnCell 4 (some .int), Cond.fieldLink RX3 26 "Particleway$Field" "free" "I", Cond.fieldLink RX3 9 "Particleway$Field" "walls" "[Z", Cond.methodLink RX3 30 yX1_remainder, Cond.methodLink RX4 121 yX4_oldCellBeyond, Cond.instanceMethod yX4_oldCellBeyond, Cond.selects RX4 yX4_oldCellBeyond yX4_oldCellBeyond, Cond.code yX4_oldCellBeyond cX4_oldCellBeyond 5 (some .int)]
def wsL_read_r6 : List Cond := [Cond.methodLink RX5 114 yX0_weigh, Cond.instanceMethod yX0_weigh, Cond.selects RX0 yX0_weigh yX0_weigh, Cond.initialized RX0, Cond.code yX0_weigh cX0_weigh 4 none, Cond.fieldLink RX0 18 "Particleway$Beliefs" "now" "LParticleway$Chart;", Cond.fieldLink RX0 9 "Particleway$Beliefs" "field" "LParticleway$Field;", Cond.methodLink RX0 44 yX2_at, Cond.methodLink RX0 67 yX3_weight, Cond.methodLink RX0 31 yX2_put, Cond.instanceMethod yX2_put, Cond.selects RX2 yX2_put yX2_put, Cond.code yX2_put cX2_put 4 none, Cond.methodLink RX0 70 yX2_greatest, Cond.instanceMethod yX2_greatest, Cond.selects RX2 yX2_greatest yX2_greatest, Cond.code yX2_greatest cX2_greatest 4 (some .long), Cond.methodLink RX2 27 Lib.MathLoose.max_long.x, Cond.static Lib.MathLoose.max_long.x, Cond.code Lib.MathLoose.max_long.x Lib.MathLoose.max_long.code 4 (some .long), Cond.methodLink RX0 74 yX0_begin, Cond.instanceMethod yX0_begin, Cond.selects RX0 yX0_begin yX0_begin, Cond.code yX0_begin cX0_begin 2 none]
def wsL_read_r7 : List Cond := [Cond.methodLink RX0 25 yX3_isFree, Cond.instanceMethod yX3_isFree, Cond.selects RX3 yX3_isFree yX3_isFree, Cond.code yX3_isFree cX3_isFree 2 (some .boolean), Cond.methodLink RX0 57 yX0_halveGreat, Cond.instanceMethod yX0_halveGreat, Cond.selects RX0 yX0_halveGreat yX0_halveGreat, Cond.code yX0_halveGreat cX0_halveGreat 2 none, Cond.constantLong RX0 77 (1099511627776), Cond.methodLink RX0 79 yX2_halve, Cond.instanceMethod yX2_halve, Cond.selects RX2 yX2_halve yX2_halve, Cond.code yX2_halve cX2_halve 2 none, Cond.constantLong RX2 19 (2), Cond.methodLink RX5 108 yX5_keep, Cond.instanceMethod yX5_keep, Cond.selects RX5 yX5_keep yX5_keep, Cond.code yX5_keep cX5_keep 3 none, Cond.fieldLink RX5 44 "Particleway" "toldDirections" "[I", Cond.fieldLink RX5 48 "Particleway" "toldReadings" "[I"]
def wsL_read : List Cond := .codeWith yL_read cL_read 5 (some .int) [(0, 10, 13, 13), (0, 10, 17, 21), (0, 10, 21, 15)] :: ((wsL_read_r1 ++ (wsL_read_r2 ++ (wsL_read_r3 ++ (wsL_read_r4 ++ (wsL_read_r5 ++ (wsL_read_r6 ++ wsL_read_r7)))))) ++ wsX50 ++ wsX40 ++ wsX30 ++ wsX20 ++ wsX10 ++ wsX00 ++ (vx_at0 RX5 85 "java/lang/IllegalArgumentException" ["java/lang/RuntimeException", "java/lang/Exception"]).filter goodWord ++ (vx_at0 RX5 127 "java/lang/IndexOutOfBoundsException" ["java/lang/RuntimeException", "java/lang/Exception"]).filter goodWord ++ (vx_at0 RX5 77 "java/lang/IllegalStateException" ["java/lang/RuntimeException", "java/lang/Exception"]).filter goodWord)
def wsL_toRead_r1 : List Cond := [Cond.classLink RL 13 "java/lang/IndexOutOfBoundsException", Cond.methodLink RL 34 yX5_toRead, Cond.instanceMethod yX5_toRead, Cond.selects RX5 yX5_toRead yX5_toRead, Cond.initialized RX5, Cond.code yX5_toRead cX5_toRead 4 (some .int), Cond.fieldLink RX5 10 "Particleway" "field" "LParticleway$Field;", Cond.methodLink RX5 59 yX5_checkCell, Cond.static yX5_checkCell, Cond.code yX5_checkCell cX5_checkCell 2 none, Cond.classLink RX5 125 "java/lang/IndexOutOfBoundsException", Cond.initialized "java/lang/IndexOutOfBoundsException", Cond.methodLink RX5 178 yX5_isInField, Cond.static yX5_isInField, Cond.code yX5_isInField cX5_isInField 2 (some .boolean), Cond.methodLink RX5 96 yX5_checkDirection, Cond.static yX5_checkDirection, Cond.code yX5_checkDirection cX5_checkDirection 1 none, Cond.methodLink RX5 182 yX5_isDirection, Cond.static yX5_isDirection, Cond.code yX5_isDirection cX5_isDirection 1 (some .boolean), Cond.methodLink RX5 63 yX5_numberOf, Cond.static yX5_numberOf, Cond.code yX5_numberOf cX5_numberOf 2 (some .int)]
def wsL_toRead_r2 : List Cond := [Cond.methodLink RX5 116 yX3_stepsAhead, Cond.instanceMethod yX3_stepsAhead, Cond.selects RX3 yX3_stepsAhead yX3_stepsAhead, Cond.initialized RX3, Cond.code yX3_stepsAhead cX3_stepsAhead 3 (some .int), Cond.fieldLink RX3 15 "Particleway$Field" "ahead" "[I", Cond.static yX5_isCell, Cond.code yX5_isCell cX5_isCell 1 (some .boolean)]
def wsL_toRead : List Cond := .codeWith yL_toRead cL_toRead 6 (some .int) [(0, 12, 15, 13)] :: ((wsL_toRead_r1 ++ wsL_toRead_r2) ++ wsX50 ++ wsX30 ++ (vx_at0 RX5 127 "java/lang/IndexOutOfBoundsException" ["java/lang/RuntimeException", "java/lang/Exception"]).filter goodWord)
def wsL_samples : List Cond := .codeWith yL_samples cL_samples 3 (some .int) [(0, 8, 11, 15)] :: ([.classLink RL 15 "java/lang/IllegalStateException", .methodLink RL 38 yX5_samples, .instanceMethod yX5_samples, .selects RX5 yX5_samples yX5_samples, .initialized RX5, .code yX5_samples cX5_samples 1 (some .int), .fieldLink RX5 28 "Particleway" "samples" "LParticleway$Samples;", .methodLink RX5 119 yX5_checkSpread, .instanceMethod yX5_checkSpread, .selects RX5 yX5_checkSpread yX5_checkSpread, .code yX5_checkSpread cX5_checkSpread 1 none, .classLink RX5 75 "java/lang/IllegalStateException", .initialized "java/lang/IllegalStateException", .fieldLink RX5 55 "Particleway" "isSpread" "Z", .methodLink RX5 122 yX4_size, .instanceMethod yX4_size, .selects RX4 yX4_size yX4_size, .initialized RX4, .code yX4_size cX4_size 1 (some .int), .fieldLink RX4 36 "Particleway$Samples" "many" "I"] ++ wsX50 ++ wsX40 ++ (vx_at0 RX5 77 "java/lang/IllegalStateException" ["java/lang/RuntimeException", "java/lang/Exception"]).filter goodWord)
def wsL_sample : List Cond := .codeWith yL_sample cL_sample 4 (some .int) [(0, 9, 12, 13)] :: ([.classLink RL 13 "java/lang/IndexOutOfBoundsException", .methodLink RL 42 yX5_sample, .instanceMethod yX5_sample, .selects RX5 yX5_sample yX5_sample, .initialized RX5, .code yX5_sample cX5_sample 2 (some .int), .classLink RX5 125 "java/lang/IndexOutOfBoundsException", .initialized "java/lang/IndexOutOfBoundsException", .fieldLink RX5 28 "Particleway" "samples" "LParticleway$Samples;", .methodLink RX5 122 yX4_size, .instanceMethod yX4_size, .selects RX4 yX4_size yX4_size, .initialized RX4, .code yX4_size cX4_size 1 (some .int), .fieldLink RX4 36 "Particleway$Samples" "many" "I", .methodLink RX5 128 yX4_cellOf, .instanceMethod yX4_cellOf, .selects RX4 yX4_cellOf yX4_cellOf, .code yX4_cellOf cX4_cellOf 2 (some .int), .fieldLink RX4 19 "Particleway$Samples" "cells" "[I"] ++ wsX50 ++ wsX40 ++ (vx_at0 RX5 127 "java/lang/IndexOutOfBoundsException" ["java/lang/RuntimeException", "java/lang/Exception"]).filter goodWord)
def wsL_count_r1 : List Cond := [Cond.classLink RL 13 "java/lang/IndexOutOfBoundsException", Cond.classLink RL 15 "java/lang/IllegalStateException", Cond.methodLink RL 45 yX5_count, Cond.instanceMethod yX5_count, Cond.selects RX5 yX5_count yX5_count, Cond.initialized RX5, Cond.code yX5_count cX5_count 3 (some .int), Cond.fieldLink RX5 28 "Particleway" "samples" "LParticleway$Samples;", Cond.methodLink RX5 59 yX5_checkCell, Cond.static yX5_checkCell, Cond.code yX5_checkCell cX5_checkCell 2 none, Cond.classLink RX5 125 "java/lang/IndexOutOfBoundsException", Cond.initialized "java/lang/IndexOutOfBoundsException", Cond.methodLink RX5 178 yX5_isInField, Cond.static yX5_isInField, Cond.code yX5_isInField cX5_isInField 2 (some .boolean), Cond.methodLink RX5 119 yX5_checkSpread, Cond.instanceMethod yX5_checkSpread, Cond.selects RX5 yX5_checkSpread yX5_checkSpread, Cond.code yX5_checkSpread cX5_checkSpread 1 none, Cond.classLink RX5 75 "java/lang/IllegalStateException", Cond.initialized "java/lang/IllegalStateException", Cond.fieldLink RX5 55 "Particleway" "isSpread" "Z", Cond.methodLink RX5 131 yX4_chart]
def wsL_count_r2 : List Cond := [Cond.instanceMethod yX4_chart, Cond.selects RX4 yX4_chart yX4_chart, Cond.initialized RX4, Cond.code yX4_chart cX4_chart 2 (some (.object "Particleway$Chart")), Cond.fieldLink RX4 32 "Particleway$Samples" "counts" "LParticleway$Chart;", Cond.fieldLink RX4 36 "Particleway$Samples" "many" "I", Cond.fieldLink RX4 19 "Particleway$Samples" "cells" "[I", Cond.methodLink RX4 43 yX2_clear, Cond.instanceMethod yX2_clear, Cond.selects RX2 yX2_clear yX2_clear, Cond.initialized RX2, Cond.code yX2_clear cX2_clear 2 none, Cond.fieldLink RX2 9 "Particleway$Chart" "numbers" "[J", Cond.methodLink RX4 46 yX2_add, Cond.instanceMethod yX2_add, Cond.selects RX2 yX2_add yX2_add, Cond.code yX2_add cX2_add 4 none, Cond.static yX5_isCell, Cond.code yX5_isCell cX5_isCell 1 (some .boolean), Cond.methodLink RX5 63 yX5_numberOf, Cond.static yX5_numberOf, Cond.code yX5_numberOf cX5_numberOf 2 (some .int), Cond.methodLink RX5 135 yX2_at, Cond.instanceMethod yX2_at]
def wsL_count_r3 : List Cond := [Cond.selects RX2 yX2_at yX2_at, Cond.code yX2_at cX2_at 2 (some .long)]
def wsL_count : List Cond := .codeWith yL_count cL_count 5 (some .int) [(0, 10, 13, 13), (0, 10, 17, 15)] :: ((wsL_count_r1 ++ (wsL_count_r2 ++ wsL_count_r3)) ++ wsX50 ++ wsX40 ++ wsX20 ++ (vx_at0 RX5 127 "java/lang/IndexOutOfBoundsException" ["java/lang/RuntimeException", "java/lang/Exception"]).filter goodWord ++ (vx_at0 RX5 77 "java/lang/IllegalStateException" ["java/lang/RuntimeException", "java/lang/Exception"]).filter goodWord)
def wsL_belief_r1 : List Cond := [Cond.classLink RL 13 "java/lang/IndexOutOfBoundsException", Cond.classLink RL 15 "java/lang/IllegalStateException", Cond.methodLink RL 48 yX5_belief, Cond.instanceMethod yX5_belief, Cond.selects RX5 yX5_belief yX5_belief, Cond.initialized RX5, Cond.code yX5_belief cX5_belief 3 (some .long), Cond.fieldLink RX5 37 "Particleway" "beliefs" "LParticleway$Beliefs;", Cond.methodLink RX5 59 yX5_checkCell, Cond.static yX5_checkCell, Cond.code yX5_checkCell cX5_checkCell 2 none, Cond.classLink RX5 125 "java/lang/IndexOutOfBoundsException", Cond.initialized "java/lang/IndexOutOfBoundsException", Cond.methodLink RX5 178 yX5_isInField, Cond.static yX5_isInField, Cond.code yX5_isInField cX5_isInField 2 (some .boolean), Cond.methodLink RX5 119 yX5_checkSpread, Cond.instanceMethod yX5_checkSpread, Cond.selects RX5 yX5_checkSpread yX5_checkSpread, Cond.code yX5_checkSpread cX5_checkSpread 1 none, Cond.classLink RX5 75 "java/lang/IllegalStateException", Cond.initialized "java/lang/IllegalStateException", Cond.fieldLink RX5 55 "Particleway" "isSpread" "Z", Cond.methodLink RX5 141 yX0_chart]
def wsL_belief_r2 : List Cond := [Cond.instanceMethod yX0_chart, Cond.selects RX0 yX0_chart yX0_chart, Cond.initialized RX0, Cond.code yX0_chart cX0_chart 1 (some (.object "Particleway$Chart")), Cond.fieldLink RX0 18 "Particleway$Beliefs" "now" "LParticleway$Chart;", Cond.methodLink RX5 63 yX5_numberOf, Cond.static yX5_numberOf, Cond.code yX5_numberOf cX5_numberOf 2 (some .int), Cond.methodLink RX5 135 yX2_at, Cond.instanceMethod yX2_at, Cond.selects RX2 yX2_at yX2_at, Cond.initialized RX2, Cond.code yX2_at cX2_at 2 (some .long), Cond.fieldLink RX2 9 "Particleway$Chart" "numbers" "[J", Cond.static yX5_isCell, Cond.code yX5_isCell cX5_isCell 1 (some .boolean)]
def wsL_belief : List Cond := .codeWith yL_belief cL_belief 5 (some .int) [(0, 9, 12, 13), (0, 9, 16, 15)] :: ((wsL_belief_r1 ++ wsL_belief_r2) ++ wsX50 ++ wsX00 ++ wsX20 ++ (vx_at0 RX5 127 "java/lang/IndexOutOfBoundsException" ["java/lang/RuntimeException", "java/lang/Exception"]).filter goodWord ++ (vx_at0 RX5 77 "java/lang/IllegalStateException" ["java/lang/RuntimeException", "java/lang/Exception"]).filter goodWord)
def wsL_beliefAnew_r1 : List Cond := [Cond.classLink RL 13 "java/lang/IndexOutOfBoundsException", Cond.classLink RL 15 "java/lang/IllegalStateException", Cond.methodLink RL 52 yX5_beliefAnew, Cond.instanceMethod yX5_beliefAnew, Cond.selects RX5 yX5_beliefAnew yX5_beliefAnew, Cond.initialized RX5, Cond.code yX5_beliefAnew cX5_beliefAnew 3 (some .long), Cond.fieldLink RX5 41 "Particleway" "beliefsAnew" "LParticleway$Beliefs;", Cond.methodLink RX5 59 yX5_checkCell, Cond.static yX5_checkCell, Cond.code yX5_checkCell cX5_checkCell 2 none, Cond.classLink RX5 125 "java/lang/IndexOutOfBoundsException", Cond.initialized "java/lang/IndexOutOfBoundsException", Cond.methodLink RX5 178 yX5_isInField, Cond.static yX5_isInField, Cond.code yX5_isInField cX5_isInField 2 (some .boolean), Cond.methodLink RX5 119 yX5_checkSpread, Cond.instanceMethod yX5_checkSpread, Cond.selects RX5 yX5_checkSpread yX5_checkSpread, Cond.code yX5_checkSpread cX5_checkSpread 1 none, Cond.classLink RX5 75 "java/lang/IllegalStateException", Cond.initialized "java/lang/IllegalStateException", Cond.fieldLink RX5 55 "Particleway" "isSpread" "Z", Cond.methodLink RX5 142 yX5_repeatAllTold]
def wsL_beliefAnew_r2 : List Cond := [Cond.instanceMethod yX5_repeatAllTold, Cond.selects RX5 yX5_repeatAllTold yX5_repeatAllTold, Cond.code yX5_repeatAllTold cX5_repeatAllTold 2 none, Cond.fieldLink RX5 51 "Particleway" "told" "I", Cond.fieldLink RX5 48 "Particleway" "toldReadings" "[I", Cond.fieldLink RX5 44 "Particleway" "toldDirections" "[I", Cond.methodLink RX5 94 yX0_begin, Cond.instanceMethod yX0_begin, Cond.selects RX0 yX0_begin yX0_begin, Cond.initialized RX0, Cond.code yX0_begin cX0_begin 2 none, Cond.fieldLink RX0 18 "Particleway$Beliefs" "now" "LParticleway$Chart;", Cond.fieldLink RX0 9 "Particleway$Beliefs" "field" "LParticleway$Field;", Cond.methodLink RX0 25 yX3_isFree, Cond.instanceMethod yX3_isFree, Cond.selects RX3 yX3_isFree yX3_isFree, Cond.initialized RX3, Cond.code yX3_isFree cX3_isFree 2 (some .boolean), Cond.fieldLink RX3 9 "Particleway$Field" "walls" "[Z", Cond.static yX5_isCell, Cond.code yX5_isCell cX5_isCell 1 (some .boolean), Cond.methodLink RX0 31 yX2_put, Cond.instanceMethod yX2_put, Cond.selects RX2 yX2_put yX2_put]
def wsL_beliefAnew_r3 : List Cond := [Cond.initialized RX2, Cond.code yX2_put cX2_put 4 none, Cond.fieldLink RX2 9 "Particleway$Chart" "numbers" "[J", Cond.methodLink RX5 185 yX0_fetch, Cond.instanceMethod yX0_fetch, Cond.selects RX0 yX0_fetch yX0_fetch, Cond.code yX0_fetch cX0_fetch 3 none, Cond.fieldLink RX0 22 "Particleway$Beliefs" "before" "LParticleway$Chart;", Cond.methodLink RX0 35 yX2_copy, Cond.instanceMethod yX2_copy, Cond.selects RX2 yX2_copy yX2_copy, Cond.code yX2_copy cX2_copy 2 none, Cond.methodLink RX2 21 arraycopyName, Cond.native arraycopyName, Cond.static arraycopyName, Cond.initialized "java/lang/System", Cond.methodLink RX0 60 yX0_fetched, Cond.instanceMethod yX0_fetched, Cond.selects RX0 yX0_fetched yX0_fetched, Cond.code yX0_fetched cX0_fetched 7 (some .long), Cond.constantLong RX0 42 (3), Cond.constantLong RX0 55 (12), Cond.methodLink RX0 44 yX2_at, Cond.instanceMethod yX2_at]
def wsL_beliefAnew_r4 : List Cond := [Cond.selects RX2 yX2_at yX2_at, Cond.code yX2_at cX2_at 2 (some .long), Cond.methodLink RX0 64 yX3_shifted, Cond.static yX3_shifted, Cond.code yX3_shifted cX3_shifted 5 (some .int), Cond.fieldLink RX3 55 "Particleway$Field" "STEP_X" "[I", Cond.fieldLink RX3 58 "Particleway$Field" "STEP_Y" "[I", Cond.static yX5_isDirection, Cond.code yX5_isDirection cX5_isDirection 1 (some .boolean), Cond.static yX5_numberOf, Cond.code yX5_numberOf cX5_numberOf 2 (some .int), Cond.methodLink RX0 51 yX3_led, Cond.instanceMethod yX3_led, Cond.selects RX3 yX3_led yX3_led, Cond.code yX3_led cX3_led 4 (some .int), Cond.methodLink RX3 43 Lib.Math.min.name, Cond.static Lib.Math.min.name, Cond.initialized "java/lang/Math", Cond.code Lib.Math.min.name Lib.Math.min.code 2 (some .int), Cond.methodLink RX3 39 yX3_stepsAhead, Cond.instanceMethod yX3_stepsAhead, Cond.selects RX3 yX3_stepsAhead yX3_stepsAhead, Cond.code yX3_stepsAhead cX3_stepsAhead 3 (some .int), Cond.fieldLink RX3 15 "Particleway$Field" "ahead" "[I"]
def wsL_beliefAnew_r5 : List Cond := [Cond.methodLink RX3 48 yX3_shifted, Cond.methodLink RX0 57 yX0_halveGreat, Cond.instanceMethod yX0_halveGreat, Cond.selects RX0 yX0_halveGreat yX0_halveGreat, Cond.code yX0_halveGreat cX0_halveGreat 2 none, Cond.constantLong RX0 77 (1099511627776), Cond.methodLink RX0 70 yX2_greatest, Cond.instanceMethod yX2_greatest, Cond.selects RX2 yX2_greatest yX2_greatest, Cond.code yX2_greatest cX2_greatest 4 (some .long), Cond.methodLink RX2 27 Lib.MathLoose.max_long.x, Cond.static Lib.MathLoose.max_long.x, Cond.code Lib.MathLoose.max_long.x Lib.MathLoose.max_long.code 4 (some .long), Cond.methodLink RX0 79 yX2_halve, Cond.instanceMethod yX2_halve, Cond.selects RX2 yX2_halve yX2_halve, Cond.code yX2_halve cX2_halve 2 none, Cond.constantLong RX2 19 (2), Cond.methodLink RX5 114 yX0_weigh, Cond.instanceMethod yX0_weigh, Cond.selects RX0 yX0_weigh yX0_weigh, Cond.code yX0_weigh cX0_weigh 4 none, Cond.methodLink RX0 67 yX3_weight, Cond.instanceMethod yX3_weight]
def wsL_beliefAnew_r6 : List Cond := [Cond.selects RX3 yX3_weight yX3_weight, Cond.code yX3_weight cX3_weight 4 (some .int), Cond.methodLink RX3 52 Lib.Math.abs.name, Cond.static Lib.Math.abs.name, Cond.code Lib.Math.abs.name Lib.Math.abs.code 1 (some .int), Cond.methodLink RX0 74 yX0_begin, Cond.methodLink RX5 141 yX0_chart, Cond.instanceMethod yX0_chart, Cond.selects RX0 yX0_chart yX0_chart, Cond.code yX0_chart cX0_chart 1 (some (.object "Particleway$Chart")), Cond.methodLink RX5 63 yX5_numberOf, Cond.methodLink RX5 135 yX2_at]
def wsL_beliefAnew : List Cond := .codeWith yL_beliefAnew cL_beliefAnew 5 (some .int) [(0, 9, 12, 13), (0, 9, 16, 15)] :: ((wsL_beliefAnew_r1 ++ (wsL_beliefAnew_r2 ++ (wsL_beliefAnew_r3 ++ (wsL_beliefAnew_r4 ++ (wsL_beliefAnew_r5 ++ wsL_beliefAnew_r6))))) ++ wsX50 ++ wsX00 ++ wsX30 ++ wsX20 ++ (vx_at0 RX5 127 "java/lang/IndexOutOfBoundsException" ["java/lang/RuntimeException", "java/lang/Exception"]).filter goodWord ++ (vx_at0 RX5 77 "java/lang/IllegalStateException" ["java/lang/RuntimeException", "java/lang/Exception"]).filter goodWord)
def wsL_mode_r1 : List Cond := [Cond.classLink RL 15 "java/lang/IllegalStateException", Cond.methodLink RL 55 yX5_mode, Cond.instanceMethod yX5_mode, Cond.selects RX5 yX5_mode yX5_mode, Cond.initialized RX5, Cond.code yX5_mode cX5_mode 2 (some .int), Cond.methodLink RX5 119 yX5_checkSpread, Cond.instanceMethod yX5_checkSpread, Cond.selects RX5 yX5_checkSpread yX5_checkSpread, Cond.code yX5_checkSpread cX5_checkSpread 1 none, Cond.classLink RX5 75 "java/lang/IllegalStateException", Cond.initialized "java/lang/IllegalStateException", Cond.fieldLink RX5 55 "Particleway" "isSpread" "Z", Cond.methodLink RX5 145 yX5_chartOf, Cond.instanceMethod yX5_chartOf, Cond.selects RX5 yX5_chartOf yX5_chartOf, Cond.code yX5_chartOf cX5_chartOf 2 (some (.object "Particleway$Chart")), Cond.fieldLink RX5 28 "Particleway" "samples" "LParticleway$Samples;", Cond.fieldLink RX5 37 "Particleway" "beliefs" "LParticleway$Beliefs;", Cond.methodLink RX5 131 yX4_chart, Cond.instanceMethod yX4_chart, Cond.selects RX4 yX4_chart yX4_chart, Cond.initialized RX4, Cond.code yX4_chart cX4_chart 2 (some (.object "Particleway$Chart"))]
def wsL_mode_r2 : List Cond := [Cond.fieldLink RX4 32 "Particleway$Samples" "counts" "LParticleway$Chart;", Cond.fieldLink RX4 36 "Particleway$Samples" "many" "I", Cond.fieldLink RX4 19 "Particleway$Samples" "cells" "[I", Cond.methodLink RX4 43 yX2_clear, Cond.instanceMethod yX2_clear, Cond.selects RX2 yX2_clear yX2_clear, Cond.initialized RX2, Cond.code yX2_clear cX2_clear 2 none, Cond.fieldLink RX2 9 "Particleway$Chart" "numbers" "[J", Cond.methodLink RX4 46 yX2_add, Cond.instanceMethod yX2_add, Cond.selects RX2 yX2_add yX2_add, Cond.code yX2_add cX2_add 4 none, Cond.static yX5_isCell, Cond.code yX5_isCell cX5_isCell 1 (some .boolean), Cond.methodLink RX5 141 yX0_chart, Cond.instanceMethod yX0_chart, Cond.selects RX0 yX0_chart yX0_chart, Cond.initialized RX0, Cond.code yX0_chart cX0_chart 1 (some (.object "Particleway$Chart")), Cond.fieldLink RX0 18 "Particleway$Beliefs" "now" "LParticleway$Chart;", Cond.methodLink RX5 149 yX2_greatestCell, Cond.instanceMethod yX2_greatestCell, Cond.selects RX2 yX2_greatestCell yX2_greatestCell]
def wsL_mode_r3 : List Cond := [Cond.code yX2_greatestCell cX2_greatestCell 4 (some .int), Cond.methodLink RX2 33 yX2_greatest, Cond.instanceMethod yX2_greatest, Cond.selects RX2 yX2_greatest yX2_greatest, Cond.code yX2_greatest cX2_greatest 4 (some .long), Cond.methodLink RX2 27 Lib.MathLoose.max_long.x, Cond.static Lib.MathLoose.max_long.x, Cond.initialized "java/lang/Math", Cond.code Lib.MathLoose.max_long.x Lib.MathLoose.max_long.code 4 (some .long)]
def wsL_mode : List Cond := .codeWith yL_mode cL_mode 4 (some .int) [(0, 9, 12, 15)] :: ((wsL_mode_r1 ++ (wsL_mode_r2 ++ wsL_mode_r3)) ++ wsX50 ++ wsX40 ++ wsX20 ++ wsX00 ++ (vx_at0 RX5 77 "java/lang/IllegalStateException" ["java/lang/RuntimeException", "java/lang/Exception"]).filter goodWord)
def wsL_mean_r1 : List Cond := [Cond.classLink RL 15 "java/lang/IllegalStateException", Cond.methodLink RL 59 yX5_mean, Cond.instanceMethod yX5_mean, Cond.selects RX5 yX5_mean yX5_mean, Cond.initialized RX5, Cond.code yX5_mean cX5_mean 4 (some .int), Cond.constantLong RX5 152 (100), Cond.methodLink RX5 119 yX5_checkSpread, Cond.instanceMethod yX5_checkSpread, Cond.selects RX5 yX5_checkSpread yX5_checkSpread, Cond.code yX5_checkSpread cX5_checkSpread 1 none, Cond.classLink RX5 75 "java/lang/IllegalStateException", Cond.initialized "java/lang/IllegalStateException", Cond.fieldLink RX5 55 "Particleway" "isSpread" "Z", Cond.methodLink RX5 145 yX5_chartOf, Cond.instanceMethod yX5_chartOf, Cond.selects RX5 yX5_chartOf yX5_chartOf, Cond.code yX5_chartOf cX5_chartOf 2 (some (.object "Particleway$Chart")), Cond.fieldLink RX5 28 "Particleway" "samples" "LParticleway$Samples;", Cond.fieldLink RX5 37 "Particleway" "beliefs" "LParticleway$Beliefs;", Cond.methodLink RX5 131 yX4_chart, Cond.instanceMethod yX4_chart, Cond.selects RX4 yX4_chart yX4_chart, Cond.initialized RX4]
def wsL_mean_r2 : List Cond := [Cond.code yX4_chart cX4_chart 2 (some (.object "Particleway$Chart")), Cond.fieldLink RX4 32 "Particleway$Samples" "counts" "LParticleway$Chart;", Cond.fieldLink RX4 36 "Particleway$Samples" "many" "I", Cond.fieldLink RX4 19 "Particleway$Samples" "cells" "[I", Cond.methodLink RX4 43 yX2_clear, Cond.instanceMethod yX2_clear, Cond.selects RX2 yX2_clear yX2_clear, Cond.initialized RX2, Cond.code yX2_clear cX2_clear 2 none, Cond.fieldLink RX2 9 "Particleway$Chart" "numbers" "[J", Cond.methodLink RX4 46 yX2_add, Cond.instanceMethod yX2_add, Cond.selects RX2 yX2_add yX2_add, Cond.code yX2_add cX2_add 4 none, Cond.static yX5_isCell, Cond.code yX5_isCell cX5_isCell 1 (some .boolean), Cond.methodLink RX5 141 yX0_chart, Cond.instanceMethod yX0_chart, Cond.selects RX0 yX0_chart yX0_chart, Cond.initialized RX0, Cond.code yX0_chart cX0_chart 1 (some (.object "Particleway$Chart")), Cond.fieldLink RX0 18 "Particleway$Beliefs" "now" "LParticleway$Chart;", Cond.methodLink RX5 154 yX2_coordinateSum, Cond.instanceMethod yX2_coordinateSum]
def wsL_mean_r3 : List Cond := [Cond.selects RX2 yX2_coordinateSum yX2_coordinateSum, Cond.code yX2_coordinateSum cX2_coordinateSum 5 (some .long), Cond.methodLink RX5 158 yX2_sum, Cond.instanceMethod yX2_sum, Cond.selects RX2 yX2_sum yX2_sum, Cond.code yX2_sum cX2_sum 1 (some .long), Cond.methodLink RX2 37 yX2_sumOf, Cond.instanceMethod yX2_sumOf, Cond.selects RX2 yX2_sumOf yX2_sumOf, Cond.code yX2_sumOf cX2_sumOf 10 (some .long), Cond.methodLink RX5 162 yX5_quotient, Cond.static yX5_quotient, Cond.code yX5_quotient cX5_quotient 4 (some .long)]
def wsL_mean : List Cond := .codeWith yL_mean cL_mean 5 (some .int) [(0, 10, 13, 15)] :: ((wsL_mean_r1 ++ (wsL_mean_r2 ++ wsL_mean_r3)) ++ wsX50 ++ wsX40 ++ wsX20 ++ wsX00 ++ (vx_at0 RX5 77 "java/lang/IllegalStateException" ["java/lang/RuntimeException", "java/lang/Exception"]).filter goodWord)
def wsL_share_r1 : List Cond := [Cond.classLink RL 13 "java/lang/IndexOutOfBoundsException", Cond.classLink RL 21 "java/lang/IllegalArgumentException", Cond.classLink RL 15 "java/lang/IllegalStateException", Cond.methodLink RL 63 yX5_share, Cond.instanceMethod yX5_share, Cond.selects RX5 yX5_share yX5_share, Cond.initialized RX5, Cond.code yX5_share cX5_share 7 (some .int), Cond.classLink RX5 83 "java/lang/IllegalArgumentException", Cond.initialized "java/lang/IllegalArgumentException", Cond.constantLong RX5 166 (1000), Cond.methodLink RX5 59 yX5_checkCell, Cond.static yX5_checkCell, Cond.code yX5_checkCell cX5_checkCell 2 none, Cond.classLink RX5 125 "java/lang/IndexOutOfBoundsException", Cond.initialized "java/lang/IndexOutOfBoundsException", Cond.methodLink RX5 178 yX5_isInField, Cond.static yX5_isInField, Cond.code yX5_isInField cX5_isInField 2 (some .boolean), Cond.methodLink RX5 119 yX5_checkSpread, Cond.instanceMethod yX5_checkSpread, Cond.selects RX5 yX5_checkSpread yX5_checkSpread, Cond.code yX5_checkSpread cX5_checkSpread 1 none, Cond.classLink RX5 75 "java/lang/IllegalStateException"]
def wsL_share_r2 : List Cond := [Cond.initialized "java/lang/IllegalStateException", Cond.fieldLink RX5 55 "Particleway" "isSpread" "Z", Cond.methodLink RX5 145 yX5_chartOf, Cond.instanceMethod yX5_chartOf, Cond.selects RX5 yX5_chartOf yX5_chartOf, Cond.code yX5_chartOf cX5_chartOf 2 (some (.object "Particleway$Chart")), Cond.fieldLink RX5 28 "Particleway" "samples" "LParticleway$Samples;", Cond.fieldLink RX5 37 "Particleway" "beliefs" "LParticleway$Beliefs;", Cond.methodLink RX5 131 yX4_chart, Cond.instanceMethod yX4_chart, Cond.selects RX4 yX4_chart yX4_chart, Cond.initialized RX4, Cond.code yX4_chart cX4_chart 2 (some (.object "Particleway$Chart")), Cond.fieldLink RX4 32 "Particleway$Samples" "counts" "LParticleway$Chart;", Cond.fieldLink RX4 36 "Particleway$Samples" "many" "I", Cond.fieldLink RX4 19 "Particleway$Samples" "cells" "[I", Cond.methodLink RX4 43 yX2_clear, Cond.instanceMethod yX2_clear, Cond.selects RX2 yX2_clear yX2_clear, Cond.initialized RX2, Cond.code yX2_clear cX2_clear 2 none, Cond.fieldLink RX2 9 "Particleway$Chart" "numbers" "[J", Cond.methodLink RX4 46 yX2_add, Cond.instanceMethod yX2_add]
def wsL_share_r3 : List Cond := [Cond.selects RX2 yX2_add yX2_add, Cond.code yX2_add cX2_add 4 none, Cond.static yX5_isCell, Cond.code yX5_isCell cX5_isCell 1 (some .boolean), Cond.methodLink RX5 141 yX0_chart, Cond.instanceMethod yX0_chart, Cond.selects RX0 yX0_chart yX0_chart, Cond.initialized RX0, Cond.code yX0_chart cX0_chart 1 (some (.object "Particleway$Chart")), Cond.fieldLink RX0 18 "Particleway$Beliefs" "now" "LParticleway$Chart;", Cond.methodLink RX5 168 yX2_sumOf, Cond.instanceMethod yX2_sumOf, Cond.selects RX2 yX2_sumOf yX2_sumOf, Cond.code yX2_sumOf cX2_sumOf 10 (some .long), Cond.methodLink RX5 158 yX2_sum, Cond.instanceMethod yX2_sum, Cond.selects RX2 yX2_sum yX2_sum, Cond.code yX2_sum cX2_sum 1 (some .long), Cond.methodLink RX2 37 yX2_sumOf, Cond.methodLink RX5 162 yX5_quotient, Cond.static yX5_quotient, Cond.code yX5_quotient cX5_quotient 4 (some .long)]
def wsL_share : List Cond := .codeWith yL_share cL_share 8 (some .int) [(0, 16, 19, 13), (0, 16, 23, 21), (0, 16, 27, 15)] :: ((wsL_share_r1 ++ (wsL_share_r2 ++ wsL_share_r3)) ++ wsX50 ++ wsX40 ++ wsX20 ++ wsX00 ++ (vx_at0 RX5 85 "java/lang/IllegalArgumentException" ["java/lang/RuntimeException", "java/lang/Exception"]).filter goodWord ++ (vx_at0 RX5 127 "java/lang/IndexOutOfBoundsException" ["java/lang/RuntimeException", "java/lang/Exception"]).filter goodWord ++ (vx_at0 RX5 77 "java/lang/IllegalStateException" ["java/lang/RuntimeException", "java/lang/Exception"]).filter goodWord)
def wsL_best_r1 : List Cond := [Cond.classLink RL 13 "java/lang/IndexOutOfBoundsException", Cond.classLink RL 15 "java/lang/IllegalStateException", Cond.methodLink RL 67 yX5_best, Cond.instanceMethod yX5_best, Cond.selects RX5 yX5_best yX5_best, Cond.initialized RX5, Cond.code yX5_best cX5_best 2 (some .int), Cond.classLink RX5 125 "java/lang/IndexOutOfBoundsException", Cond.initialized "java/lang/IndexOutOfBoundsException", Cond.fieldLink RX5 37 "Particleway" "beliefs" "LParticleway$Beliefs;", Cond.methodLink RX5 119 yX5_checkSpread, Cond.instanceMethod yX5_checkSpread, Cond.selects RX5 yX5_checkSpread yX5_checkSpread, Cond.code yX5_checkSpread cX5_checkSpread 1 none, Cond.classLink RX5 75 "java/lang/IllegalStateException", Cond.initialized "java/lang/IllegalStateException", Cond.fieldLink RX5 55 "Particleway" "isSpread" "Z", Cond.methodLink RX5 141 yX0_chart, Cond.instanceMethod yX0_chart, Cond.selects RX0 yX0_chart yX0_chart, Cond.initialized RX0, Cond.code yX0_chart cX0_chart 1 (some (.object "Particleway$Chart")), Cond.fieldLink RX0 18 "Particleway$Beliefs" "now" "LParticleway$Chart;", Cond.methodLink RX5 172 yX2_cellAtPlace]
def wsL_best_r2 : List Cond := [Cond.instanceMethod yX2_cellAtPlace, Cond.selects RX2 yX2_cellAtPlace yX2_cellAtPlace, Cond.initialized RX2, Cond.code yX2_cellAtPlace cX2_cellAtPlace 3 (some .int), Cond.fieldLink RX2 9 "Particleway$Chart" "numbers" "[J", Cond.methodLink RX2 41 yX2_placeOf, Cond.instanceMethod yX2_placeOf, Cond.selects RX2 yX2_placeOf yX2_placeOf, Cond.code yX2_placeOf cX2_placeOf 5 (some .int), Cond.methodLink RX2 45 yX2_at, Cond.instanceMethod yX2_at, Cond.selects RX2 yX2_at yX2_at, Cond.code yX2_at cX2_at 2 (some .long), Cond.static yX5_isCell, Cond.code yX5_isCell cX5_isCell 1 (some .boolean)]
def wsL_best : List Cond := .codeWith yL_best cL_best 4 (some .int) [(0, 9, 12, 13), (0, 9, 15, 15)] :: ((wsL_best_r1 ++ wsL_best_r2) ++ wsX50 ++ wsX00 ++ wsX20 ++ (vx_at0 RX5 127 "java/lang/IndexOutOfBoundsException" ["java/lang/RuntimeException", "java/lang/Exception"]).filter goodWord ++ (vx_at0 RX5 77 "java/lang/IllegalStateException" ["java/lang/RuntimeException", "java/lang/Exception"]).filter goodWord)
def wsL_doubt : List Cond := .codeWith yL_doubt cL_doubt 3 (some .int) [(0, 8, 11, 15)] :: ([.classLink RL 15 "java/lang/IllegalStateException", .methodLink RL 70 yX5_doubt, .instanceMethod yX5_doubt, .selects RX5 yX5_doubt yX5_doubt, .initialized RX5, .code yX5_doubt cX5_doubt 1 (some .int), .fieldLink RX5 28 "Particleway" "samples" "LParticleway$Samples;", .methodLink RX5 119 yX5_checkSpread, .instanceMethod yX5_checkSpread, .selects RX5 yX5_checkSpread yX5_checkSpread, .code yX5_checkSpread cX5_checkSpread 1 none, .classLink RX5 75 "java/lang/IllegalStateException", .initialized "java/lang/IllegalStateException", .fieldLink RX5 55 "Particleway" "isSpread" "Z", .methodLink RX5 175 yX4_lastDoubt, .instanceMethod yX4_lastDoubt, .selects RX4 yX4_lastDoubt yX4_lastDoubt, .initialized RX4, .code yX4_lastDoubt cX4_lastDoubt 1 (some .int), .fieldLink RX4 40 "Particleway$Samples" "doubt" "I"] ++ wsX50 ++ wsX40 ++ (vx_at0 RX5 77 "java/lang/IllegalStateException" ["java/lang/RuntimeException", "java/lang/Exception"]).filter goodWord)
def wsL_law0_r1 : List Cond := [Cond.classLink RL 8 RX5, Cond.instantiable RX5 9, Cond.initialized RX5, Cond.classLink RL 74 RX6, Cond.instantiable RX6 15, Cond.initialized RX6, Cond.arrayClass .long, Cond.methodLink RL 73 yX5_init, Cond.instanceMethod yX5_init, Cond.code yX5_init cX5_init 1 none, Cond.methodLink RX5 1 objectInit, Cond.instanceMethod objectInit, Cond.code objectInit ⟨#[0xb1]⟩ 1 none, Cond.classLink RX5 7 RX3, Cond.instantiable RX3 3, Cond.initialized RX3, Cond.fieldLink RX5 10 "Particleway" "field" "LParticleway$Field;", Cond.classLink RX5 16 RX1, Cond.instantiable RX1 1, Cond.initialized RX1, Cond.fieldLink RX5 19 "Particleway" "chance" "LParticleway$Chance;", Cond.classLink RX5 23 RX4, Cond.instantiable RX4 11, Cond.initialized RX4]
def wsL_law0_r2 : List Cond := [Cond.fieldLink RX5 28 "Particleway" "samples" "LParticleway$Samples;", Cond.classLink RX5 32 RX0, Cond.instantiable RX0 3, Cond.initialized RX0, Cond.fieldLink RX5 37 "Particleway" "beliefs" "LParticleway$Beliefs;", Cond.fieldLink RX5 41 "Particleway" "beliefsAnew" "LParticleway$Beliefs;", Cond.arrayClass .int, Cond.fieldLink RX5 44 "Particleway" "toldDirections" "[I", Cond.fieldLink RX5 48 "Particleway" "toldReadings" "[I", Cond.fieldLink RX5 51 "Particleway" "told" "I", Cond.fieldLink RX5 55 "Particleway" "isSpread" "Z", Cond.methodLink RX5 9 yX3_init, Cond.instanceMethod yX3_init, Cond.code yX3_init cX3_init 1 none, Cond.methodLink RX3 3 objectInit, Cond.arrayClass .boolean, Cond.fieldLink RX3 9 "Particleway$Field" "walls" "[Z", Cond.fieldLink RX3 15 "Particleway$Field" "ahead" "[I", Cond.methodLink RX3 19 yX3_measure, Cond.instanceMethod yX3_measure, Cond.selects RX3 yX3_measure yX3_measure, Cond.code yX3_measure cX3_measure 3 none, Cond.fieldLink RX3 26 "Particleway$Field" "free" "I", Cond.methodLink RX3 68 yX3_countedSteps]
def wsL_law0_r3 : List Cond := [Cond.instanceMethod yX3_countedSteps, Cond.selects RX3 yX3_countedSteps yX3_countedSteps, Cond.code yX3_countedSteps cX3_countedSteps 4 (some .int), Cond.methodLink RX3 48 yX3_shifted, Cond.static yX3_shifted, Cond.code yX3_shifted cX3_shifted 5 (some .int), Cond.fieldLink RX3 55 "Particleway$Field" "STEP_X" "[I", Cond.fieldLink RX3 58 "Particleway$Field" "STEP_Y" "[I", Cond.static yX5_isCell, Cond.code yX5_isCell cX5_isCell 1 (some .boolean), Cond.static yX5_isDirection, Cond.code yX5_isDirection cX5_isDirection 1 (some .boolean), Cond.static yX5_isInField, Cond.code yX5_isInField cX5_isInField 2 (some .boolean), Cond.static yX5_numberOf, Cond.code yX5_numberOf cX5_numberOf 2 (some .int), Cond.methodLink RX3 71 yX3_isFree, Cond.instanceMethod yX3_isFree, Cond.selects RX3 yX3_isFree yX3_isFree, Cond.code yX3_isFree cX3_isFree 2 (some .boolean), Cond.methodLink RX5 18 yX1_init, Cond.instanceMethod yX1_init, Cond.code yX1_init cX1_init 1 none, Cond.methodLink RX1 1 objectInit]
def wsL_law0_r4 : List Cond := [Cond.fieldLink RX1 7 "Particleway$Chance" "x" "I", Cond.methodLink RX5 25 yX4_init, Cond.instanceMethod yX4_init, Cond.code yX4_init cX4_init 3 none, Cond.methodLink RX4 3 objectInit, Cond.fieldLink RX4 9 "Particleway$Samples" "field" "LParticleway$Field;", Cond.fieldLink RX4 15 "Particleway$Samples" "chance" "LParticleway$Chance;", Cond.fieldLink RX4 19 "Particleway$Samples" "cells" "[I", Cond.fieldLink RX4 23 "Particleway$Samples" "oldCells" "[I", Cond.fieldLink RX4 26 "Particleway$Samples" "weights" "[I", Cond.classLink RX4 29 RX2, Cond.instantiable RX2 1, Cond.initialized RX2, Cond.fieldLink RX4 32 "Particleway$Samples" "counts" "LParticleway$Chart;", Cond.fieldLink RX4 36 "Particleway$Samples" "many" "I", Cond.methodLink RX4 31 yX2_init, Cond.instanceMethod yX2_init, Cond.code yX2_init cX2_init 1 none, Cond.methodLink RX2 3 objectInit, Cond.fieldLink RX2 9 "Particleway$Chart" "numbers" "[J", Cond.methodLink RX5 34 yX0_init, Cond.instanceMethod yX0_init, Cond.code yX0_init cX0_init 2 none, Cond.methodLink RX0 3 objectInit]
def wsL_law0_r5 : List Cond := [Cond.fieldLink RX0 9 "Particleway$Beliefs" "field" "LParticleway$Field;", Cond.classLink RX0 15 RX2, Cond.fieldLink RX0 18 "Particleway$Beliefs" "now" "LParticleway$Chart;", Cond.fieldLink RX0 22 "Particleway$Beliefs" "before" "LParticleway$Chart;", Cond.methodLink RX0 17 yX2_init, Cond.methodLink RL 76 yX6_init, Cond.instanceMethod yX6_init, Cond.code yX6_init cX6_init 1 none, Cond.methodLink RX6 1 objectInit, Cond.fieldLink RX6 7 "ParticlewayModel" "isWall" "[Z", Cond.fieldLink RX6 13 "ParticlewayModel" "chance" "I", Cond.fieldLink RX6 17 "ParticlewayModel" "sample" "[I", Cond.fieldLink RX6 21 "ParticlewayModel" "old" "[I", Cond.fieldLink RX6 24 "ParticlewayModel" "weight" "[I", Cond.fieldLink RX6 27 "ParticlewayModel" "belief" "[J", Cond.fieldLink RX6 31 "ParticlewayModel" "fresh" "[J", Cond.methodLink RL 77 yL_wall, Cond.static yL_wall, Cond.initialized RL, Cond.codeWith yL_wall cL_wall 6 (some .int) [(0, 19, 22, 13), (0, 19, 26, 15)], Cond.classLink RL 13 "java/lang/IndexOutOfBoundsException", Cond.classLink RL 15 "java/lang/IllegalStateException", Cond.methodLink RL 7 yX5_wall, Cond.instanceMethod yX5_wall]
def wsL_law0_r6 : List Cond := [Cond.selects RX5 yX5_wall yX5_wall, Cond.code yX5_wall cX5_wall 7 (some .boolean), Cond.classLink RX5 75 "java/lang/IllegalStateException", Cond.initialized "java/lang/IllegalStateException", Cond.methodLink RX5 59 yX5_checkCell, Cond.static yX5_checkCell, Cond.code yX5_checkCell cX5_checkCell 2 none, Cond.classLink RX5 125 "java/lang/IndexOutOfBoundsException", Cond.initialized "java/lang/IndexOutOfBoundsException", Cond.methodLink RX5 178 yX5_isInField, Cond.methodLink RX5 63 yX5_numberOf, Cond.methodLink RX5 67 yX3_isFree, Cond.methodLink RX5 71 yX3_freeCells, Cond.instanceMethod yX3_freeCells, Cond.selects RX3 yX3_freeCells yX3_freeCells, Cond.code yX3_freeCells cX3_freeCells 1 (some .int), Cond.methodLink RX5 78 yX3_build, Cond.instanceMethod yX3_build, Cond.selects RX3 yX3_build yX3_build, Cond.code yX3_build cX3_build 3 none, Cond.methodLink RL 82 yX6_wall, Cond.instanceMethod yX6_wall, Cond.selects RX6 yX6_wall yX6_wall, Cond.code yX6_wall cX6_wall 8 (some .boolean)]
def wsL_law0_r7 : List Cond := [Cond.fieldLink RX6 49 "ParticlewayModel" "isSpread" "Z", Cond.methodLink RX6 41 yX6_isCell, Cond.static yX6_isCell, Cond.code yX6_isCell cX6_isCell 2 (some .boolean), Cond.methodLink RX6 37 yX6_in, Cond.static yX6_in, Cond.code yX6_in cX6_in 3 (some .boolean), Cond.methodLink RX6 45 yX6_free, Cond.instanceMethod yX6_free, Cond.selects RX6 yX6_free yX6_free, Cond.code yX6_free cX6_free 3 (some .int), Cond.methodLink RX6 53 yX6_goesWell, Cond.instanceMethod yX6_goesWell, Cond.selects RX6 yX6_goesWell yX6_goesWell, Cond.code yX6_goesWell cX6_goesWell 2 (some .boolean), Cond.fieldLink RX6 34 "ParticlewayModel" "thrown" "I", Cond.methodLink RL 83 yX6_thrown, Cond.instanceMethod yX6_thrown, Cond.selects RX6 yX6_thrown yX6_thrown, Cond.code yX6_thrown cX6_thrown 1 (some .int), Cond.methodLink RL 86 yL_draw, Cond.static yL_draw, Cond.codeWith yL_draw cL_draw 4 (some .int) [(0, 9, 12, 21)], Cond.classLink RL 21 "java/lang/IllegalArgumentException"]
def wsL_law0_r8 : List Cond := [Cond.methodLink RL 17 yX5_draw, Cond.instanceMethod yX5_draw, Cond.selects RX5 yX5_draw yX5_draw, Cond.code yX5_draw cX5_draw 2 (some .int), Cond.classLink RX5 83 "java/lang/IllegalArgumentException", Cond.initialized "java/lang/IllegalArgumentException", Cond.constant RX5 82 (65536), Cond.methodLink RX5 86 yX1_change, Cond.instanceMethod yX1_change, Cond.selects RX1 yX1_change yX1_change, Cond.code yX1_change cX1_change 3 (some .int), Cond.methodLink RL 89 yX6_draw, Cond.instanceMethod yX6_draw, Cond.selects RX6 yX6_draw yX6_draw, Cond.code yX6_draw cX6_draw 3 (some .int), Cond.constant RX6 57 (65536), Cond.methodLink RL 90 yL_spread, Cond.static yL_spread, Cond.codeWith yL_spread cL_spread 3 (some .int) [(0, 5, 8, 21)], Cond.methodLink RL 23 yX5_spread, Cond.instanceMethod yX5_spread, Cond.selects RX5 yX5_spread yX5_spread, Cond.code yX5_spread cX5_spread 2 none, Cond.methodLink RX5 90 yX4_begin]
def wsL_law0_r9 : List Cond := [Cond.instanceMethod yX4_begin, Cond.selects RX4 yX4_begin yX4_begin, Cond.code yX4_begin cX4_begin 3 none, Cond.fieldLink RX4 56 "Particleway$Samples" "isRead" "Z", Cond.fieldLink RX4 60 "Particleway$Samples" "slow" "I", Cond.fieldLink RX4 63 "Particleway$Samples" "fast" "I", Cond.fieldLink RX4 40 "Particleway$Samples" "doubt" "I", Cond.methodLink RX4 50 yX3_drawnCell, Cond.instanceMethod yX3_drawnCell, Cond.selects RX3 yX3_drawnCell yX3_drawnCell, Cond.code yX3_drawnCell cX3_drawnCell 4 (some .int), Cond.methodLink RX3 30 yX1_remainder, Cond.instanceMethod yX1_remainder, Cond.selects RX1 yX1_remainder yX1_remainder, Cond.code yX1_remainder cX1_remainder 2 (some .int), Cond.constant RX1 13 (65537), Cond.methodLink RX5 94 yX0_begin, Cond.instanceMethod yX0_begin, Cond.selects RX0 yX0_begin yX0_begin, Cond.code yX0_begin cX0_begin 2 none, Cond.methodLink RX0 25 yX3_isFree, Cond.methodLink RX0 31 yX2_put, Cond.instanceMethod yX2_put, Cond.selects RX2 yX2_put yX2_put]
def wsL_law0_r10 : List Cond := [Cond.code yX2_put cX2_put 4 none, Cond.methodLink RL 93 yX6_spread, Cond.instanceMethod yX6_spread, Cond.selects RX6 yX6_spread yX6_spread, Cond.code yX6_spread cX6_spread 3 none, Cond.fieldLink RX6 69 "ParticlewayModel" "samples" "I", Cond.fieldLink RX6 78 "ParticlewayModel" "acts" "I", Cond.fieldLink RX6 81 "ParticlewayModel" "readings" "I", Cond.fieldLink RX6 84 "ParticlewayModel" "doubt" "I", Cond.methodLink RX6 72 yX6_drawCell, Cond.instanceMethod yX6_drawCell, Cond.selects RX6 yX6_drawCell yX6_drawCell, Cond.code yX6_drawCell cX6_drawCell 3 (some .int), Cond.methodLink RX6 59 yX6_next, Cond.instanceMethod yX6_next, Cond.selects RX6 yX6_next yX6_next, Cond.code yX6_next cX6_next 1 (some .int), Cond.constant RX6 58 (65537), Cond.methodLink RX6 75 yX6_believeAll, Cond.instanceMethod yX6_believeAll, Cond.selects RX6 yX6_believeAll yX6_believeAll, Cond.code yX6_believeAll cX6_believeAll 2 none, Cond.methodLink RL 94 yL_drive, Cond.static yL_drive]
def wsL_law0_r11 : List Cond := [Cond.codeWith yL_drive cL_drive 3 (some .int) [(0, 5, 8, 13), (0, 5, 11, 15)], Cond.methodLink RL 27 yX5_drive, Cond.instanceMethod yX5_drive, Cond.selects RX5 yX5_drive yX5_drive, Cond.code yX5_drive cX5_drive 2 none, Cond.methodLink RX5 96 yX5_checkDirection, Cond.static yX5_checkDirection, Cond.code yX5_checkDirection cX5_checkDirection 1 none, Cond.methodLink RX5 182 yX5_isDirection, Cond.methodLink RX5 99 yX5_checkMayTell, Cond.instanceMethod yX5_checkMayTell, Cond.selects RX5 yX5_checkMayTell yX5_checkMayTell, Cond.code yX5_checkMayTell cX5_checkMayTell 1 none, Cond.methodLink RX5 102 yX4_move, Cond.instanceMethod yX4_move, Cond.selects RX4 yX4_move yX4_move, Cond.code yX4_move cX4_move 3 none, Cond.methodLink RX4 66 yX4_drawnSteps, Cond.instanceMethod yX4_drawnSteps, Cond.selects RX4 yX4_drawnSteps yX4_drawnSteps, Cond.code yX4_drawnSteps cX4_drawnSteps 2 (some .int), Cond.methodLink RX4 74 yX1_remainder, Cond.methodLink RX4 70 yX3_led, Cond.instanceMethod yX3_led]
def wsL_law0_r12 : List Cond := [Cond.selects RX3 yX3_led yX3_led, Cond.code yX3_led cX3_led 4 (some .int), Cond.methodLink RX3 43 Lib.Math.min.name, Cond.static Lib.Math.min.name, Cond.initialized "java/lang/Math", Cond.code Lib.Math.min.name Lib.Math.min.code 2 (some .int), Cond.methodLink RX3 39 yX3_stepsAhead, Cond.instanceMethod yX3_stepsAhead, Cond.selects RX3 yX3_stepsAhead yX3_stepsAhead, Cond.code yX3_stepsAhead cX3_stepsAhead 3 (some .int), Cond.methodLink RX5 105 yX0_push, Cond.instanceMethod yX0_push, Cond.selects RX0 yX0_push yX0_push, Cond.code yX0_push cX0_push 3 none, Cond.constantLong RX0 42 (3), Cond.constantLong RX0 55 (12), Cond.methodLink RX0 35 yX2_copy, Cond.instanceMethod yX2_copy, Cond.selects RX2 yX2_copy yX2_copy, Cond.code yX2_copy cX2_copy 2 none, Cond.methodLink RX2 21 arraycopyName, Cond.native arraycopyName, Cond.static arraycopyName, Cond.initialized "java/lang/System"]
def wsL_law0_r13 : List Cond := [Cond.methodLink RX0 39 yX2_clear, Cond.instanceMethod yX2_clear, Cond.selects RX2 yX2_clear yX2_clear, Cond.code yX2_clear cX2_clear 2 none, Cond.methodLink RX0 44 yX2_at, Cond.instanceMethod yX2_at, Cond.selects RX2 yX2_at yX2_at, Cond.code yX2_at cX2_at 2 (some .long), Cond.methodLink RX0 48 yX2_add, Cond.instanceMethod yX2_add, Cond.selects RX2 yX2_add yX2_add, Cond.code yX2_add cX2_add 4 none, Cond.methodLink RX0 51 yX3_led, Cond.methodLink RX0 57 yX0_halveGreat, Cond.instanceMethod yX0_halveGreat, Cond.selects RX0 yX0_halveGreat yX0_halveGreat, Cond.code yX0_halveGreat cX0_halveGreat 2 none, Cond.constantLong RX0 77 (1099511627776), Cond.methodLink RX0 70 yX2_greatest, Cond.instanceMethod yX2_greatest, Cond.selects RX2 yX2_greatest yX2_greatest, Cond.code yX2_greatest cX2_greatest 4 (some .long), Cond.methodLink RX2 27 Lib.MathLoose.max_long.x, Cond.static Lib.MathLoose.max_long.x]
def wsL_law0_r14 : List Cond := [Cond.code Lib.MathLoose.max_long.x Lib.MathLoose.max_long.code 4 (some .long), Cond.methodLink RX0 79 yX2_halve, Cond.instanceMethod yX2_halve, Cond.selects RX2 yX2_halve yX2_halve, Cond.code yX2_halve cX2_halve 2 none, Cond.constantLong RX2 19 (2), Cond.methodLink RX5 108 yX5_keep, Cond.instanceMethod yX5_keep, Cond.selects RX5 yX5_keep yX5_keep, Cond.code yX5_keep cX5_keep 3 none, Cond.methodLink RL 96 yX6_drive, Cond.instanceMethod yX6_drive, Cond.selects RX6 yX6_drive yX6_drive, Cond.code yX6_drive cX6_drive 6 none, Cond.constantLong RX6 98 (12), Cond.constantLong RX6 100 (3), Cond.methodLink RX6 95 yX6_isDirection, Cond.static yX6_isDirection, Cond.code yX6_isDirection cX6_isDirection 1 (some .boolean), Cond.methodLink RX6 62 yX6_step, Cond.instanceMethod yX6_step, Cond.selects RX6 yX6_step yX6_step, Cond.code yX6_step cX6_step 5 (some .int), Cond.methodLink RX6 102 yX6_halve]
def wsL_law0_r15 : List Cond := [Cond.instanceMethod yX6_halve, Cond.selects RX6 yX6_halve yX6_halve, Cond.code yX6_halve cX6_halve 2 none, Cond.constantLong RX6 91 (1099511627776), Cond.constantLong RX6 93 (2), Cond.methodLink RX6 87 yX6_greatest, Cond.instanceMethod yX6_greatest, Cond.selects RX6 yX6_greatest yX6_greatest, Cond.code yX6_greatest cX6_greatest 4 (some .long), Cond.methodLink RL 97 yL_read, Cond.static yL_read, Cond.codeWith yL_read cL_read 5 (some .int) [(0, 10, 13, 13), (0, 10, 17, 21), (0, 10, 21, 15)], Cond.methodLink RL 30 yX5_read, Cond.instanceMethod yX5_read, Cond.selects RX5 yX5_read yX5_read, Cond.code yX5_read cX5_read 4 (some .int), Cond.methodLink RX5 111 yX4_weigh, Cond.instanceMethod yX4_weigh, Cond.selects RX4 yX4_weigh yX4_weigh, Cond.code yX4_weigh cX4_weigh 5 (some .int), Cond.methodLink RX4 80 yX3_weight, Cond.instanceMethod yX3_weight, Cond.selects RX3 yX3_weight yX3_weight, Cond.code yX3_weight cX3_weight 4 (some .int)]
def wsL_law0_r16 : List Cond := [Cond.methodLink RX3 52 Lib.Math.abs.name, Cond.static Lib.Math.abs.name, Cond.code Lib.Math.abs.name Lib.Math.abs.code 1 (some .int), Cond.static yX5_quotient, Cond.code yX5_quotient cX5_quotient 4 (some .long), Cond.methodLink RX4 87 yX4_compareFit, Cond.instanceMethod yX4_compareFit, Cond.selects RX4 yX4_compareFit yX4_compareFit, Cond.code yX4_compareFit cX4_compareFit 2 none, Cond.methodLink RX4 99 Lib.Math.max.name, Cond.static Lib.Math.max.name, Cond.code Lib.Math.max.name Lib.Math.max.code 2 (some .int), Cond.methodLink RX4 91 yX4_manyAnew, Cond.instanceMethod yX4_manyAnew, Cond.selects RX4 yX4_manyAnew yX4_manyAnew, Cond.code yX4_manyAnew cX4_manyAnew 6 (some .int), Cond.methodLink RX4 112 Lib.Math.min.name, Cond.methodLink RX4 104 yX4_chart, Cond.instanceMethod yX4_chart, Cond.selects RX4 yX4_chart yX4_chart, Cond.code yX4_chart cX4_chart 2 (some (.object "Particleway$Chart")), Cond.methodLink RX4 43 yX2_clear, Cond.methodLink RX4 46 yX2_add, Cond.methodLink RX4 108 yX2_at]
def wsL_law0_r17 : List Cond := [Cond.methodLink RX4 95 yX4_drawAnew, Cond.instanceMethod yX4_drawAnew, Cond.selects RX4 yX4_drawAnew yX4_drawAnew, Cond.code yX4_drawAnew cX4_drawAnew 6 none, Cond.methodLink RX4 115 arraycopyName, Cond.methodLink RX4 121 yX4_oldCellBeyond, Cond.instanceMethod yX4_oldCellBeyond, Cond.selects RX4 yX4_oldCellBeyond yX4_oldCellBeyond, Cond.code yX4_oldCellBeyond cX4_oldCellBeyond 5 (some .int), Cond.methodLink RX5 114 yX0_weigh, Cond.instanceMethod yX0_weigh, Cond.selects RX0 yX0_weigh yX0_weigh, Cond.code yX0_weigh cX0_weigh 4 none, Cond.methodLink RX0 67 yX3_weight, Cond.methodLink RX0 74 yX0_begin, Cond.methodLink RL 100 yX6_read, Cond.instanceMethod yX6_read, Cond.selects RX6 yX6_read yX6_read, Cond.code yX6_read cX6_read 7 (some .int), Cond.methodLink RX6 118 yX6_weightOf, Cond.instanceMethod yX6_weightOf, Cond.selects RX6 yX6_weightOf yX6_weightOf, Cond.code yX6_weightOf cX6_weightOf 5 (some .int), Cond.methodLink RX6 66 yX6_reads]
def wsL_law0_r18 : List Cond := [Cond.instanceMethod yX6_reads, Cond.selects RX6 yX6_reads yX6_reads, Cond.code yX6_reads cX6_reads 5 (some .int), Cond.methodLink RX6 122 yX6_judge, Cond.instanceMethod yX6_judge, Cond.selects RX6 yX6_judge yX6_judge, Cond.code yX6_judge cX6_judge 4 none, Cond.fieldLink RX6 105 "ParticlewayModel" "slow" "I", Cond.fieldLink RX6 108 "ParticlewayModel" "fast" "I", Cond.methodLink RX6 126 yX6_drawAnew, Cond.instanceMethod yX6_drawAnew, Cond.selects RX6 yX6_drawAnew yX6_drawAnew, Cond.code yX6_drawAnew cX6_drawAnew 6 none, Cond.methodLink RX6 111 yX6_manyNew, Cond.instanceMethod yX6_manyNew, Cond.selects RX6 yX6_manyNew yX6_manyNew, Cond.code yX6_manyNew cX6_manyNew 5 (some .int), Cond.methodLink RX6 114 yX6_oldAbove, Cond.instanceMethod yX6_oldAbove, Cond.selects RX6 yX6_oldAbove yX6_oldAbove, Cond.code yX6_oldAbove cX6_oldAbove 4 (some .int), Cond.methodLink RX6 129 yX6_areNone, Cond.instanceMethod yX6_areNone, Cond.selects RX6 yX6_areNone yX6_areNone]
def wsL_law0_r19 : List Cond := [Cond.code yX6_areNone cX6_areNone 3 (some .boolean), Cond.methodLink RL 101 yL_toRead, Cond.static yL_toRead, Cond.codeWith yL_toRead cL_toRead 6 (some .int) [(0, 12, 15, 13)], Cond.methodLink RL 34 yX5_toRead, Cond.instanceMethod yX5_toRead, Cond.selects RX5 yX5_toRead yX5_toRead, Cond.code yX5_toRead cX5_toRead 4 (some .int), Cond.methodLink RX5 116 yX3_stepsAhead, Cond.methodLink RL 104 yX6_toRead, Cond.instanceMethod yX6_toRead, Cond.selects RX6 yX6_toRead yX6_toRead, Cond.code yX6_toRead cX6_toRead 4 (some .int), Cond.methodLink RL 105 yL_samples, Cond.static yL_samples, Cond.codeWith yL_samples cL_samples 3 (some .int) [(0, 8, 11, 15)], Cond.methodLink RL 38 yX5_samples, Cond.instanceMethod yX5_samples, Cond.selects RX5 yX5_samples yX5_samples, Cond.code yX5_samples cX5_samples 1 (some .int), Cond.methodLink RX5 119 yX5_checkSpread, Cond.instanceMethod yX5_checkSpread, Cond.selects RX5 yX5_checkSpread yX5_checkSpread, Cond.code yX5_checkSpread cX5_checkSpread 1 none]
def wsL_law0_r20 : List Cond := [Cond.methodLink RX5 122 yX4_size, Cond.instanceMethod yX4_size, Cond.selects RX4 yX4_size yX4_size, Cond.code yX4_size cX4_size 1 (some .int), Cond.methodLink RL 108 yX6_samples, Cond.instanceMethod yX6_samples, Cond.selects RX6 yX6_samples yX6_samples, Cond.code yX6_samples cX6_samples 1 (some .int), Cond.methodLink RL 109 yL_sample, Cond.static yL_sample, Cond.codeWith yL_sample cL_sample 4 (some .int) [(0, 9, 12, 13)], Cond.methodLink RL 42 yX5_sample, Cond.instanceMethod yX5_sample, Cond.selects RX5 yX5_sample yX5_sample, Cond.code yX5_sample cX5_sample 2 (some .int), Cond.methodLink RX5 128 yX4_cellOf, Cond.instanceMethod yX4_cellOf, Cond.selects RX4 yX4_cellOf yX4_cellOf, Cond.code yX4_cellOf cX4_cellOf 2 (some .int), Cond.methodLink RL 111 yX6_sample, Cond.instanceMethod yX6_sample, Cond.selects RX6 yX6_sample yX6_sample, Cond.code yX6_sample cX6_sample 2 (some .int), Cond.methodLink RL 112 yL_count]
def wsL_law0_r21 : List Cond := [Cond.static yL_count, Cond.codeWith yL_count cL_count 5 (some .int) [(0, 10, 13, 13), (0, 10, 17, 15)], Cond.methodLink RL 45 yX5_count, Cond.instanceMethod yX5_count, Cond.selects RX5 yX5_count yX5_count, Cond.code yX5_count cX5_count 3 (some .int), Cond.methodLink RX5 131 yX4_chart, Cond.methodLink RX5 135 yX2_at, Cond.methodLink RL 114 yX6_count, Cond.instanceMethod yX6_count, Cond.selects RX6 yX6_count yX6_count, Cond.code yX6_count cX6_count 4 (some .int), Cond.methodLink RX6 133 yX6_countOf, Cond.instanceMethod yX6_countOf, Cond.selects RX6 yX6_countOf yX6_countOf, Cond.code yX6_countOf cX6_countOf 4 (some .int), Cond.methodLink RL 115 yL_belief, Cond.static yL_belief, Cond.codeWith yL_belief cL_belief 5 (some .int) [(0, 9, 12, 13), (0, 9, 16, 15)], Cond.methodLink RL 48 yX5_belief, Cond.instanceMethod yX5_belief, Cond.selects RX5 yX5_belief yX5_belief, Cond.code yX5_belief cX5_belief 3 (some .long), Cond.methodLink RX5 141 yX0_chart]
def wsL_law0_r22 : List Cond := [Cond.instanceMethod yX0_chart, Cond.selects RX0 yX0_chart yX0_chart, Cond.code yX0_chart cX0_chart 1 (some (.object "Particleway$Chart")), Cond.methodLink RL 117 yX6_belief, Cond.instanceMethod yX6_belief, Cond.selects RX6 yX6_belief yX6_belief, Cond.code yX6_belief cX6_belief 4 (some .long), Cond.methodLink RL 118 yL_beliefAnew, Cond.static yL_beliefAnew, Cond.codeWith yL_beliefAnew cL_beliefAnew 5 (some .int) [(0, 9, 12, 13), (0, 9, 16, 15)], Cond.methodLink RL 52 yX5_beliefAnew, Cond.instanceMethod yX5_beliefAnew, Cond.selects RX5 yX5_beliefAnew yX5_beliefAnew, Cond.code yX5_beliefAnew cX5_beliefAnew 3 (some .long), Cond.methodLink RX5 142 yX5_repeatAllTold, Cond.instanceMethod yX5_repeatAllTold, Cond.selects RX5 yX5_repeatAllTold yX5_repeatAllTold, Cond.code yX5_repeatAllTold cX5_repeatAllTold 2 none, Cond.methodLink RX5 185 yX0_fetch, Cond.instanceMethod yX0_fetch, Cond.selects RX0 yX0_fetch yX0_fetch, Cond.code yX0_fetch cX0_fetch 3 none, Cond.methodLink RX0 60 yX0_fetched, Cond.instanceMethod yX0_fetched]
def wsL_law0_r23 : List Cond := [Cond.selects RX0 yX0_fetched yX0_fetched, Cond.code yX0_fetched cX0_fetched 7 (some .long), Cond.methodLink RX0 64 yX3_shifted, Cond.methodLink RL 120 yX6_beliefAnew, Cond.instanceMethod yX6_beliefAnew, Cond.selects RX6 yX6_beliefAnew yX6_beliefAnew, Cond.code yX6_beliefAnew cX6_beliefAnew 4 (some .long), Cond.methodLink RL 121 yL_mode, Cond.static yL_mode, Cond.codeWith yL_mode cL_mode 4 (some .int) [(0, 9, 12, 15)], Cond.methodLink RL 55 yX5_mode, Cond.instanceMethod yX5_mode, Cond.selects RX5 yX5_mode yX5_mode, Cond.code yX5_mode cX5_mode 2 (some .int), Cond.methodLink RX5 145 yX5_chartOf, Cond.instanceMethod yX5_chartOf, Cond.selects RX5 yX5_chartOf yX5_chartOf, Cond.code yX5_chartOf cX5_chartOf 2 (some (.object "Particleway$Chart")), Cond.methodLink RX5 149 yX2_greatestCell, Cond.instanceMethod yX2_greatestCell, Cond.selects RX2 yX2_greatestCell yX2_greatestCell, Cond.code yX2_greatestCell cX2_greatestCell 4 (some .int), Cond.methodLink RX2 33 yX2_greatest, Cond.methodLink RL 124 yX6_mode]
def wsL_law0_r24 : List Cond := [Cond.instanceMethod yX6_mode, Cond.selects RX6 yX6_mode yX6_mode, Cond.code yX6_mode cX6_mode 4 (some .int), Cond.methodLink RX6 136 yX6_partOf, Cond.instanceMethod yX6_partOf, Cond.selects RX6 yX6_partOf yX6_partOf, Cond.code yX6_partOf cX6_partOf 3 (some .long), Cond.methodLink RL 125 yL_mean, Cond.static yL_mean, Cond.codeWith yL_mean cL_mean 5 (some .int) [(0, 10, 13, 15)], Cond.methodLink RL 59 yX5_mean, Cond.instanceMethod yX5_mean, Cond.selects RX5 yX5_mean yX5_mean, Cond.code yX5_mean cX5_mean 4 (some .int), Cond.constantLong RX5 152 (100), Cond.methodLink RX5 154 yX2_coordinateSum, Cond.instanceMethod yX2_coordinateSum, Cond.selects RX2 yX2_coordinateSum yX2_coordinateSum, Cond.code yX2_coordinateSum cX2_coordinateSum 5 (some .long), Cond.methodLink RX5 158 yX2_sum, Cond.instanceMethod yX2_sum, Cond.selects RX2 yX2_sum yX2_sum, Cond.code yX2_sum cX2_sum 1 (some .long), Cond.methodLink RX2 37 yX2_sumOf]
def wsL_law0_r25 : List Cond := [Cond.instanceMethod yX2_sumOf, Cond.selects RX2 yX2_sumOf yX2_sumOf, Cond.code yX2_sumOf cX2_sumOf 10 (some .long), Cond.methodLink RX5 162 yX5_quotient, Cond.methodLink RL 128 yX6_mean, Cond.instanceMethod yX6_mean, Cond.selects RX6 yX6_mean yX6_mean, Cond.code yX6_mean cX6_mean 10 (some .int), Cond.constantLong RX6 140 (100), Cond.methodLink RL 129 yL_share, Cond.static yL_share, Cond.codeWith yL_share cL_share 8 (some .int) [(0, 16, 19, 13), (0, 16, 23, 21), (0, 16, 27, 15)], Cond.methodLink RL 63 yX5_share, Cond.instanceMethod yX5_share, Cond.selects RX5 yX5_share yX5_share, Cond.code yX5_share cX5_share 7 (some .int), Cond.constantLong RX5 166 (1000), Cond.methodLink RX5 168 yX2_sumOf, Cond.methodLink RL 132 yX6_share, Cond.instanceMethod yX6_share, Cond.selects RX6 yX6_share yX6_share, Cond.code yX6_share cX6_share 15 (some .int), Cond.constantLong RX6 142 (1000), Cond.methodLink RL 133 yL_best]
def wsL_law0_r26 : List Cond := [Cond.static yL_best, Cond.codeWith yL_best cL_best 4 (some .int) [(0, 9, 12, 13), (0, 9, 15, 15)], Cond.methodLink RL 67 yX5_best, Cond.instanceMethod yX5_best, Cond.selects RX5 yX5_best yX5_best, Cond.code yX5_best cX5_best 2 (some .int), Cond.methodLink RX5 172 yX2_cellAtPlace, Cond.instanceMethod yX2_cellAtPlace, Cond.selects RX2 yX2_cellAtPlace yX2_cellAtPlace, Cond.code yX2_cellAtPlace cX2_cellAtPlace 3 (some .int), Cond.methodLink RX2 41 yX2_placeOf, Cond.instanceMethod yX2_placeOf, Cond.selects RX2 yX2_placeOf yX2_placeOf, Cond.code yX2_placeOf cX2_placeOf 5 (some .int), Cond.methodLink RX2 45 yX2_at, Cond.methodLink RL 135 yX6_best, Cond.instanceMethod yX6_best, Cond.selects RX6 yX6_best yX6_best, Cond.code yX6_best cX6_best 4 (some .int), Cond.methodLink RX6 144 yX6_ahead, Cond.instanceMethod yX6_ahead, Cond.selects RX6 yX6_ahead yX6_ahead, Cond.code yX6_ahead cX6_ahead 4 (some .int), Cond.methodLink RL 136 yL_doubt]
def wsL_law0_r27 : List Cond := [Cond.static yL_doubt, Cond.codeWith yL_doubt cL_doubt 3 (some .int) [(0, 8, 11, 15)], Cond.methodLink RL 70 yX5_doubt, Cond.instanceMethod yX5_doubt, Cond.selects RX5 yX5_doubt yX5_doubt, Cond.code yX5_doubt cX5_doubt 1 (some .int), Cond.methodLink RX5 175 yX4_lastDoubt, Cond.instanceMethod yX4_lastDoubt, Cond.selects RX4 yX4_lastDoubt yX4_lastDoubt, Cond.code yX4_lastDoubt cX4_lastDoubt 1 (some .int), Cond.methodLink RL 138 yX6_doubt, Cond.instanceMethod yX6_doubt, Cond.selects RX6 yX6_doubt yX6_doubt, Cond.code yX6_doubt cX6_doubt 1 (some .int)]
def wsL_law0 : List Cond := (wsL_law0_r1 ++ (wsL_law0_r2 ++ (wsL_law0_r3 ++ (wsL_law0_r4 ++ (wsL_law0_r5 ++ (wsL_law0_r6 ++ (wsL_law0_r7 ++ (wsL_law0_r8 ++ (wsL_law0_r9 ++ (wsL_law0_r10 ++ (wsL_law0_r11 ++ (wsL_law0_r12 ++ (wsL_law0_r13 ++ (wsL_law0_r14 ++ (wsL_law0_r15 ++ (wsL_law0_r16 ++ (wsL_law0_r17 ++ (wsL_law0_r18 ++ (wsL_law0_r19 ++ (wsL_law0_r20 ++ (wsL_law0_r21 ++ (wsL_law0_r22 ++ (wsL_law0_r23 ++ (wsL_law0_r24 ++ (wsL_law0_r25 ++ (wsL_law0_r26 ++ wsL_law0_r27)))))))))))))))))))))))))) ++ wsX50 ++ wsX60 ++ wsX30 ++ wsX10 ++ wsX40 ++ wsX00 ++ wsX20 ++ ([] : List Cond)
def wsL_law : List Cond := wsL_law0 ++ (vx_at0 RX5 77 "java/lang/IllegalStateException" ["java/lang/RuntimeException", "java/lang/Exception"]).filter goodWord ++ (vx_at0 RX5 127 "java/lang/IndexOutOfBoundsException" ["java/lang/RuntimeException", "java/lang/Exception"]).filter goodWord ++ (vx_at0 RX5 85 "java/lang/IllegalArgumentException" ["java/lang/RuntimeException", "java/lang/Exception"]).filter goodWord
set_option maxRecDepth 20000 in
theorem wsL_law_in0_1 : ∀ w ∈ wsL_law0_r1, w ∈ lw_tbl := fun w h => (goodIn_p wsL_law0_r1 [54, 57] (by decide +kernel) (by decide +kernel) w h).1
set_option maxRecDepth 20000 in
theorem wsL_law_in0_2 : ∀ w ∈ wsL_law0_r2, w ∈ lw_tbl := fun w h => (goodIn_p wsL_law0_r2 [62, 67] (by decide +kernel) (by decide +kernel) w h).1
set_option maxRecDepth 20000 in
theorem wsL_law_in0_3 : ∀ w ∈ wsL_law0_r3, w ∈ lw_tbl := fun w h => (goodIn_p wsL_law0_r3 [71, 74, 77, 80, 87, 90, 94, 111] (by decide +kernel) (by decide +kernel) w h).1
set_option maxRecDepth 20000 in
theorem wsL_law_in0_4 : ∀ w ∈ wsL_law0_r4, w ∈ lw_tbl := fun w h => (goodIn_p wsL_law0_r4 [121, 127, 172] (by decide +kernel) (by decide +kernel) w h).1
set_option maxRecDepth 20000 in
theorem wsL_law_in0_5 : ∀ w ∈ wsL_law0_r5, w ∈ lw_tbl := fun w h => (goodIn_p wsL_law0_r5 [661] (by decide +kernel) (by decide +kernel) w h).1
set_option maxRecDepth 20000 in
theorem wsL_law_in0_6 : ∀ w ∈ wsL_law0_r6, w ∈ lw_tbl := fun w h => (goodIn_p wsL_law0_r6 [222, 225, 295, 314, 716] (by decide +kernel) (by decide +kernel) w h).1
set_option maxRecDepth 20000 in
theorem wsL_law_in0_7 : ∀ w ∈ wsL_law0_r7, w ∈ lw_tbl := fun w h => (goodIn_p wsL_law0_r7 [719, 722, 726, 730, 712] (by decide +kernel) (by decide +kernel) w h).1
set_option maxRecDepth 20000 in
theorem wsL_law_in0_8 : ∀ w ∈ wsL_law0_r8, w ∈ lw_tbl := fun w h => (goodIn_p wsL_law0_r8 [322, 342, 734, 349] (by decide +kernel) (by decide +kernel) w h).1
set_option maxRecDepth 20000 in
theorem wsL_law_in0_9 : ∀ w ∈ wsL_law0_r9, w ∈ lw_tbl := fun w h => (goodIn_p wsL_law0_r9 [353, 357, 361, 366] (by decide +kernel) (by decide +kernel) w h).1
set_option maxRecDepth 20000 in
theorem wsL_law_in0_10 : ∀ w ∈ wsL_law0_r10, w ∈ lw_tbl := fun w h => (goodIn_p wsL_law0_r10 [371, 739, 743, 747, 752] (by decide +kernel) (by decide +kernel) w h).1
set_option maxRecDepth 20000 in
theorem wsL_law_in0_11 : ∀ w ∈ wsL_law0_r11, w ∈ lw_tbl := fun w h => (goodIn_p wsL_law0_r11 [379, 382, 387, 391, 395] (by decide +kernel) (by decide +kernel) w h).1
set_option maxRecDepth 20000 in
theorem wsL_law_in0_12 : ∀ w ∈ wsL_law0_r12, w ∈ lw_tbl := fun w h => (goodIn_p wsL_law0_r12 [400, 407, 404, 411, 415] (by decide +kernel) (by decide +kernel) w h).1
set_option maxRecDepth 20000 in
theorem wsL_law_in0_13 : ∀ w ∈ wsL_law0_r13, w ∈ lw_tbl := fun w h => (goodIn_p wsL_law0_r13 [422, 427, 431, 437, 441] (by decide +kernel) (by decide +kernel) w h).1
set_option maxRecDepth 20000 in
theorem wsL_law_in0_14 : ∀ w ∈ wsL_law0_r14, w ∈ lw_tbl := fun w h => (goodIn_p wsL_law0_r14 [444, 449, 454, 756, 759, 763] (by decide +kernel) (by decide +kernel) w h).1
set_option maxRecDepth 20000 in
theorem wsL_law_in0_15 : ∀ w ∈ wsL_law0_r15, w ∈ lw_tbl := fun w h => (goodIn_p wsL_law0_r15 [769, 773, 461, 465, 469] (by decide +kernel) (by decide +kernel) w h).1
set_option maxRecDepth 20000 in
theorem wsL_law_in0_16 : ∀ w ∈ wsL_law0_r16, w ∈ lw_tbl := fun w h => (goodIn_p wsL_law0_r16 [472, 475, 479, 482, 486, 490] (by decide +kernel) (by decide +kernel) w h).1
set_option maxRecDepth 20000 in
theorem wsL_law_in0_17 : ∀ w ∈ wsL_law0_r17, w ∈ lw_tbl := fun w h => (goodIn_p wsL_law0_r17 [498, 503, 507, 779, 783] (by decide +kernel) (by decide +kernel) w h).1
set_option maxRecDepth 20000 in
theorem wsL_law_in0_18 : ∀ w ∈ wsL_law0_r18, w ∈ lw_tbl := fun w h => (goodIn_p wsL_law0_r18 [787, 791, 795, 799, 803] (by decide +kernel) (by decide +kernel) w h).1
set_option maxRecDepth 20000 in
theorem wsL_law_in0_19 : ∀ w ∈ wsL_law0_r19, w ∈ lw_tbl := fun w h => (goodIn_p wsL_law0_r19 [807, 516, 811, 524, 528] (by decide +kernel) (by decide +kernel) w h).1
set_option maxRecDepth 20000 in
theorem wsL_law_in0_20 : ∀ w ∈ wsL_law0_r20, w ∈ lw_tbl := fun w h => (goodIn_p wsL_law0_r20 [532, 815, 539, 543, 819] (by decide +kernel) (by decide +kernel) w h).1
set_option maxRecDepth 20000 in
theorem wsL_law_in0_21 : ∀ w ∈ wsL_law0_r21, w ∈ lw_tbl := fun w h => (goodIn_p wsL_law0_r21 [550, 823, 827, 559] (by decide +kernel) (by decide +kernel) w h).1
set_option maxRecDepth 20000 in
theorem wsL_law_in0_22 : ∀ w ∈ wsL_law0_r22, w ∈ lw_tbl := fun w h => (goodIn_p wsL_law0_r22 [563, 831, 570, 574, 578] (by decide +kernel) (by decide +kernel) w h).1
set_option maxRecDepth 20000 in
theorem wsL_law_in0_23 : ∀ w ∈ wsL_law0_r23, w ∈ lw_tbl := fun w h => (goodIn_p wsL_law0_r23 [582, 835, 590, 594, 598] (by decide +kernel) (by decide +kernel) w h).1
set_option maxRecDepth 20000 in
theorem wsL_law_in0_24 : ∀ w ∈ wsL_law0_r24, w ∈ lw_tbl := fun w h => (goodIn_p wsL_law0_r24 [839, 843, 606, 611, 615] (by decide +kernel) (by decide +kernel) w h).1
set_option maxRecDepth 20000 in
theorem wsL_law_in0_25 : ∀ w ∈ wsL_law0_r25, w ∈ lw_tbl := fun w h => (goodIn_p wsL_law0_r25 [619, 847, 627, 852] (by decide +kernel) (by decide +kernel) w h).1
set_option maxRecDepth 20000 in
theorem wsL_law_in0_26 : ∀ w ∈ wsL_law0_r26, w ∈ lw_tbl := fun w h => (goodIn_p wsL_law0_r26 [636, 640, 644, 857, 861] (by decide +kernel) (by decide +kernel) w h).1
set_option maxRecDepth 20000 in
theorem wsL_law_in0_27 : ∀ w ∈ wsL_law0_r27, w ∈ lw_tbl := fun w h => (goodIn_p wsL_law0_r27 [652, 656, 865] (by decide +kernel) (by decide +kernel) w h).1
theorem wsL_in_wsX50 : ∀ w ∈ wsX50, w ∈ lw_tbl := by decide +kernel
theorem wsL_in_wsX60 : ∀ w ∈ wsX60, w ∈ lw_tbl := by decide +kernel
theorem wsL_in_wsX30 : ∀ w ∈ wsX30, w ∈ lw_tbl := by decide +kernel
theorem wsL_in_wsX10 : ∀ w ∈ wsX10, w ∈ lw_tbl := by decide +kernel
theorem wsL_in_wsX40 : ∀ w ∈ wsX40, w ∈ lw_tbl := by decide +kernel
theorem wsL_in_wsX00 : ∀ w ∈ wsX00, w ∈ lw_tbl := by decide +kernel
theorem wsL_in_wsX20 : ∀ w ∈ wsX20, w ∈ lw_tbl := by decide +kernel
theorem wsL_law_in0 : ∀ w ∈ wsL_law0, w ∈ lw_tbl := List.forall_mem_append.mpr ⟨(List.forall_mem_append.mpr ⟨(List.forall_mem_append.mpr ⟨(List.forall_mem_append.mpr ⟨(List.forall_mem_append.mpr ⟨(List.forall_mem_append.mpr ⟨(List.forall_mem_append.mpr ⟨(List.forall_mem_append.mpr ⟨(List.forall_mem_append.mpr ⟨wsL_law_in0_1, List.forall_mem_append.mpr ⟨wsL_law_in0_2, List.forall_mem_append.mpr ⟨wsL_law_in0_3, List.forall_mem_append.mpr ⟨wsL_law_in0_4, List.forall_mem_append.mpr ⟨wsL_law_in0_5, List.forall_mem_append.mpr ⟨wsL_law_in0_6, List.forall_mem_append.mpr ⟨wsL_law_in0_7, List.forall_mem_append.mpr ⟨wsL_law_in0_8, List.forall_mem_append.mpr ⟨wsL_law_in0_9, List.forall_mem_append.mpr ⟨wsL_law_in0_10, List.forall_mem_append.mpr ⟨wsL_law_in0_11, List.forall_mem_append.mpr ⟨wsL_law_in0_12, List.forall_mem_append.mpr ⟨wsL_law_in0_13, List.forall_mem_append.mpr ⟨wsL_law_in0_14, List.forall_mem_append.mpr ⟨wsL_law_in0_15, List.forall_mem_append.mpr ⟨wsL_law_in0_16, List.forall_mem_append.mpr ⟨wsL_law_in0_17, List.forall_mem_append.mpr ⟨wsL_law_in0_18, List.forall_mem_append.mpr ⟨wsL_law_in0_19, List.forall_mem_append.mpr ⟨wsL_law_in0_20, List.forall_mem_append.mpr ⟨wsL_law_in0_21, List.forall_mem_append.mpr ⟨wsL_law_in0_22, List.forall_mem_append.mpr ⟨wsL_law_in0_23, List.forall_mem_append.mpr ⟨wsL_law_in0_24, List.forall_mem_append.mpr ⟨wsL_law_in0_25, List.forall_mem_append.mpr ⟨wsL_law_in0_26, wsL_law_in0_27⟩⟩⟩⟩⟩⟩⟩⟩⟩⟩⟩⟩⟩⟩⟩⟩⟩⟩⟩⟩⟩⟩⟩⟩⟩⟩), wsL_in_wsX50⟩), wsL_in_wsX60⟩), wsL_in_wsX30⟩), wsL_in_wsX10⟩), wsL_in_wsX40⟩), wsL_in_wsX00⟩), wsL_in_wsX20⟩), fun _ h => absurd h List.not_mem_nil⟩
theorem wsL_law_x0 : ∀ w ∈ (vx_at0 RX5 77 "java/lang/IllegalStateException" ["java/lang/RuntimeException", "java/lang/Exception"]).filter goodWord, w ∈ lw_tbl := by decide +kernel
theorem wsL_law_x1 : ∀ w ∈ (vx_at0 RX5 127 "java/lang/IndexOutOfBoundsException" ["java/lang/RuntimeException", "java/lang/Exception"]).filter goodWord, w ∈ lw_tbl := by decide +kernel
theorem wsL_law_x2 : ∀ w ∈ (vx_at0 RX5 85 "java/lang/IllegalArgumentException" ["java/lang/RuntimeException", "java/lang/Exception"]).filter goodWord, w ∈ lw_tbl := by decide +kernel
theorem wsL_law_in : ∀ w ∈ wsL_law, w ∈ lw_tbl := fun w h => (List.mem_append.mp h).elim (fun h => (List.mem_append.mp h).elim (fun h => (List.mem_append.mp h).elim (fun h => wsL_law_in0 w h) (fun h => wsL_law_x0 w h)) (fun h => wsL_law_x1 w h)) (fun h => wsL_law_x2 w h)
theorem inlX0 : ∀ w ∈ wsX00, w ∈ wsL_law := fun _ h => List.mem_append_left _ (List.mem_append_left _ (List.mem_append_left _ (List.mem_append_left _ (List.mem_append_left _ (List.mem_append_right _ h)))))
theorem inX0 : ∀ w ∈ wsX00, w ∈ lw_tbl := fun w h => wsL_law_in w (inlX0 w h)
theorem inlX1 : ∀ w ∈ wsX10, w ∈ wsL_law := fun _ h => List.mem_append_left _ (List.mem_append_left _ (List.mem_append_left _ (List.mem_append_left _ (List.mem_append_left _ (List.mem_append_left _ (List.mem_append_left _ (List.mem_append_right _ h)))))))
theorem inX1 : ∀ w ∈ wsX10, w ∈ lw_tbl := fun w h => wsL_law_in w (inlX1 w h)
theorem inlX2 : ∀ w ∈ wsX20, w ∈ wsL_law := fun _ h => List.mem_append_left _ (List.mem_append_left _ (List.mem_append_left _ (List.mem_append_left _ (List.mem_append_right _ h))))
theorem inX2 : ∀ w ∈ wsX20, w ∈ lw_tbl := fun w h => wsL_law_in w (inlX2 w h)
theorem inlX3 : ∀ w ∈ wsX30, w ∈ wsL_law := fun _ h => List.mem_append_left _ (List.mem_append_left _ (List.mem_append_left _ (List.mem_append_left _ (List.mem_append_left _ (List.mem_append_left _ (List.mem_append_left _ (List.mem_append_left _ (List.mem_append_right _ h))))))))
theorem inX3 : ∀ w ∈ wsX30, w ∈ lw_tbl := fun w h => wsL_law_in w (inlX3 w h)
theorem inlX4 : ∀ w ∈ wsX40, w ∈ wsL_law := fun _ h => List.mem_append_left _ (List.mem_append_left _ (List.mem_append_left _ (List.mem_append_left _ (List.mem_append_left _ (List.mem_append_left _ (List.mem_append_right _ h))))))
theorem inX4 : ∀ w ∈ wsX40, w ∈ lw_tbl := fun w h => wsL_law_in w (inlX4 w h)
theorem inlX5 : ∀ w ∈ wsX50, w ∈ wsL_law := fun _ h => List.mem_append_left _ (List.mem_append_left _ (List.mem_append_left _ (List.mem_append_left _ (List.mem_append_left _ (List.mem_append_left _ (List.mem_append_left _ (List.mem_append_left _ (List.mem_append_left _ (List.mem_append_left _ (List.mem_append_right _ h))))))))))
theorem inX5 : ∀ w ∈ wsX50, w ∈ lw_tbl := fun w h => wsL_law_in w (inlX5 w h)
theorem inlX6 : ∀ w ∈ wsX60, w ∈ wsL_law := fun _ h => List.mem_append_left _ (List.mem_append_left _ (List.mem_append_left _ (List.mem_append_left _ (List.mem_append_left _ (List.mem_append_left _ (List.mem_append_left _ (List.mem_append_left _ (List.mem_append_left _ (List.mem_append_right _ h)))))))))
theorem inX6 : ∀ w ∈ wsX60, w ∈ lw_tbl := fun w h => wsL_law_in w (inlX6 w h)
theorem inJ9 : ∀ w ∈ wsJ90, w ∈ lw_tbl := by decide +kernel
theorem inJ10 : ∀ w ∈ wsJ100, w ∈ lw_tbl := by decide +kernel
end
section
set_option maxRecDepth 20000 in
theorem ggX0_init_X2_init : GoodIn wsX0_init wsX2_init := goodIn_r _ [12, 13, 2, 3, 14, 15, 19] (by decide +kernel) (by decide +kernel)
set_option maxRecDepth 20000 in
theorem gX0_init_X2_init : GoodIn wsX0_init (wsX2_init) := ggX0_init_X2_init
theorem dX0_init_0 : decode cX0_init 0 = .ok (.aload_n 0, 1) := by decide +kernel
theorem dX0_init_1 : decode cX0_init 1 = .ok (.invokespecial 3, 3) := by decide +kernel
theorem dX0_init_4 : decode cX0_init 4 = .ok (.aload_n 0, 1) := by decide +kernel
theorem dX0_init_5 : decode cX0_init 5 = .ok (.aload_n 1, 1) := by decide +kernel
theorem dX0_init_6 : decode cX0_init 6 = .ok (.putfield 9, 3) := by decide +kernel
theorem dX0_init_9 : decode cX0_init 9 = .ok (.aload_n 0, 1) := by decide +kernel
theorem dX0_init_10 : decode cX0_init 10 = .ok (.new 15, 3) := by decide +kernel
theorem dX0_init_13 : decode cX0_init 13 = .ok (.dup, 1) := by decide +kernel
theorem dX0_init_14 : decode cX0_init 14 = .ok (.invokespecial 17, 3) := by decide +kernel
theorem dX0_init_17 : decode cX0_init 17 = .ok (.putfield 18, 3) := by decide +kernel
theorem dX0_init_20 : decode cX0_init 20 = .ok (.aload_n 0, 1) := by decide +kernel
theorem dX0_init_21 : decode cX0_init 21 = .ok (.new 15, 3) := by decide +kernel
theorem dX0_init_24 : decode cX0_init 24 = .ok (.dup, 1) := by decide +kernel
theorem dX0_init_25 : decode cX0_init 25 = .ok (.invokespecial 17, 3) := by decide +kernel
theorem dX0_init_28 : decode cX0_init 28 = .ok (.putfield 22, 3) := by decide +kernel
theorem dX0_init_31 : decode cX0_init 31 = .ok (.return_, 1) := by decide +kernel
theorem dX0_chart_0 : decode cX0_chart 0 = .ok (.aload_n 0, 1) := by decide +kernel
theorem dX0_chart_1 : decode cX0_chart 1 = .ok (.getfield 18, 3) := by decide +kernel
theorem dX0_chart_4 : decode cX0_chart 4 = .ok (.areturn, 1) := by decide +kernel
set_option maxRecDepth 20000 in
theorem ggX0_begin_X3_isFree : GoodIn wsX0_begin wsX3_isFree := goodIn_r _ [7, 8, 9, 10, 11, 21, 22, 23] (by decide +kernel) (by decide +kernel)
set_option maxRecDepth 20000 in
theorem gX0_begin_X3_isFree : GoodIn wsX0_begin (wsV RX0 25 RX3 yX3_isFree wsX3_isFree) := goodIn_app (goodIn_of _ (by decide +kernel)) ggX0_begin_X3_isFree
set_option maxRecDepth 20000 in
theorem ggX0_begin_X2_put : GoodIn wsX0_begin wsX2_put := goodIn_r _ [16, 17, 9, 10, 11, 24] (by decide +kernel) (by decide +kernel)
set_option maxRecDepth 20000 in
theorem gX0_begin_X2_put : GoodIn wsX0_begin (wsV RX0 31 RX2 yX2_put wsX2_put) := goodIn_app (goodIn_of _ (by decide +kernel)) ggX0_begin_X2_put
theorem dX0_begin_0 : decode cX0_begin 0 = .ok (.iconst 0, 1) := by decide +kernel
theorem dX0_begin_1 : decode cX0_begin 1 = .ok (.istore_n 1, 1) := by decide +kernel
theorem dX0_begin_2 : decode cX0_begin 2 = .ok (.iload_n 1, 1) := by decide +kernel
theorem dX0_begin_3 : decode cX0_begin 3 = .ok (.bipush 64, 2) := by decide +kernel
theorem dX0_begin_5 : decode cX0_begin 5 = .ok (.if_icmp .ge 33, 3) := by decide +kernel
theorem dX0_begin_8 : decode cX0_begin 8 = .ok (.aload_n 0, 1) := by decide +kernel
theorem dX0_begin_9 : decode cX0_begin 9 = .ok (.getfield 18, 3) := by decide +kernel
theorem dX0_begin_12 : decode cX0_begin 12 = .ok (.iload_n 1, 1) := by decide +kernel
theorem dX0_begin_13 : decode cX0_begin 13 = .ok (.aload_n 0, 1) := by decide +kernel
theorem dX0_begin_14 : decode cX0_begin 14 = .ok (.getfield 9, 3) := by decide +kernel
theorem dX0_begin_17 : decode cX0_begin 17 = .ok (.iload_n 1, 1) := by decide +kernel
theorem dX0_begin_18 : decode cX0_begin 18 = .ok (.invokevirtual 25, 3) := by decide +kernel
theorem dX0_begin_21 : decode cX0_begin 21 = .ok (.ifCond .eq 7, 3) := by decide +kernel
theorem dX0_begin_24 : decode cX0_begin 24 = .ok (.lconst 1, 1) := by decide +kernel
theorem dX0_begin_25 : decode cX0_begin 25 = .ok (.goto 4, 3) := by decide +kernel
theorem dX0_begin_28 : decode cX0_begin 28 = .ok (.lconst 0, 1) := by decide +kernel
theorem dX0_begin_29 : decode cX0_begin 29 = .ok (.invokevirtual 31, 3) := by decide +kernel
theorem dX0_begin_32 : decode cX0_begin 32 = .ok (.iinc 1 1, 3) := by decide +kernel
theorem dX0_begin_35 : decode cX0_begin 35 = .ok (.goto (-33), 3) := by decide +kernel
theorem dX0_begin_38 : decode cX0_begin 38 = .ok (.return_, 1) := by decide +kernel
set_option maxRecDepth 20000 in
theorem ggX0_push_X2_copy : GoodIn wsX0_push wsX2_copy := goodIn_r _ [10, 11, 12, 13, 14, 15, 82] (by decide +kernel) (by decide +kernel)
set_option maxRecDepth 20000 in
theorem gX0_push_X2_copy : GoodIn wsX0_push (wsV RX0 35 RX2 yX2_copy wsX2_copy) := goodIn_app (goodIn_of _ (by decide +kernel)) ggX0_push_X2_copy
set_option maxRecDepth 20000 in
theorem ggX0_push_X2_clear : GoodIn wsX0_push wsX2_clear := goodIn_r _ [19, 11, 82] (by decide +kernel) (by decide +kernel)
set_option maxRecDepth 20000 in
theorem gX0_push_X2_clear : GoodIn wsX0_push (wsV RX0 39 RX2 yX2_clear wsX2_clear) := goodIn_app (goodIn_of _ (by decide +kernel)) ggX0_push_X2_clear
set_option maxRecDepth 20000 in
theorem ggX0_push_X3_isFree : GoodIn wsX0_push wsX3_isFree := goodIn_r _ [24, 25, 26, 27, 28, 83, 84, 85] (by decide +kernel) (by decide +kernel)
set_option maxRecDepth 20000 in
theorem gX0_push_X3_isFree : GoodIn wsX0_push (wsV RX0 25 RX3 yX3_isFree wsX3_isFree) := goodIn_app (goodIn_of _ (by decide +kernel)) ggX0_push_X3_isFree
set_option maxRecDepth 20000 in
theorem ggX0_push_X2_at : GoodIn wsX0_push wsX2_at := goodIn_r _ [32, 11, 26, 27, 28, 82] (by decide +kernel) (by decide +kernel)
set_option maxRecDepth 20000 in
theorem gX0_push_X2_at : GoodIn wsX0_push (wsV RX0 44 RX2 yX2_at wsX2_at) := goodIn_app (goodIn_of _ (by decide +kernel)) ggX0_push_X2_at
set_option maxRecDepth 20000 in
theorem ggX0_push_X2_add : GoodIn wsX0_push wsX2_add := goodIn_r _ [36, 11, 26, 27, 28, 82] (by decide +kernel) (by decide +kernel)
set_option maxRecDepth 20000 in
theorem gX0_push_X2_add : GoodIn wsX0_push (wsV RX0 48 RX2 yX2_add wsX2_add) := goodIn_app (goodIn_of _ (by decide +kernel)) ggX0_push_X2_add
set_option maxRecDepth 20000 in
theorem ggX0_push_X3_led : GoodIn wsX0_push wsX3_led := goodIn_r _ [40, 41, 42, 43, 44, 45, 46, 47, 23, 48, 49, 26, 27, 28, 50, 51, 52, 53, 54, 55, 56, 57, 58, 59, 60, 83, 84, 85] (by decide +kernel) (by decide +kernel)
set_option maxRecDepth 20000 in
theorem gX0_push_X3_led : GoodIn wsX0_push (wsV RX0 51 RX3 yX3_led wsX3_led) := goodIn_app (goodIn_of _ (by decide +kernel)) ggX0_push_X3_led
set_option maxRecDepth 20000 in
theorem ggX0_push_X0_halveGreat : GoodIn wsX0_push wsX0_halveGreat := goodIn_r _ [65, 2, 66, 67, 68, 69, 9, 70, 11, 71, 72, 43, 73, 74, 75, 76, 77, 78, 79, 80, 81, 82] (by decide +kernel) (by decide +kernel)
set_option maxRecDepth 20000 in
theorem gX0_push_X0_halveGreat : GoodIn wsX0_push (wsV RX0 57 RX0 yX0_halveGreat wsX0_halveGreat) := goodIn_app (goodIn_of _ (by decide +kernel)) ggX0_push_X0_halveGreat
theorem dX0_push_0 : decode cX0_push 0 = .ok (.aload_n 0, 1) := by decide +kernel
theorem dX0_push_1 : decode cX0_push 1 = .ok (.getfield 22, 3) := by decide +kernel
theorem dX0_push_4 : decode cX0_push 4 = .ok (.aload_n 0, 1) := by decide +kernel
theorem dX0_push_5 : decode cX0_push 5 = .ok (.getfield 18, 3) := by decide +kernel
theorem dX0_push_8 : decode cX0_push 8 = .ok (.invokevirtual 35, 3) := by decide +kernel
theorem dX0_push_11 : decode cX0_push 11 = .ok (.aload_n 0, 1) := by decide +kernel
theorem dX0_push_12 : decode cX0_push 12 = .ok (.getfield 18, 3) := by decide +kernel
theorem dX0_push_15 : decode cX0_push 15 = .ok (.invokevirtual 39, 3) := by decide +kernel
theorem dX0_push_18 : decode cX0_push 18 = .ok (.iconst 0, 1) := by decide +kernel
theorem dX0_push_19 : decode cX0_push 19 = .ok (.istore_n 2, 1) := by decide +kernel
theorem dX0_push_20 : decode cX0_push 20 = .ok (.iload_n 2, 1) := by decide +kernel
theorem dX0_push_21 : decode cX0_push 21 = .ok (.bipush 64, 2) := by decide +kernel
theorem dX0_push_23 : decode cX0_push 23 = .ok (.if_icmp .ge 94, 3) := by decide +kernel
theorem dX0_push_26 : decode cX0_push 26 = .ok (.aload_n 0, 1) := by decide +kernel
theorem dX0_push_27 : decode cX0_push 27 = .ok (.getfield 9, 3) := by decide +kernel
theorem dX0_push_30 : decode cX0_push 30 = .ok (.iload_n 2, 1) := by decide +kernel
theorem dX0_push_31 : decode cX0_push 31 = .ok (.invokevirtual 25, 3) := by decide +kernel
theorem dX0_push_34 : decode cX0_push 34 = .ok (.ifCond .eq 77, 3) := by decide +kernel
theorem dX0_push_37 : decode cX0_push 37 = .ok (.aload_n 0, 1) := by decide +kernel
theorem dX0_push_38 : decode cX0_push 38 = .ok (.getfield 18, 3) := by decide +kernel
theorem dX0_push_41 : decode cX0_push 41 = .ok (.iload_n 2, 1) := by decide +kernel
theorem dX0_push_42 : decode cX0_push 42 = .ok (.ldc2_w 42, 3) := by decide +kernel
theorem dX0_push_45 : decode cX0_push 45 = .ok (.aload_n 0, 1) := by decide +kernel
theorem dX0_push_46 : decode cX0_push 46 = .ok (.getfield 22, 3) := by decide +kernel
theorem dX0_push_49 : decode cX0_push 49 = .ok (.iload_n 2, 1) := by decide +kernel
theorem dX0_push_50 : decode cX0_push 50 = .ok (.invokevirtual 44, 3) := by decide +kernel
theorem dX0_push_53 : decode cX0_push 53 = .ok (.lmul, 1) := by decide +kernel
theorem dX0_push_54 : decode cX0_push 54 = .ok (.invokevirtual 48, 3) := by decide +kernel
theorem dX0_push_57 : decode cX0_push 57 = .ok (.aload_n 0, 1) := by decide +kernel
theorem dX0_push_58 : decode cX0_push 58 = .ok (.getfield 18, 3) := by decide +kernel
theorem dX0_push_61 : decode cX0_push 61 = .ok (.aload_n 0, 1) := by decide +kernel
theorem dX0_push_62 : decode cX0_push 62 = .ok (.getfield 9, 3) := by decide +kernel
theorem dX0_push_65 : decode cX0_push 65 = .ok (.iload_n 2, 1) := by decide +kernel
theorem dX0_push_66 : decode cX0_push 66 = .ok (.iload_n 1, 1) := by decide +kernel
theorem dX0_push_67 : decode cX0_push 67 = .ok (.iconst 1, 1) := by decide +kernel
theorem dX0_push_68 : decode cX0_push 68 = .ok (.invokevirtual 51, 3) := by decide +kernel
theorem dX0_push_71 : decode cX0_push 71 = .ok (.ldc2_w 55, 3) := by decide +kernel
theorem dX0_push_74 : decode cX0_push 74 = .ok (.aload_n 0, 1) := by decide +kernel
theorem dX0_push_75 : decode cX0_push 75 = .ok (.getfield 22, 3) := by decide +kernel
theorem dX0_push_78 : decode cX0_push 78 = .ok (.iload_n 2, 1) := by decide +kernel
theorem dX0_push_79 : decode cX0_push 79 = .ok (.invokevirtual 44, 3) := by decide +kernel
theorem dX0_push_82 : decode cX0_push 82 = .ok (.lmul, 1) := by decide +kernel
theorem dX0_push_83 : decode cX0_push 83 = .ok (.invokevirtual 48, 3) := by decide +kernel
theorem dX0_push_86 : decode cX0_push 86 = .ok (.aload_n 0, 1) := by decide +kernel
theorem dX0_push_87 : decode cX0_push 87 = .ok (.getfield 18, 3) := by decide +kernel
theorem dX0_push_90 : decode cX0_push 90 = .ok (.aload_n 0, 1) := by decide +kernel
theorem dX0_push_91 : decode cX0_push 91 = .ok (.getfield 9, 3) := by decide +kernel
theorem dX0_push_94 : decode cX0_push 94 = .ok (.iload_n 2, 1) := by decide +kernel
theorem dX0_push_95 : decode cX0_push 95 = .ok (.iload_n 1, 1) := by decide +kernel
theorem dX0_push_96 : decode cX0_push 96 = .ok (.iconst 2, 1) := by decide +kernel
theorem dX0_push_97 : decode cX0_push 97 = .ok (.invokevirtual 51, 3) := by decide +kernel
theorem dX0_push_100 : decode cX0_push 100 = .ok (.aload_n 0, 1) := by decide +kernel
theorem dX0_push_101 : decode cX0_push 101 = .ok (.getfield 22, 3) := by decide +kernel
theorem dX0_push_104 : decode cX0_push 104 = .ok (.iload_n 2, 1) := by decide +kernel
theorem dX0_push_105 : decode cX0_push 105 = .ok (.invokevirtual 44, 3) := by decide +kernel
theorem dX0_push_108 : decode cX0_push 108 = .ok (.invokevirtual 48, 3) := by decide +kernel
theorem dX0_push_111 : decode cX0_push 111 = .ok (.iinc 2 1, 3) := by decide +kernel
theorem dX0_push_114 : decode cX0_push 114 = .ok (.goto (-94), 3) := by decide +kernel
theorem dX0_push_117 : decode cX0_push 117 = .ok (.aload_n 0, 1) := by decide +kernel
theorem dX0_push_118 : decode cX0_push 118 = .ok (.invokevirtual 57, 3) := by decide +kernel
theorem dX0_push_121 : decode cX0_push 121 = .ok (.return_, 1) := by decide +kernel
set_option maxRecDepth 20000 in
theorem ggX0_fetch_X2_copy : GoodIn wsX0_fetch wsX2_copy := goodIn_r _ [7, 8, 9, 10, 11, 12, 83] (by decide +kernel) (by decide +kernel)
set_option maxRecDepth 20000 in
theorem gX0_fetch_X2_copy : GoodIn wsX0_fetch (wsV RX0 35 RX2 yX2_copy wsX2_copy) := goodIn_app (goodIn_of _ (by decide +kernel)) ggX0_fetch_X2_copy
set_option maxRecDepth 20000 in
theorem ggX0_fetch_X0_fetched : GoodIn wsX0_fetch wsX0_fetched := goodIn_r _ [17, 18, 1, 19, 20, 21, 22, 23, 6, 24, 8, 25, 26, 27, 28, 29, 30, 31, 32, 33, 34, 35, 36, 37, 38, 39, 40, 41, 42, 43, 44, 45, 46, 47, 48, 49, 50, 51, 52, 53, 54, 55, 56, 57, 58, 80, 81, 82, 83, 84, 85, 86] (by decide +kernel) (by decide +kernel)
set_option maxRecDepth 20000 in
theorem gX0_fetch_X0_fetched : GoodIn wsX0_fetch (wsV RX0 60 RX0 yX0_fetched wsX0_fetched) := goodIn_app (goodIn_of _ (by decide +kernel)) ggX0_fetch_X0_fetched
set_option maxRecDepth 20000 in
theorem ggX0_fetch_X2_put : GoodIn wsX0_fetch wsX2_put := goodIn_r _ [62, 8, 25, 26, 27, 83] (by decide +kernel) (by decide +kernel)
set_option maxRecDepth 20000 in
theorem gX0_fetch_X2_put : GoodIn wsX0_fetch (wsV RX0 31 RX2 yX2_put wsX2_put) := goodIn_app (goodIn_of _ (by decide +kernel)) ggX0_fetch_X2_put
set_option maxRecDepth 20000 in
theorem ggX0_fetch_X0_halveGreat : GoodIn wsX0_fetch wsX0_halveGreat := goodIn_r _ [66, 2, 67, 68, 69, 70, 6, 71, 8, 72, 73, 51, 74, 75, 76, 77, 78, 79, 80, 81, 82, 83] (by decide +kernel) (by decide +kernel)
set_option maxRecDepth 20000 in
theorem gX0_fetch_X0_halveGreat : GoodIn wsX0_fetch (wsV RX0 57 RX0 yX0_halveGreat wsX0_halveGreat) := goodIn_app (goodIn_of _ (by decide +kernel)) ggX0_fetch_X0_halveGreat
theorem dX0_fetch_0 : decode cX0_fetch 0 = .ok (.aload_n 0, 1) := by decide +kernel
theorem dX0_fetch_1 : decode cX0_fetch 1 = .ok (.getfield 22, 3) := by decide +kernel
theorem dX0_fetch_4 : decode cX0_fetch 4 = .ok (.aload_n 0, 1) := by decide +kernel
theorem dX0_fetch_5 : decode cX0_fetch 5 = .ok (.getfield 18, 3) := by decide +kernel
theorem dX0_fetch_8 : decode cX0_fetch 8 = .ok (.invokevirtual 35, 3) := by decide +kernel
theorem dX0_fetch_11 : decode cX0_fetch 11 = .ok (.iconst 0, 1) := by decide +kernel
theorem dX0_fetch_12 : decode cX0_fetch 12 = .ok (.istore_n 2, 1) := by decide +kernel
theorem dX0_fetch_13 : decode cX0_fetch 13 = .ok (.iload_n 2, 1) := by decide +kernel
theorem dX0_fetch_14 : decode cX0_fetch 14 = .ok (.bipush 64, 2) := by decide +kernel
theorem dX0_fetch_16 : decode cX0_fetch 16 = .ok (.if_icmp .ge 23, 3) := by decide +kernel
theorem dX0_fetch_19 : decode cX0_fetch 19 = .ok (.aload_n 0, 1) := by decide +kernel
theorem dX0_fetch_20 : decode cX0_fetch 20 = .ok (.getfield 18, 3) := by decide +kernel
theorem dX0_fetch_23 : decode cX0_fetch 23 = .ok (.iload_n 2, 1) := by decide +kernel
theorem dX0_fetch_24 : decode cX0_fetch 24 = .ok (.aload_n 0, 1) := by decide +kernel
theorem dX0_fetch_25 : decode cX0_fetch 25 = .ok (.iload_n 2, 1) := by decide +kernel
theorem dX0_fetch_26 : decode cX0_fetch 26 = .ok (.iload_n 1, 1) := by decide +kernel
theorem dX0_fetch_27 : decode cX0_fetch 27 = .ok (.invokevirtual 60, 3) := by decide +kernel
theorem dX0_fetch_30 : decode cX0_fetch 30 = .ok (.invokevirtual 31, 3) := by decide +kernel
theorem dX0_fetch_33 : decode cX0_fetch 33 = .ok (.iinc 2 1, 3) := by decide +kernel
theorem dX0_fetch_36 : decode cX0_fetch 36 = .ok (.goto (-23), 3) := by decide +kernel
theorem dX0_fetch_39 : decode cX0_fetch 39 = .ok (.aload_n 0, 1) := by decide +kernel
theorem dX0_fetch_40 : decode cX0_fetch 40 = .ok (.invokevirtual 57, 3) := by decide +kernel
theorem dX0_fetch_43 : decode cX0_fetch 43 = .ok (.return_, 1) := by decide +kernel
set_option maxRecDepth 20000 in
theorem ggX0_fetched_X2_at : GoodIn wsX0_fetched wsX2_at := goodIn_r _ [9, 10, 11, 12, 13, 48] (by decide +kernel) (by decide +kernel)
set_option maxRecDepth 20000 in
theorem gX0_fetched_X2_at : GoodIn wsX0_fetched (wsV RX0 44 RX2 yX2_at wsX2_at) := goodIn_app (goodIn_of _ (by decide +kernel)) ggX0_fetched_X2_at
set_option maxRecDepth 20000 in
theorem ggX0_fetched_X3_shifted : GoodIn wsX0_fetched wsX3_shifted := goodIn_r _ [17, 18, 19, 11, 12, 13, 20, 21, 22, 23, 24, 25] (by decide +kernel) (by decide +kernel)
set_option maxRecDepth 20000 in
theorem gX0_fetched_X3_shifted : GoodIn wsX0_fetched (va_wsS RX0 64 yX3_shifted wsX3_shifted) := goodIn_app (goodIn_of _ (by decide +kernel)) ggX0_fetched_X3_shifted
set_option maxRecDepth 20000 in
theorem ggX0_fetched_X3_isFree : GoodIn wsX0_fetched wsX3_isFree := goodIn_r _ [29, 30, 11, 12, 13, 49, 50, 51] (by decide +kernel) (by decide +kernel)
set_option maxRecDepth 20000 in
theorem gX0_fetched_X3_isFree : GoodIn wsX0_fetched (wsV RX0 25 RX3 yX3_isFree wsX3_isFree) := goodIn_app (goodIn_of _ (by decide +kernel)) ggX0_fetched_X3_isFree
set_option maxRecDepth 20000 in
theorem ggX0_fetched_X3_led : GoodIn wsX0_fetched wsX3_led := goodIn_r _ [34, 35, 36, 37, 38, 39, 40, 41, 16, 42, 43, 11, 12, 13, 20, 21, 44, 15, 17, 18, 19, 22, 23, 24, 25, 49, 50, 51] (by decide +kernel) (by decide +kernel)
set_option maxRecDepth 20000 in
theorem gX0_fetched_X3_led : GoodIn wsX0_fetched (wsV RX0 51 RX3 yX3_led wsX3_led) := goodIn_app (goodIn_of _ (by decide +kernel)) ggX0_fetched_X3_led
theorem dX0_fetched_0 : decode cX0_fetched 0 = .ok (.ldc2_w 42, 3) := by decide +kernel
theorem dX0_fetched_3 : decode cX0_fetched 3 = .ok (.aload_n 0, 1) := by decide +kernel
theorem dX0_fetched_4 : decode cX0_fetched 4 = .ok (.getfield 22, 3) := by decide +kernel
theorem dX0_fetched_7 : decode cX0_fetched 7 = .ok (.iload_n 1, 1) := by decide +kernel
theorem dX0_fetched_8 : decode cX0_fetched 8 = .ok (.invokevirtual 44, 3) := by decide +kernel
theorem dX0_fetched_11 : decode cX0_fetched 11 = .ok (.lmul, 1) := by decide +kernel
theorem dX0_fetched_12 : decode cX0_fetched 12 = .ok (.lstore_n 3, 1) := by decide +kernel
theorem dX0_fetched_13 : decode cX0_fetched 13 = .ok (.iconst 0, 1) := by decide +kernel
theorem dX0_fetched_14 : decode cX0_fetched 14 = .ok (.istore 5, 2) := by decide +kernel
theorem dX0_fetched_16 : decode cX0_fetched 16 = .ok (.iload 5, 2) := by decide +kernel
theorem dX0_fetched_18 : decode cX0_fetched 18 = .ok (.iconst 2, 1) := by decide +kernel
theorem dX0_fetched_19 : decode cX0_fetched 19 = .ok (.if_icmp .gt 97, 3) := by decide +kernel
theorem dX0_fetched_22 : decode cX0_fetched 22 = .ok (.iload_n 1, 1) := by decide +kernel
theorem dX0_fetched_23 : decode cX0_fetched 23 = .ok (.iload_n 2, 1) := by decide +kernel
theorem dX0_fetched_24 : decode cX0_fetched 24 = .ok (.iload 5, 2) := by decide +kernel
theorem dX0_fetched_26 : decode cX0_fetched 26 = .ok (.ineg, 1) := by decide +kernel
theorem dX0_fetched_27 : decode cX0_fetched 27 = .ok (.invokestatic 64, 3) := by decide +kernel
theorem dX0_fetched_30 : decode cX0_fetched 30 = .ok (.istore 6, 2) := by decide +kernel
theorem dX0_fetched_32 : decode cX0_fetched 32 = .ok (.aload_n 0, 1) := by decide +kernel
theorem dX0_fetched_33 : decode cX0_fetched 33 = .ok (.getfield 9, 3) := by decide +kernel
theorem dX0_fetched_36 : decode cX0_fetched 36 = .ok (.iload 6, 2) := by decide +kernel
theorem dX0_fetched_38 : decode cX0_fetched 38 = .ok (.invokevirtual 25, 3) := by decide +kernel
theorem dX0_fetched_41 : decode cX0_fetched 41 = .ok (.ifCond .eq 69, 3) := by decide +kernel
theorem dX0_fetched_44 : decode cX0_fetched 44 = .ok (.lload_n 3, 1) := by decide +kernel
theorem dX0_fetched_45 : decode cX0_fetched 45 = .ok (.aload_n 0, 1) := by decide +kernel
theorem dX0_fetched_46 : decode cX0_fetched 46 = .ok (.getfield 9, 3) := by decide +kernel
theorem dX0_fetched_49 : decode cX0_fetched 49 = .ok (.iload 6, 2) := by decide +kernel
theorem dX0_fetched_51 : decode cX0_fetched 51 = .ok (.iload_n 2, 1) := by decide +kernel
theorem dX0_fetched_52 : decode cX0_fetched 52 = .ok (.iconst 1, 1) := by decide +kernel
theorem dX0_fetched_53 : decode cX0_fetched 53 = .ok (.invokevirtual 51, 3) := by decide +kernel
theorem dX0_fetched_56 : decode cX0_fetched 56 = .ok (.iload_n 1, 1) := by decide +kernel
theorem dX0_fetched_57 : decode cX0_fetched 57 = .ok (.if_icmp .ne 19, 3) := by decide +kernel
theorem dX0_fetched_60 : decode cX0_fetched 60 = .ok (.ldc2_w 55, 3) := by decide +kernel
theorem dX0_fetched_63 : decode cX0_fetched 63 = .ok (.aload_n 0, 1) := by decide +kernel
theorem dX0_fetched_64 : decode cX0_fetched 64 = .ok (.getfield 22, 3) := by decide +kernel
theorem dX0_fetched_67 : decode cX0_fetched 67 = .ok (.iload 6, 2) := by decide +kernel
theorem dX0_fetched_69 : decode cX0_fetched 69 = .ok (.invokevirtual 44, 3) := by decide +kernel
theorem dX0_fetched_72 : decode cX0_fetched 72 = .ok (.lmul, 1) := by decide +kernel
theorem dX0_fetched_73 : decode cX0_fetched 73 = .ok (.goto 4, 3) := by decide +kernel
theorem dX0_fetched_76 : decode cX0_fetched 76 = .ok (.lconst 0, 1) := by decide +kernel
theorem dX0_fetched_77 : decode cX0_fetched 77 = .ok (.ladd, 1) := by decide +kernel
theorem dX0_fetched_78 : decode cX0_fetched 78 = .ok (.lstore_n 3, 1) := by decide +kernel
theorem dX0_fetched_79 : decode cX0_fetched 79 = .ok (.lload_n 3, 1) := by decide +kernel
theorem dX0_fetched_80 : decode cX0_fetched 80 = .ok (.aload_n 0, 1) := by decide +kernel
theorem dX0_fetched_81 : decode cX0_fetched 81 = .ok (.getfield 9, 3) := by decide +kernel
theorem dX0_fetched_84 : decode cX0_fetched 84 = .ok (.iload 6, 2) := by decide +kernel
theorem dX0_fetched_86 : decode cX0_fetched 86 = .ok (.iload_n 2, 1) := by decide +kernel
theorem dX0_fetched_87 : decode cX0_fetched 87 = .ok (.iconst 2, 1) := by decide +kernel
theorem dX0_fetched_88 : decode cX0_fetched 88 = .ok (.invokevirtual 51, 3) := by decide +kernel
theorem dX0_fetched_91 : decode cX0_fetched 91 = .ok (.iload_n 1, 1) := by decide +kernel
theorem dX0_fetched_92 : decode cX0_fetched 92 = .ok (.if_icmp .ne 15, 3) := by decide +kernel
theorem dX0_fetched_95 : decode cX0_fetched 95 = .ok (.aload_n 0, 1) := by decide +kernel
theorem dX0_fetched_96 : decode cX0_fetched 96 = .ok (.getfield 22, 3) := by decide +kernel
theorem dX0_fetched_99 : decode cX0_fetched 99 = .ok (.iload 6, 2) := by decide +kernel
theorem dX0_fetched_101 : decode cX0_fetched 101 = .ok (.invokevirtual 44, 3) := by decide +kernel
theorem dX0_fetched_104 : decode cX0_fetched 104 = .ok (.goto 4, 3) := by decide +kernel
theorem dX0_fetched_107 : decode cX0_fetched 107 = .ok (.lconst 0, 1) := by decide +kernel
theorem dX0_fetched_108 : decode cX0_fetched 108 = .ok (.ladd, 1) := by decide +kernel
theorem dX0_fetched_109 : decode cX0_fetched 109 = .ok (.lstore_n 3, 1) := by decide +kernel
theorem dX0_fetched_110 : decode cX0_fetched 110 = .ok (.iinc 5 1, 3) := by decide +kernel
theorem dX0_fetched_113 : decode cX0_fetched 113 = .ok (.goto (-97), 3) := by decide +kernel
theorem dX0_fetched_116 : decode cX0_fetched 116 = .ok (.lload_n 3, 1) := by decide +kernel
theorem dX0_fetched_117 : decode cX0_fetched 117 = .ok (.lreturn, 1) := by decide +kernel
set_option maxRecDepth 20000 in
theorem ggX0_weigh_X2_at : GoodIn wsX0_weigh wsX2_at := goodIn_r _ [7, 8, 9, 10, 11, 62] (by decide +kernel) (by decide +kernel)
set_option maxRecDepth 20000 in
theorem gX0_weigh_X2_at : GoodIn wsX0_weigh (wsV RX0 44 RX2 yX2_at wsX2_at) := goodIn_app (goodIn_of _ (by decide +kernel)) ggX0_weigh_X2_at
set_option maxRecDepth 20000 in
theorem ggX0_weigh_X3_weight : GoodIn wsX0_weigh wsX3_weight := goodIn_r _ [16, 17, 18, 19, 20, 21, 22, 23, 15, 24, 25, 9, 10, 11, 26, 27, 63, 64, 65] (by decide +kernel) (by decide +kernel)
set_option maxRecDepth 20000 in
theorem gX0_weigh_X3_weight : GoodIn wsX0_weigh (wsV RX0 67 RX3 yX3_weight wsX3_weight) := goodIn_app (goodIn_of _ (by decide +kernel)) ggX0_weigh_X3_weight
set_option maxRecDepth 20000 in
theorem ggX0_weigh_X2_put : GoodIn wsX0_weigh wsX2_put := goodIn_r _ [31, 8, 9, 10, 11, 62] (by decide +kernel) (by decide +kernel)
set_option maxRecDepth 20000 in
theorem gX0_weigh_X2_put : GoodIn wsX0_weigh (wsV RX0 31 RX2 yX2_put wsX2_put) := goodIn_app (goodIn_of _ (by decide +kernel)) ggX0_weigh_X2_put
set_option maxRecDepth 20000 in
theorem ggX0_weigh_X2_greatest : GoodIn wsX0_weigh wsX2_greatest := goodIn_r _ [35, 8, 36, 37, 19, 38, 62] (by decide +kernel) (by decide +kernel)
set_option maxRecDepth 20000 in
theorem gX0_weigh_X2_greatest : GoodIn wsX0_weigh (wsV RX0 70 RX2 yX2_greatest wsX2_greatest) := goodIn_app (goodIn_of _ (by decide +kernel)) ggX0_weigh_X2_greatest
set_option maxRecDepth 20000 in
theorem ggX0_weigh_X0_begin : GoodIn wsX0_weigh wsX0_begin := goodIn_r _ [43, 1, 2, 44, 45, 46, 15, 47, 48, 9, 10, 11, 28, 29, 30, 6, 31, 8, 59, 60, 61, 63, 64, 65, 62] (by decide +kernel) (by decide +kernel)
set_option maxRecDepth 20000 in
theorem gX0_weigh_X0_begin : GoodIn wsX0_weigh (wsV RX0 74 RX0 yX0_begin wsX0_begin) := goodIn_app (goodIn_of _ (by decide +kernel)) ggX0_weigh_X0_begin
set_option maxRecDepth 20000 in
theorem ggX0_weigh_X0_halveGreat : GoodIn wsX0_weigh wsX0_halveGreat := goodIn_r _ [52, 1, 53, 32, 33, 34, 6, 35, 8, 36, 37, 19, 38, 54, 55, 56, 57, 58, 59, 60, 61, 62] (by decide +kernel) (by decide +kernel)
set_option maxRecDepth 20000 in
theorem gX0_weigh_X0_halveGreat : GoodIn wsX0_weigh (wsV RX0 57 RX0 yX0_halveGreat wsX0_halveGreat) := goodIn_app (goodIn_of _ (by decide +kernel)) ggX0_weigh_X0_halveGreat
theorem dX0_weigh_0 : decode cX0_weigh 0 = .ok (.iconst 0, 1) := by decide +kernel
theorem dX0_weigh_1 : decode cX0_weigh 1 = .ok (.istore_n 3, 1) := by decide +kernel
theorem dX0_weigh_2 : decode cX0_weigh 2 = .ok (.iload_n 3, 1) := by decide +kernel
theorem dX0_weigh_3 : decode cX0_weigh 3 = .ok (.bipush 64, 2) := by decide +kernel
theorem dX0_weigh_5 : decode cX0_weigh 5 = .ok (.if_icmp .ge 37, 3) := by decide +kernel
theorem dX0_weigh_8 : decode cX0_weigh 8 = .ok (.aload_n 0, 1) := by decide +kernel
theorem dX0_weigh_9 : decode cX0_weigh 9 = .ok (.getfield 18, 3) := by decide +kernel
theorem dX0_weigh_12 : decode cX0_weigh 12 = .ok (.iload_n 3, 1) := by decide +kernel
theorem dX0_weigh_13 : decode cX0_weigh 13 = .ok (.aload_n 0, 1) := by decide +kernel
theorem dX0_weigh_14 : decode cX0_weigh 14 = .ok (.getfield 18, 3) := by decide +kernel
theorem dX0_weigh_17 : decode cX0_weigh 17 = .ok (.iload_n 3, 1) := by decide +kernel
theorem dX0_weigh_18 : decode cX0_weigh 18 = .ok (.invokevirtual 44, 3) := by decide +kernel
theorem dX0_weigh_21 : decode cX0_weigh 21 = .ok (.aload_n 0, 1) := by decide +kernel
theorem dX0_weigh_22 : decode cX0_weigh 22 = .ok (.getfield 9, 3) := by decide +kernel
theorem dX0_weigh_25 : decode cX0_weigh 25 = .ok (.iload_n 3, 1) := by decide +kernel
theorem dX0_weigh_26 : decode cX0_weigh 26 = .ok (.iload_n 1, 1) := by decide +kernel
theorem dX0_weigh_27 : decode cX0_weigh 27 = .ok (.iload_n 2, 1) := by decide +kernel
theorem dX0_weigh_28 : decode cX0_weigh 28 = .ok (.invokevirtual 67, 3) := by decide +kernel
theorem dX0_weigh_31 : decode cX0_weigh 31 = .ok (.i2l, 1) := by decide +kernel
theorem dX0_weigh_32 : decode cX0_weigh 32 = .ok (.lmul, 1) := by decide +kernel
theorem dX0_weigh_33 : decode cX0_weigh 33 = .ok (.invokevirtual 31, 3) := by decide +kernel
theorem dX0_weigh_36 : decode cX0_weigh 36 = .ok (.iinc 3 1, 3) := by decide +kernel
theorem dX0_weigh_39 : decode cX0_weigh 39 = .ok (.goto (-37), 3) := by decide +kernel
theorem dX0_weigh_42 : decode cX0_weigh 42 = .ok (.aload_n 0, 1) := by decide +kernel
theorem dX0_weigh_43 : decode cX0_weigh 43 = .ok (.getfield 18, 3) := by decide +kernel
theorem dX0_weigh_46 : decode cX0_weigh 46 = .ok (.invokevirtual 70, 3) := by decide +kernel
theorem dX0_weigh_49 : decode cX0_weigh 49 = .ok (.lconst 0, 1) := by decide +kernel
theorem dX0_weigh_50 : decode cX0_weigh 50 = .ok (.lcmp, 1) := by decide +kernel
theorem dX0_weigh_51 : decode cX0_weigh 51 = .ok (.ifCond .ne 7, 3) := by decide +kernel
theorem dX0_weigh_54 : decode cX0_weigh 54 = .ok (.aload_n 0, 1) := by decide +kernel
theorem dX0_weigh_55 : decode cX0_weigh 55 = .ok (.invokevirtual 74, 3) := by decide +kernel
theorem dX0_weigh_58 : decode cX0_weigh 58 = .ok (.aload_n 0, 1) := by decide +kernel
theorem dX0_weigh_59 : decode cX0_weigh 59 = .ok (.invokevirtual 57, 3) := by decide +kernel
theorem dX0_weigh_62 : decode cX0_weigh 62 = .ok (.return_, 1) := by decide +kernel
set_option maxRecDepth 20000 in
theorem ggX0_halveGreat_X2_greatest : GoodIn wsX0_halveGreat wsX2_greatest := goodIn_r _ [7, 8, 9, 10, 11, 12, 21] (by decide +kernel) (by decide +kernel)
set_option maxRecDepth 20000 in
theorem gX0_halveGreat_X2_greatest : GoodIn wsX0_halveGreat (wsV RX0 70 RX2 yX2_greatest wsX2_greatest) := goodIn_app (goodIn_of _ (by decide +kernel)) ggX0_halveGreat_X2_greatest
set_option maxRecDepth 20000 in
theorem ggX0_halveGreat_X2_halve : GoodIn wsX0_halveGreat wsX2_halve := goodIn_r _ [16, 8, 17, 21] (by decide +kernel) (by decide +kernel)
set_option maxRecDepth 20000 in
theorem gX0_halveGreat_X2_halve : GoodIn wsX0_halveGreat (wsV RX0 79 RX2 yX2_halve wsX2_halve) := goodIn_app (goodIn_of _ (by decide +kernel)) ggX0_halveGreat_X2_halve
theorem dX0_halveGreat_0 : decode cX0_halveGreat 0 = .ok (.iconst 0, 1) := by decide +kernel
theorem dX0_halveGreat_1 : decode cX0_halveGreat 1 = .ok (.istore_n 1, 1) := by decide +kernel
theorem dX0_halveGreat_2 : decode cX0_halveGreat 2 = .ok (.iload_n 1, 1) := by decide +kernel
theorem dX0_halveGreat_3 : decode cX0_halveGreat 3 = .ok (.bipush 64, 2) := by decide +kernel
theorem dX0_halveGreat_5 : decode cX0_halveGreat 5 = .ok (.if_icmp .ge 30, 3) := by decide +kernel
theorem dX0_halveGreat_8 : decode cX0_halveGreat 8 = .ok (.aload_n 0, 1) := by decide +kernel
theorem dX0_halveGreat_9 : decode cX0_halveGreat 9 = .ok (.getfield 18, 3) := by decide +kernel
theorem dX0_halveGreat_12 : decode cX0_halveGreat 12 = .ok (.invokevirtual 70, 3) := by decide +kernel
theorem dX0_halveGreat_15 : decode cX0_halveGreat 15 = .ok (.ldc2_w 77, 3) := by decide +kernel
theorem dX0_halveGreat_18 : decode cX0_halveGreat 18 = .ok (.lcmp, 1) := by decide +kernel
theorem dX0_halveGreat_19 : decode cX0_halveGreat 19 = .ok (.ifCond .le 16, 3) := by decide +kernel
theorem dX0_halveGreat_22 : decode cX0_halveGreat 22 = .ok (.aload_n 0, 1) := by decide +kernel
theorem dX0_halveGreat_23 : decode cX0_halveGreat 23 = .ok (.getfield 18, 3) := by decide +kernel
theorem dX0_halveGreat_26 : decode cX0_halveGreat 26 = .ok (.invokevirtual 79, 3) := by decide +kernel
theorem dX0_halveGreat_29 : decode cX0_halveGreat 29 = .ok (.iinc 1 1, 3) := by decide +kernel
theorem dX0_halveGreat_32 : decode cX0_halveGreat 32 = .ok (.goto (-30), 3) := by decide +kernel
theorem dX0_halveGreat_35 : decode cX0_halveGreat 35 = .ok (.return_, 1) := by decide +kernel
theorem dX1_init_0 : decode cX1_init 0 = .ok (.aload_n 0, 1) := by decide +kernel
theorem dX1_init_1 : decode cX1_init 1 = .ok (.invokespecial 1, 3) := by decide +kernel
theorem dX1_init_4 : decode cX1_init 4 = .ok (.aload_n 0, 1) := by decide +kernel
theorem dX1_init_5 : decode cX1_init 5 = .ok (.iconst 1, 1) := by decide +kernel
theorem dX1_init_6 : decode cX1_init 6 = .ok (.putfield 7, 3) := by decide +kernel
theorem dX1_init_9 : decode cX1_init 9 = .ok (.return_, 1) := by decide +kernel
theorem dX1_change_0 : decode cX1_change 0 = .ok (.aload_n 0, 1) := by decide +kernel
theorem dX1_change_1 : decode cX1_change 1 = .ok (.getfield 7, 3) := by decide +kernel
theorem dX1_change_4 : decode cX1_change 4 = .ok (.istore_n 2, 1) := by decide +kernel
theorem dX1_change_5 : decode cX1_change 5 = .ok (.aload_n 0, 1) := by decide +kernel
theorem dX1_change_6 : decode cX1_change 6 = .ok (.iload_n 1, 1) := by decide +kernel
theorem dX1_change_7 : decode cX1_change 7 = .ok (.putfield 7, 3) := by decide +kernel
theorem dX1_change_10 : decode cX1_change 10 = .ok (.iload_n 2, 1) := by decide +kernel
theorem dX1_change_11 : decode cX1_change 11 = .ok (.ireturn, 1) := by decide +kernel
theorem dX1_remainder_0 : decode cX1_remainder 0 = .ok (.aload_n 0, 1) := by decide +kernel
theorem dX1_remainder_1 : decode cX1_remainder 1 = .ok (.bipush 75, 2) := by decide +kernel
theorem dX1_remainder_3 : decode cX1_remainder 3 = .ok (.aload_n 0, 1) := by decide +kernel
theorem dX1_remainder_4 : decode cX1_remainder 4 = .ok (.getfield 7, 3) := by decide +kernel
theorem dX1_remainder_7 : decode cX1_remainder 7 = .ok (.imul, 1) := by decide +kernel
theorem dX1_remainder_8 : decode cX1_remainder 8 = .ok (.bipush 74, 2) := by decide +kernel
theorem dX1_remainder_10 : decode cX1_remainder 10 = .ok (.iadd, 1) := by decide +kernel
theorem dX1_remainder_11 : decode cX1_remainder 11 = .ok (.ldc 13, 2) := by decide +kernel
theorem dX1_remainder_13 : decode cX1_remainder 13 = .ok (.irem, 1) := by decide +kernel
theorem dX1_remainder_14 : decode cX1_remainder 14 = .ok (.putfield 7, 3) := by decide +kernel
theorem dX1_remainder_17 : decode cX1_remainder 17 = .ok (.iload_n 1, 1) := by decide +kernel
theorem dX1_remainder_18 : decode cX1_remainder 18 = .ok (.ifCond .gt 7, 3) := by decide +kernel
theorem dX1_remainder_21 : decode cX1_remainder 21 = .ok (.iconst 0, 1) := by decide +kernel
theorem dX1_remainder_22 : decode cX1_remainder 22 = .ok (.goto 9, 3) := by decide +kernel
theorem dX1_remainder_25 : decode cX1_remainder 25 = .ok (.aload_n 0, 1) := by decide +kernel
theorem dX1_remainder_26 : decode cX1_remainder 26 = .ok (.getfield 7, 3) := by decide +kernel
theorem dX1_remainder_29 : decode cX1_remainder 29 = .ok (.iload_n 1, 1) := by decide +kernel
theorem dX1_remainder_30 : decode cX1_remainder 30 = .ok (.irem, 1) := by decide +kernel
theorem dX1_remainder_31 : decode cX1_remainder 31 = .ok (.ireturn, 1) := by decide +kernel
theorem dX2_init_0 : decode cX2_init 0 = .ok (.aload_n 0, 1) := by decide +kernel
theorem dX2_init_1 : decode cX2_init 1 = .ok (.invokespecial 3, 3) := by decide +kernel
theorem dX2_init_4 : decode cX2_init 4 = .ok (.aload_n 0, 1) := by decide +kernel
theorem dX2_init_5 : decode cX2_init 5 = .ok (.bipush 64, 2) := by decide +kernel
theorem dX2_init_7 : decode cX2_init 7 = .ok (.newarray .long, 2) := by decide +kernel
theorem dX2_init_9 : decode cX2_init 9 = .ok (.putfield 9, 3) := by decide +kernel
theorem dX2_init_12 : decode cX2_init 12 = .ok (.return_, 1) := by decide +kernel
set_option maxRecDepth 20000 in
theorem ggX2_at_X5_isCell : GoodIn wsX2_at wsX5_isCell := goodIn_r _ [4] (by decide +kernel) (by decide +kernel)
set_option maxRecDepth 20000 in
theorem gX2_at_X5_isCell_n15 : GoodIn wsX2_at (wsX5_isCell) := ggX2_at_X5_isCell
theorem dX2_at_0 : decode cX2_at 0 = .ok (.iload_n 1, 1) := by decide +kernel
theorem dX2_at_1 : decode cX2_at 1 = .ok (.invokestatic 15, 3) := by decide +kernel
theorem dX2_at_4 : decode cX2_at 4 = .ok (.ifCond .eq 12, 3) := by decide +kernel
theorem dX2_at_7 : decode cX2_at 7 = .ok (.aload_n 0, 1) := by decide +kernel
theorem dX2_at_8 : decode cX2_at 8 = .ok (.getfield 9, 3) := by decide +kernel
theorem dX2_at_11 : decode cX2_at 11 = .ok (.iload_n 1, 1) := by decide +kernel
theorem dX2_at_12 : decode cX2_at 12 = .ok (.laload, 1) := by decide +kernel
theorem dX2_at_13 : decode cX2_at 13 = .ok (.goto 4, 3) := by decide +kernel
theorem dX2_at_16 : decode cX2_at 16 = .ok (.lconst 0, 1) := by decide +kernel
theorem dX2_at_17 : decode cX2_at 17 = .ok (.lreturn, 1) := by decide +kernel
set_option maxRecDepth 20000 in
theorem ggX2_put_X5_isCell : GoodIn wsX2_put wsX5_isCell := goodIn_r _ [4] (by decide +kernel) (by decide +kernel)
set_option maxRecDepth 20000 in
theorem gX2_put_X5_isCell_n15 : GoodIn wsX2_put (wsX5_isCell) := ggX2_put_X5_isCell
theorem dX2_put_0 : decode cX2_put 0 = .ok (.iload_n 1, 1) := by decide +kernel
theorem dX2_put_1 : decode cX2_put 1 = .ok (.invokestatic 15, 3) := by decide +kernel
theorem dX2_put_4 : decode cX2_put 4 = .ok (.ifCond .eq 10, 3) := by decide +kernel
theorem dX2_put_7 : decode cX2_put 7 = .ok (.aload_n 0, 1) := by decide +kernel
theorem dX2_put_8 : decode cX2_put 8 = .ok (.getfield 9, 3) := by decide +kernel
theorem dX2_put_11 : decode cX2_put 11 = .ok (.iload_n 1, 1) := by decide +kernel
theorem dX2_put_12 : decode cX2_put 12 = .ok (.lload_n 2, 1) := by decide +kernel
theorem dX2_put_13 : decode cX2_put 13 = .ok (.lastore, 1) := by decide +kernel
theorem dX2_put_14 : decode cX2_put 14 = .ok (.return_, 1) := by decide +kernel
set_option maxRecDepth 20000 in
theorem ggX2_add_X5_isCell : GoodIn wsX2_add wsX5_isCell := goodIn_r _ [4] (by decide +kernel) (by decide +kernel)
set_option maxRecDepth 20000 in
theorem gX2_add_X5_isCell_n15 : GoodIn wsX2_add (wsX5_isCell) := ggX2_add_X5_isCell
theorem dX2_add_0 : decode cX2_add 0 = .ok (.iload_n 1, 1) := by decide +kernel
theorem dX2_add_1 : decode cX2_add 1 = .ok (.invokestatic 15, 3) := by decide +kernel
theorem dX2_add_4 : decode cX2_add 4 = .ok (.ifCond .eq 13, 3) := by decide +kernel
theorem dX2_add_7 : decode cX2_add 7 = .ok (.aload_n 0, 1) := by decide +kernel
theorem dX2_add_8 : decode cX2_add 8 = .ok (.getfield 9, 3) := by decide +kernel
theorem dX2_add_11 : decode cX2_add 11 = .ok (.iload_n 1, 1) := by decide +kernel
theorem dX2_add_12 : decode cX2_add 12 = .ok (.dup2, 1) := by decide +kernel
theorem dX2_add_13 : decode cX2_add 13 = .ok (.laload, 1) := by decide +kernel
theorem dX2_add_14 : decode cX2_add 14 = .ok (.lload_n 2, 1) := by decide +kernel
theorem dX2_add_15 : decode cX2_add 15 = .ok (.ladd, 1) := by decide +kernel
theorem dX2_add_16 : decode cX2_add 16 = .ok (.lastore, 1) := by decide +kernel
theorem dX2_add_17 : decode cX2_add 17 = .ok (.return_, 1) := by decide +kernel
theorem dX2_clear_0 : decode cX2_clear 0 = .ok (.iconst 0, 1) := by decide +kernel
theorem dX2_clear_1 : decode cX2_clear 1 = .ok (.istore_n 1, 1) := by decide +kernel
theorem dX2_clear_2 : decode cX2_clear 2 = .ok (.iload_n 1, 1) := by decide +kernel
theorem dX2_clear_3 : decode cX2_clear 3 = .ok (.bipush 64, 2) := by decide +kernel
theorem dX2_clear_5 : decode cX2_clear 5 = .ok (.if_icmp .ge 16, 3) := by decide +kernel
theorem dX2_clear_8 : decode cX2_clear 8 = .ok (.aload_n 0, 1) := by decide +kernel
theorem dX2_clear_9 : decode cX2_clear 9 = .ok (.getfield 9, 3) := by decide +kernel
theorem dX2_clear_12 : decode cX2_clear 12 = .ok (.iload_n 1, 1) := by decide +kernel
theorem dX2_clear_13 : decode cX2_clear 13 = .ok (.lconst 0, 1) := by decide +kernel
theorem dX2_clear_14 : decode cX2_clear 14 = .ok (.lastore, 1) := by decide +kernel
theorem dX2_clear_15 : decode cX2_clear 15 = .ok (.iinc 1 1, 3) := by decide +kernel
theorem dX2_clear_18 : decode cX2_clear 18 = .ok (.goto (-16), 3) := by decide +kernel
theorem dX2_clear_21 : decode cX2_clear 21 = .ok (.return_, 1) := by decide +kernel
theorem dX2_halve_0 : decode cX2_halve 0 = .ok (.iconst 0, 1) := by decide +kernel
theorem dX2_halve_1 : decode cX2_halve 1 = .ok (.istore_n 1, 1) := by decide +kernel
theorem dX2_halve_2 : decode cX2_halve 2 = .ok (.iload_n 1, 1) := by decide +kernel
theorem dX2_halve_3 : decode cX2_halve 3 = .ok (.bipush 64, 2) := by decide +kernel
theorem dX2_halve_5 : decode cX2_halve 5 = .ok (.if_icmp .ge 21, 3) := by decide +kernel
theorem dX2_halve_8 : decode cX2_halve 8 = .ok (.aload_n 0, 1) := by decide +kernel
theorem dX2_halve_9 : decode cX2_halve 9 = .ok (.getfield 9, 3) := by decide +kernel
theorem dX2_halve_12 : decode cX2_halve 12 = .ok (.iload_n 1, 1) := by decide +kernel
theorem dX2_halve_13 : decode cX2_halve 13 = .ok (.dup2, 1) := by decide +kernel
theorem dX2_halve_14 : decode cX2_halve 14 = .ok (.laload, 1) := by decide +kernel
theorem dX2_halve_15 : decode cX2_halve 15 = .ok (.ldc2_w 19, 3) := by decide +kernel
theorem dX2_halve_18 : decode cX2_halve 18 = .ok (.ldiv, 1) := by decide +kernel
theorem dX2_halve_19 : decode cX2_halve 19 = .ok (.lastore, 1) := by decide +kernel
theorem dX2_halve_20 : decode cX2_halve 20 = .ok (.iinc 1 1, 3) := by decide +kernel
theorem dX2_halve_23 : decode cX2_halve 23 = .ok (.goto (-21), 3) := by decide +kernel
theorem dX2_halve_26 : decode cX2_halve 26 = .ok (.return_, 1) := by decide +kernel
theorem dX2_copy_0 : decode cX2_copy 0 = .ok (.aload_n 1, 1) := by decide +kernel
theorem dX2_copy_1 : decode cX2_copy 1 = .ok (.getfield 9, 3) := by decide +kernel
theorem dX2_copy_4 : decode cX2_copy 4 = .ok (.iconst 0, 1) := by decide +kernel
theorem dX2_copy_5 : decode cX2_copy 5 = .ok (.aload_n 0, 1) := by decide +kernel
theorem dX2_copy_6 : decode cX2_copy 6 = .ok (.getfield 9, 3) := by decide +kernel
theorem dX2_copy_9 : decode cX2_copy 9 = .ok (.iconst 0, 1) := by decide +kernel
theorem dX2_copy_10 : decode cX2_copy 10 = .ok (.bipush 64, 2) := by decide +kernel
theorem dX2_copy_12 : decode cX2_copy 12 = .ok (.invokestatic 21, 3) := by decide +kernel
theorem dX2_copy_15 : decode cX2_copy 15 = .ok (.return_, 1) := by decide +kernel
theorem dX2_greatest_0 : decode cX2_greatest 0 = .ok (.lconst 0, 1) := by decide +kernel
theorem dX2_greatest_1 : decode cX2_greatest 1 = .ok (.lstore_n 1, 1) := by decide +kernel
theorem dX2_greatest_2 : decode cX2_greatest 2 = .ok (.iconst 0, 1) := by decide +kernel
theorem dX2_greatest_3 : decode cX2_greatest 3 = .ok (.istore_n 3, 1) := by decide +kernel
theorem dX2_greatest_4 : decode cX2_greatest 4 = .ok (.iload_n 3, 1) := by decide +kernel
theorem dX2_greatest_5 : decode cX2_greatest 5 = .ok (.bipush 64, 2) := by decide +kernel
theorem dX2_greatest_7 : decode cX2_greatest 7 = .ok (.if_icmp .ge 20, 3) := by decide +kernel
theorem dX2_greatest_10 : decode cX2_greatest 10 = .ok (.lload_n 1, 1) := by decide +kernel
theorem dX2_greatest_11 : decode cX2_greatest 11 = .ok (.aload_n 0, 1) := by decide +kernel
theorem dX2_greatest_12 : decode cX2_greatest 12 = .ok (.getfield 9, 3) := by decide +kernel
theorem dX2_greatest_15 : decode cX2_greatest 15 = .ok (.iload_n 3, 1) := by decide +kernel
theorem dX2_greatest_16 : decode cX2_greatest 16 = .ok (.laload, 1) := by decide +kernel
theorem dX2_greatest_17 : decode cX2_greatest 17 = .ok (.invokestatic 27, 3) := by decide +kernel
theorem dX2_greatest_20 : decode cX2_greatest 20 = .ok (.lstore_n 1, 1) := by decide +kernel
theorem dX2_greatest_21 : decode cX2_greatest 21 = .ok (.iinc 3 1, 3) := by decide +kernel
theorem dX2_greatest_24 : decode cX2_greatest 24 = .ok (.goto (-20), 3) := by decide +kernel
theorem dX2_greatest_27 : decode cX2_greatest 27 = .ok (.lload_n 1, 1) := by decide +kernel
theorem dX2_greatest_28 : decode cX2_greatest 28 = .ok (.lreturn, 1) := by decide +kernel
set_option maxRecDepth 20000 in
theorem ggX2_greatestCell_X2_greatest : GoodIn wsX2_greatestCell wsX2_greatest := goodIn_r _ [6, 1, 7, 8, 9, 10, 11] (by decide +kernel) (by decide +kernel)
set_option maxRecDepth 20000 in
theorem gX2_greatestCell_X2_greatest : GoodIn wsX2_greatestCell (wsV RX2 33 RX2 yX2_greatest wsX2_greatest) := goodIn_app (goodIn_of _ (by decide +kernel)) ggX2_greatestCell_X2_greatest
theorem dX2_greatestCell_0 : decode cX2_greatestCell 0 = .ok (.aload_n 0, 1) := by decide +kernel
theorem dX2_greatestCell_1 : decode cX2_greatestCell 1 = .ok (.invokevirtual 33, 3) := by decide +kernel
theorem dX2_greatestCell_4 : decode cX2_greatestCell 4 = .ok (.lstore_n 1, 1) := by decide +kernel
theorem dX2_greatestCell_5 : decode cX2_greatestCell 5 = .ok (.iconst 0, 1) := by decide +kernel
theorem dX2_greatestCell_6 : decode cX2_greatestCell 6 = .ok (.istore_n 3, 1) := by decide +kernel
theorem dX2_greatestCell_7 : decode cX2_greatestCell 7 = .ok (.iload_n 3, 1) := by decide +kernel
theorem dX2_greatestCell_8 : decode cX2_greatestCell 8 = .ok (.bipush 64, 2) := by decide +kernel
theorem dX2_greatestCell_10 : decode cX2_greatestCell 10 = .ok (.if_icmp .ge 22, 3) := by decide +kernel
theorem dX2_greatestCell_13 : decode cX2_greatestCell 13 = .ok (.aload_n 0, 1) := by decide +kernel
theorem dX2_greatestCell_14 : decode cX2_greatestCell 14 = .ok (.getfield 9, 3) := by decide +kernel
theorem dX2_greatestCell_17 : decode cX2_greatestCell 17 = .ok (.iload_n 3, 1) := by decide +kernel
theorem dX2_greatestCell_18 : decode cX2_greatestCell 18 = .ok (.laload, 1) := by decide +kernel
theorem dX2_greatestCell_19 : decode cX2_greatestCell 19 = .ok (.lload_n 1, 1) := by decide +kernel
theorem dX2_greatestCell_20 : decode cX2_greatestCell 20 = .ok (.lcmp, 1) := by decide +kernel
theorem dX2_greatestCell_21 : decode cX2_greatestCell 21 = .ok (.ifCond .ne 5, 3) := by decide +kernel
theorem dX2_greatestCell_24 : decode cX2_greatestCell 24 = .ok (.iload_n 3, 1) := by decide +kernel
theorem dX2_greatestCell_25 : decode cX2_greatestCell 25 = .ok (.ireturn, 1) := by decide +kernel
theorem dX2_greatestCell_26 : decode cX2_greatestCell 26 = .ok (.iinc 3 1, 3) := by decide +kernel
theorem dX2_greatestCell_29 : decode cX2_greatestCell 29 = .ok (.goto (-22), 3) := by decide +kernel
theorem dX2_greatestCell_32 : decode cX2_greatestCell 32 = .ok (.iconst (-1), 1) := by decide +kernel
theorem dX2_greatestCell_33 : decode cX2_greatestCell 33 = .ok (.ireturn, 1) := by decide +kernel
set_option maxRecDepth 20000 in
theorem ggX2_sum_X2_sumOf : GoodIn wsX2_sum wsX2_sumOf := goodIn_r _ [5, 6, 7] (by decide +kernel) (by decide +kernel)
set_option maxRecDepth 20000 in
theorem gX2_sum_X2_sumOf : GoodIn wsX2_sum (wsV RX2 37 RX2 yX2_sumOf wsX2_sumOf) := goodIn_app (goodIn_of _ (by decide +kernel)) ggX2_sum_X2_sumOf
theorem dX2_sum_0 : decode cX2_sum 0 = .ok (.aload_n 0, 1) := by decide +kernel
theorem dX2_sum_1 : decode cX2_sum 1 = .ok (.iconst 0, 1) := by decide +kernel
theorem dX2_sum_2 : decode cX2_sum 2 = .ok (.iconst 0, 1) := by decide +kernel
theorem dX2_sum_3 : decode cX2_sum 3 = .ok (.bipush 7, 2) := by decide +kernel
theorem dX2_sum_5 : decode cX2_sum 5 = .ok (.bipush 7, 2) := by decide +kernel
theorem dX2_sum_7 : decode cX2_sum 7 = .ok (.invokevirtual 37, 3) := by decide +kernel
theorem dX2_sum_10 : decode cX2_sum 10 = .ok (.lreturn, 1) := by decide +kernel
theorem dX2_sumOf_0 : decode cX2_sumOf 0 = .ok (.lconst 0, 1) := by decide +kernel
theorem dX2_sumOf_1 : decode cX2_sumOf 1 = .ok (.lstore 5, 2) := by decide +kernel
theorem dX2_sumOf_3 : decode cX2_sumOf 3 = .ok (.iconst 0, 1) := by decide +kernel
theorem dX2_sumOf_4 : decode cX2_sumOf 4 = .ok (.istore 7, 2) := by decide +kernel
theorem dX2_sumOf_6 : decode cX2_sumOf 6 = .ok (.iload 7, 2) := by decide +kernel
theorem dX2_sumOf_8 : decode cX2_sumOf 8 = .ok (.bipush 64, 2) := by decide +kernel
theorem dX2_sumOf_10 : decode cX2_sumOf 10 = .ok (.if_icmp .ge 60, 3) := by decide +kernel
theorem dX2_sumOf_13 : decode cX2_sumOf 13 = .ok (.iload 7, 2) := by decide +kernel
theorem dX2_sumOf_15 : decode cX2_sumOf 15 = .ok (.bipush 8, 2) := by decide +kernel
theorem dX2_sumOf_17 : decode cX2_sumOf 17 = .ok (.irem, 1) := by decide +kernel
theorem dX2_sumOf_18 : decode cX2_sumOf 18 = .ok (.istore 8, 2) := by decide +kernel
theorem dX2_sumOf_20 : decode cX2_sumOf 20 = .ok (.iload 7, 2) := by decide +kernel
theorem dX2_sumOf_22 : decode cX2_sumOf 22 = .ok (.bipush 8, 2) := by decide +kernel
theorem dX2_sumOf_24 : decode cX2_sumOf 24 = .ok (.idiv, 1) := by decide +kernel
theorem dX2_sumOf_25 : decode cX2_sumOf 25 = .ok (.istore 9, 2) := by decide +kernel
theorem dX2_sumOf_27 : decode cX2_sumOf 27 = .ok (.iload 8, 2) := by decide +kernel
theorem dX2_sumOf_29 : decode cX2_sumOf 29 = .ok (.iload_n 1, 1) := by decide +kernel
theorem dX2_sumOf_30 : decode cX2_sumOf 30 = .ok (.if_icmp .lt 34, 3) := by decide +kernel
theorem dX2_sumOf_33 : decode cX2_sumOf 33 = .ok (.iload 8, 2) := by decide +kernel
theorem dX2_sumOf_35 : decode cX2_sumOf 35 = .ok (.iload_n 3, 1) := by decide +kernel
theorem dX2_sumOf_36 : decode cX2_sumOf 36 = .ok (.if_icmp .gt 28, 3) := by decide +kernel
theorem dX2_sumOf_39 : decode cX2_sumOf 39 = .ok (.iload 9, 2) := by decide +kernel
theorem dX2_sumOf_41 : decode cX2_sumOf 41 = .ok (.iload_n 2, 1) := by decide +kernel
theorem dX2_sumOf_42 : decode cX2_sumOf 42 = .ok (.if_icmp .lt 22, 3) := by decide +kernel
theorem dX2_sumOf_45 : decode cX2_sumOf 45 = .ok (.iload 9, 2) := by decide +kernel
theorem dX2_sumOf_47 : decode cX2_sumOf 47 = .ok (.iload 4, 2) := by decide +kernel
theorem dX2_sumOf_49 : decode cX2_sumOf 49 = .ok (.if_icmp .gt 15, 3) := by decide +kernel
theorem dX2_sumOf_52 : decode cX2_sumOf 52 = .ok (.lload 5, 2) := by decide +kernel
theorem dX2_sumOf_54 : decode cX2_sumOf 54 = .ok (.aload_n 0, 1) := by decide +kernel
theorem dX2_sumOf_55 : decode cX2_sumOf 55 = .ok (.getfield 9, 3) := by decide +kernel
theorem dX2_sumOf_58 : decode cX2_sumOf 58 = .ok (.iload 7, 2) := by decide +kernel
theorem dX2_sumOf_60 : decode cX2_sumOf 60 = .ok (.laload, 1) := by decide +kernel
theorem dX2_sumOf_61 : decode cX2_sumOf 61 = .ok (.ladd, 1) := by decide +kernel
theorem dX2_sumOf_62 : decode cX2_sumOf 62 = .ok (.lstore 5, 2) := by decide +kernel
theorem dX2_sumOf_64 : decode cX2_sumOf 64 = .ok (.iinc 7 1, 3) := by decide +kernel
theorem dX2_sumOf_67 : decode cX2_sumOf 67 = .ok (.goto (-61), 3) := by decide +kernel
theorem dX2_sumOf_70 : decode cX2_sumOf 70 = .ok (.lload 5, 2) := by decide +kernel
theorem dX2_sumOf_72 : decode cX2_sumOf 72 = .ok (.lreturn, 1) := by decide +kernel
theorem dX2_coordinateSum_0 : decode cX2_coordinateSum 0 = .ok (.lconst 0, 1) := by decide +kernel
theorem dX2_coordinateSum_1 : decode cX2_coordinateSum 1 = .ok (.lstore_n 2, 1) := by decide +kernel
theorem dX2_coordinateSum_2 : decode cX2_coordinateSum 2 = .ok (.iconst 0, 1) := by decide +kernel
theorem dX2_coordinateSum_3 : decode cX2_coordinateSum 3 = .ok (.istore 4, 2) := by decide +kernel
theorem dX2_coordinateSum_5 : decode cX2_coordinateSum 5 = .ok (.iload 4, 2) := by decide +kernel
theorem dX2_coordinateSum_7 : decode cX2_coordinateSum 7 = .ok (.bipush 64, 2) := by decide +kernel
theorem dX2_coordinateSum_9 : decode cX2_coordinateSum 9 = .ok (.if_icmp .ge 38, 3) := by decide +kernel
theorem dX2_coordinateSum_12 : decode cX2_coordinateSum 12 = .ok (.lload_n 2, 1) := by decide +kernel
theorem dX2_coordinateSum_13 : decode cX2_coordinateSum 13 = .ok (.aload_n 0, 1) := by decide +kernel
theorem dX2_coordinateSum_14 : decode cX2_coordinateSum 14 = .ok (.getfield 9, 3) := by decide +kernel
theorem dX2_coordinateSum_17 : decode cX2_coordinateSum 17 = .ok (.iload 4, 2) := by decide +kernel
theorem dX2_coordinateSum_19 : decode cX2_coordinateSum 19 = .ok (.laload, 1) := by decide +kernel
theorem dX2_coordinateSum_20 : decode cX2_coordinateSum 20 = .ok (.iload_n 1, 1) := by decide +kernel
theorem dX2_coordinateSum_21 : decode cX2_coordinateSum 21 = .ok (.ifCond .eq 11, 3) := by decide +kernel
theorem dX2_coordinateSum_24 : decode cX2_coordinateSum 24 = .ok (.iload 4, 2) := by decide +kernel
theorem dX2_coordinateSum_26 : decode cX2_coordinateSum 26 = .ok (.bipush 8, 2) := by decide +kernel
theorem dX2_coordinateSum_28 : decode cX2_coordinateSum 28 = .ok (.idiv, 1) := by decide +kernel
theorem dX2_coordinateSum_29 : decode cX2_coordinateSum 29 = .ok (.goto 8, 3) := by decide +kernel
theorem dX2_coordinateSum_32 : decode cX2_coordinateSum 32 = .ok (.iload 4, 2) := by decide +kernel
theorem dX2_coordinateSum_34 : decode cX2_coordinateSum 34 = .ok (.bipush 8, 2) := by decide +kernel
theorem dX2_coordinateSum_36 : decode cX2_coordinateSum 36 = .ok (.irem, 1) := by decide +kernel
theorem dX2_coordinateSum_37 : decode cX2_coordinateSum 37 = .ok (.i2l, 1) := by decide +kernel
theorem dX2_coordinateSum_38 : decode cX2_coordinateSum 38 = .ok (.lmul, 1) := by decide +kernel
theorem dX2_coordinateSum_39 : decode cX2_coordinateSum 39 = .ok (.ladd, 1) := by decide +kernel
theorem dX2_coordinateSum_40 : decode cX2_coordinateSum 40 = .ok (.lstore_n 2, 1) := by decide +kernel
theorem dX2_coordinateSum_41 : decode cX2_coordinateSum 41 = .ok (.iinc 4 1, 3) := by decide +kernel
theorem dX2_coordinateSum_44 : decode cX2_coordinateSum 44 = .ok (.goto (-39), 3) := by decide +kernel
theorem dX2_coordinateSum_47 : decode cX2_coordinateSum 47 = .ok (.lload_n 2, 1) := by decide +kernel
theorem dX2_coordinateSum_48 : decode cX2_coordinateSum 48 = .ok (.lreturn, 1) := by decide +kernel
set_option maxRecDepth 20000 in
theorem ggX2_cellAtPlace_X2_placeOf : GoodIn wsX2_cellAtPlace wsX2_placeOf := goodIn_r _ [6, 1, 7, 8, 9, 5, 10, 11, 12, 13, 14] (by decide +kernel) (by decide +kernel)
set_option maxRecDepth 20000 in
theorem gX2_cellAtPlace_X2_placeOf : GoodIn wsX2_cellAtPlace (wsV RX2 41 RX2 yX2_placeOf wsX2_placeOf) := goodIn_app (goodIn_of _ (by decide +kernel)) ggX2_cellAtPlace_X2_placeOf
theorem dX2_cellAtPlace_0 : decode cX2_cellAtPlace 0 = .ok (.iconst 0, 1) := by decide +kernel
theorem dX2_cellAtPlace_1 : decode cX2_cellAtPlace 1 = .ok (.istore_n 2, 1) := by decide +kernel
theorem dX2_cellAtPlace_2 : decode cX2_cellAtPlace 2 = .ok (.iload_n 2, 1) := by decide +kernel
theorem dX2_cellAtPlace_3 : decode cX2_cellAtPlace 3 = .ok (.bipush 64, 2) := by decide +kernel
theorem dX2_cellAtPlace_5 : decode cX2_cellAtPlace 5 = .ok (.if_icmp .ge 31, 3) := by decide +kernel
theorem dX2_cellAtPlace_8 : decode cX2_cellAtPlace 8 = .ok (.aload_n 0, 1) := by decide +kernel
theorem dX2_cellAtPlace_9 : decode cX2_cellAtPlace 9 = .ok (.getfield 9, 3) := by decide +kernel
theorem dX2_cellAtPlace_12 : decode cX2_cellAtPlace 12 = .ok (.iload_n 2, 1) := by decide +kernel
theorem dX2_cellAtPlace_13 : decode cX2_cellAtPlace 13 = .ok (.laload, 1) := by decide +kernel
theorem dX2_cellAtPlace_14 : decode cX2_cellAtPlace 14 = .ok (.lconst 0, 1) := by decide +kernel
theorem dX2_cellAtPlace_15 : decode cX2_cellAtPlace 15 = .ok (.lcmp, 1) := by decide +kernel
theorem dX2_cellAtPlace_16 : decode cX2_cellAtPlace 16 = .ok (.ifCond .le 14, 3) := by decide +kernel
theorem dX2_cellAtPlace_19 : decode cX2_cellAtPlace 19 = .ok (.aload_n 0, 1) := by decide +kernel
theorem dX2_cellAtPlace_20 : decode cX2_cellAtPlace 20 = .ok (.iload_n 2, 1) := by decide +kernel
theorem dX2_cellAtPlace_21 : decode cX2_cellAtPlace 21 = .ok (.invokevirtual 41, 3) := by decide +kernel
theorem dX2_cellAtPlace_24 : decode cX2_cellAtPlace 24 = .ok (.iload_n 1, 1) := by decide +kernel
theorem dX2_cellAtPlace_25 : decode cX2_cellAtPlace 25 = .ok (.if_icmp .ne 5, 3) := by decide +kernel
theorem dX2_cellAtPlace_28 : decode cX2_cellAtPlace 28 = .ok (.iload_n 2, 1) := by decide +kernel
theorem dX2_cellAtPlace_29 : decode cX2_cellAtPlace 29 = .ok (.ireturn, 1) := by decide +kernel
theorem dX2_cellAtPlace_30 : decode cX2_cellAtPlace 30 = .ok (.iinc 2 1, 3) := by decide +kernel
theorem dX2_cellAtPlace_33 : decode cX2_cellAtPlace 33 = .ok (.goto (-31), 3) := by decide +kernel
theorem dX2_cellAtPlace_36 : decode cX2_cellAtPlace 36 = .ok (.iconst (-1), 1) := by decide +kernel
theorem dX2_cellAtPlace_37 : decode cX2_cellAtPlace 37 = .ok (.ireturn, 1) := by decide +kernel
set_option maxRecDepth 20000 in
theorem ggX2_placeOf_X2_at : GoodIn wsX2_placeOf wsX2_at := goodIn_r _ [6, 1, 7, 8, 9, 10] (by decide +kernel) (by decide +kernel)
set_option maxRecDepth 20000 in
theorem gX2_placeOf_X2_at : GoodIn wsX2_placeOf (wsV RX2 45 RX2 yX2_at wsX2_at) := goodIn_app (goodIn_of _ (by decide +kernel)) ggX2_placeOf_X2_at
theorem dX2_placeOf_0 : decode cX2_placeOf 0 = .ok (.iconst 0, 1) := by decide +kernel
theorem dX2_placeOf_1 : decode cX2_placeOf 1 = .ok (.istore_n 2, 1) := by decide +kernel
theorem dX2_placeOf_2 : decode cX2_placeOf 2 = .ok (.iconst 0, 1) := by decide +kernel
theorem dX2_placeOf_3 : decode cX2_placeOf 3 = .ok (.istore_n 3, 1) := by decide +kernel
theorem dX2_placeOf_4 : decode cX2_placeOf 4 = .ok (.iload_n 3, 1) := by decide +kernel
theorem dX2_placeOf_5 : decode cX2_placeOf 5 = .ok (.bipush 64, 2) := by decide +kernel
theorem dX2_placeOf_7 : decode cX2_placeOf 7 = .ok (.if_icmp .ge 59, 3) := by decide +kernel
theorem dX2_placeOf_10 : decode cX2_placeOf 10 = .ok (.aload_n 0, 1) := by decide +kernel
theorem dX2_placeOf_11 : decode cX2_placeOf 11 = .ok (.getfield 9, 3) := by decide +kernel
theorem dX2_placeOf_14 : decode cX2_placeOf 14 = .ok (.iload_n 3, 1) := by decide +kernel
theorem dX2_placeOf_15 : decode cX2_placeOf 15 = .ok (.laload, 1) := by decide +kernel
theorem dX2_placeOf_16 : decode cX2_placeOf 16 = .ok (.aload_n 0, 1) := by decide +kernel
theorem dX2_placeOf_17 : decode cX2_placeOf 17 = .ok (.iload_n 1, 1) := by decide +kernel
theorem dX2_placeOf_18 : decode cX2_placeOf 18 = .ok (.invokevirtual 45, 3) := by decide +kernel
theorem dX2_placeOf_21 : decode cX2_placeOf 21 = .ok (.lcmp, 1) := by decide +kernel
theorem dX2_placeOf_22 : decode cX2_placeOf 22 = .ok (.ifCond .ne 12, 3) := by decide +kernel
theorem dX2_placeOf_25 : decode cX2_placeOf 25 = .ok (.iload_n 3, 1) := by decide +kernel
theorem dX2_placeOf_26 : decode cX2_placeOf 26 = .ok (.iload_n 1, 1) := by decide +kernel
theorem dX2_placeOf_27 : decode cX2_placeOf 27 = .ok (.if_icmp .ge 7, 3) := by decide +kernel
theorem dX2_placeOf_30 : decode cX2_placeOf 30 = .ok (.iconst 1, 1) := by decide +kernel
theorem dX2_placeOf_31 : decode cX2_placeOf 31 = .ok (.goto 4, 3) := by decide +kernel
theorem dX2_placeOf_34 : decode cX2_placeOf 34 = .ok (.iconst 0, 1) := by decide +kernel
theorem dX2_placeOf_35 : decode cX2_placeOf 35 = .ok (.istore 4, 2) := by decide +kernel
theorem dX2_placeOf_37 : decode cX2_placeOf 37 = .ok (.aload_n 0, 1) := by decide +kernel
theorem dX2_placeOf_38 : decode cX2_placeOf 38 = .ok (.getfield 9, 3) := by decide +kernel
theorem dX2_placeOf_41 : decode cX2_placeOf 41 = .ok (.iload_n 3, 1) := by decide +kernel
theorem dX2_placeOf_42 : decode cX2_placeOf 42 = .ok (.laload, 1) := by decide +kernel
theorem dX2_placeOf_43 : decode cX2_placeOf 43 = .ok (.aload_n 0, 1) := by decide +kernel
theorem dX2_placeOf_44 : decode cX2_placeOf 44 = .ok (.iload_n 1, 1) := by decide +kernel
theorem dX2_placeOf_45 : decode cX2_placeOf 45 = .ok (.invokevirtual 45, 3) := by decide +kernel
theorem dX2_placeOf_48 : decode cX2_placeOf 48 = .ok (.lcmp, 1) := by decide +kernel
theorem dX2_placeOf_49 : decode cX2_placeOf 49 = .ok (.ifCond .gt 8, 3) := by decide +kernel
theorem dX2_placeOf_52 : decode cX2_placeOf 52 = .ok (.iload 4, 2) := by decide +kernel
theorem dX2_placeOf_54 : decode cX2_placeOf 54 = .ok (.ifCond .eq 6, 3) := by decide +kernel
theorem dX2_placeOf_57 : decode cX2_placeOf 57 = .ok (.iinc 2 1, 3) := by decide +kernel
theorem dX2_placeOf_60 : decode cX2_placeOf 60 = .ok (.iinc 3 1, 3) := by decide +kernel
theorem dX2_placeOf_63 : decode cX2_placeOf 63 = .ok (.goto (-59), 3) := by decide +kernel
theorem dX2_placeOf_66 : decode cX2_placeOf 66 = .ok (.iload_n 2, 1) := by decide +kernel
theorem dX2_placeOf_67 : decode cX2_placeOf 67 = .ok (.ireturn, 1) := by decide +kernel
set_option maxRecDepth 20000 in
theorem ggX3_init_X3_measure : GoodIn wsX3_init wsX3_measure := goodIn_r _ [12, 13, 5, 7, 14, 15, 16, 11, 17, 18, 19, 20, 21, 22, 23, 24, 25, 26, 27, 28, 29, 30, 31, 32, 33, 34, 35, 36, 37, 38] (by decide +kernel) (by decide +kernel)
set_option maxRecDepth 20000 in
theorem gX3_init_X3_measure : GoodIn wsX3_init (wsV RX3 19 RX3 yX3_measure wsX3_measure) := goodIn_app (goodIn_of _ (by decide +kernel)) ggX3_init_X3_measure
theorem dX3_init_0 : decode cX3_init 0 = .ok (.aload_n 0, 1) := by decide +kernel
theorem dX3_init_1 : decode cX3_init 1 = .ok (.invokespecial 3, 3) := by decide +kernel
theorem dX3_init_4 : decode cX3_init 4 = .ok (.aload_n 0, 1) := by decide +kernel
theorem dX3_init_5 : decode cX3_init 5 = .ok (.bipush 64, 2) := by decide +kernel
theorem dX3_init_7 : decode cX3_init 7 = .ok (.newarray .boolean, 2) := by decide +kernel
theorem dX3_init_9 : decode cX3_init 9 = .ok (.putfield 9, 3) := by decide +kernel
theorem dX3_init_12 : decode cX3_init 12 = .ok (.aload_n 0, 1) := by decide +kernel
theorem dX3_init_13 : decode cX3_init 13 = .ok (.sipush 256, 3) := by decide +kernel
theorem dX3_init_16 : decode cX3_init 16 = .ok (.newarray .int, 2) := by decide +kernel
theorem dX3_init_18 : decode cX3_init 18 = .ok (.putfield 15, 3) := by decide +kernel
theorem dX3_init_21 : decode cX3_init 21 = .ok (.aload_n 0, 1) := by decide +kernel
theorem dX3_init_22 : decode cX3_init 22 = .ok (.invokevirtual 19, 3) := by decide +kernel
theorem dX3_init_25 : decode cX3_init 25 = .ok (.return_, 1) := by decide +kernel
set_option maxRecDepth 20000 in
theorem ggX3_isFree_X5_isCell : GoodIn wsX3_isFree wsX5_isCell := goodIn_r _ [4] (by decide +kernel) (by decide +kernel)
set_option maxRecDepth 20000 in
theorem gX3_isFree_X5_isCell_n22 : GoodIn wsX3_isFree (wsX5_isCell) := ggX3_isFree_X5_isCell
theorem dX3_isFree_0 : decode cX3_isFree 0 = .ok (.iload_n 1, 1) := by decide +kernel
theorem dX3_isFree_1 : decode cX3_isFree 1 = .ok (.invokestatic 22, 3) := by decide +kernel
theorem dX3_isFree_4 : decode cX3_isFree 4 = .ok (.ifCond .eq 16, 3) := by decide +kernel
theorem dX3_isFree_7 : decode cX3_isFree 7 = .ok (.aload_n 0, 1) := by decide +kernel
theorem dX3_isFree_8 : decode cX3_isFree 8 = .ok (.getfield 9, 3) := by decide +kernel
theorem dX3_isFree_11 : decode cX3_isFree 11 = .ok (.iload_n 1, 1) := by decide +kernel
theorem dX3_isFree_12 : decode cX3_isFree 12 = .ok (.baload, 1) := by decide +kernel
theorem dX3_isFree_13 : decode cX3_isFree 13 = .ok (.ifCond .ne 7, 3) := by decide +kernel
theorem dX3_isFree_16 : decode cX3_isFree 16 = .ok (.iconst 1, 1) := by decide +kernel
theorem dX3_isFree_17 : decode cX3_isFree 17 = .ok (.goto 4, 3) := by decide +kernel
theorem dX3_isFree_20 : decode cX3_isFree 20 = .ok (.iconst 0, 1) := by decide +kernel
theorem dX3_isFree_21 : decode cX3_isFree 21 = .ok (.ireturn, 1) := by decide +kernel
theorem dX3_freeCells_0 : decode cX3_freeCells 0 = .ok (.aload_n 0, 1) := by decide +kernel
theorem dX3_freeCells_1 : decode cX3_freeCells 1 = .ok (.getfield 26, 3) := by decide +kernel
theorem dX3_freeCells_4 : decode cX3_freeCells 4 = .ok (.ireturn, 1) := by decide +kernel
set_option maxRecDepth 20000 in
theorem ggX3_build_X5_isCell : GoodIn wsX3_build wsX5_isCell := goodIn_r _ [4] (by decide +kernel) (by decide +kernel)
set_option maxRecDepth 20000 in
theorem gX3_build_X5_isCell_n22 : GoodIn wsX3_build (wsX5_isCell) := ggX3_build_X5_isCell
set_option maxRecDepth 20000 in
theorem ggX3_build_X3_measure : GoodIn wsX3_build wsX3_measure := goodIn_r _ [9, 10, 1, 11, 12, 13, 14, 8, 15, 16, 17, 18, 19, 20, 2, 3, 4, 21, 22, 23, 24, 25, 26, 27, 28, 29, 30, 31, 32, 33] (by decide +kernel) (by decide +kernel)
set_option maxRecDepth 20000 in
theorem gX3_build_X3_measure : GoodIn wsX3_build (wsV RX3 19 RX3 yX3_measure wsX3_measure) := goodIn_app (goodIn_of _ (by decide +kernel)) ggX3_build_X3_measure
theorem dX3_build_0 : decode cX3_build 0 = .ok (.iload_n 1, 1) := by decide +kernel
theorem dX3_build_1 : decode cX3_build 1 = .ok (.invokestatic 22, 3) := by decide +kernel
theorem dX3_build_4 : decode cX3_build 4 = .ok (.ifCond .eq 14, 3) := by decide +kernel
theorem dX3_build_7 : decode cX3_build 7 = .ok (.aload_n 0, 1) := by decide +kernel
theorem dX3_build_8 : decode cX3_build 8 = .ok (.getfield 9, 3) := by decide +kernel
theorem dX3_build_11 : decode cX3_build 11 = .ok (.iload_n 1, 1) := by decide +kernel
theorem dX3_build_12 : decode cX3_build 12 = .ok (.iload_n 2, 1) := by decide +kernel
theorem dX3_build_13 : decode cX3_build 13 = .ok (.bastore, 1) := by decide +kernel
theorem dX3_build_14 : decode cX3_build 14 = .ok (.aload_n 0, 1) := by decide +kernel
theorem dX3_build_15 : decode cX3_build 15 = .ok (.invokevirtual 19, 3) := by decide +kernel
theorem dX3_build_18 : decode cX3_build 18 = .ok (.return_, 1) := by decide +kernel
set_option maxRecDepth 20000 in
theorem ggX3_drawnCell_X1_remainder : GoodIn wsX3_drawnCell wsX1_remainder := goodIn_r _ [7, 8, 9, 13] (by decide +kernel) (by decide +kernel)
set_option maxRecDepth 20000 in
theorem gX3_drawnCell_X1_remainder : GoodIn wsX3_drawnCell (wsV RX3 30 RX1 yX1_remainder wsX1_remainder) := goodIn_app (goodIn_of _ (by decide +kernel)) ggX3_drawnCell_X1_remainder
theorem dX3_drawnCell_0 : decode cX3_drawnCell 0 = .ok (.aload_n 1, 1) := by decide +kernel
theorem dX3_drawnCell_1 : decode cX3_drawnCell 1 = .ok (.aload_n 0, 1) := by decide +kernel
theorem dX3_drawnCell_2 : decode cX3_drawnCell 2 = .ok (.getfield 26, 3) := by decide +kernel
theorem dX3_drawnCell_5 : decode cX3_drawnCell 5 = .ok (.invokevirtual 30, 3) := by decide +kernel
theorem dX3_drawnCell_8 : decode cX3_drawnCell 8 = .ok (.istore_n 2, 1) := by decide +kernel
theorem dX3_drawnCell_9 : decode cX3_drawnCell 9 = .ok (.iconst 0, 1) := by decide +kernel
theorem dX3_drawnCell_10 : decode cX3_drawnCell 10 = .ok (.istore_n 3, 1) := by decide +kernel
theorem dX3_drawnCell_11 : decode cX3_drawnCell 11 = .ok (.iload_n 3, 1) := by decide +kernel
theorem dX3_drawnCell_12 : decode cX3_drawnCell 12 = .ok (.bipush 64, 2) := by decide +kernel
theorem dX3_drawnCell_14 : decode cX3_drawnCell 14 = .ok (.if_icmp .ge 27, 3) := by decide +kernel
theorem dX3_drawnCell_17 : decode cX3_drawnCell 17 = .ok (.aload_n 0, 1) := by decide +kernel
theorem dX3_drawnCell_18 : decode cX3_drawnCell 18 = .ok (.getfield 9, 3) := by decide +kernel
theorem dX3_drawnCell_21 : decode cX3_drawnCell 21 = .ok (.iload_n 3, 1) := by decide +kernel
theorem dX3_drawnCell_22 : decode cX3_drawnCell 22 = .ok (.baload, 1) := by decide +kernel
theorem dX3_drawnCell_23 : decode cX3_drawnCell 23 = .ok (.ifCond .ne 12, 3) := by decide +kernel
theorem dX3_drawnCell_26 : decode cX3_drawnCell 26 = .ok (.iload_n 2, 1) := by decide +kernel
theorem dX3_drawnCell_27 : decode cX3_drawnCell 27 = .ok (.ifCond .ne 5, 3) := by decide +kernel
theorem dX3_drawnCell_30 : decode cX3_drawnCell 30 = .ok (.iload_n 3, 1) := by decide +kernel
theorem dX3_drawnCell_31 : decode cX3_drawnCell 31 = .ok (.ireturn, 1) := by decide +kernel
theorem dX3_drawnCell_32 : decode cX3_drawnCell 32 = .ok (.iinc 2 (-1), 3) := by decide +kernel
theorem dX3_drawnCell_35 : decode cX3_drawnCell 35 = .ok (.iinc 3 1, 3) := by decide +kernel
theorem dX3_drawnCell_38 : decode cX3_drawnCell 38 = .ok (.goto (-27), 3) := by decide +kernel
theorem dX3_drawnCell_41 : decode cX3_drawnCell 41 = .ok (.iconst 0, 1) := by decide +kernel
theorem dX3_drawnCell_42 : decode cX3_drawnCell 42 = .ok (.ireturn, 1) := by decide +kernel
set_option maxRecDepth 20000 in
theorem ggX3_stepsAhead_X5_isCell : GoodIn wsX3_stepsAhead wsX5_isCell := goodIn_r _ [4] (by decide +kernel) (by decide +kernel)
set_option maxRecDepth 20000 in
theorem gX3_stepsAhead_X5_isCell_n22 : GoodIn wsX3_stepsAhead (wsX5_isCell) := ggX3_stepsAhead_X5_isCell
set_option maxRecDepth 20000 in
theorem ggX3_stepsAhead_X5_isDirection : GoodIn wsX3_stepsAhead wsX5_isDirection := goodIn_r _ [6] (by decide +kernel) (by decide +kernel)
set_option maxRecDepth 20000 in
theorem gX3_stepsAhead_X5_isDirection_n36 : GoodIn wsX3_stepsAhead (wsX5_isDirection) := ggX3_stepsAhead_X5_isDirection
theorem dX3_stepsAhead_0 : decode cX3_stepsAhead 0 = .ok (.iload_n 1, 1) := by decide +kernel
theorem dX3_stepsAhead_1 : decode cX3_stepsAhead 1 = .ok (.invokestatic 22, 3) := by decide +kernel
theorem dX3_stepsAhead_4 : decode cX3_stepsAhead 4 = .ok (.ifCond .eq 24, 3) := by decide +kernel
theorem dX3_stepsAhead_7 : decode cX3_stepsAhead 7 = .ok (.iload_n 2, 1) := by decide +kernel
theorem dX3_stepsAhead_8 : decode cX3_stepsAhead 8 = .ok (.invokestatic 36, 3) := by decide +kernel
theorem dX3_stepsAhead_11 : decode cX3_stepsAhead 11 = .ok (.ifCond .eq 17, 3) := by decide +kernel
theorem dX3_stepsAhead_14 : decode cX3_stepsAhead 14 = .ok (.aload_n 0, 1) := by decide +kernel
theorem dX3_stepsAhead_15 : decode cX3_stepsAhead 15 = .ok (.getfield 15, 3) := by decide +kernel
theorem dX3_stepsAhead_18 : decode cX3_stepsAhead 18 = .ok (.bipush 64, 2) := by decide +kernel
theorem dX3_stepsAhead_20 : decode cX3_stepsAhead 20 = .ok (.iload_n 2, 1) := by decide +kernel
theorem dX3_stepsAhead_21 : decode cX3_stepsAhead 21 = .ok (.imul, 1) := by decide +kernel
theorem dX3_stepsAhead_22 : decode cX3_stepsAhead 22 = .ok (.iload_n 1, 1) := by decide +kernel
theorem dX3_stepsAhead_23 : decode cX3_stepsAhead 23 = .ok (.iadd, 1) := by decide +kernel
theorem dX3_stepsAhead_24 : decode cX3_stepsAhead 24 = .ok (.iaload, 1) := by decide +kernel
theorem dX3_stepsAhead_25 : decode cX3_stepsAhead 25 = .ok (.goto 4, 3) := by decide +kernel
theorem dX3_stepsAhead_28 : decode cX3_stepsAhead 28 = .ok (.iconst (-1), 1) := by decide +kernel
theorem dX3_stepsAhead_29 : decode cX3_stepsAhead 29 = .ok (.ireturn, 1) := by decide +kernel
set_option maxRecDepth 20000 in
theorem ggX3_led_X3_stepsAhead : GoodIn wsX3_led wsX3_stepsAhead := goodIn_r _ [9, 10, 11, 12, 13, 14, 15, 25, 26, 27] (by decide +kernel) (by decide +kernel)
set_option maxRecDepth 20000 in
theorem gX3_led_X3_stepsAhead : GoodIn wsX3_led (wsV RX3 39 RX3 yX3_stepsAhead wsX3_stepsAhead) := goodIn_app (goodIn_of _ (by decide +kernel)) ggX3_led_X3_stepsAhead
set_option maxRecDepth 20000 in
theorem ggX3_led_X3_shifted : GoodIn wsX3_led wsX3_shifted := goodIn_r _ [18, 19, 20, 11, 12, 13, 14, 15, 21, 22, 23, 24] (by decide +kernel) (by decide +kernel)
set_option maxRecDepth 20000 in
theorem gX3_led_X3_shifted : GoodIn wsX3_led (va_wsS RX3 48 yX3_shifted wsX3_shifted) := goodIn_app (goodIn_of _ (by decide +kernel)) ggX3_led_X3_shifted
theorem dX3_led_0 : decode cX3_led 0 = .ok (.iload_n 1, 1) := by decide +kernel
theorem dX3_led_1 : decode cX3_led 1 = .ok (.iload_n 2, 1) := by decide +kernel
theorem dX3_led_2 : decode cX3_led 2 = .ok (.iload_n 3, 1) := by decide +kernel
theorem dX3_led_3 : decode cX3_led 3 = .ok (.aload_n 0, 1) := by decide +kernel
theorem dX3_led_4 : decode cX3_led 4 = .ok (.iload_n 1, 1) := by decide +kernel
theorem dX3_led_5 : decode cX3_led 5 = .ok (.iload_n 2, 1) := by decide +kernel
theorem dX3_led_6 : decode cX3_led 6 = .ok (.invokevirtual 39, 3) := by decide +kernel
theorem dX3_led_9 : decode cX3_led 9 = .ok (.invokestatic 43, 3) := by decide +kernel
theorem dX3_led_12 : decode cX3_led 12 = .ok (.invokestatic 48, 3) := by decide +kernel
theorem dX3_led_15 : decode cX3_led 15 = .ok (.ireturn, 1) := by decide +kernel
set_option maxRecDepth 20000 in
theorem ggX3_weight_X3_stepsAhead : GoodIn wsX3_weight wsX3_stepsAhead := goodIn_r _ [9, 10, 11, 12, 13, 14, 15, 16, 17, 18] (by decide +kernel) (by decide +kernel)
set_option maxRecDepth 20000 in
theorem gX3_weight_X3_stepsAhead : GoodIn wsX3_weight (wsV RX3 39 RX3 yX3_stepsAhead wsX3_stepsAhead) := goodIn_app (goodIn_of _ (by decide +kernel)) ggX3_weight_X3_stepsAhead
theorem dX3_weight_0 : decode cX3_weight 0 = .ok (.iload_n 3, 1) := by decide +kernel
theorem dX3_weight_1 : decode cX3_weight 1 = .ok (.aload_n 0, 1) := by decide +kernel
theorem dX3_weight_2 : decode cX3_weight 2 = .ok (.iload_n 1, 1) := by decide +kernel
theorem dX3_weight_3 : decode cX3_weight 3 = .ok (.iload_n 2, 1) := by decide +kernel
theorem dX3_weight_4 : decode cX3_weight 4 = .ok (.invokevirtual 39, 3) := by decide +kernel
theorem dX3_weight_7 : decode cX3_weight 7 = .ok (.isub, 1) := by decide +kernel
theorem dX3_weight_8 : decode cX3_weight 8 = .ok (.invokestatic 52, 3) := by decide +kernel
theorem dX3_weight_11 : decode cX3_weight 11 = .ok (.tableswitch 32 0 2 #[25, 28, 30], 25) := by decide +kernel
theorem dX3_weight_36 : decode cX3_weight 36 = .ok (.bipush 8, 2) := by decide +kernel
theorem dX3_weight_38 : decode cX3_weight 38 = .ok (.ireturn, 1) := by decide +kernel
theorem dX3_weight_39 : decode cX3_weight 39 = .ok (.iconst 3, 1) := by decide +kernel
theorem dX3_weight_40 : decode cX3_weight 40 = .ok (.ireturn, 1) := by decide +kernel
theorem dX3_weight_41 : decode cX3_weight 41 = .ok (.iconst 1, 1) := by decide +kernel
theorem dX3_weight_42 : decode cX3_weight 42 = .ok (.ireturn, 1) := by decide +kernel
theorem dX3_weight_43 : decode cX3_weight 43 = .ok (.iconst 0, 1) := by decide +kernel
theorem dX3_weight_44 : decode cX3_weight 44 = .ok (.ireturn, 1) := by decide +kernel
set_option maxRecDepth 20000 in
theorem ggX3_shifted_X5_isCell : GoodIn wsX3_shifted wsX5_isCell := goodIn_r _ [5] (by decide +kernel) (by decide +kernel)
set_option maxRecDepth 20000 in
theorem gX3_shifted_X5_isCell_n22 : GoodIn wsX3_shifted (wsX5_isCell) := ggX3_shifted_X5_isCell
set_option maxRecDepth 20000 in
theorem ggX3_shifted_X5_isDirection : GoodIn wsX3_shifted wsX5_isDirection := goodIn_r _ [7] (by decide +kernel) (by decide +kernel)
set_option maxRecDepth 20000 in
theorem gX3_shifted_X5_isDirection_n36 : GoodIn wsX3_shifted (wsX5_isDirection) := ggX3_shifted_X5_isDirection
set_option maxRecDepth 20000 in
theorem ggX3_shifted_X5_isInField : GoodIn wsX3_shifted wsX5_isInField := goodIn_r _ [9] (by decide +kernel) (by decide +kernel)
set_option maxRecDepth 20000 in
theorem gX3_shifted_X5_isInField_n61 : GoodIn wsX3_shifted (wsX5_isInField) := ggX3_shifted_X5_isInField
set_option maxRecDepth 20000 in
theorem ggX3_shifted_X5_numberOf : GoodIn wsX3_shifted wsX5_numberOf := goodIn_r _ [11] (by decide +kernel) (by decide +kernel)
set_option maxRecDepth 20000 in
theorem gX3_shifted_X5_numberOf_n65 : GoodIn wsX3_shifted (wsX5_numberOf) := ggX3_shifted_X5_numberOf
theorem dX3_shifted_0 : decode cX3_shifted 0 = .ok (.iload_n 0, 1) := by decide +kernel
theorem dX3_shifted_1 : decode cX3_shifted 1 = .ok (.invokestatic 22, 3) := by decide +kernel
theorem dX3_shifted_4 : decode cX3_shifted 4 = .ok (.ifCond .eq 10, 3) := by decide +kernel
theorem dX3_shifted_7 : decode cX3_shifted 7 = .ok (.iload_n 1, 1) := by decide +kernel
theorem dX3_shifted_8 : decode cX3_shifted 8 = .ok (.invokestatic 36, 3) := by decide +kernel
theorem dX3_shifted_11 : decode cX3_shifted 11 = .ok (.ifCond .ne 5, 3) := by decide +kernel
theorem dX3_shifted_14 : decode cX3_shifted 14 = .ok (.iconst (-1), 1) := by decide +kernel
theorem dX3_shifted_15 : decode cX3_shifted 15 = .ok (.ireturn, 1) := by decide +kernel
theorem dX3_shifted_16 : decode cX3_shifted 16 = .ok (.iload_n 0, 1) := by decide +kernel
theorem dX3_shifted_17 : decode cX3_shifted 17 = .ok (.bipush 8, 2) := by decide +kernel
theorem dX3_shifted_19 : decode cX3_shifted 19 = .ok (.irem, 1) := by decide +kernel
theorem dX3_shifted_20 : decode cX3_shifted 20 = .ok (.iload_n 2, 1) := by decide +kernel
theorem dX3_shifted_21 : decode cX3_shifted 21 = .ok (.getstatic 55, 3) := by decide +kernel
theorem dX3_shifted_24 : decode cX3_shifted 24 = .ok (.iload_n 1, 1) := by decide +kernel
theorem dX3_shifted_25 : decode cX3_shifted 25 = .ok (.iaload, 1) := by decide +kernel
theorem dX3_shifted_26 : decode cX3_shifted 26 = .ok (.imul, 1) := by decide +kernel
theorem dX3_shifted_27 : decode cX3_shifted 27 = .ok (.iadd, 1) := by decide +kernel
theorem dX3_shifted_28 : decode cX3_shifted 28 = .ok (.istore_n 3, 1) := by decide +kernel
theorem dX3_shifted_29 : decode cX3_shifted 29 = .ok (.iload_n 0, 1) := by decide +kernel
theorem dX3_shifted_30 : decode cX3_shifted 30 = .ok (.bipush 8, 2) := by decide +kernel
theorem dX3_shifted_32 : decode cX3_shifted 32 = .ok (.idiv, 1) := by decide +kernel
theorem dX3_shifted_33 : decode cX3_shifted 33 = .ok (.iload_n 2, 1) := by decide +kernel
theorem dX3_shifted_34 : decode cX3_shifted 34 = .ok (.getstatic 58, 3) := by decide +kernel
theorem dX3_shifted_37 : decode cX3_shifted 37 = .ok (.iload_n 1, 1) := by decide +kernel
theorem dX3_shifted_38 : decode cX3_shifted 38 = .ok (.iaload, 1) := by decide +kernel
theorem dX3_shifted_39 : decode cX3_shifted 39 = .ok (.imul, 1) := by decide +kernel
theorem dX3_shifted_40 : decode cX3_shifted 40 = .ok (.iadd, 1) := by decide +kernel
theorem dX3_shifted_41 : decode cX3_shifted 41 = .ok (.istore 4, 2) := by decide +kernel
theorem dX3_shifted_43 : decode cX3_shifted 43 = .ok (.iload_n 3, 1) := by decide +kernel
theorem dX3_shifted_44 : decode cX3_shifted 44 = .ok (.iload 4, 2) := by decide +kernel
theorem dX3_shifted_46 : decode cX3_shifted 46 = .ok (.invokestatic 61, 3) := by decide +kernel
theorem dX3_shifted_49 : decode cX3_shifted 49 = .ok (.ifCond .eq 12, 3) := by decide +kernel
theorem dX3_shifted_52 : decode cX3_shifted 52 = .ok (.iload_n 3, 1) := by decide +kernel
theorem dX3_shifted_53 : decode cX3_shifted 53 = .ok (.iload 4, 2) := by decide +kernel
theorem dX3_shifted_55 : decode cX3_shifted 55 = .ok (.invokestatic 65, 3) := by decide +kernel
theorem dX3_shifted_58 : decode cX3_shifted 58 = .ok (.goto 4, 3) := by decide +kernel
theorem dX3_shifted_61 : decode cX3_shifted 61 = .ok (.iconst (-1), 1) := by decide +kernel
theorem dX3_shifted_62 : decode cX3_shifted 62 = .ok (.ireturn, 1) := by decide +kernel
set_option maxRecDepth 20000 in
theorem ggX3_measure_X3_countedSteps : GoodIn wsX3_measure wsX3_countedSteps := goodIn_r _ [8, 9, 10, 7, 11, 12, 13, 14, 15, 16, 17, 18, 19, 20, 21, 22, 23, 24, 25, 26, 2, 27, 28, 29] (by decide +kernel) (by decide +kernel)
set_option maxRecDepth 20000 in
theorem gX3_measure_X3_countedSteps : GoodIn wsX3_measure (wsV RX3 68 RX3 yX3_countedSteps wsX3_countedSteps) := goodIn_app (goodIn_of _ (by decide +kernel)) ggX3_measure_X3_countedSteps
theorem dX3_measure_0 : decode cX3_measure 0 = .ok (.aload_n 0, 1) := by decide +kernel
theorem dX3_measure_1 : decode cX3_measure 1 = .ok (.iconst 0, 1) := by decide +kernel
theorem dX3_measure_2 : decode cX3_measure 2 = .ok (.putfield 26, 3) := by decide +kernel
theorem dX3_measure_5 : decode cX3_measure 5 = .ok (.iconst 0, 1) := by decide +kernel
theorem dX3_measure_6 : decode cX3_measure 6 = .ok (.istore_n 1, 1) := by decide +kernel
theorem dX3_measure_7 : decode cX3_measure 7 = .ok (.iload_n 1, 1) := by decide +kernel
theorem dX3_measure_8 : decode cX3_measure 8 = .ok (.bipush 64, 2) := by decide +kernel
theorem dX3_measure_10 : decode cX3_measure 10 = .ok (.if_icmp .ge 71, 3) := by decide +kernel
theorem dX3_measure_13 : decode cX3_measure 13 = .ok (.aload_n 0, 1) := by decide +kernel
theorem dX3_measure_14 : decode cX3_measure 14 = .ok (.getfield 9, 3) := by decide +kernel
theorem dX3_measure_17 : decode cX3_measure 17 = .ok (.iload_n 1, 1) := by decide +kernel
theorem dX3_measure_18 : decode cX3_measure 18 = .ok (.baload, 1) := by decide +kernel
theorem dX3_measure_19 : decode cX3_measure 19 = .ok (.ifCond .ne 13, 3) := by decide +kernel
theorem dX3_measure_22 : decode cX3_measure 22 = .ok (.aload_n 0, 1) := by decide +kernel
theorem dX3_measure_23 : decode cX3_measure 23 = .ok (.dup, 1) := by decide +kernel
theorem dX3_measure_24 : decode cX3_measure 24 = .ok (.getfield 26, 3) := by decide +kernel
theorem dX3_measure_27 : decode cX3_measure 27 = .ok (.iconst 1, 1) := by decide +kernel
theorem dX3_measure_28 : decode cX3_measure 28 = .ok (.iadd, 1) := by decide +kernel
theorem dX3_measure_29 : decode cX3_measure 29 = .ok (.putfield 26, 3) := by decide +kernel
theorem dX3_measure_32 : decode cX3_measure 32 = .ok (.iconst 0, 1) := by decide +kernel
theorem dX3_measure_33 : decode cX3_measure 33 = .ok (.istore_n 2, 1) := by decide +kernel
theorem dX3_measure_34 : decode cX3_measure 34 = .ok (.iload_n 2, 1) := by decide +kernel
theorem dX3_measure_35 : decode cX3_measure 35 = .ok (.iconst 4, 1) := by decide +kernel
theorem dX3_measure_36 : decode cX3_measure 36 = .ok (.if_icmp .ge 39, 3) := by decide +kernel
theorem dX3_measure_39 : decode cX3_measure 39 = .ok (.aload_n 0, 1) := by decide +kernel
theorem dX3_measure_40 : decode cX3_measure 40 = .ok (.getfield 15, 3) := by decide +kernel
theorem dX3_measure_43 : decode cX3_measure 43 = .ok (.bipush 64, 2) := by decide +kernel
theorem dX3_measure_45 : decode cX3_measure 45 = .ok (.iload_n 2, 1) := by decide +kernel
theorem dX3_measure_46 : decode cX3_measure 46 = .ok (.imul, 1) := by decide +kernel
theorem dX3_measure_47 : decode cX3_measure 47 = .ok (.iload_n 1, 1) := by decide +kernel
theorem dX3_measure_48 : decode cX3_measure 48 = .ok (.iadd, 1) := by decide +kernel
theorem dX3_measure_49 : decode cX3_measure 49 = .ok (.aload_n 0, 1) := by decide +kernel
theorem dX3_measure_50 : decode cX3_measure 50 = .ok (.getfield 9, 3) := by decide +kernel
theorem dX3_measure_53 : decode cX3_measure 53 = .ok (.iload_n 1, 1) := by decide +kernel
theorem dX3_measure_54 : decode cX3_measure 54 = .ok (.baload, 1) := by decide +kernel
theorem dX3_measure_55 : decode cX3_measure 55 = .ok (.ifCond .eq 7, 3) := by decide +kernel
theorem dX3_measure_58 : decode cX3_measure 58 = .ok (.iconst (-1), 1) := by decide +kernel
theorem dX3_measure_59 : decode cX3_measure 59 = .ok (.goto 9, 3) := by decide +kernel
theorem dX3_measure_62 : decode cX3_measure 62 = .ok (.aload_n 0, 1) := by decide +kernel
theorem dX3_measure_63 : decode cX3_measure 63 = .ok (.iload_n 1, 1) := by decide +kernel
theorem dX3_measure_64 : decode cX3_measure 64 = .ok (.iload_n 2, 1) := by decide +kernel
theorem dX3_measure_65 : decode cX3_measure 65 = .ok (.invokevirtual 68, 3) := by decide +kernel
theorem dX3_measure_68 : decode cX3_measure 68 = .ok (.iastore, 1) := by decide +kernel
theorem dX3_measure_69 : decode cX3_measure 69 = .ok (.iinc 2 1, 3) := by decide +kernel
theorem dX3_measure_72 : decode cX3_measure 72 = .ok (.goto (-38), 3) := by decide +kernel
theorem dX3_measure_75 : decode cX3_measure 75 = .ok (.iinc 1 1, 3) := by decide +kernel
theorem dX3_measure_78 : decode cX3_measure 78 = .ok (.goto (-71), 3) := by decide +kernel
theorem dX3_measure_81 : decode cX3_measure 81 = .ok (.return_, 1) := by decide +kernel
set_option maxRecDepth 20000 in
theorem ggX3_countedSteps_X3_shifted : GoodIn wsX3_countedSteps wsX3_shifted := goodIn_r _ [4, 5, 6, 7, 8, 9, 10, 11, 12, 13, 14, 15] (by decide +kernel) (by decide +kernel)
set_option maxRecDepth 20000 in
theorem gX3_countedSteps_X3_shifted : GoodIn wsX3_countedSteps (va_wsS RX3 48 yX3_shifted wsX3_shifted) := goodIn_app (goodIn_of _ (by decide +kernel)) ggX3_countedSteps_X3_shifted
set_option maxRecDepth 20000 in
theorem ggX3_countedSteps_X3_isFree : GoodIn wsX3_countedSteps wsX3_isFree := goodIn_r _ [19, 20, 7, 8, 9, 21, 22, 23] (by decide +kernel) (by decide +kernel)
set_option maxRecDepth 20000 in
theorem gX3_countedSteps_X3_isFree : GoodIn wsX3_countedSteps (wsV RX3 71 RX3 yX3_isFree wsX3_isFree) := goodIn_app (goodIn_of _ (by decide +kernel)) ggX3_countedSteps_X3_isFree
theorem dX3_countedSteps_0 : decode cX3_countedSteps 0 = .ok (.iconst 0, 1) := by decide +kernel
theorem dX3_countedSteps_1 : decode cX3_countedSteps 1 = .ok (.istore_n 3, 1) := by decide +kernel
theorem dX3_countedSteps_2 : decode cX3_countedSteps 2 = .ok (.iload_n 3, 1) := by decide +kernel
theorem dX3_countedSteps_3 : decode cX3_countedSteps 3 = .ok (.bipush 8, 2) := by decide +kernel
theorem dX3_countedSteps_5 : decode cX3_countedSteps 5 = .ok (.if_icmp .ge 24, 3) := by decide +kernel
theorem dX3_countedSteps_8 : decode cX3_countedSteps 8 = .ok (.aload_n 0, 1) := by decide +kernel
theorem dX3_countedSteps_9 : decode cX3_countedSteps 9 = .ok (.iload_n 1, 1) := by decide +kernel
theorem dX3_countedSteps_10 : decode cX3_countedSteps 10 = .ok (.iload_n 2, 1) := by decide +kernel
theorem dX3_countedSteps_11 : decode cX3_countedSteps 11 = .ok (.iload_n 3, 1) := by decide +kernel
theorem dX3_countedSteps_12 : decode cX3_countedSteps 12 = .ok (.iconst 1, 1) := by decide +kernel
theorem dX3_countedSteps_13 : decode cX3_countedSteps 13 = .ok (.iadd, 1) := by decide +kernel
theorem dX3_countedSteps_14 : decode cX3_countedSteps 14 = .ok (.invokestatic 48, 3) := by decide +kernel
theorem dX3_countedSteps_17 : decode cX3_countedSteps 17 = .ok (.invokevirtual 71, 3) := by decide +kernel
theorem dX3_countedSteps_20 : decode cX3_countedSteps 20 = .ok (.ifCond .eq 9, 3) := by decide +kernel
theorem dX3_countedSteps_23 : decode cX3_countedSteps 23 = .ok (.iinc 3 1, 3) := by decide +kernel
theorem dX3_countedSteps_26 : decode cX3_countedSteps 26 = .ok (.goto (-24), 3) := by decide +kernel
theorem dX3_countedSteps_29 : decode cX3_countedSteps 29 = .ok (.iload_n 3, 1) := by decide +kernel
theorem dX3_countedSteps_30 : decode cX3_countedSteps 30 = .ok (.ireturn, 1) := by decide +kernel
set_option maxRecDepth 20000 in
theorem ggX4_init_X2_init : GoodIn wsX4_init wsX2_init := goodIn_r _ [17, 18, 2, 3, 19, 20, 32] (by decide +kernel) (by decide +kernel)
set_option maxRecDepth 20000 in
theorem gX4_init_X2_init : GoodIn wsX4_init (wsX2_init) := ggX4_init_X2_init
theorem dX4_init_0 : decode cX4_init 0 = .ok (.aload_n 0, 1) := by decide +kernel
theorem dX4_init_1 : decode cX4_init 1 = .ok (.invokespecial 3, 3) := by decide +kernel
theorem dX4_init_4 : decode cX4_init 4 = .ok (.aload_n 0, 1) := by decide +kernel
theorem dX4_init_5 : decode cX4_init 5 = .ok (.aload_n 1, 1) := by decide +kernel
theorem dX4_init_6 : decode cX4_init 6 = .ok (.putfield 9, 3) := by decide +kernel
theorem dX4_init_9 : decode cX4_init 9 = .ok (.aload_n 0, 1) := by decide +kernel
theorem dX4_init_10 : decode cX4_init 10 = .ok (.aload_n 2, 1) := by decide +kernel
theorem dX4_init_11 : decode cX4_init 11 = .ok (.putfield 15, 3) := by decide +kernel
theorem dX4_init_14 : decode cX4_init 14 = .ok (.aload_n 0, 1) := by decide +kernel
theorem dX4_init_15 : decode cX4_init 15 = .ok (.bipush 64, 2) := by decide +kernel
theorem dX4_init_17 : decode cX4_init 17 = .ok (.newarray .int, 2) := by decide +kernel
theorem dX4_init_19 : decode cX4_init 19 = .ok (.putfield 19, 3) := by decide +kernel
theorem dX4_init_22 : decode cX4_init 22 = .ok (.aload_n 0, 1) := by decide +kernel
theorem dX4_init_23 : decode cX4_init 23 = .ok (.bipush 64, 2) := by decide +kernel
theorem dX4_init_25 : decode cX4_init 25 = .ok (.newarray .int, 2) := by decide +kernel
theorem dX4_init_27 : decode cX4_init 27 = .ok (.putfield 23, 3) := by decide +kernel
theorem dX4_init_30 : decode cX4_init 30 = .ok (.aload_n 0, 1) := by decide +kernel
theorem dX4_init_31 : decode cX4_init 31 = .ok (.bipush 64, 2) := by decide +kernel
theorem dX4_init_33 : decode cX4_init 33 = .ok (.newarray .int, 2) := by decide +kernel
theorem dX4_init_35 : decode cX4_init 35 = .ok (.putfield 26, 3) := by decide +kernel
theorem dX4_init_38 : decode cX4_init 38 = .ok (.aload_n 0, 1) := by decide +kernel
theorem dX4_init_39 : decode cX4_init 39 = .ok (.new 29, 3) := by decide +kernel
theorem dX4_init_42 : decode cX4_init 42 = .ok (.dup, 1) := by decide +kernel
theorem dX4_init_43 : decode cX4_init 43 = .ok (.invokespecial 31, 3) := by decide +kernel
theorem dX4_init_46 : decode cX4_init 46 = .ok (.putfield 32, 3) := by decide +kernel
theorem dX4_init_49 : decode cX4_init 49 = .ok (.aload_n 0, 1) := by decide +kernel
theorem dX4_init_50 : decode cX4_init 50 = .ok (.iconst 0, 1) := by decide +kernel
theorem dX4_init_51 : decode cX4_init 51 = .ok (.putfield 36, 3) := by decide +kernel
theorem dX4_init_54 : decode cX4_init 54 = .ok (.return_, 1) := by decide +kernel
theorem dX4_size_0 : decode cX4_size 0 = .ok (.aload_n 0, 1) := by decide +kernel
theorem dX4_size_1 : decode cX4_size 1 = .ok (.getfield 36, 3) := by decide +kernel
theorem dX4_size_4 : decode cX4_size 4 = .ok (.ireturn, 1) := by decide +kernel
theorem dX4_cellOf_0 : decode cX4_cellOf 0 = .ok (.iload_n 1, 1) := by decide +kernel
theorem dX4_cellOf_1 : decode cX4_cellOf 1 = .ok (.ifCond .lt 18, 3) := by decide +kernel
theorem dX4_cellOf_4 : decode cX4_cellOf 4 = .ok (.iload_n 1, 1) := by decide +kernel
theorem dX4_cellOf_5 : decode cX4_cellOf 5 = .ok (.bipush 64, 2) := by decide +kernel
theorem dX4_cellOf_7 : decode cX4_cellOf 7 = .ok (.if_icmp .ge 12, 3) := by decide +kernel
theorem dX4_cellOf_10 : decode cX4_cellOf 10 = .ok (.aload_n 0, 1) := by decide +kernel
theorem dX4_cellOf_11 : decode cX4_cellOf 11 = .ok (.getfield 19, 3) := by decide +kernel
theorem dX4_cellOf_14 : decode cX4_cellOf 14 = .ok (.iload_n 1, 1) := by decide +kernel
theorem dX4_cellOf_15 : decode cX4_cellOf 15 = .ok (.iaload, 1) := by decide +kernel
theorem dX4_cellOf_16 : decode cX4_cellOf 16 = .ok (.goto 4, 3) := by decide +kernel
theorem dX4_cellOf_19 : decode cX4_cellOf 19 = .ok (.iconst (-1), 1) := by decide +kernel
theorem dX4_cellOf_20 : decode cX4_cellOf 20 = .ok (.ireturn, 1) := by decide +kernel
theorem dX4_lastDoubt_0 : decode cX4_lastDoubt 0 = .ok (.aload_n 0, 1) := by decide +kernel
theorem dX4_lastDoubt_1 : decode cX4_lastDoubt 1 = .ok (.getfield 40, 3) := by decide +kernel
theorem dX4_lastDoubt_4 : decode cX4_lastDoubt 4 = .ok (.ireturn, 1) := by decide +kernel
set_option maxRecDepth 20000 in
theorem ggX4_chart_X2_clear : GoodIn wsX4_chart wsX2_clear := goodIn_r _ [8, 9, 28] (by decide +kernel) (by decide +kernel)
set_option maxRecDepth 20000 in
theorem gX4_chart_X2_clear : GoodIn wsX4_chart (wsV RX4 43 RX2 yX2_clear wsX2_clear) := goodIn_app (goodIn_of _ (by decide +kernel)) ggX4_chart_X2_clear
set_option maxRecDepth 20000 in
theorem ggX4_chart_X2_add : GoodIn wsX4_chart wsX2_add := goodIn_r _ [13, 9, 14, 15, 16, 28] (by decide +kernel) (by decide +kernel)
set_option maxRecDepth 20000 in
theorem gX4_chart_X2_add : GoodIn wsX4_chart (wsV RX4 46 RX2 yX2_add wsX2_add) := goodIn_app (goodIn_of _ (by decide +kernel)) ggX4_chart_X2_add
theorem dX4_chart_0 : decode cX4_chart 0 = .ok (.aload_n 0, 1) := by decide +kernel
theorem dX4_chart_1 : decode cX4_chart 1 = .ok (.getfield 32, 3) := by decide +kernel
theorem dX4_chart_4 : decode cX4_chart 4 = .ok (.invokevirtual 43, 3) := by decide +kernel
theorem dX4_chart_7 : decode cX4_chart 7 = .ok (.iconst 0, 1) := by decide +kernel
theorem dX4_chart_8 : decode cX4_chart 8 = .ok (.istore_n 1, 1) := by decide +kernel
theorem dX4_chart_9 : decode cX4_chart 9 = .ok (.iload_n 1, 1) := by decide +kernel
theorem dX4_chart_10 : decode cX4_chart 10 = .ok (.aload_n 0, 1) := by decide +kernel
theorem dX4_chart_11 : decode cX4_chart 11 = .ok (.getfield 36, 3) := by decide +kernel
theorem dX4_chart_14 : decode cX4_chart 14 = .ok (.if_icmp .ge 29, 3) := by decide +kernel
theorem dX4_chart_17 : decode cX4_chart 17 = .ok (.iload_n 1, 1) := by decide +kernel
theorem dX4_chart_18 : decode cX4_chart 18 = .ok (.bipush 64, 2) := by decide +kernel
theorem dX4_chart_20 : decode cX4_chart 20 = .ok (.if_icmp .ge 23, 3) := by decide +kernel
theorem dX4_chart_23 : decode cX4_chart 23 = .ok (.aload_n 0, 1) := by decide +kernel
theorem dX4_chart_24 : decode cX4_chart 24 = .ok (.getfield 32, 3) := by decide +kernel
theorem dX4_chart_27 : decode cX4_chart 27 = .ok (.aload_n 0, 1) := by decide +kernel
theorem dX4_chart_28 : decode cX4_chart 28 = .ok (.getfield 19, 3) := by decide +kernel
theorem dX4_chart_31 : decode cX4_chart 31 = .ok (.iload_n 1, 1) := by decide +kernel
theorem dX4_chart_32 : decode cX4_chart 32 = .ok (.iaload, 1) := by decide +kernel
theorem dX4_chart_33 : decode cX4_chart 33 = .ok (.lconst 1, 1) := by decide +kernel
theorem dX4_chart_34 : decode cX4_chart 34 = .ok (.invokevirtual 46, 3) := by decide +kernel
theorem dX4_chart_37 : decode cX4_chart 37 = .ok (.iinc 1 1, 3) := by decide +kernel
theorem dX4_chart_40 : decode cX4_chart 40 = .ok (.goto (-31), 3) := by decide +kernel
theorem dX4_chart_43 : decode cX4_chart 43 = .ok (.aload_n 0, 1) := by decide +kernel
theorem dX4_chart_44 : decode cX4_chart 44 = .ok (.getfield 32, 3) := by decide +kernel
theorem dX4_chart_47 : decode cX4_chart 47 = .ok (.areturn, 1) := by decide +kernel
set_option maxRecDepth 20000 in
theorem ggX4_begin_X3_drawnCell : GoodIn wsX4_begin wsX3_drawnCell := goodIn_r _ [13, 14, 15, 16, 17, 18, 19, 20, 21, 22, 34, 35, 36, 37] (by decide +kernel) (by decide +kernel)
set_option maxRecDepth 20000 in
theorem gX4_begin_X3_drawnCell : GoodIn wsX4_begin (wsV RX4 50 RX3 yX3_drawnCell wsX3_drawnCell) := goodIn_app (goodIn_of _ (by decide +kernel)) ggX4_begin_X3_drawnCell
theorem dX4_begin_0 : decode cX4_begin 0 = .ok (.aload_n 0, 1) := by decide +kernel
theorem dX4_begin_1 : decode cX4_begin 1 = .ok (.iload_n 1, 1) := by decide +kernel
theorem dX4_begin_2 : decode cX4_begin 2 = .ok (.putfield 36, 3) := by decide +kernel
theorem dX4_begin_5 : decode cX4_begin 5 = .ok (.iconst 0, 1) := by decide +kernel
theorem dX4_begin_6 : decode cX4_begin 6 = .ok (.istore_n 2, 1) := by decide +kernel
theorem dX4_begin_7 : decode cX4_begin 7 = .ok (.iload_n 2, 1) := by decide +kernel
theorem dX4_begin_8 : decode cX4_begin 8 = .ok (.aload_n 0, 1) := by decide +kernel
theorem dX4_begin_9 : decode cX4_begin 9 = .ok (.getfield 36, 3) := by decide +kernel
theorem dX4_begin_12 : decode cX4_begin 12 = .ok (.if_icmp .ge 32, 3) := by decide +kernel
theorem dX4_begin_15 : decode cX4_begin 15 = .ok (.iload_n 2, 1) := by decide +kernel
theorem dX4_begin_16 : decode cX4_begin 16 = .ok (.bipush 64, 2) := by decide +kernel
theorem dX4_begin_18 : decode cX4_begin 18 = .ok (.if_icmp .ge 26, 3) := by decide +kernel
theorem dX4_begin_21 : decode cX4_begin 21 = .ok (.aload_n 0, 1) := by decide +kernel
theorem dX4_begin_22 : decode cX4_begin 22 = .ok (.getfield 19, 3) := by decide +kernel
theorem dX4_begin_25 : decode cX4_begin 25 = .ok (.iload_n 2, 1) := by decide +kernel
theorem dX4_begin_26 : decode cX4_begin 26 = .ok (.aload_n 0, 1) := by decide +kernel
theorem dX4_begin_27 : decode cX4_begin 27 = .ok (.getfield 9, 3) := by decide +kernel
theorem dX4_begin_30 : decode cX4_begin 30 = .ok (.aload_n 0, 1) := by decide +kernel
theorem dX4_begin_31 : decode cX4_begin 31 = .ok (.getfield 15, 3) := by decide +kernel
theorem dX4_begin_34 : decode cX4_begin 34 = .ok (.invokevirtual 50, 3) := by decide +kernel
theorem dX4_begin_37 : decode cX4_begin 37 = .ok (.iastore, 1) := by decide +kernel
theorem dX4_begin_38 : decode cX4_begin 38 = .ok (.iinc 2 1, 3) := by decide +kernel
theorem dX4_begin_41 : decode cX4_begin 41 = .ok (.goto (-34), 3) := by decide +kernel
theorem dX4_begin_44 : decode cX4_begin 44 = .ok (.aload_n 0, 1) := by decide +kernel
theorem dX4_begin_45 : decode cX4_begin 45 = .ok (.iconst 0, 1) := by decide +kernel
theorem dX4_begin_46 : decode cX4_begin 46 = .ok (.putfield 56, 3) := by decide +kernel
theorem dX4_begin_49 : decode cX4_begin 49 = .ok (.aload_n 0, 1) := by decide +kernel
theorem dX4_begin_50 : decode cX4_begin 50 = .ok (.iconst 0, 1) := by decide +kernel
theorem dX4_begin_51 : decode cX4_begin 51 = .ok (.putfield 60, 3) := by decide +kernel
theorem dX4_begin_54 : decode cX4_begin 54 = .ok (.aload_n 0, 1) := by decide +kernel
theorem dX4_begin_55 : decode cX4_begin 55 = .ok (.iconst 0, 1) := by decide +kernel
theorem dX4_begin_56 : decode cX4_begin 56 = .ok (.putfield 63, 3) := by decide +kernel
theorem dX4_begin_59 : decode cX4_begin 59 = .ok (.aload_n 0, 1) := by decide +kernel
theorem dX4_begin_60 : decode cX4_begin 60 = .ok (.iconst 0, 1) := by decide +kernel
theorem dX4_begin_61 : decode cX4_begin 61 = .ok (.putfield 40, 3) := by decide +kernel
theorem dX4_begin_64 : decode cX4_begin 64 = .ok (.return_, 1) := by decide +kernel
set_option maxRecDepth 20000 in
theorem ggX4_move_X4_drawnSteps : GoodIn wsX4_move wsX4_drawnSteps := goodIn_r _ [8, 9, 10, 11, 12, 13, 14, 15, 16, 45, 46, 47, 48, 49, 50, 51, 52, 53, 54, 55, 56] (by decide +kernel) (by decide +kernel)
set_option maxRecDepth 20000 in
theorem gX4_move_X4_drawnSteps : GoodIn wsX4_move (wsV RX4 66 RX4 yX4_drawnSteps wsX4_drawnSteps) := goodIn_app (goodIn_of _ (by decide +kernel)) ggX4_move_X4_drawnSteps
set_option maxRecDepth 20000 in
theorem ggX4_move_X3_led : GoodIn wsX4_move wsX3_led := goodIn_r _ [21, 22, 23, 24, 25, 26, 27, 28, 20, 29, 30, 31, 32, 33, 34, 35, 36, 37, 38, 39, 40, 41, 42, 43, 44, 57, 58, 59] (by decide +kernel) (by decide +kernel)
set_option maxRecDepth 20000 in
theorem gX4_move_X3_led : GoodIn wsX4_move (wsV RX4 70 RX3 yX3_led wsX3_led) := goodIn_app (goodIn_of _ (by decide +kernel)) ggX4_move_X3_led
theorem dX4_move_0 : decode cX4_move 0 = .ok (.iconst 0, 1) := by decide +kernel
theorem dX4_move_1 : decode cX4_move 1 = .ok (.istore_n 2, 1) := by decide +kernel
theorem dX4_move_2 : decode cX4_move 2 = .ok (.iload_n 2, 1) := by decide +kernel
theorem dX4_move_3 : decode cX4_move 3 = .ok (.aload_n 0, 1) := by decide +kernel
theorem dX4_move_4 : decode cX4_move 4 = .ok (.getfield 36, 3) := by decide +kernel
theorem dX4_move_7 : decode cX4_move 7 = .ok (.if_icmp .ge 39, 3) := by decide +kernel
theorem dX4_move_10 : decode cX4_move 10 = .ok (.iload_n 2, 1) := by decide +kernel
theorem dX4_move_11 : decode cX4_move 11 = .ok (.bipush 64, 2) := by decide +kernel
theorem dX4_move_13 : decode cX4_move 13 = .ok (.if_icmp .ge 33, 3) := by decide +kernel
theorem dX4_move_16 : decode cX4_move 16 = .ok (.aload_n 0, 1) := by decide +kernel
theorem dX4_move_17 : decode cX4_move 17 = .ok (.getfield 19, 3) := by decide +kernel
theorem dX4_move_20 : decode cX4_move 20 = .ok (.iload_n 2, 1) := by decide +kernel
theorem dX4_move_21 : decode cX4_move 21 = .ok (.aload_n 0, 1) := by decide +kernel
theorem dX4_move_22 : decode cX4_move 22 = .ok (.getfield 9, 3) := by decide +kernel
theorem dX4_move_25 : decode cX4_move 25 = .ok (.aload_n 0, 1) := by decide +kernel
theorem dX4_move_26 : decode cX4_move 26 = .ok (.getfield 19, 3) := by decide +kernel
theorem dX4_move_29 : decode cX4_move 29 = .ok (.iload_n 2, 1) := by decide +kernel
theorem dX4_move_30 : decode cX4_move 30 = .ok (.iaload, 1) := by decide +kernel
theorem dX4_move_31 : decode cX4_move 31 = .ok (.iload_n 1, 1) := by decide +kernel
theorem dX4_move_32 : decode cX4_move 32 = .ok (.aload_n 0, 1) := by decide +kernel
theorem dX4_move_33 : decode cX4_move 33 = .ok (.invokevirtual 66, 3) := by decide +kernel
theorem dX4_move_36 : decode cX4_move 36 = .ok (.invokevirtual 70, 3) := by decide +kernel
theorem dX4_move_39 : decode cX4_move 39 = .ok (.iastore, 1) := by decide +kernel
theorem dX4_move_40 : decode cX4_move 40 = .ok (.iinc 2 1, 3) := by decide +kernel
theorem dX4_move_43 : decode cX4_move 43 = .ok (.goto (-41), 3) := by decide +kernel
theorem dX4_move_46 : decode cX4_move 46 = .ok (.return_, 1) := by decide +kernel
set_option maxRecDepth 20000 in
theorem ggX4_drawnSteps_X1_remainder : GoodIn wsX4_drawnSteps wsX1_remainder := goodIn_r _ [6, 7, 8, 20] (by decide +kernel) (by decide +kernel)
set_option maxRecDepth 20000 in
theorem gX4_drawnSteps_X1_remainder : GoodIn wsX4_drawnSteps (wsV RX4 74 RX1 yX1_remainder wsX1_remainder) := goodIn_app (goodIn_of _ (by decide +kernel)) ggX4_drawnSteps_X1_remainder
theorem dX4_drawnSteps_0 : decode cX4_drawnSteps 0 = .ok (.aload_n 0, 1) := by decide +kernel
theorem dX4_drawnSteps_1 : decode cX4_drawnSteps 1 = .ok (.getfield 15, 3) := by decide +kernel
theorem dX4_drawnSteps_4 : decode cX4_drawnSteps 4 = .ok (.bipush 16, 2) := by decide +kernel
theorem dX4_drawnSteps_6 : decode cX4_drawnSteps 6 = .ok (.invokevirtual 74, 3) := by decide +kernel
theorem dX4_drawnSteps_9 : decode cX4_drawnSteps 9 = .ok (.istore_n 1, 1) := by decide +kernel
theorem dX4_drawnSteps_10 : decode cX4_drawnSteps 10 = .ok (.iload_n 1, 1) := by decide +kernel
theorem dX4_drawnSteps_11 : decode cX4_drawnSteps 11 = .ok (.bipush 12, 2) := by decide +kernel
theorem dX4_drawnSteps_13 : decode cX4_drawnSteps 13 = .ok (.if_icmp .ge 5, 3) := by decide +kernel
theorem dX4_drawnSteps_16 : decode cX4_drawnSteps 16 = .ok (.iconst 1, 1) := by decide +kernel
theorem dX4_drawnSteps_17 : decode cX4_drawnSteps 17 = .ok (.ireturn, 1) := by decide +kernel
theorem dX4_drawnSteps_18 : decode cX4_drawnSteps 18 = .ok (.iload_n 1, 1) := by decide +kernel
theorem dX4_drawnSteps_19 : decode cX4_drawnSteps 19 = .ok (.bipush 15, 2) := by decide +kernel
theorem dX4_drawnSteps_21 : decode cX4_drawnSteps 21 = .ok (.if_icmp .ge 7, 3) := by decide +kernel
theorem dX4_drawnSteps_24 : decode cX4_drawnSteps 24 = .ok (.iconst 0, 1) := by decide +kernel
theorem dX4_drawnSteps_25 : decode cX4_drawnSteps 25 = .ok (.goto 4, 3) := by decide +kernel
theorem dX4_drawnSteps_28 : decode cX4_drawnSteps 28 = .ok (.iconst 2, 1) := by decide +kernel
theorem dX4_drawnSteps_29 : decode cX4_drawnSteps 29 = .ok (.ireturn, 1) := by decide +kernel
set_option maxRecDepth 20000 in
theorem ggX4_weigh_X3_weight : GoodIn wsX4_weigh wsX3_weight := goodIn_r _ [9, 10, 11, 12, 13, 14, 15, 16, 8, 17, 18, 19, 20, 21, 22, 23, 103, 104, 105] (by decide +kernel) (by decide +kernel)
set_option maxRecDepth 20000 in
theorem gX4_weigh_X3_weight : GoodIn wsX4_weigh (wsV RX4 80 RX3 yX3_weight wsX3_weight) := goodIn_app (goodIn_of _ (by decide +kernel)) ggX4_weigh_X3_weight
set_option maxRecDepth 20000 in
theorem ggX4_weigh_X5_quotient : GoodIn wsX4_weigh wsX5_quotient := goodIn_r _ [25] (by decide +kernel) (by decide +kernel)
set_option maxRecDepth 20000 in
theorem gX4_weigh_X5_quotient_n83 : GoodIn wsX4_weigh (wsX5_quotient) := ggX4_weigh_X5_quotient
set_option maxRecDepth 20000 in
theorem ggX4_weigh_X4_compareFit : GoodIn wsX4_weigh wsX4_compareFit := goodIn_r _ [30, 31, 32, 33, 34, 35, 12, 36, 37, 92, 93, 94, 95, 96, 97, 98, 99, 100, 101, 102] (by decide +kernel) (by decide +kernel)
set_option maxRecDepth 20000 in
theorem gX4_weigh_X4_compareFit : GoodIn wsX4_weigh (wsV RX4 87 RX4 yX4_compareFit wsX4_compareFit) := goodIn_app (goodIn_of _ (by decide +kernel)) ggX4_weigh_X4_compareFit
set_option maxRecDepth 20000 in
theorem ggX4_weigh_X4_manyAnew : GoodIn wsX4_weigh wsX4_manyAnew := goodIn_r _ [41, 3, 42, 43, 12, 44, 45, 46, 47, 29, 48, 49, 1, 4, 50, 51, 52, 53, 54, 55, 56, 57, 58, 59, 19, 20, 21, 60, 61, 62, 63, 5, 6, 7, 8, 9, 10, 11, 13, 14, 15, 16, 17, 18, 22, 23, 92, 93, 94, 95, 96, 97, 98, 99, 100, 101, 102, 106, 103, 104, 105] (by decide +kernel) (by decide +kernel)
set_option maxRecDepth 20000 in
theorem gX4_weigh_X4_manyAnew : GoodIn wsX4_weigh (wsV RX4 91 RX4 yX4_manyAnew wsX4_manyAnew) := goodIn_app (goodIn_of _ (by decide +kernel)) ggX4_weigh_X4_manyAnew
set_option maxRecDepth 20000 in
theorem ggX4_weigh_X4_drawAnew : GoodIn wsX4_weigh wsX4_drawAnew := goodIn_r _ [67, 4, 68, 69, 70, 71, 72, 73, 37, 3, 1, 74, 75, 76, 77, 78, 79, 80, 81, 82, 83, 8, 84, 85, 86, 87, 24, 20, 25, 88, 89, 90, 29, 91, 2, 92, 93, 94, 95, 96, 97, 98, 99, 100, 101, 102, 107, 103, 104, 105] (by decide +kernel) (by decide +kernel)
set_option maxRecDepth 20000 in
theorem gX4_weigh_X4_drawAnew : GoodIn wsX4_weigh (wsV RX4 95 RX4 yX4_drawAnew wsX4_drawAnew) := goodIn_app (goodIn_of _ (by decide +kernel)) ggX4_weigh_X4_drawAnew
theorem dX4_weigh_0 : decode cX4_weigh 0 = .ok (.iconst 0, 1) := by decide +kernel
theorem dX4_weigh_1 : decode cX4_weigh 1 = .ok (.istore_n 3, 1) := by decide +kernel
theorem dX4_weigh_2 : decode cX4_weigh 2 = .ok (.iconst 0, 1) := by decide +kernel
theorem dX4_weigh_3 : decode cX4_weigh 3 = .ok (.istore 4, 2) := by decide +kernel
theorem dX4_weigh_5 : decode cX4_weigh 5 = .ok (.iload 4, 2) := by decide +kernel
theorem dX4_weigh_7 : decode cX4_weigh 7 = .ok (.aload_n 0, 1) := by decide +kernel
theorem dX4_weigh_8 : decode cX4_weigh 8 = .ok (.getfield 36, 3) := by decide +kernel
theorem dX4_weigh_11 : decode cX4_weigh 11 = .ok (.if_icmp .ge 49, 3) := by decide +kernel
theorem dX4_weigh_14 : decode cX4_weigh 14 = .ok (.iload 4, 2) := by decide +kernel
theorem dX4_weigh_16 : decode cX4_weigh 16 = .ok (.bipush 64, 2) := by decide +kernel
theorem dX4_weigh_18 : decode cX4_weigh 18 = .ok (.if_icmp .ge 42, 3) := by decide +kernel
theorem dX4_weigh_21 : decode cX4_weigh 21 = .ok (.aload_n 0, 1) := by decide +kernel
theorem dX4_weigh_22 : decode cX4_weigh 22 = .ok (.getfield 26, 3) := by decide +kernel
theorem dX4_weigh_25 : decode cX4_weigh 25 = .ok (.iload 4, 2) := by decide +kernel
theorem dX4_weigh_27 : decode cX4_weigh 27 = .ok (.aload_n 0, 1) := by decide +kernel
theorem dX4_weigh_28 : decode cX4_weigh 28 = .ok (.getfield 9, 3) := by decide +kernel
theorem dX4_weigh_31 : decode cX4_weigh 31 = .ok (.aload_n 0, 1) := by decide +kernel
theorem dX4_weigh_32 : decode cX4_weigh 32 = .ok (.getfield 19, 3) := by decide +kernel
theorem dX4_weigh_35 : decode cX4_weigh 35 = .ok (.iload 4, 2) := by decide +kernel
theorem dX4_weigh_37 : decode cX4_weigh 37 = .ok (.iaload, 1) := by decide +kernel
theorem dX4_weigh_38 : decode cX4_weigh 38 = .ok (.iload_n 1, 1) := by decide +kernel
theorem dX4_weigh_39 : decode cX4_weigh 39 = .ok (.iload_n 2, 1) := by decide +kernel
theorem dX4_weigh_40 : decode cX4_weigh 40 = .ok (.invokevirtual 80, 3) := by decide +kernel
theorem dX4_weigh_43 : decode cX4_weigh 43 = .ok (.iastore, 1) := by decide +kernel
theorem dX4_weigh_44 : decode cX4_weigh 44 = .ok (.iload_n 3, 1) := by decide +kernel
theorem dX4_weigh_45 : decode cX4_weigh 45 = .ok (.aload_n 0, 1) := by decide +kernel
theorem dX4_weigh_46 : decode cX4_weigh 46 = .ok (.getfield 26, 3) := by decide +kernel
theorem dX4_weigh_49 : decode cX4_weigh 49 = .ok (.iload 4, 2) := by decide +kernel
theorem dX4_weigh_51 : decode cX4_weigh 51 = .ok (.iaload, 1) := by decide +kernel
theorem dX4_weigh_52 : decode cX4_weigh 52 = .ok (.iadd, 1) := by decide +kernel
theorem dX4_weigh_53 : decode cX4_weigh 53 = .ok (.istore_n 3, 1) := by decide +kernel
theorem dX4_weigh_54 : decode cX4_weigh 54 = .ok (.iinc 4 1, 3) := by decide +kernel
theorem dX4_weigh_57 : decode cX4_weigh 57 = .ok (.goto (-52), 3) := by decide +kernel
theorem dX4_weigh_60 : decode cX4_weigh 60 = .ok (.aload_n 0, 1) := by decide +kernel
theorem dX4_weigh_61 : decode cX4_weigh 61 = .ok (.bipush 32, 2) := by decide +kernel
theorem dX4_weigh_63 : decode cX4_weigh 63 = .ok (.iload_n 3, 1) := by decide +kernel
theorem dX4_weigh_64 : decode cX4_weigh 64 = .ok (.imul, 1) := by decide +kernel
theorem dX4_weigh_65 : decode cX4_weigh 65 = .ok (.i2l, 1) := by decide +kernel
theorem dX4_weigh_66 : decode cX4_weigh 66 = .ok (.aload_n 0, 1) := by decide +kernel
theorem dX4_weigh_67 : decode cX4_weigh 67 = .ok (.getfield 36, 3) := by decide +kernel
theorem dX4_weigh_70 : decode cX4_weigh 70 = .ok (.i2l, 1) := by decide +kernel
theorem dX4_weigh_71 : decode cX4_weigh 71 = .ok (.invokestatic 83, 3) := by decide +kernel
theorem dX4_weigh_74 : decode cX4_weigh 74 = .ok (.l2i, 1) := by decide +kernel
theorem dX4_weigh_75 : decode cX4_weigh 75 = .ok (.invokevirtual 87, 3) := by decide +kernel
theorem dX4_weigh_78 : decode cX4_weigh 78 = .ok (.aload_n 0, 1) := by decide +kernel
theorem dX4_weigh_79 : decode cX4_weigh 79 = .ok (.iload_n 3, 1) := by decide +kernel
theorem dX4_weigh_80 : decode cX4_weigh 80 = .ok (.aload_n 0, 1) := by decide +kernel
theorem dX4_weigh_81 : decode cX4_weigh 81 = .ok (.iload_n 1, 1) := by decide +kernel
theorem dX4_weigh_82 : decode cX4_weigh 82 = .ok (.iload_n 2, 1) := by decide +kernel
theorem dX4_weigh_83 : decode cX4_weigh 83 = .ok (.invokevirtual 91, 3) := by decide +kernel
theorem dX4_weigh_86 : decode cX4_weigh 86 = .ok (.invokevirtual 95, 3) := by decide +kernel
theorem dX4_weigh_89 : decode cX4_weigh 89 = .ok (.iload_n 3, 1) := by decide +kernel
theorem dX4_weigh_90 : decode cX4_weigh 90 = .ok (.ireturn, 1) := by decide +kernel
theorem dX4_compareFit_0 : decode cX4_compareFit 0 = .ok (.aload_n 0, 1) := by decide +kernel
theorem dX4_compareFit_1 : decode cX4_compareFit 1 = .ok (.getfield 56, 3) := by decide +kernel
theorem dX4_compareFit_4 : decode cX4_compareFit 4 = .ok (.ifCond .eq 41, 3) := by decide +kernel
theorem dX4_compareFit_7 : decode cX4_compareFit 7 = .ok (.aload_n 0, 1) := by decide +kernel
theorem dX4_compareFit_8 : decode cX4_compareFit 8 = .ok (.dup, 1) := by decide +kernel
theorem dX4_compareFit_9 : decode cX4_compareFit 9 = .ok (.getfield 60, 3) := by decide +kernel
theorem dX4_compareFit_12 : decode cX4_compareFit 12 = .ok (.iload_n 1, 1) := by decide +kernel
theorem dX4_compareFit_13 : decode cX4_compareFit 13 = .ok (.aload_n 0, 1) := by decide +kernel
theorem dX4_compareFit_14 : decode cX4_compareFit 14 = .ok (.getfield 60, 3) := by decide +kernel
theorem dX4_compareFit_17 : decode cX4_compareFit 17 = .ok (.isub, 1) := by decide +kernel
theorem dX4_compareFit_18 : decode cX4_compareFit 18 = .ok (.bipush 8, 2) := by decide +kernel
theorem dX4_compareFit_20 : decode cX4_compareFit 20 = .ok (.idiv, 1) := by decide +kernel
theorem dX4_compareFit_21 : decode cX4_compareFit 21 = .ok (.iadd, 1) := by decide +kernel
theorem dX4_compareFit_22 : decode cX4_compareFit 22 = .ok (.putfield 60, 3) := by decide +kernel
theorem dX4_compareFit_25 : decode cX4_compareFit 25 = .ok (.aload_n 0, 1) := by decide +kernel
theorem dX4_compareFit_26 : decode cX4_compareFit 26 = .ok (.dup, 1) := by decide +kernel
theorem dX4_compareFit_27 : decode cX4_compareFit 27 = .ok (.getfield 63, 3) := by decide +kernel
theorem dX4_compareFit_30 : decode cX4_compareFit 30 = .ok (.iload_n 1, 1) := by decide +kernel
theorem dX4_compareFit_31 : decode cX4_compareFit 31 = .ok (.aload_n 0, 1) := by decide +kernel
theorem dX4_compareFit_32 : decode cX4_compareFit 32 = .ok (.getfield 63, 3) := by decide +kernel
theorem dX4_compareFit_35 : decode cX4_compareFit 35 = .ok (.isub, 1) := by decide +kernel
theorem dX4_compareFit_36 : decode cX4_compareFit 36 = .ok (.iconst 2, 1) := by decide +kernel
theorem dX4_compareFit_37 : decode cX4_compareFit 37 = .ok (.idiv, 1) := by decide +kernel
theorem dX4_compareFit_38 : decode cX4_compareFit 38 = .ok (.iadd, 1) := by decide +kernel
theorem dX4_compareFit_39 : decode cX4_compareFit 39 = .ok (.putfield 63, 3) := by decide +kernel
theorem dX4_compareFit_42 : decode cX4_compareFit 42 = .ok (.goto 18, 3) := by decide +kernel
theorem dX4_compareFit_45 : decode cX4_compareFit 45 = .ok (.aload_n 0, 1) := by decide +kernel
theorem dX4_compareFit_46 : decode cX4_compareFit 46 = .ok (.iload_n 1, 1) := by decide +kernel
theorem dX4_compareFit_47 : decode cX4_compareFit 47 = .ok (.putfield 60, 3) := by decide +kernel
theorem dX4_compareFit_50 : decode cX4_compareFit 50 = .ok (.aload_n 0, 1) := by decide +kernel
theorem dX4_compareFit_51 : decode cX4_compareFit 51 = .ok (.iload_n 1, 1) := by decide +kernel
theorem dX4_compareFit_52 : decode cX4_compareFit 52 = .ok (.putfield 63, 3) := by decide +kernel
theorem dX4_compareFit_55 : decode cX4_compareFit 55 = .ok (.aload_n 0, 1) := by decide +kernel
theorem dX4_compareFit_56 : decode cX4_compareFit 56 = .ok (.iconst 1, 1) := by decide +kernel
theorem dX4_compareFit_57 : decode cX4_compareFit 57 = .ok (.putfield 56, 3) := by decide +kernel
theorem dX4_compareFit_60 : decode cX4_compareFit 60 = .ok (.aload_n 0, 1) := by decide +kernel
theorem dX4_compareFit_61 : decode cX4_compareFit 61 = .ok (.aload_n 0, 1) := by decide +kernel
theorem dX4_compareFit_62 : decode cX4_compareFit 62 = .ok (.getfield 60, 3) := by decide +kernel
theorem dX4_compareFit_65 : decode cX4_compareFit 65 = .ok (.ifCond .ne 9, 3) := by decide +kernel
theorem dX4_compareFit_68 : decode cX4_compareFit 68 = .ok (.sipush 256, 3) := by decide +kernel
theorem dX4_compareFit_71 : decode cX4_compareFit 71 = .ok (.goto 24, 3) := by decide +kernel
theorem dX4_compareFit_74 : decode cX4_compareFit 74 = .ok (.iconst 0, 1) := by decide +kernel
theorem dX4_compareFit_75 : decode cX4_compareFit 75 = .ok (.sipush 256, 3) := by decide +kernel
theorem dX4_compareFit_78 : decode cX4_compareFit 78 = .ok (.sipush 256, 3) := by decide +kernel
theorem dX4_compareFit_81 : decode cX4_compareFit 81 = .ok (.aload_n 0, 1) := by decide +kernel
theorem dX4_compareFit_82 : decode cX4_compareFit 82 = .ok (.getfield 63, 3) := by decide +kernel
theorem dX4_compareFit_85 : decode cX4_compareFit 85 = .ok (.imul, 1) := by decide +kernel
theorem dX4_compareFit_86 : decode cX4_compareFit 86 = .ok (.aload_n 0, 1) := by decide +kernel
theorem dX4_compareFit_87 : decode cX4_compareFit 87 = .ok (.getfield 60, 3) := by decide +kernel
theorem dX4_compareFit_90 : decode cX4_compareFit 90 = .ok (.idiv, 1) := by decide +kernel
theorem dX4_compareFit_91 : decode cX4_compareFit 91 = .ok (.isub, 1) := by decide +kernel
theorem dX4_compareFit_92 : decode cX4_compareFit 92 = .ok (.invokestatic 99, 3) := by decide +kernel
theorem dX4_compareFit_95 : decode cX4_compareFit 95 = .ok (.putfield 40, 3) := by decide +kernel
theorem dX4_compareFit_98 : decode cX4_compareFit 98 = .ok (.return_, 1) := by decide +kernel
set_option maxRecDepth 20000 in
theorem ggX4_manyAnew_X4_chart : GoodIn wsX4_manyAnew wsX4_chart := goodIn_r _ [10, 11, 12, 13, 14, 15, 16, 17, 18, 19, 20, 21, 22, 23, 24, 25, 26, 46, 47, 48, 49, 50, 51, 52, 53, 54, 55, 56, 57] (by decide +kernel) (by decide +kernel)
set_option maxRecDepth 20000 in
theorem gX4_manyAnew_X4_chart : GoodIn wsX4_manyAnew (wsV RX4 104 RX4 yX4_chart wsX4_chart) := goodIn_app (goodIn_of _ (by decide +kernel)) ggX4_manyAnew_X4_chart
set_option maxRecDepth 20000 in
theorem ggX4_manyAnew_X2_at : GoodIn wsX4_manyAnew wsX2_at := goodIn_r _ [30, 19, 24, 25, 26, 57] (by decide +kernel) (by decide +kernel)
set_option maxRecDepth 20000 in
theorem gX4_manyAnew_X2_at : GoodIn wsX4_manyAnew (wsV RX4 108 RX2 yX2_at wsX2_at) := goodIn_app (goodIn_of _ (by decide +kernel)) ggX4_manyAnew_X2_at
set_option maxRecDepth 20000 in
theorem ggX4_manyAnew_X3_weight : GoodIn wsX4_manyAnew wsX3_weight := goodIn_r _ [35, 36, 37, 4, 38, 39, 40, 41, 34, 42, 43, 24, 25, 26, 44, 45, 58, 59, 60] (by decide +kernel) (by decide +kernel)
set_option maxRecDepth 20000 in
theorem gX4_manyAnew_X3_weight : GoodIn wsX4_manyAnew (wsV RX4 80 RX3 yX3_weight wsX3_weight) := goodIn_app (goodIn_of _ (by decide +kernel)) ggX4_manyAnew_X3_weight
theorem dX4_manyAnew_0 : decode cX4_manyAnew 0 = .ok (.aload_n 0, 1) := by decide +kernel
theorem dX4_manyAnew_1 : decode cX4_manyAnew 1 = .ok (.invokevirtual 104, 3) := by decide +kernel
theorem dX4_manyAnew_4 : decode cX4_manyAnew 4 = .ok (.astore_n 3, 1) := by decide +kernel
theorem dX4_manyAnew_5 : decode cX4_manyAnew 5 = .ok (.iconst 0, 1) := by decide +kernel
theorem dX4_manyAnew_6 : decode cX4_manyAnew 6 = .ok (.istore 4, 2) := by decide +kernel
theorem dX4_manyAnew_8 : decode cX4_manyAnew 8 = .ok (.iconst 0, 1) := by decide +kernel
theorem dX4_manyAnew_9 : decode cX4_manyAnew 9 = .ok (.istore 5, 2) := by decide +kernel
theorem dX4_manyAnew_11 : decode cX4_manyAnew 11 = .ok (.iload 5, 2) := by decide +kernel
theorem dX4_manyAnew_13 : decode cX4_manyAnew 13 = .ok (.bipush 64, 2) := by decide +kernel
theorem dX4_manyAnew_15 : decode cX4_manyAnew 15 = .ok (.if_icmp .ge 37, 3) := by decide +kernel
theorem dX4_manyAnew_18 : decode cX4_manyAnew 18 = .ok (.aload_n 3, 1) := by decide +kernel
theorem dX4_manyAnew_19 : decode cX4_manyAnew 19 = .ok (.iload 5, 2) := by decide +kernel
theorem dX4_manyAnew_21 : decode cX4_manyAnew 21 = .ok (.invokevirtual 108, 3) := by decide +kernel
theorem dX4_manyAnew_24 : decode cX4_manyAnew 24 = .ok (.lconst 0, 1) := by decide +kernel
theorem dX4_manyAnew_25 : decode cX4_manyAnew 25 = .ok (.lcmp, 1) := by decide +kernel
theorem dX4_manyAnew_26 : decode cX4_manyAnew 26 = .ok (.ifCond .le 20, 3) := by decide +kernel
theorem dX4_manyAnew_29 : decode cX4_manyAnew 29 = .ok (.aload_n 0, 1) := by decide +kernel
theorem dX4_manyAnew_30 : decode cX4_manyAnew 30 = .ok (.getfield 9, 3) := by decide +kernel
theorem dX4_manyAnew_33 : decode cX4_manyAnew 33 = .ok (.iload 5, 2) := by decide +kernel
theorem dX4_manyAnew_35 : decode cX4_manyAnew 35 = .ok (.iload_n 1, 1) := by decide +kernel
theorem dX4_manyAnew_36 : decode cX4_manyAnew 36 = .ok (.iload_n 2, 1) := by decide +kernel
theorem dX4_manyAnew_37 : decode cX4_manyAnew 37 = .ok (.invokevirtual 80, 3) := by decide +kernel
theorem dX4_manyAnew_40 : decode cX4_manyAnew 40 = .ok (.ifCond .le 6, 3) := by decide +kernel
theorem dX4_manyAnew_43 : decode cX4_manyAnew 43 = .ok (.iinc 4 1, 3) := by decide +kernel
theorem dX4_manyAnew_46 : decode cX4_manyAnew 46 = .ok (.iinc 5 1, 3) := by decide +kernel
theorem dX4_manyAnew_49 : decode cX4_manyAnew 49 = .ok (.goto (-38), 3) := by decide +kernel
theorem dX4_manyAnew_52 : decode cX4_manyAnew 52 = .ok (.bipush 64, 2) := by decide +kernel
theorem dX4_manyAnew_54 : decode cX4_manyAnew 54 = .ok (.iconst 4, 1) := by decide +kernel
theorem dX4_manyAnew_55 : decode cX4_manyAnew 55 = .ok (.iload 4, 2) := by decide +kernel
theorem dX4_manyAnew_57 : decode cX4_manyAnew 57 = .ok (.imul, 1) := by decide +kernel
theorem dX4_manyAnew_58 : decode cX4_manyAnew 58 = .ok (.bipush 8, 2) := by decide +kernel
theorem dX4_manyAnew_60 : decode cX4_manyAnew 60 = .ok (.iadd, 1) := by decide +kernel
theorem dX4_manyAnew_61 : decode cX4_manyAnew 61 = .ok (.invokestatic 112, 3) := by decide +kernel
theorem dX4_manyAnew_64 : decode cX4_manyAnew 64 = .ok (.ireturn, 1) := by decide +kernel
set_option maxRecDepth 20000 in
theorem ggX4_drawAnew_X1_remainder : GoodIn wsX4_drawAnew wsX1_remainder := goodIn_r _ [15, 16, 17, 46] (by decide +kernel) (by decide +kernel)
set_option maxRecDepth 20000 in
theorem gX4_drawAnew_X1_remainder : GoodIn wsX4_drawAnew (wsV RX4 74 RX1 yX1_remainder wsX1_remainder) := goodIn_app (goodIn_of _ (by decide +kernel)) ggX4_drawAnew_X1_remainder
set_option maxRecDepth 20000 in
theorem ggX4_drawAnew_X3_drawnCell : GoodIn wsX4_drawAnew wsX3_drawnCell := goodIn_r _ [22, 23, 24, 25, 12, 13, 14, 15, 16, 17, 47, 48, 49, 46] (by decide +kernel) (by decide +kernel)
set_option maxRecDepth 20000 in
theorem gX4_drawAnew_X3_drawnCell : GoodIn wsX4_drawAnew (wsV RX4 50 RX3 yX3_drawnCell wsX3_drawnCell) := goodIn_app (goodIn_of _ (by decide +kernel)) ggX4_drawAnew_X3_drawnCell
set_option maxRecDepth 20000 in
theorem ggX4_drawAnew_X5_quotient : GoodIn wsX4_drawAnew wsX5_quotient := goodIn_r _ [28] (by decide +kernel) (by decide +kernel)
set_option maxRecDepth 20000 in
theorem gX4_drawAnew_X5_quotient_n83 : GoodIn wsX4_drawAnew (wsX5_quotient) := ggX4_drawAnew_X5_quotient
set_option maxRecDepth 20000 in
theorem ggX4_drawAnew_X4_oldCellBeyond : GoodIn wsX4_drawAnew wsX4_oldCellBeyond := goodIn_r _ [33, 10, 34, 2, 35, 36, 37, 38, 39, 40, 41, 42, 43, 44, 45] (by decide +kernel) (by decide +kernel)
set_option maxRecDepth 20000 in
theorem gX4_drawAnew_X4_oldCellBeyond : GoodIn wsX4_drawAnew (wsV RX4 121 RX4 yX4_oldCellBeyond wsX4_oldCellBeyond) := goodIn_app (goodIn_of _ (by decide +kernel)) ggX4_drawAnew_X4_oldCellBeyond
theorem dX4_drawAnew_0 : decode cX4_drawAnew 0 = .ok (.aload_n 0, 1) := by decide +kernel
end
section
theorem dX4_drawAnew_1 : decode cX4_drawAnew 1 = .ok (.getfield 19, 3) := by decide +kernel
theorem dX4_drawAnew_4 : decode cX4_drawAnew 4 = .ok (.iconst 0, 1) := by decide +kernel
theorem dX4_drawAnew_5 : decode cX4_drawAnew 5 = .ok (.aload_n 0, 1) := by decide +kernel
theorem dX4_drawAnew_6 : decode cX4_drawAnew 6 = .ok (.getfield 23, 3) := by decide +kernel
theorem dX4_drawAnew_9 : decode cX4_drawAnew 9 = .ok (.iconst 0, 1) := by decide +kernel
theorem dX4_drawAnew_10 : decode cX4_drawAnew 10 = .ok (.bipush 64, 2) := by decide +kernel
theorem dX4_drawAnew_12 : decode cX4_drawAnew 12 = .ok (.invokestatic 115, 3) := by decide +kernel
theorem dX4_drawAnew_15 : decode cX4_drawAnew 15 = .ok (.iload_n 1, 1) := by decide +kernel
theorem dX4_drawAnew_16 : decode cX4_drawAnew 16 = .ok (.ifCond .ne 7, 3) := by decide +kernel
theorem dX4_drawAnew_19 : decode cX4_drawAnew 19 = .ok (.iconst 0, 1) := by decide +kernel
theorem dX4_drawAnew_20 : decode cX4_drawAnew 20 = .ok (.goto 11, 3) := by decide +kernel
theorem dX4_drawAnew_23 : decode cX4_drawAnew 23 = .ok (.aload_n 0, 1) := by decide +kernel
theorem dX4_drawAnew_24 : decode cX4_drawAnew 24 = .ok (.getfield 15, 3) := by decide +kernel
theorem dX4_drawAnew_27 : decode cX4_drawAnew 27 = .ok (.iload_n 1, 1) := by decide +kernel
theorem dX4_drawAnew_28 : decode cX4_drawAnew 28 = .ok (.invokevirtual 74, 3) := by decide +kernel
theorem dX4_drawAnew_31 : decode cX4_drawAnew 31 = .ok (.istore_n 3, 1) := by decide +kernel
theorem dX4_drawAnew_32 : decode cX4_drawAnew 32 = .ok (.iconst 0, 1) := by decide +kernel
theorem dX4_drawAnew_33 : decode cX4_drawAnew 33 = .ok (.istore 4, 2) := by decide +kernel
theorem dX4_drawAnew_35 : decode cX4_drawAnew 35 = .ok (.iload 4, 2) := by decide +kernel
theorem dX4_drawAnew_37 : decode cX4_drawAnew 37 = .ok (.iload_n 2, 1) := by decide +kernel
theorem dX4_drawAnew_38 : decode cX4_drawAnew 38 = .ok (.if_icmp .ge 93, 3) := by decide +kernel
theorem dX4_drawAnew_41 : decode cX4_drawAnew 41 = .ok (.iload 4, 2) := by decide +kernel
theorem dX4_drawAnew_43 : decode cX4_drawAnew 43 = .ok (.bipush 64, 2) := by decide +kernel
theorem dX4_drawAnew_45 : decode cX4_drawAnew 45 = .ok (.if_icmp .ge 86, 3) := by decide +kernel
theorem dX4_drawAnew_48 : decode cX4_drawAnew 48 = .ok (.aload_n 0, 1) := by decide +kernel
theorem dX4_drawAnew_49 : decode cX4_drawAnew 49 = .ok (.getfield 15, 3) := by decide +kernel
theorem dX4_drawAnew_52 : decode cX4_drawAnew 52 = .ok (.sipush 256, 3) := by decide +kernel
theorem dX4_drawAnew_55 : decode cX4_drawAnew 55 = .ok (.invokevirtual 74, 3) := by decide +kernel
theorem dX4_drawAnew_58 : decode cX4_drawAnew 58 = .ok (.aload_n 0, 1) := by decide +kernel
theorem dX4_drawAnew_59 : decode cX4_drawAnew 59 = .ok (.getfield 40, 3) := by decide +kernel
theorem dX4_drawAnew_62 : decode cX4_drawAnew 62 = .ok (.if_icmp .ge 7, 3) := by decide +kernel
theorem dX4_drawAnew_65 : decode cX4_drawAnew 65 = .ok (.iconst 1, 1) := by decide +kernel
theorem dX4_drawAnew_66 : decode cX4_drawAnew 66 = .ok (.goto 4, 3) := by decide +kernel
theorem dX4_drawAnew_69 : decode cX4_drawAnew 69 = .ok (.iconst 0, 1) := by decide +kernel
theorem dX4_drawAnew_70 : decode cX4_drawAnew 70 = .ok (.istore 5, 2) := by decide +kernel
theorem dX4_drawAnew_72 : decode cX4_drawAnew 72 = .ok (.iload_n 1, 1) := by decide +kernel
theorem dX4_drawAnew_73 : decode cX4_drawAnew 73 = .ok (.ifCond .eq 8, 3) := by decide +kernel
theorem dX4_drawAnew_76 : decode cX4_drawAnew 76 = .ok (.iload 5, 2) := by decide +kernel
theorem dX4_drawAnew_78 : decode cX4_drawAnew 78 = .ok (.ifCond .eq 24, 3) := by decide +kernel
theorem dX4_drawAnew_81 : decode cX4_drawAnew 81 = .ok (.aload_n 0, 1) := by decide +kernel
theorem dX4_drawAnew_82 : decode cX4_drawAnew 82 = .ok (.getfield 19, 3) := by decide +kernel
theorem dX4_drawAnew_85 : decode cX4_drawAnew 85 = .ok (.iload 4, 2) := by decide +kernel
theorem dX4_drawAnew_87 : decode cX4_drawAnew 87 = .ok (.aload_n 0, 1) := by decide +kernel
theorem dX4_drawAnew_88 : decode cX4_drawAnew 88 = .ok (.getfield 9, 3) := by decide +kernel
theorem dX4_drawAnew_91 : decode cX4_drawAnew 91 = .ok (.aload_n 0, 1) := by decide +kernel
theorem dX4_drawAnew_92 : decode cX4_drawAnew 92 = .ok (.getfield 15, 3) := by decide +kernel
theorem dX4_drawAnew_95 : decode cX4_drawAnew 95 = .ok (.invokevirtual 50, 3) := by decide +kernel
theorem dX4_drawAnew_98 : decode cX4_drawAnew 98 = .ok (.iastore, 1) := by decide +kernel
theorem dX4_drawAnew_99 : decode cX4_drawAnew 99 = .ok (.goto 26, 3) := by decide +kernel
theorem dX4_drawAnew_102 : decode cX4_drawAnew 102 = .ok (.aload_n 0, 1) := by decide +kernel
theorem dX4_drawAnew_103 : decode cX4_drawAnew 103 = .ok (.getfield 19, 3) := by decide +kernel
theorem dX4_drawAnew_106 : decode cX4_drawAnew 106 = .ok (.iload 4, 2) := by decide +kernel
theorem dX4_drawAnew_108 : decode cX4_drawAnew 108 = .ok (.aload_n 0, 1) := by decide +kernel
theorem dX4_drawAnew_109 : decode cX4_drawAnew 109 = .ok (.iload_n 3, 1) := by decide +kernel
theorem dX4_drawAnew_110 : decode cX4_drawAnew 110 = .ok (.iload 4, 2) := by decide +kernel
theorem dX4_drawAnew_112 : decode cX4_drawAnew 112 = .ok (.iload_n 1, 1) := by decide +kernel
theorem dX4_drawAnew_113 : decode cX4_drawAnew 113 = .ok (.imul, 1) := by decide +kernel
theorem dX4_drawAnew_114 : decode cX4_drawAnew 114 = .ok (.iadd, 1) := by decide +kernel
theorem dX4_drawAnew_115 : decode cX4_drawAnew 115 = .ok (.i2l, 1) := by decide +kernel
theorem dX4_drawAnew_116 : decode cX4_drawAnew 116 = .ok (.iload_n 2, 1) := by decide +kernel
theorem dX4_drawAnew_117 : decode cX4_drawAnew 117 = .ok (.i2l, 1) := by decide +kernel
theorem dX4_drawAnew_118 : decode cX4_drawAnew 118 = .ok (.invokestatic 83, 3) := by decide +kernel
theorem dX4_drawAnew_121 : decode cX4_drawAnew 121 = .ok (.invokevirtual 121, 3) := by decide +kernel
theorem dX4_drawAnew_124 : decode cX4_drawAnew 124 = .ok (.iastore, 1) := by decide +kernel
theorem dX4_drawAnew_125 : decode cX4_drawAnew 125 = .ok (.iinc 4 1, 3) := by decide +kernel
theorem dX4_drawAnew_128 : decode cX4_drawAnew 128 = .ok (.goto (-93), 3) := by decide +kernel
theorem dX4_drawAnew_131 : decode cX4_drawAnew 131 = .ok (.aload_n 0, 1) := by decide +kernel
theorem dX4_drawAnew_132 : decode cX4_drawAnew 132 = .ok (.iload_n 2, 1) := by decide +kernel
theorem dX4_drawAnew_133 : decode cX4_drawAnew 133 = .ok (.putfield 36, 3) := by decide +kernel
theorem dX4_drawAnew_136 : decode cX4_drawAnew 136 = .ok (.return_, 1) := by decide +kernel
theorem dX4_oldCellBeyond_0 : decode cX4_oldCellBeyond 0 = .ok (.iconst 0, 1) := by decide +kernel
theorem dX4_oldCellBeyond_1 : decode cX4_oldCellBeyond 1 = .ok (.istore_n 3, 1) := by decide +kernel
theorem dX4_oldCellBeyond_2 : decode cX4_oldCellBeyond 2 = .ok (.iconst 0, 1) := by decide +kernel
theorem dX4_oldCellBeyond_3 : decode cX4_oldCellBeyond 3 = .ok (.istore 4, 2) := by decide +kernel
theorem dX4_oldCellBeyond_5 : decode cX4_oldCellBeyond 5 = .ok (.iload 4, 2) := by decide +kernel
theorem dX4_oldCellBeyond_7 : decode cX4_oldCellBeyond 7 = .ok (.aload_n 0, 1) := by decide +kernel
theorem dX4_oldCellBeyond_8 : decode cX4_oldCellBeyond 8 = .ok (.getfield 36, 3) := by decide +kernel
theorem dX4_oldCellBeyond_11 : decode cX4_oldCellBeyond 11 = .ok (.if_icmp .ge 41, 3) := by decide +kernel
theorem dX4_oldCellBeyond_14 : decode cX4_oldCellBeyond 14 = .ok (.iload 4, 2) := by decide +kernel
theorem dX4_oldCellBeyond_16 : decode cX4_oldCellBeyond 16 = .ok (.bipush 64, 2) := by decide +kernel
theorem dX4_oldCellBeyond_18 : decode cX4_oldCellBeyond 18 = .ok (.if_icmp .ge 34, 3) := by decide +kernel
theorem dX4_oldCellBeyond_21 : decode cX4_oldCellBeyond 21 = .ok (.iload_n 3, 1) := by decide +kernel
theorem dX4_oldCellBeyond_22 : decode cX4_oldCellBeyond 22 = .ok (.aload_n 0, 1) := by decide +kernel
theorem dX4_oldCellBeyond_23 : decode cX4_oldCellBeyond 23 = .ok (.getfield 26, 3) := by decide +kernel
theorem dX4_oldCellBeyond_26 : decode cX4_oldCellBeyond 26 = .ok (.iload 4, 2) := by decide +kernel
theorem dX4_oldCellBeyond_28 : decode cX4_oldCellBeyond 28 = .ok (.iaload, 1) := by decide +kernel
theorem dX4_oldCellBeyond_29 : decode cX4_oldCellBeyond 29 = .ok (.iadd, 1) := by decide +kernel
theorem dX4_oldCellBeyond_30 : decode cX4_oldCellBeyond 30 = .ok (.istore_n 3, 1) := by decide +kernel
theorem dX4_oldCellBeyond_31 : decode cX4_oldCellBeyond 31 = .ok (.iload_n 3, 1) := by decide +kernel
theorem dX4_oldCellBeyond_32 : decode cX4_oldCellBeyond 32 = .ok (.i2l, 1) := by decide +kernel
theorem dX4_oldCellBeyond_33 : decode cX4_oldCellBeyond 33 = .ok (.lload_n 1, 1) := by decide +kernel
theorem dX4_oldCellBeyond_34 : decode cX4_oldCellBeyond 34 = .ok (.lcmp, 1) := by decide +kernel
theorem dX4_oldCellBeyond_35 : decode cX4_oldCellBeyond 35 = .ok (.ifCond .le 11, 3) := by decide +kernel
theorem dX4_oldCellBeyond_38 : decode cX4_oldCellBeyond 38 = .ok (.aload_n 0, 1) := by decide +kernel
theorem dX4_oldCellBeyond_39 : decode cX4_oldCellBeyond 39 = .ok (.getfield 23, 3) := by decide +kernel
theorem dX4_oldCellBeyond_42 : decode cX4_oldCellBeyond 42 = .ok (.iload 4, 2) := by decide +kernel
theorem dX4_oldCellBeyond_44 : decode cX4_oldCellBeyond 44 = .ok (.iaload, 1) := by decide +kernel
theorem dX4_oldCellBeyond_45 : decode cX4_oldCellBeyond 45 = .ok (.ireturn, 1) := by decide +kernel
theorem dX4_oldCellBeyond_46 : decode cX4_oldCellBeyond 46 = .ok (.iinc 4 1, 3) := by decide +kernel
theorem dX4_oldCellBeyond_49 : decode cX4_oldCellBeyond 49 = .ok (.goto (-44), 3) := by decide +kernel
theorem dX4_oldCellBeyond_52 : decode cX4_oldCellBeyond 52 = .ok (.aload_n 0, 1) := by decide +kernel
theorem dX4_oldCellBeyond_53 : decode cX4_oldCellBeyond 53 = .ok (.getfield 23, 3) := by decide +kernel
theorem dX4_oldCellBeyond_56 : decode cX4_oldCellBeyond 56 = .ok (.iconst 0, 1) := by decide +kernel
theorem dX4_oldCellBeyond_57 : decode cX4_oldCellBeyond 57 = .ok (.iaload, 1) := by decide +kernel
theorem dX4_oldCellBeyond_58 : decode cX4_oldCellBeyond 58 = .ok (.ireturn, 1) := by decide +kernel
set_option maxRecDepth 20000 in
theorem ggX5_init_X3_init : GoodIn wsX5_init wsX3_init := goodIn_r _ [28, 29, 2, 3, 30, 31, 21, 32, 33, 34, 35, 6, 36, 37, 38, 39, 40, 41, 42, 43, 44, 45, 46, 47, 48, 49, 50, 51, 52, 53, 54, 55, 56, 57, 58, 59, 94, 95, 96] (by decide +kernel) (by decide +kernel)
set_option maxRecDepth 20000 in
theorem gX5_init_X3_init : GoodIn wsX5_init (wsX3_init) := ggX5_init_X3_init
set_option maxRecDepth 20000 in
theorem ggX5_init_X1_init : GoodIn wsX5_init wsX1_init := goodIn_r _ [62, 63, 2, 3, 64, 106] (by decide +kernel) (by decide +kernel)
set_option maxRecDepth 20000 in
theorem gX5_init_X1_init : GoodIn wsX5_init (wsX1_init) := ggX5_init_X1_init
set_option maxRecDepth 20000 in
theorem ggX5_init_X4_init : GoodIn wsX5_init wsX4_init := goodIn_r _ [67, 68, 2, 3, 69, 70, 21, 71, 72, 73, 74, 75, 76, 77, 78, 79, 80, 81, 82, 83, 84, 107, 108, 109, 110, 111, 112, 113, 114, 115, 116, 117, 121] (by decide +kernel) (by decide +kernel)
set_option maxRecDepth 20000 in
theorem gX5_init_X4_init : GoodIn wsX5_init (wsX4_init) := ggX5_init_X4_init
set_option maxRecDepth 20000 in
theorem ggX5_init_X0_init : GoodIn wsX5_init wsX0_init := goodIn_r _ [87, 88, 2, 3, 89, 90, 75, 76, 91, 92, 93, 80, 81, 82, 83, 84, 118, 119, 120, 121] (by decide +kernel) (by decide +kernel)
set_option maxRecDepth 20000 in
theorem gX5_init_X0_init : GoodIn wsX5_init (wsX0_init) := ggX5_init_X0_init
theorem dX5_init_0 : decode cX5_init 0 = .ok (.aload_n 0, 1) := by decide +kernel
theorem dX5_init_1 : decode cX5_init 1 = .ok (.invokespecial 1, 3) := by decide +kernel
theorem dX5_init_4 : decode cX5_init 4 = .ok (.aload_n 0, 1) := by decide +kernel
theorem dX5_init_5 : decode cX5_init 5 = .ok (.new 7, 3) := by decide +kernel
theorem dX5_init_8 : decode cX5_init 8 = .ok (.dup, 1) := by decide +kernel
theorem dX5_init_9 : decode cX5_init 9 = .ok (.invokespecial 9, 3) := by decide +kernel
theorem dX5_init_12 : decode cX5_init 12 = .ok (.putfield 10, 3) := by decide +kernel
theorem dX5_init_15 : decode cX5_init 15 = .ok (.aload_n 0, 1) := by decide +kernel
theorem dX5_init_16 : decode cX5_init 16 = .ok (.new 16, 3) := by decide +kernel
theorem dX5_init_19 : decode cX5_init 19 = .ok (.dup, 1) := by decide +kernel
theorem dX5_init_20 : decode cX5_init 20 = .ok (.invokespecial 18, 3) := by decide +kernel
theorem dX5_init_23 : decode cX5_init 23 = .ok (.putfield 19, 3) := by decide +kernel
theorem dX5_init_26 : decode cX5_init 26 = .ok (.aload_n 0, 1) := by decide +kernel
theorem dX5_init_27 : decode cX5_init 27 = .ok (.new 23, 3) := by decide +kernel
theorem dX5_init_30 : decode cX5_init 30 = .ok (.dup, 1) := by decide +kernel
theorem dX5_init_31 : decode cX5_init 31 = .ok (.aload_n 0, 1) := by decide +kernel
theorem dX5_init_32 : decode cX5_init 32 = .ok (.getfield 10, 3) := by decide +kernel
theorem dX5_init_35 : decode cX5_init 35 = .ok (.aload_n 0, 1) := by decide +kernel
theorem dX5_init_36 : decode cX5_init 36 = .ok (.getfield 19, 3) := by decide +kernel
theorem dX5_init_39 : decode cX5_init 39 = .ok (.invokespecial 25, 3) := by decide +kernel
theorem dX5_init_42 : decode cX5_init 42 = .ok (.putfield 28, 3) := by decide +kernel
theorem dX5_init_45 : decode cX5_init 45 = .ok (.aload_n 0, 1) := by decide +kernel
theorem dX5_init_46 : decode cX5_init 46 = .ok (.new 32, 3) := by decide +kernel
theorem dX5_init_49 : decode cX5_init 49 = .ok (.dup, 1) := by decide +kernel
theorem dX5_init_50 : decode cX5_init 50 = .ok (.aload_n 0, 1) := by decide +kernel
theorem dX5_init_51 : decode cX5_init 51 = .ok (.getfield 10, 3) := by decide +kernel
theorem dX5_init_54 : decode cX5_init 54 = .ok (.invokespecial 34, 3) := by decide +kernel
theorem dX5_init_57 : decode cX5_init 57 = .ok (.putfield 37, 3) := by decide +kernel
theorem dX5_init_60 : decode cX5_init 60 = .ok (.aload_n 0, 1) := by decide +kernel
theorem dX5_init_61 : decode cX5_init 61 = .ok (.new 32, 3) := by decide +kernel
theorem dX5_init_64 : decode cX5_init 64 = .ok (.dup, 1) := by decide +kernel
theorem dX5_init_65 : decode cX5_init 65 = .ok (.aload_n 0, 1) := by decide +kernel
theorem dX5_init_66 : decode cX5_init 66 = .ok (.getfield 10, 3) := by decide +kernel
theorem dX5_init_69 : decode cX5_init 69 = .ok (.invokespecial 34, 3) := by decide +kernel
theorem dX5_init_72 : decode cX5_init 72 = .ok (.putfield 41, 3) := by decide +kernel
theorem dX5_init_75 : decode cX5_init 75 = .ok (.aload_n 0, 1) := by decide +kernel
theorem dX5_init_76 : decode cX5_init 76 = .ok (.sipush 300, 3) := by decide +kernel
theorem dX5_init_79 : decode cX5_init 79 = .ok (.newarray .int, 2) := by decide +kernel
theorem dX5_init_81 : decode cX5_init 81 = .ok (.putfield 44, 3) := by decide +kernel
theorem dX5_init_84 : decode cX5_init 84 = .ok (.aload_n 0, 1) := by decide +kernel
theorem dX5_init_85 : decode cX5_init 85 = .ok (.sipush 300, 3) := by decide +kernel
theorem dX5_init_88 : decode cX5_init 88 = .ok (.newarray .int, 2) := by decide +kernel
theorem dX5_init_90 : decode cX5_init 90 = .ok (.putfield 48, 3) := by decide +kernel
theorem dX5_init_93 : decode cX5_init 93 = .ok (.aload_n 0, 1) := by decide +kernel
theorem dX5_init_94 : decode cX5_init 94 = .ok (.iconst 0, 1) := by decide +kernel
theorem dX5_init_95 : decode cX5_init 95 = .ok (.putfield 51, 3) := by decide +kernel
theorem dX5_init_98 : decode cX5_init 98 = .ok (.aload_n 0, 1) := by decide +kernel
theorem dX5_init_99 : decode cX5_init 99 = .ok (.iconst 0, 1) := by decide +kernel
theorem dX5_init_100 : decode cX5_init 100 = .ok (.putfield 55, 3) := by decide +kernel
theorem dX5_init_103 : decode cX5_init 103 = .ok (.return_, 1) := by decide +kernel
set_option maxRecDepth 20000 in
theorem ggX5_wall_X5_checkCell : GoodIn wsX5_wall wsX5_checkCell := goodIn_ca (goodIn_r _ [8, 9, 10, 11, 12, 7, 13] (by decide +kernel) (by decide +kernel)) (goodIn_sub (fun _ h => List.mem_cons_of_mem _ (List.mem_append_right _ h)) (by decide +kernel))
set_option maxRecDepth 20000 in
theorem gX5_wall_X5_checkCell : GoodIn wsX5_wall (va_wsS RX5 59 yX5_checkCell wsX5_checkCell) := goodIn_app (goodIn_of _ (by decide +kernel)) ggX5_wall_X5_checkCell
set_option maxRecDepth 20000 in
theorem ggX5_wall_X5_numberOf : GoodIn wsX5_wall wsX5_numberOf := goodIn_r _ [16] (by decide +kernel) (by decide +kernel)
set_option maxRecDepth 20000 in
theorem gX5_wall_X5_numberOf : GoodIn wsX5_wall (va_wsS RX5 63 yX5_numberOf wsX5_numberOf) := goodIn_app (goodIn_of _ (by decide +kernel)) ggX5_wall_X5_numberOf
set_option maxRecDepth 20000 in
theorem ggX5_wall_X3_isFree : GoodIn wsX5_wall wsX3_isFree := goodIn_r _ [21, 22, 23, 7, 24, 60, 61, 62] (by decide +kernel) (by decide +kernel)
set_option maxRecDepth 20000 in
theorem gX5_wall_X3_isFree : GoodIn wsX5_wall (wsV RX5 67 RX3 yX3_isFree wsX3_isFree) := goodIn_app (goodIn_of _ (by decide +kernel)) ggX5_wall_X3_isFree
set_option maxRecDepth 20000 in
theorem ggX5_wall_X3_freeCells : GoodIn wsX5_wall wsX3_freeCells := goodIn_r _ [28, 29, 60, 61, 62] (by decide +kernel) (by decide +kernel)
set_option maxRecDepth 20000 in
theorem gX5_wall_X3_freeCells : GoodIn wsX5_wall (wsV RX5 71 RX3 yX3_freeCells wsX3_freeCells) := goodIn_app (goodIn_of _ (by decide +kernel)) ggX5_wall_X3_freeCells
set_option maxRecDepth 20000 in
theorem ggX5_wall_X3_build : GoodIn wsX5_wall wsX3_build := goodIn_r _ [33, 22, 23, 7, 24, 34, 35, 36, 20, 37, 29, 38, 39, 40, 41, 42, 43, 44, 45, 46, 47, 48, 49, 12, 13, 15, 16, 50, 18, 19, 21, 60, 61, 62] (by decide +kernel) (by decide +kernel)
set_option maxRecDepth 20000 in
theorem gX5_wall_X3_build : GoodIn wsX5_wall (wsV RX5 78 RX3 yX3_build wsX3_build) := goodIn_app (goodIn_of _ (by decide +kernel)) ggX5_wall_X3_build
theorem dX5_wall_0 : decode cX5_wall 0 = .ok (.iload_n 1, 1) := by decide +kernel
theorem dX5_wall_1 : decode cX5_wall 1 = .ok (.iload_n 2, 1) := by decide +kernel
theorem dX5_wall_2 : decode cX5_wall 2 = .ok (.invokestatic 59, 3) := by decide +kernel
theorem dX5_wall_5 : decode cX5_wall 5 = .ok (.iload_n 1, 1) := by decide +kernel
theorem dX5_wall_6 : decode cX5_wall 6 = .ok (.iload_n 2, 1) := by decide +kernel
theorem dX5_wall_7 : decode cX5_wall 7 = .ok (.invokestatic 63, 3) := by decide +kernel
theorem dX5_wall_10 : decode cX5_wall 10 = .ok (.istore 4, 2) := by decide +kernel
theorem dX5_wall_12 : decode cX5_wall 12 = .ok (.aload_n 0, 1) := by decide +kernel
theorem dX5_wall_13 : decode cX5_wall 13 = .ok (.getfield 10, 3) := by decide +kernel
theorem dX5_wall_16 : decode cX5_wall 16 = .ok (.iload 4, 2) := by decide +kernel
theorem dX5_wall_18 : decode cX5_wall 18 = .ok (.invokevirtual 67, 3) := by decide +kernel
theorem dX5_wall_21 : decode cX5_wall 21 = .ok (.ifCond .ne 7, 3) := by decide +kernel
theorem dX5_wall_24 : decode cX5_wall 24 = .ok (.iconst 1, 1) := by decide +kernel
theorem dX5_wall_25 : decode cX5_wall 25 = .ok (.goto 4, 3) := by decide +kernel
theorem dX5_wall_28 : decode cX5_wall 28 = .ok (.iconst 0, 1) := by decide +kernel
theorem dX5_wall_29 : decode cX5_wall 29 = .ok (.istore 5, 2) := by decide +kernel
theorem dX5_wall_31 : decode cX5_wall 31 = .ok (.iload_n 3, 1) := by decide +kernel
theorem dX5_wall_32 : decode cX5_wall 32 = .ok (.ifCond .eq 23, 3) := by decide +kernel
theorem dX5_wall_35 : decode cX5_wall 35 = .ok (.iload 5, 2) := by decide +kernel
theorem dX5_wall_37 : decode cX5_wall 37 = .ok (.ifCond .ne 18, 3) := by decide +kernel
theorem dX5_wall_40 : decode cX5_wall 40 = .ok (.aload_n 0, 1) := by decide +kernel
theorem dX5_wall_41 : decode cX5_wall 41 = .ok (.getfield 10, 3) := by decide +kernel
theorem dX5_wall_44 : decode cX5_wall 44 = .ok (.invokevirtual 71, 3) := by decide +kernel
theorem dX5_wall_47 : decode cX5_wall 47 = .ok (.iconst 1, 1) := by decide +kernel
theorem dX5_wall_48 : decode cX5_wall 48 = .ok (.if_icmp .gt 7, 3) := by decide +kernel
theorem dX5_wall_51 : decode cX5_wall 51 = .ok (.iconst 1, 1) := by decide +kernel
theorem dX5_wall_52 : decode cX5_wall 52 = .ok (.goto 4, 3) := by decide +kernel
theorem dX5_wall_55 : decode cX5_wall 55 = .ok (.iconst 0, 1) := by decide +kernel
theorem dX5_wall_56 : decode cX5_wall 56 = .ok (.istore 6, 2) := by decide +kernel
theorem dX5_wall_58 : decode cX5_wall 58 = .ok (.aload_n 0, 1) := by decide +kernel
theorem dX5_wall_59 : decode cX5_wall 59 = .ok (.getfield 55, 3) := by decide +kernel
theorem dX5_wall_62 : decode cX5_wall 62 = .ok (.ifCond .ne 8, 3) := by decide +kernel
theorem dX5_wall_65 : decode cX5_wall 65 = .ok (.iload 6, 2) := by decide +kernel
theorem dX5_wall_67 : decode cX5_wall 67 = .ok (.ifCond .eq 11, 3) := by decide +kernel
theorem dX5_wall_70 : decode cX5_wall 70 = .ok (.new 75, 3) := by decide +kernel
theorem dX5_wall_73 : decode cX5_wall 73 = .ok (.dup, 1) := by decide +kernel
theorem dX5_wall_74 : decode cX5_wall 74 = .ok (.invokespecial 77, 3) := by decide +kernel
theorem dX5_wall_77 : decode cX5_wall 77 = .ok (.athrow, 1) := by decide +kernel
theorem dX5_wall_78 : decode cX5_wall 78 = .ok (.aload_n 0, 1) := by decide +kernel
theorem dX5_wall_79 : decode cX5_wall 79 = .ok (.getfield 10, 3) := by decide +kernel
theorem dX5_wall_82 : decode cX5_wall 82 = .ok (.iload 4, 2) := by decide +kernel
theorem dX5_wall_84 : decode cX5_wall 84 = .ok (.iload_n 3, 1) := by decide +kernel
theorem dX5_wall_85 : decode cX5_wall 85 = .ok (.invokevirtual 78, 3) := by decide +kernel
theorem dX5_wall_88 : decode cX5_wall 88 = .ok (.iload 5, 2) := by decide +kernel
theorem dX5_wall_90 : decode cX5_wall 90 = .ok (.ireturn, 1) := by decide +kernel
set_option maxRecDepth 20000 in
theorem ggX5_draw_X1_change : GoodIn wsX5_draw wsX1_change := goodIn_r _ [9, 10, 20] (by decide +kernel) (by decide +kernel)
set_option maxRecDepth 20000 in
theorem gX5_draw_X1_change : GoodIn wsX5_draw (wsV RX5 86 RX1 yX1_change wsX1_change) := goodIn_app (goodIn_of _ (by decide +kernel)) ggX5_draw_X1_change
theorem dX5_draw_0 : decode cX5_draw 0 = .ok (.iload_n 1, 1) := by decide +kernel
theorem dX5_draw_1 : decode cX5_draw 1 = .ok (.iconst 1, 1) := by decide +kernel
theorem dX5_draw_2 : decode cX5_draw 2 = .ok (.if_icmp .lt 9, 3) := by decide +kernel
theorem dX5_draw_5 : decode cX5_draw 5 = .ok (.iload_n 1, 1) := by decide +kernel
theorem dX5_draw_6 : decode cX5_draw 6 = .ok (.ldc 82, 2) := by decide +kernel
theorem dX5_draw_8 : decode cX5_draw 8 = .ok (.if_icmp .le 11, 3) := by decide +kernel
theorem dX5_draw_11 : decode cX5_draw 11 = .ok (.new 83, 3) := by decide +kernel
theorem dX5_draw_14 : decode cX5_draw 14 = .ok (.dup, 1) := by decide +kernel
theorem dX5_draw_15 : decode cX5_draw 15 = .ok (.invokespecial 85, 3) := by decide +kernel
theorem dX5_draw_18 : decode cX5_draw 18 = .ok (.athrow, 1) := by decide +kernel
theorem dX5_draw_19 : decode cX5_draw 19 = .ok (.aload_n 0, 1) := by decide +kernel
theorem dX5_draw_20 : decode cX5_draw 20 = .ok (.getfield 19, 3) := by decide +kernel
theorem dX5_draw_23 : decode cX5_draw 23 = .ok (.iload_n 1, 1) := by decide +kernel
theorem dX5_draw_24 : decode cX5_draw 24 = .ok (.invokevirtual 86, 3) := by decide +kernel
theorem dX5_draw_27 : decode cX5_draw 27 = .ok (.ireturn, 1) := by decide +kernel
set_option maxRecDepth 20000 in
theorem ggX5_spread_X4_begin : GoodIn wsX5_spread wsX4_begin := goodIn_r _ [11, 12, 13, 14, 15, 16, 17, 18, 19, 20, 21, 22, 23, 24, 25, 26, 27, 28, 29, 30, 31, 32, 33, 63, 64, 65, 66, 67, 68, 69, 70, 71, 72, 73, 74, 75, 76, 77] (by decide +kernel) (by decide +kernel)
set_option maxRecDepth 20000 in
theorem gX5_spread_X4_begin : GoodIn wsX5_spread (wsV RX5 90 RX4 yX4_begin wsX4_begin) := goodIn_app (goodIn_of _ (by decide +kernel)) ggX5_spread_X4_begin
set_option maxRecDepth 20000 in
theorem ggX5_spread_X0_begin : GoodIn wsX5_spread wsX0_begin := goodIn_r _ [38, 39, 40, 41, 42, 43, 23, 44, 26, 45, 46, 47, 48, 49, 50, 51, 52, 53, 78, 79, 80, 74, 75, 76, 81] (by decide +kernel) (by decide +kernel)
set_option maxRecDepth 20000 in
theorem gX5_spread_X0_begin : GoodIn wsX5_spread (wsV RX5 94 RX0 yX0_begin wsX0_begin) := goodIn_app (goodIn_of _ (by decide +kernel)) ggX5_spread_X0_begin
theorem dX5_spread_0 : decode cX5_spread 0 = .ok (.iload_n 1, 1) := by decide +kernel
theorem dX5_spread_1 : decode cX5_spread 1 = .ok (.bipush 8, 2) := by decide +kernel
theorem dX5_spread_3 : decode cX5_spread 3 = .ok (.if_icmp .lt 9, 3) := by decide +kernel
theorem dX5_spread_6 : decode cX5_spread 6 = .ok (.iload_n 1, 1) := by decide +kernel
theorem dX5_spread_7 : decode cX5_spread 7 = .ok (.bipush 64, 2) := by decide +kernel
theorem dX5_spread_9 : decode cX5_spread 9 = .ok (.if_icmp .le 11, 3) := by decide +kernel
theorem dX5_spread_12 : decode cX5_spread 12 = .ok (.new 83, 3) := by decide +kernel
theorem dX5_spread_15 : decode cX5_spread 15 = .ok (.dup, 1) := by decide +kernel
theorem dX5_spread_16 : decode cX5_spread 16 = .ok (.invokespecial 85, 3) := by decide +kernel
theorem dX5_spread_19 : decode cX5_spread 19 = .ok (.athrow, 1) := by decide +kernel
theorem dX5_spread_20 : decode cX5_spread 20 = .ok (.aload_n 0, 1) := by decide +kernel
theorem dX5_spread_21 : decode cX5_spread 21 = .ok (.getfield 28, 3) := by decide +kernel
theorem dX5_spread_24 : decode cX5_spread 24 = .ok (.iload_n 1, 1) := by decide +kernel
theorem dX5_spread_25 : decode cX5_spread 25 = .ok (.invokevirtual 90, 3) := by decide +kernel
theorem dX5_spread_28 : decode cX5_spread 28 = .ok (.aload_n 0, 1) := by decide +kernel
theorem dX5_spread_29 : decode cX5_spread 29 = .ok (.getfield 37, 3) := by decide +kernel
theorem dX5_spread_32 : decode cX5_spread 32 = .ok (.invokevirtual 94, 3) := by decide +kernel
theorem dX5_spread_35 : decode cX5_spread 35 = .ok (.aload_n 0, 1) := by decide +kernel
theorem dX5_spread_36 : decode cX5_spread 36 = .ok (.iconst 0, 1) := by decide +kernel
theorem dX5_spread_37 : decode cX5_spread 37 = .ok (.putfield 51, 3) := by decide +kernel
theorem dX5_spread_40 : decode cX5_spread 40 = .ok (.aload_n 0, 1) := by decide +kernel
theorem dX5_spread_41 : decode cX5_spread 41 = .ok (.iconst 1, 1) := by decide +kernel
theorem dX5_spread_42 : decode cX5_spread 42 = .ok (.putfield 55, 3) := by decide +kernel
theorem dX5_spread_45 : decode cX5_spread 45 = .ok (.return_, 1) := by decide +kernel
set_option maxRecDepth 20000 in
theorem ggX5_drive_X5_checkDirection : GoodIn wsX5_drive wsX5_checkDirection := goodIn_ca (goodIn_r _ [6, 7, 8, 9, 10, 5, 11] (by decide +kernel) (by decide +kernel)) (goodIn_sub (fun _ h => List.mem_cons_of_mem _ (List.mem_append_left _ (List.mem_append_right _ h))) (by decide +kernel))
set_option maxRecDepth 20000 in
theorem gX5_drive_X5_checkDirection : GoodIn wsX5_drive (va_wsS RX5 96 yX5_checkDirection wsX5_checkDirection) := goodIn_app (goodIn_of _ (by decide +kernel)) ggX5_drive_X5_checkDirection
set_option maxRecDepth 20000 in
theorem ggX5_drive_X5_checkMayTell : GoodIn wsX5_drive wsX5_checkMayTell := goodIn_ca (goodIn_r _ [15, 16, 17, 18, 19, 126, 127, 128, 129, 130, 131, 132, 133, 134] (by decide +kernel) (by decide +kernel)) (goodIn_sub (fun _ h => List.mem_cons_of_mem _ (List.mem_append_right _ h)) (by decide +kernel))
set_option maxRecDepth 20000 in
theorem gX5_drive_X5_checkMayTell : GoodIn wsX5_drive (wsV RX5 99 RX5 yX5_checkMayTell wsX5_checkMayTell) := goodIn_app (goodIn_of _ (by decide +kernel)) ggX5_drive_X5_checkMayTell
set_option maxRecDepth 20000 in
theorem ggX5_drive_X4_move : GoodIn wsX5_drive wsX4_move := goodIn_r _ [24, 25, 26, 27, 28, 29, 30, 23, 31, 32, 33, 34, 35, 36, 37, 38, 39, 40, 41, 42, 43, 44, 45, 46, 47, 48, 49, 50, 51, 52, 53, 54, 5, 55, 10, 11, 56, 57, 58, 59, 60, 61, 62, 63, 64, 135, 136, 137, 138, 139, 140, 141, 142, 143, 144, 145, 146, 147, 148, 149] (by decide +kernel) (by decide +kernel)
set_option maxRecDepth 20000 in
theorem gX5_drive_X4_move : GoodIn wsX5_drive (wsV RX5 102 RX4 yX4_move wsX4_move) := goodIn_app (goodIn_of _ (by decide +kernel)) ggX5_drive_X4_move
set_option maxRecDepth 20000 in
theorem ggX5_drive_X0_push : GoodIn wsX5_drive wsX0_push := goodIn_r _ [69, 70, 71, 72, 73, 74, 75, 76, 77, 78, 79, 80, 81, 82, 83, 84, 85, 86, 87, 88, 89, 90, 91, 43, 92, 93, 54, 5, 55, 94, 95, 96, 97, 98, 99, 100, 101, 102, 41, 42, 44, 45, 46, 47, 48, 49, 50, 51, 52, 53, 10, 11, 56, 57, 58, 59, 60, 61, 62, 63, 64, 103, 104, 105, 68, 106, 107, 108, 109, 110, 111, 112, 113, 114, 115, 116, 117, 118, 119, 150, 151, 152, 153, 147, 148, 149] (by decide +kernel) (by decide +kernel)
set_option maxRecDepth 20000 in
theorem gX5_drive_X0_push : GoodIn wsX5_drive (wsV RX5 105 RX0 yX0_push wsX0_push) := goodIn_app (goodIn_of _ (by decide +kernel)) ggX5_drive_X0_push
set_option maxRecDepth 20000 in
theorem ggX5_drive_X5_keep : GoodIn wsX5_drive wsX5_keep := goodIn_r _ [123, 19, 124, 125, 126, 127, 128, 129, 130, 131, 132, 133, 134] (by decide +kernel) (by decide +kernel)
set_option maxRecDepth 20000 in
theorem gX5_drive_X5_keep : GoodIn wsX5_drive (wsV RX5 108 RX5 yX5_keep wsX5_keep) := goodIn_app (goodIn_of _ (by decide +kernel)) ggX5_drive_X5_keep
theorem dX5_drive_0 : decode cX5_drive 0 = .ok (.iload_n 1, 1) := by decide +kernel
theorem dX5_drive_1 : decode cX5_drive 1 = .ok (.invokestatic 96, 3) := by decide +kernel
theorem dX5_drive_4 : decode cX5_drive 4 = .ok (.aload_n 0, 1) := by decide +kernel
theorem dX5_drive_5 : decode cX5_drive 5 = .ok (.invokevirtual 99, 3) := by decide +kernel
theorem dX5_drive_8 : decode cX5_drive 8 = .ok (.aload_n 0, 1) := by decide +kernel
theorem dX5_drive_9 : decode cX5_drive 9 = .ok (.getfield 28, 3) := by decide +kernel
theorem dX5_drive_12 : decode cX5_drive 12 = .ok (.iload_n 1, 1) := by decide +kernel
theorem dX5_drive_13 : decode cX5_drive 13 = .ok (.invokevirtual 102, 3) := by decide +kernel
theorem dX5_drive_16 : decode cX5_drive 16 = .ok (.aload_n 0, 1) := by decide +kernel
theorem dX5_drive_17 : decode cX5_drive 17 = .ok (.getfield 37, 3) := by decide +kernel
theorem dX5_drive_20 : decode cX5_drive 20 = .ok (.iload_n 1, 1) := by decide +kernel
theorem dX5_drive_21 : decode cX5_drive 21 = .ok (.invokevirtual 105, 3) := by decide +kernel
theorem dX5_drive_24 : decode cX5_drive 24 = .ok (.aload_n 0, 1) := by decide +kernel
theorem dX5_drive_25 : decode cX5_drive 25 = .ok (.iload_n 1, 1) := by decide +kernel
theorem dX5_drive_26 : decode cX5_drive 26 = .ok (.iconst (-1), 1) := by decide +kernel
theorem dX5_drive_27 : decode cX5_drive 27 = .ok (.invokevirtual 108, 3) := by decide +kernel
theorem dX5_drive_30 : decode cX5_drive 30 = .ok (.return_, 1) := by decide +kernel
set_option maxRecDepth 20000 in
theorem ggX5_read_X5_checkDirection : GoodIn wsX5_read wsX5_checkDirection := goodIn_ca (goodIn_r _ [8, 9, 10, 11, 12, 7, 13] (by decide +kernel) (by decide +kernel)) (goodIn_sub (fun _ h => List.mem_cons_of_mem _ (List.mem_append_left _ (List.mem_append_right _ h))) (by decide +kernel))
set_option maxRecDepth 20000 in
theorem gX5_read_X5_checkDirection : GoodIn wsX5_read (va_wsS RX5 96 yX5_checkDirection wsX5_checkDirection) := goodIn_app (goodIn_of _ (by decide +kernel)) ggX5_read_X5_checkDirection
set_option maxRecDepth 20000 in
theorem ggX5_read_X5_checkMayTell : GoodIn wsX5_read wsX5_checkMayTell := goodIn_ca (goodIn_r _ [17, 18, 19, 20, 21, 158, 159, 160, 161, 162, 163, 164, 165, 166] (by decide +kernel) (by decide +kernel)) (goodIn_sub (fun _ h => List.mem_cons_of_mem _ (List.mem_append_right _ h)) (by decide +kernel))
set_option maxRecDepth 20000 in
theorem gX5_read_X5_checkMayTell : GoodIn wsX5_read (wsV RX5 99 RX5 yX5_checkMayTell wsX5_checkMayTell) := goodIn_app (goodIn_of _ (by decide +kernel)) ggX5_read_X5_checkMayTell
set_option maxRecDepth 20000 in
theorem ggX5_read_X4_weigh : GoodIn wsX5_read wsX4_weigh := goodIn_r _ [26, 27, 28, 29, 30, 31, 32, 33, 34, 35, 36, 37, 38, 39, 40, 41, 42, 43, 44, 45, 7, 46, 12, 13, 47, 48, 49, 50, 51, 25, 52, 53, 54, 55, 56, 57, 58, 59, 60, 61, 62, 63, 64, 65, 66, 67, 68, 69, 70, 71, 72, 73, 74, 75, 76, 77, 78, 79, 80, 81, 82, 83, 84, 85, 86, 87, 88, 89, 90, 91, 92, 93, 94, 95, 96, 97, 98, 99, 100, 101, 102, 103, 104, 105, 106, 107, 108, 109, 110, 111, 112, 113, 167, 168, 169, 170, 171, 172, 173, 174, 175, 176, 177, 178, 179, 180, 181, 182] (by decide +kernel) (by decide +kernel)
set_option maxRecDepth 20000 in
theorem gX5_read_X4_weigh : GoodIn wsX5_read (wsV RX5 111 RX4 yX4_weigh wsX4_weigh) := goodIn_app (goodIn_of _ (by decide +kernel)) ggX5_read_X4_weigh
set_option maxRecDepth 20000 in
theorem ggX5_read_X0_weigh : GoodIn wsX5_read wsX0_weigh := goodIn_r _ [118, 119, 120, 121, 83, 84, 75, 85, 77, 45, 7, 46, 122, 32, 33, 34, 35, 36, 37, 38, 39, 40, 41, 42, 43, 44, 12, 13, 123, 124, 125, 126, 127, 128, 129, 130, 131, 132, 133, 134, 135, 136, 117, 137, 138, 139, 140, 141, 108, 142, 143, 144, 145, 146, 147, 148, 149, 150, 151, 183, 184, 185, 181, 178, 179, 180] (by decide +kernel) (by decide +kernel)
set_option maxRecDepth 20000 in
theorem gX5_read_X0_weigh : GoodIn wsX5_read (wsV RX5 114 RX0 yX0_weigh wsX0_weigh) := goodIn_app (goodIn_of _ (by decide +kernel)) ggX5_read_X0_weigh
set_option maxRecDepth 20000 in
theorem ggX5_read_X5_keep : GoodIn wsX5_read wsX5_keep := goodIn_r _ [155, 21, 156, 157, 158, 159, 160, 161, 162, 163, 164, 165, 166] (by decide +kernel) (by decide +kernel)
set_option maxRecDepth 20000 in
theorem gX5_read_X5_keep : GoodIn wsX5_read (wsV RX5 108 RX5 yX5_keep wsX5_keep) := goodIn_app (goodIn_of _ (by decide +kernel)) ggX5_read_X5_keep
theorem dX5_read_0 : decode cX5_read 0 = .ok (.iload_n 1, 1) := by decide +kernel
theorem dX5_read_1 : decode cX5_read 1 = .ok (.invokestatic 96, 3) := by decide +kernel
theorem dX5_read_4 : decode cX5_read 4 = .ok (.iload_n 2, 1) := by decide +kernel
theorem dX5_read_5 : decode cX5_read 5 = .ok (.ifCond .lt 9, 3) := by decide +kernel
theorem dX5_read_8 : decode cX5_read 8 = .ok (.iload_n 2, 1) := by decide +kernel
theorem dX5_read_9 : decode cX5_read 9 = .ok (.bipush 8, 2) := by decide +kernel
theorem dX5_read_11 : decode cX5_read 11 = .ok (.if_icmp .lt 11, 3) := by decide +kernel
theorem dX5_read_14 : decode cX5_read 14 = .ok (.new 83, 3) := by decide +kernel
theorem dX5_read_17 : decode cX5_read 17 = .ok (.dup, 1) := by decide +kernel
theorem dX5_read_18 : decode cX5_read 18 = .ok (.invokespecial 85, 3) := by decide +kernel
theorem dX5_read_21 : decode cX5_read 21 = .ok (.athrow, 1) := by decide +kernel
theorem dX5_read_22 : decode cX5_read 22 = .ok (.aload_n 0, 1) := by decide +kernel
theorem dX5_read_23 : decode cX5_read 23 = .ok (.invokevirtual 99, 3) := by decide +kernel
theorem dX5_read_26 : decode cX5_read 26 = .ok (.aload_n 0, 1) := by decide +kernel
theorem dX5_read_27 : decode cX5_read 27 = .ok (.getfield 28, 3) := by decide +kernel
theorem dX5_read_30 : decode cX5_read 30 = .ok (.iload_n 1, 1) := by decide +kernel
theorem dX5_read_31 : decode cX5_read 31 = .ok (.iload_n 2, 1) := by decide +kernel
theorem dX5_read_32 : decode cX5_read 32 = .ok (.invokevirtual 111, 3) := by decide +kernel
theorem dX5_read_35 : decode cX5_read 35 = .ok (.istore_n 3, 1) := by decide +kernel
theorem dX5_read_36 : decode cX5_read 36 = .ok (.aload_n 0, 1) := by decide +kernel
theorem dX5_read_37 : decode cX5_read 37 = .ok (.getfield 37, 3) := by decide +kernel
theorem dX5_read_40 : decode cX5_read 40 = .ok (.iload_n 1, 1) := by decide +kernel
theorem dX5_read_41 : decode cX5_read 41 = .ok (.iload_n 2, 1) := by decide +kernel
theorem dX5_read_42 : decode cX5_read 42 = .ok (.invokevirtual 114, 3) := by decide +kernel
theorem dX5_read_45 : decode cX5_read 45 = .ok (.aload_n 0, 1) := by decide +kernel
theorem dX5_read_46 : decode cX5_read 46 = .ok (.iload_n 1, 1) := by decide +kernel
theorem dX5_read_47 : decode cX5_read 47 = .ok (.iload_n 2, 1) := by decide +kernel
theorem dX5_read_48 : decode cX5_read 48 = .ok (.invokevirtual 108, 3) := by decide +kernel
theorem dX5_read_51 : decode cX5_read 51 = .ok (.iload_n 3, 1) := by decide +kernel
theorem dX5_read_52 : decode cX5_read 52 = .ok (.ireturn, 1) := by decide +kernel
set_option maxRecDepth 20000 in
theorem ggX5_toRead_X5_checkCell : GoodIn wsX5_toRead wsX5_checkCell := goodIn_ca (goodIn_r _ [5, 6, 7, 8, 9, 4, 10] (by decide +kernel) (by decide +kernel)) (goodIn_sub (fun _ h => List.mem_cons_of_mem _ (List.mem_append_right _ h)) (by decide +kernel))
set_option maxRecDepth 20000 in
theorem gX5_toRead_X5_checkCell : GoodIn wsX5_toRead (va_wsS RX5 59 yX5_checkCell wsX5_checkCell) := goodIn_app (goodIn_of _ (by decide +kernel)) ggX5_toRead_X5_checkCell
set_option maxRecDepth 20000 in
theorem ggX5_toRead_X5_checkDirection : GoodIn wsX5_toRead wsX5_checkDirection := goodIn_ca (goodIn_r _ [13, 6, 7, 14, 15, 4, 16] (by decide +kernel) (by decide +kernel)) (goodIn_sub (fun _ h => List.mem_cons_of_mem _ (List.mem_append_right _ h)) (by decide +kernel))
set_option maxRecDepth 20000 in
theorem gX5_toRead_X5_checkDirection : GoodIn wsX5_toRead (va_wsS RX5 96 yX5_checkDirection wsX5_checkDirection) := goodIn_app (goodIn_of _ (by decide +kernel)) ggX5_toRead_X5_checkDirection
set_option maxRecDepth 20000 in
theorem ggX5_toRead_X5_numberOf : GoodIn wsX5_toRead wsX5_numberOf := goodIn_r _ [19] (by decide +kernel) (by decide +kernel)
set_option maxRecDepth 20000 in
theorem gX5_toRead_X5_numberOf : GoodIn wsX5_toRead (va_wsS RX5 63 yX5_numberOf wsX5_numberOf) := goodIn_app (goodIn_of _ (by decide +kernel)) ggX5_toRead_X5_numberOf
set_option maxRecDepth 20000 in
theorem ggX5_toRead_X3_stepsAhead : GoodIn wsX5_toRead wsX3_stepsAhead := goodIn_r _ [24, 25, 26, 4, 27, 15, 16, 37, 38, 39] (by decide +kernel) (by decide +kernel)
set_option maxRecDepth 20000 in
theorem gX5_toRead_X3_stepsAhead : GoodIn wsX5_toRead (wsV RX5 116 RX3 yX3_stepsAhead wsX3_stepsAhead) := goodIn_app (goodIn_of _ (by decide +kernel)) ggX5_toRead_X3_stepsAhead
theorem dX5_toRead_0 : decode cX5_toRead 0 = .ok (.iload_n 1, 1) := by decide +kernel
theorem dX5_toRead_1 : decode cX5_toRead 1 = .ok (.iload_n 2, 1) := by decide +kernel
theorem dX5_toRead_2 : decode cX5_toRead 2 = .ok (.invokestatic 59, 3) := by decide +kernel
theorem dX5_toRead_5 : decode cX5_toRead 5 = .ok (.iload_n 3, 1) := by decide +kernel
theorem dX5_toRead_6 : decode cX5_toRead 6 = .ok (.invokestatic 96, 3) := by decide +kernel
theorem dX5_toRead_9 : decode cX5_toRead 9 = .ok (.aload_n 0, 1) := by decide +kernel
theorem dX5_toRead_10 : decode cX5_toRead 10 = .ok (.getfield 10, 3) := by decide +kernel
theorem dX5_toRead_13 : decode cX5_toRead 13 = .ok (.iload_n 1, 1) := by decide +kernel
theorem dX5_toRead_14 : decode cX5_toRead 14 = .ok (.iload_n 2, 1) := by decide +kernel
theorem dX5_toRead_15 : decode cX5_toRead 15 = .ok (.invokestatic 63, 3) := by decide +kernel
theorem dX5_toRead_18 : decode cX5_toRead 18 = .ok (.iload_n 3, 1) := by decide +kernel
theorem dX5_toRead_19 : decode cX5_toRead 19 = .ok (.invokevirtual 116, 3) := by decide +kernel
theorem dX5_toRead_22 : decode cX5_toRead 22 = .ok (.ireturn, 1) := by decide +kernel
set_option maxRecDepth 20000 in
theorem ggX5_samples_X5_checkSpread : GoodIn wsX5_samples wsX5_checkSpread := goodIn_ca (goodIn_r _ [6, 7, 8, 9, 16, 17, 18, 19, 20, 21, 22, 23, 24] (by decide +kernel) (by decide +kernel)) (goodIn_sub (fun _ h => List.mem_cons_of_mem _ (List.mem_append_right _ h)) (by decide +kernel))
set_option maxRecDepth 20000 in
theorem gX5_samples_X5_checkSpread : GoodIn wsX5_samples (wsV RX5 119 RX5 yX5_checkSpread wsX5_checkSpread) := goodIn_app (goodIn_of _ (by decide +kernel)) ggX5_samples_X5_checkSpread
set_option maxRecDepth 20000 in
theorem ggX5_samples_X4_size : GoodIn wsX5_samples wsX4_size := goodIn_r _ [14, 15, 25, 26, 27, 28, 29, 30, 31, 32, 33, 34, 35] (by decide +kernel) (by decide +kernel)
set_option maxRecDepth 20000 in
theorem gX5_samples_X4_size : GoodIn wsX5_samples (wsV RX5 122 RX4 yX4_size wsX4_size) := goodIn_app (goodIn_of _ (by decide +kernel)) ggX5_samples_X4_size
theorem dX5_samples_0 : decode cX5_samples 0 = .ok (.aload_n 0, 1) := by decide +kernel
theorem dX5_samples_1 : decode cX5_samples 1 = .ok (.invokevirtual 119, 3) := by decide +kernel
theorem dX5_samples_4 : decode cX5_samples 4 = .ok (.aload_n 0, 1) := by decide +kernel
theorem dX5_samples_5 : decode cX5_samples 5 = .ok (.getfield 28, 3) := by decide +kernel
theorem dX5_samples_8 : decode cX5_samples 8 = .ok (.invokevirtual 122, 3) := by decide +kernel
theorem dX5_samples_11 : decode cX5_samples 11 = .ok (.ireturn, 1) := by decide +kernel
set_option maxRecDepth 20000 in
theorem ggX5_sample_X4_size : GoodIn wsX5_sample wsX4_size := goodIn_r _ [8, 9, 24, 25, 26, 27, 28, 29, 30, 31, 32, 33, 34] (by decide +kernel) (by decide +kernel)
set_option maxRecDepth 20000 in
theorem gX5_sample_X4_size : GoodIn wsX5_sample (wsV RX5 122 RX4 yX4_size wsX4_size) := goodIn_app (goodIn_of _ (by decide +kernel)) ggX5_sample_X4_size
set_option maxRecDepth 20000 in
theorem ggX5_sample_X4_cellOf : GoodIn wsX5_sample wsX4_cellOf := goodIn_r _ [13, 14, 24, 25, 26, 27, 28, 29, 30, 31, 32, 33, 34] (by decide +kernel) (by decide +kernel)
set_option maxRecDepth 20000 in
theorem gX5_sample_X4_cellOf : GoodIn wsX5_sample (wsV RX5 128 RX4 yX4_cellOf wsX4_cellOf) := goodIn_app (goodIn_of _ (by decide +kernel)) ggX5_sample_X4_cellOf
theorem dX5_sample_0 : decode cX5_sample 0 = .ok (.iload_n 1, 1) := by decide +kernel
theorem dX5_sample_1 : decode cX5_sample 1 = .ok (.ifCond .lt 14, 3) := by decide +kernel
theorem dX5_sample_4 : decode cX5_sample 4 = .ok (.iload_n 1, 1) := by decide +kernel
theorem dX5_sample_5 : decode cX5_sample 5 = .ok (.aload_n 0, 1) := by decide +kernel
theorem dX5_sample_6 : decode cX5_sample 6 = .ok (.getfield 28, 3) := by decide +kernel
theorem dX5_sample_9 : decode cX5_sample 9 = .ok (.invokevirtual 122, 3) := by decide +kernel
theorem dX5_sample_12 : decode cX5_sample 12 = .ok (.if_icmp .lt 11, 3) := by decide +kernel
theorem dX5_sample_15 : decode cX5_sample 15 = .ok (.new 125, 3) := by decide +kernel
theorem dX5_sample_18 : decode cX5_sample 18 = .ok (.dup, 1) := by decide +kernel
theorem dX5_sample_19 : decode cX5_sample 19 = .ok (.invokespecial 127, 3) := by decide +kernel
theorem dX5_sample_22 : decode cX5_sample 22 = .ok (.athrow, 1) := by decide +kernel
theorem dX5_sample_23 : decode cX5_sample 23 = .ok (.aload_n 0, 1) := by decide +kernel
theorem dX5_sample_24 : decode cX5_sample 24 = .ok (.getfield 28, 3) := by decide +kernel
theorem dX5_sample_27 : decode cX5_sample 27 = .ok (.iload_n 1, 1) := by decide +kernel
theorem dX5_sample_28 : decode cX5_sample 28 = .ok (.invokevirtual 128, 3) := by decide +kernel
theorem dX5_sample_31 : decode cX5_sample 31 = .ok (.ireturn, 1) := by decide +kernel
set_option maxRecDepth 20000 in
theorem ggX5_count_X5_checkCell : GoodIn wsX5_count wsX5_checkCell := goodIn_ca (goodIn_r _ [5, 6, 7, 8, 9, 4, 10] (by decide +kernel) (by decide +kernel)) (goodIn_sub (fun _ h => List.mem_cons_of_mem _ (List.mem_append_left _ (List.mem_append_right _ h))) (by decide +kernel))
set_option maxRecDepth 20000 in
theorem gX5_count_X5_checkCell : GoodIn wsX5_count (va_wsS RX5 59 yX5_checkCell wsX5_checkCell) := goodIn_app (goodIn_of _ (by decide +kernel)) ggX5_count_X5_checkCell
set_option maxRecDepth 20000 in
theorem ggX5_count_X5_checkSpread : GoodIn wsX5_count wsX5_checkSpread := goodIn_ca (goodIn_r _ [14, 15, 16, 17, 45, 46, 47, 48, 49, 50, 51, 52, 53] (by decide +kernel) (by decide +kernel)) (goodIn_sub (fun _ h => List.mem_cons_of_mem _ (List.mem_append_right _ h)) (by decide +kernel))
set_option maxRecDepth 20000 in
theorem gX5_count_X5_checkSpread : GoodIn wsX5_count (wsV RX5 119 RX5 yX5_checkSpread wsX5_checkSpread) := goodIn_app (goodIn_of _ (by decide +kernel)) ggX5_count_X5_checkSpread
set_option maxRecDepth 20000 in
theorem ggX5_count_X4_chart : GoodIn wsX5_count wsX4_chart := goodIn_r _ [22, 23, 24, 25, 26, 27, 28, 29, 30, 31, 32, 33, 34, 35, 36, 4, 37, 54, 55, 56, 57, 58, 59, 60, 61, 62, 63, 64, 65] (by decide +kernel) (by decide +kernel)
set_option maxRecDepth 20000 in
theorem gX5_count_X4_chart : GoodIn wsX5_count (wsV RX5 131 RX4 yX4_chart wsX4_chart) := goodIn_app (goodIn_of _ (by decide +kernel)) ggX5_count_X4_chart
set_option maxRecDepth 20000 in
theorem ggX5_count_X5_numberOf : GoodIn wsX5_count wsX5_numberOf := goodIn_r _ [40] (by decide +kernel) (by decide +kernel)
set_option maxRecDepth 20000 in
theorem gX5_count_X5_numberOf : GoodIn wsX5_count (va_wsS RX5 63 yX5_numberOf wsX5_numberOf) := goodIn_app (goodIn_of _ (by decide +kernel)) ggX5_count_X5_numberOf
set_option maxRecDepth 20000 in
theorem ggX5_count_X2_at : GoodIn wsX5_count wsX2_at := goodIn_r _ [44, 31, 36, 4, 37, 65] (by decide +kernel) (by decide +kernel)
set_option maxRecDepth 20000 in
theorem gX5_count_X2_at : GoodIn wsX5_count (wsV RX5 135 RX2 yX2_at wsX2_at) := goodIn_app (goodIn_of _ (by decide +kernel)) ggX5_count_X2_at
theorem dX5_count_0 : decode cX5_count 0 = .ok (.iload_n 1, 1) := by decide +kernel
theorem dX5_count_1 : decode cX5_count 1 = .ok (.iload_n 2, 1) := by decide +kernel
theorem dX5_count_2 : decode cX5_count 2 = .ok (.invokestatic 59, 3) := by decide +kernel
theorem dX5_count_5 : decode cX5_count 5 = .ok (.aload_n 0, 1) := by decide +kernel
theorem dX5_count_6 : decode cX5_count 6 = .ok (.invokevirtual 119, 3) := by decide +kernel
theorem dX5_count_9 : decode cX5_count 9 = .ok (.aload_n 0, 1) := by decide +kernel
theorem dX5_count_10 : decode cX5_count 10 = .ok (.getfield 28, 3) := by decide +kernel
theorem dX5_count_13 : decode cX5_count 13 = .ok (.invokevirtual 131, 3) := by decide +kernel
theorem dX5_count_16 : decode cX5_count 16 = .ok (.iload_n 1, 1) := by decide +kernel
theorem dX5_count_17 : decode cX5_count 17 = .ok (.iload_n 2, 1) := by decide +kernel
theorem dX5_count_18 : decode cX5_count 18 = .ok (.invokestatic 63, 3) := by decide +kernel
theorem dX5_count_21 : decode cX5_count 21 = .ok (.invokevirtual 135, 3) := by decide +kernel
theorem dX5_count_24 : decode cX5_count 24 = .ok (.l2i, 1) := by decide +kernel
theorem dX5_count_25 : decode cX5_count 25 = .ok (.ireturn, 1) := by decide +kernel
set_option maxRecDepth 20000 in
theorem ggX5_belief_X5_checkCell : GoodIn wsX5_belief wsX5_checkCell := goodIn_ca (goodIn_r _ [5, 6, 7, 8, 9, 4, 10] (by decide +kernel) (by decide +kernel)) (goodIn_sub (fun _ h => List.mem_cons_of_mem _ (List.mem_append_left _ (List.mem_append_right _ h))) (by decide +kernel))
set_option maxRecDepth 20000 in
theorem gX5_belief_X5_checkCell : GoodIn wsX5_belief (va_wsS RX5 59 yX5_checkCell wsX5_checkCell) := goodIn_app (goodIn_of _ (by decide +kernel)) ggX5_belief_X5_checkCell
set_option maxRecDepth 20000 in
theorem ggX5_belief_X5_checkSpread : GoodIn wsX5_belief wsX5_checkSpread := goodIn_ca (goodIn_r _ [14, 15, 16, 17, 35, 36, 37, 38, 39, 40, 41, 42, 43] (by decide +kernel) (by decide +kernel)) (goodIn_sub (fun _ h => List.mem_cons_of_mem _ (List.mem_append_right _ h)) (by decide +kernel))
set_option maxRecDepth 20000 in
theorem gX5_belief_X5_checkSpread : GoodIn wsX5_belief (wsV RX5 119 RX5 yX5_checkSpread wsX5_checkSpread) := goodIn_app (goodIn_of _ (by decide +kernel)) ggX5_belief_X5_checkSpread
set_option maxRecDepth 20000 in
theorem ggX5_belief_X0_chart : GoodIn wsX5_belief wsX0_chart := goodIn_r _ [22, 23, 44, 45, 46] (by decide +kernel) (by decide +kernel)
set_option maxRecDepth 20000 in
theorem gX5_belief_X0_chart : GoodIn wsX5_belief (wsV RX5 141 RX0 yX0_chart wsX0_chart) := goodIn_app (goodIn_of _ (by decide +kernel)) ggX5_belief_X0_chart
set_option maxRecDepth 20000 in
theorem ggX5_belief_X5_numberOf : GoodIn wsX5_belief wsX5_numberOf := goodIn_r _ [26] (by decide +kernel) (by decide +kernel)
set_option maxRecDepth 20000 in
theorem gX5_belief_X5_numberOf : GoodIn wsX5_belief (va_wsS RX5 63 yX5_numberOf wsX5_numberOf) := goodIn_app (goodIn_of _ (by decide +kernel)) ggX5_belief_X5_numberOf
set_option maxRecDepth 20000 in
theorem ggX5_belief_X2_at : GoodIn wsX5_belief wsX2_at := goodIn_r _ [31, 32, 33, 4, 34, 47] (by decide +kernel) (by decide +kernel)
set_option maxRecDepth 20000 in
theorem gX5_belief_X2_at : GoodIn wsX5_belief (wsV RX5 135 RX2 yX2_at wsX2_at) := goodIn_app (goodIn_of _ (by decide +kernel)) ggX5_belief_X2_at
theorem dX5_belief_0 : decode cX5_belief 0 = .ok (.iload_n 1, 1) := by decide +kernel
theorem dX5_belief_1 : decode cX5_belief 1 = .ok (.iload_n 2, 1) := by decide +kernel
theorem dX5_belief_2 : decode cX5_belief 2 = .ok (.invokestatic 59, 3) := by decide +kernel
theorem dX5_belief_5 : decode cX5_belief 5 = .ok (.aload_n 0, 1) := by decide +kernel
theorem dX5_belief_6 : decode cX5_belief 6 = .ok (.invokevirtual 119, 3) := by decide +kernel
theorem dX5_belief_9 : decode cX5_belief 9 = .ok (.aload_n 0, 1) := by decide +kernel
theorem dX5_belief_10 : decode cX5_belief 10 = .ok (.getfield 37, 3) := by decide +kernel
theorem dX5_belief_13 : decode cX5_belief 13 = .ok (.invokevirtual 141, 3) := by decide +kernel
theorem dX5_belief_16 : decode cX5_belief 16 = .ok (.iload_n 1, 1) := by decide +kernel
theorem dX5_belief_17 : decode cX5_belief 17 = .ok (.iload_n 2, 1) := by decide +kernel
theorem dX5_belief_18 : decode cX5_belief 18 = .ok (.invokestatic 63, 3) := by decide +kernel
theorem dX5_belief_21 : decode cX5_belief 21 = .ok (.invokevirtual 135, 3) := by decide +kernel
theorem dX5_belief_24 : decode cX5_belief 24 = .ok (.lreturn, 1) := by decide +kernel
set_option maxRecDepth 20000 in
theorem ggX5_beliefAnew_X5_checkCell : GoodIn wsX5_beliefAnew wsX5_checkCell := goodIn_ca (goodIn_r _ [5, 6, 7, 8, 9, 4, 10] (by decide +kernel) (by decide +kernel)) (goodIn_sub (fun _ h => List.mem_cons_of_mem _ (List.mem_append_left _ (List.mem_append_right _ h))) (by decide +kernel))
set_option maxRecDepth 20000 in
theorem gX5_beliefAnew_X5_checkCell : GoodIn wsX5_beliefAnew (va_wsS RX5 59 yX5_checkCell wsX5_checkCell) := goodIn_app (goodIn_of _ (by decide +kernel)) ggX5_beliefAnew_X5_checkCell
set_option maxRecDepth 20000 in
theorem ggX5_beliefAnew_X5_checkSpread : GoodIn wsX5_beliefAnew wsX5_checkSpread := goodIn_ca (goodIn_r _ [14, 15, 16, 17, 127, 128, 129, 130, 131, 132, 133, 134, 135] (by decide +kernel) (by decide +kernel)) (goodIn_sub (fun _ h => List.mem_cons_of_mem _ (List.mem_append_right _ h)) (by decide +kernel))
set_option maxRecDepth 20000 in
theorem gX5_beliefAnew_X5_checkSpread : GoodIn wsX5_beliefAnew (wsV RX5 119 RX5 yX5_checkSpread wsX5_checkSpread) := goodIn_app (goodIn_of _ (by decide +kernel)) ggX5_beliefAnew_X5_checkSpread
set_option maxRecDepth 20000 in
theorem ggX5_beliefAnew_X5_repeatAllTold : GoodIn wsX5_beliefAnew wsX5_repeatAllTold := goodIn_r _ [21, 1, 22, 23, 24, 25, 26, 27, 28, 29, 30, 31, 32, 33, 34, 35, 36, 37, 38, 4, 39, 40, 41, 42, 43, 44, 45, 46, 47, 48, 49, 50, 51, 52, 53, 54, 55, 56, 57, 58, 59, 60, 61, 62, 63, 64, 65, 66, 67, 68, 69, 70, 71, 72, 73, 74, 75, 9, 10, 76, 77, 78, 79, 80, 81, 82, 83, 84, 85, 86, 87, 88, 89, 90, 91, 92, 93, 94, 95, 96, 97, 98, 99, 100, 101, 102, 103, 104, 105, 106, 107, 108, 109, 110, 111, 112, 113, 114, 115, 116, 117, 118, 119, 120, 127, 128, 129, 130, 131, 132, 133, 134, 135, 136, 137, 138, 139, 140, 141, 142] (by decide +kernel) (by decide +kernel)
set_option maxRecDepth 20000 in
theorem gX5_beliefAnew_X5_repeatAllTold : GoodIn wsX5_beliefAnew (wsV RX5 142 RX5 yX5_repeatAllTold wsX5_repeatAllTold) := goodIn_app (goodIn_of _ (by decide +kernel)) ggX5_beliefAnew_X5_repeatAllTold
set_option maxRecDepth 20000 in
theorem ggX5_beliefAnew_X0_chart : GoodIn wsX5_beliefAnew wsX0_chart := goodIn_r _ [124, 30, 136, 137, 138] (by decide +kernel) (by decide +kernel)
set_option maxRecDepth 20000 in
theorem gX5_beliefAnew_X0_chart : GoodIn wsX5_beliefAnew (wsV RX5 141 RX0 yX0_chart wsX0_chart) := goodIn_app (goodIn_of _ (by decide +kernel)) ggX5_beliefAnew_X0_chart
set_option maxRecDepth 20000 in
theorem ggX5_beliefAnew_X5_numberOf : GoodIn wsX5_beliefAnew wsX5_numberOf := goodIn_r _ [77] (by decide +kernel) (by decide +kernel)
set_option maxRecDepth 20000 in
theorem gX5_beliefAnew_X5_numberOf : GoodIn wsX5_beliefAnew (va_wsS RX5 63 yX5_numberOf wsX5_numberOf) := goodIn_app (goodIn_of _ (by decide +kernel)) ggX5_beliefAnew_X5_numberOf
set_option maxRecDepth 20000 in
theorem ggX5_beliefAnew_X2_at : GoodIn wsX5_beliefAnew wsX2_at := goodIn_r _ [68, 45, 38, 4, 39, 142] (by decide +kernel) (by decide +kernel)
set_option maxRecDepth 20000 in
theorem gX5_beliefAnew_X2_at : GoodIn wsX5_beliefAnew (wsV RX5 135 RX2 yX2_at wsX2_at) := goodIn_app (goodIn_of _ (by decide +kernel)) ggX5_beliefAnew_X2_at
theorem dX5_beliefAnew_0 : decode cX5_beliefAnew 0 = .ok (.iload_n 1, 1) := by decide +kernel
theorem dX5_beliefAnew_1 : decode cX5_beliefAnew 1 = .ok (.iload_n 2, 1) := by decide +kernel
theorem dX5_beliefAnew_2 : decode cX5_beliefAnew 2 = .ok (.invokestatic 59, 3) := by decide +kernel
theorem dX5_beliefAnew_5 : decode cX5_beliefAnew 5 = .ok (.aload_n 0, 1) := by decide +kernel
theorem dX5_beliefAnew_6 : decode cX5_beliefAnew 6 = .ok (.invokevirtual 119, 3) := by decide +kernel
theorem dX5_beliefAnew_9 : decode cX5_beliefAnew 9 = .ok (.aload_n 0, 1) := by decide +kernel
theorem dX5_beliefAnew_10 : decode cX5_beliefAnew 10 = .ok (.invokevirtual 142, 3) := by decide +kernel
theorem dX5_beliefAnew_13 : decode cX5_beliefAnew 13 = .ok (.aload_n 0, 1) := by decide +kernel
theorem dX5_beliefAnew_14 : decode cX5_beliefAnew 14 = .ok (.getfield 41, 3) := by decide +kernel
theorem dX5_beliefAnew_17 : decode cX5_beliefAnew 17 = .ok (.invokevirtual 141, 3) := by decide +kernel
theorem dX5_beliefAnew_20 : decode cX5_beliefAnew 20 = .ok (.iload_n 1, 1) := by decide +kernel
theorem dX5_beliefAnew_21 : decode cX5_beliefAnew 21 = .ok (.iload_n 2, 1) := by decide +kernel
theorem dX5_beliefAnew_22 : decode cX5_beliefAnew 22 = .ok (.invokestatic 63, 3) := by decide +kernel
theorem dX5_beliefAnew_25 : decode cX5_beliefAnew 25 = .ok (.invokevirtual 135, 3) := by decide +kernel
theorem dX5_beliefAnew_28 : decode cX5_beliefAnew 28 = .ok (.lreturn, 1) := by decide +kernel
set_option maxRecDepth 20000 in
theorem ggX5_mode_X5_checkSpread : GoodIn wsX5_mode wsX5_checkSpread := goodIn_ca (goodIn_r _ [5, 6, 7, 8, 53, 54, 55, 56, 57, 58, 59, 60, 61] (by decide +kernel) (by decide +kernel)) (goodIn_sub (fun _ h => List.mem_cons_of_mem _ (List.mem_append_right _ h)) (by decide +kernel))
set_option maxRecDepth 20000 in
theorem gX5_mode_X5_checkSpread : GoodIn wsX5_mode (wsV RX5 119 RX5 yX5_checkSpread wsX5_checkSpread) := goodIn_app (goodIn_of _ (by decide +kernel)) ggX5_mode_X5_checkSpread
set_option maxRecDepth 20000 in
theorem ggX5_mode_X5_chartOf : GoodIn wsX5_mode wsX5_chartOf := goodIn_r _ [12, 13, 14, 15, 16, 17, 18, 19, 20, 21, 22, 23, 24, 25, 26, 27, 28, 29, 30, 31, 32, 33, 4, 34, 35, 36, 37, 38, 39, 40, 53, 54, 55, 56, 57, 58, 59, 60, 61, 62, 63, 64, 65, 66, 67, 68, 69, 70, 71, 72, 73, 74, 75, 76] (by decide +kernel) (by decide +kernel)
set_option maxRecDepth 20000 in
theorem gX5_mode_X5_chartOf : GoodIn wsX5_mode (wsV RX5 145 RX5 yX5_chartOf wsX5_chartOf) := goodIn_app (goodIn_of _ (by decide +kernel)) ggX5_mode_X5_chartOf
set_option maxRecDepth 20000 in
theorem ggX5_mode_X2_greatestCell : GoodIn wsX5_mode wsX2_greatestCell := goodIn_r _ [44, 28, 45, 46, 47, 26, 48, 49, 50, 51, 52, 73] (by decide +kernel) (by decide +kernel)
set_option maxRecDepth 20000 in
theorem gX5_mode_X2_greatestCell : GoodIn wsX5_mode (wsV RX5 149 RX2 yX2_greatestCell wsX2_greatestCell) := goodIn_app (goodIn_of _ (by decide +kernel)) ggX5_mode_X2_greatestCell
theorem dX5_mode_0 : decode cX5_mode 0 = .ok (.aload_n 0, 1) := by decide +kernel
theorem dX5_mode_1 : decode cX5_mode 1 = .ok (.invokevirtual 119, 3) := by decide +kernel
theorem dX5_mode_4 : decode cX5_mode 4 = .ok (.aload_n 0, 1) := by decide +kernel
theorem dX5_mode_5 : decode cX5_mode 5 = .ok (.iload_n 1, 1) := by decide +kernel
theorem dX5_mode_6 : decode cX5_mode 6 = .ok (.invokevirtual 145, 3) := by decide +kernel
theorem dX5_mode_9 : decode cX5_mode 9 = .ok (.invokevirtual 149, 3) := by decide +kernel
theorem dX5_mode_12 : decode cX5_mode 12 = .ok (.ireturn, 1) := by decide +kernel
set_option maxRecDepth 20000 in
theorem ggX5_mean_X5_checkSpread : GoodIn wsX5_mean wsX5_checkSpread := goodIn_ca (goodIn_r _ [6, 7, 8, 9, 57, 58, 59, 60, 61, 62, 63, 64, 65] (by decide +kernel) (by decide +kernel)) (goodIn_sub (fun _ h => List.mem_cons_of_mem _ (List.mem_append_right _ h)) (by decide +kernel))
set_option maxRecDepth 20000 in
theorem gX5_mean_X5_checkSpread : GoodIn wsX5_mean (wsV RX5 119 RX5 yX5_checkSpread wsX5_checkSpread) := goodIn_app (goodIn_of _ (by decide +kernel)) ggX5_mean_X5_checkSpread
set_option maxRecDepth 20000 in
theorem ggX5_mean_X5_chartOf : GoodIn wsX5_mean wsX5_chartOf := goodIn_r _ [13, 14, 15, 16, 17, 18, 19, 20, 21, 22, 23, 24, 25, 26, 27, 28, 29, 30, 31, 32, 33, 34, 5, 35, 36, 37, 38, 39, 40, 41, 57, 58, 59, 60, 61, 62, 63, 64, 65, 66, 67, 68, 69, 70, 71, 72, 73, 74, 75, 76, 77, 78, 79, 80] (by decide +kernel) (by decide +kernel)
set_option maxRecDepth 20000 in
theorem gX5_mean_X5_chartOf : GoodIn wsX5_mean (wsV RX5 145 RX5 yX5_chartOf wsX5_chartOf) := goodIn_app (goodIn_of _ (by decide +kernel)) ggX5_mean_X5_chartOf
set_option maxRecDepth 20000 in
theorem ggX5_mean_X2_coordinateSum : GoodIn wsX5_mean wsX2_coordinateSum := goodIn_r _ [45, 29, 77] (by decide +kernel) (by decide +kernel)
set_option maxRecDepth 20000 in
theorem gX5_mean_X2_coordinateSum : GoodIn wsX5_mean (wsV RX5 154 RX2 yX2_coordinateSum wsX2_coordinateSum) := goodIn_app (goodIn_of _ (by decide +kernel)) ggX5_mean_X2_coordinateSum
set_option maxRecDepth 20000 in
theorem ggX5_mean_X2_sum : GoodIn wsX5_mean wsX2_sum := goodIn_r _ [49, 50, 51, 52, 27, 53, 29, 77] (by decide +kernel) (by decide +kernel)
set_option maxRecDepth 20000 in
theorem gX5_mean_X2_sum : GoodIn wsX5_mean (wsV RX5 158 RX2 yX2_sum wsX2_sum) := goodIn_app (goodIn_of _ (by decide +kernel)) ggX5_mean_X2_sum
set_option maxRecDepth 20000 in
theorem ggX5_mean_X5_quotient : GoodIn wsX5_mean wsX5_quotient := goodIn_r _ [56] (by decide +kernel) (by decide +kernel)
set_option maxRecDepth 20000 in
theorem gX5_mean_X5_quotient : GoodIn wsX5_mean (va_wsS RX5 162 yX5_quotient wsX5_quotient) := goodIn_app (goodIn_of _ (by decide +kernel)) ggX5_mean_X5_quotient
theorem dX5_mean_0 : decode cX5_mean 0 = .ok (.aload_n 0, 1) := by decide +kernel
theorem dX5_mean_1 : decode cX5_mean 1 = .ok (.invokevirtual 119, 3) := by decide +kernel
theorem dX5_mean_4 : decode cX5_mean 4 = .ok (.aload_n 0, 1) := by decide +kernel
theorem dX5_mean_5 : decode cX5_mean 5 = .ok (.iload_n 1, 1) := by decide +kernel
theorem dX5_mean_6 : decode cX5_mean 6 = .ok (.invokevirtual 145, 3) := by decide +kernel
theorem dX5_mean_9 : decode cX5_mean 9 = .ok (.astore_n 3, 1) := by decide +kernel
theorem dX5_mean_10 : decode cX5_mean 10 = .ok (.ldc2_w 152, 3) := by decide +kernel
theorem dX5_mean_13 : decode cX5_mean 13 = .ok (.aload_n 3, 1) := by decide +kernel
theorem dX5_mean_14 : decode cX5_mean 14 = .ok (.iload_n 2, 1) := by decide +kernel
theorem dX5_mean_15 : decode cX5_mean 15 = .ok (.invokevirtual 154, 3) := by decide +kernel
theorem dX5_mean_18 : decode cX5_mean 18 = .ok (.lmul, 1) := by decide +kernel
theorem dX5_mean_19 : decode cX5_mean 19 = .ok (.aload_n 3, 1) := by decide +kernel
theorem dX5_mean_20 : decode cX5_mean 20 = .ok (.invokevirtual 158, 3) := by decide +kernel
theorem dX5_mean_23 : decode cX5_mean 23 = .ok (.invokestatic 162, 3) := by decide +kernel
theorem dX5_mean_26 : decode cX5_mean 26 = .ok (.l2i, 1) := by decide +kernel
theorem dX5_mean_27 : decode cX5_mean 27 = .ok (.ireturn, 1) := by decide +kernel
set_option maxRecDepth 20000 in
theorem ggX5_share_X5_checkCell : GoodIn wsX5_share wsX5_checkCell := goodIn_ca (goodIn_r _ [7, 8, 9, 10, 11, 6, 12] (by decide +kernel) (by decide +kernel)) (goodIn_sub (fun _ h => List.mem_cons_of_mem _ (List.mem_append_left _ (List.mem_append_right _ h))) (by decide +kernel))
set_option maxRecDepth 20000 in
theorem gX5_share_X5_checkCell : GoodIn wsX5_share (va_wsS RX5 59 yX5_checkCell wsX5_checkCell) := goodIn_app (goodIn_of _ (by decide +kernel)) ggX5_share_X5_checkCell
set_option maxRecDepth 20000 in
theorem ggX5_share_X5_checkSpread : GoodIn wsX5_share wsX5_checkSpread := goodIn_ca (goodIn_r _ [16, 17, 18, 19, 64, 65, 66, 67, 68, 69, 70, 71, 72] (by decide +kernel) (by decide +kernel)) (goodIn_sub (fun _ h => List.mem_cons_of_mem _ (List.mem_append_right _ h)) (by decide +kernel))
set_option maxRecDepth 20000 in
theorem gX5_share_X5_checkSpread : GoodIn wsX5_share (wsV RX5 119 RX5 yX5_checkSpread wsX5_checkSpread) := goodIn_app (goodIn_of _ (by decide +kernel)) ggX5_share_X5_checkSpread
set_option maxRecDepth 20000 in
theorem ggX5_share_X5_chartOf : GoodIn wsX5_share wsX5_chartOf := goodIn_r _ [23, 24, 25, 26, 27, 28, 29, 30, 31, 32, 33, 34, 35, 36, 37, 38, 39, 40, 41, 42, 43, 44, 6, 45, 46, 47, 48, 49, 50, 51, 64, 65, 66, 67, 68, 69, 70, 71, 72, 73, 74, 75, 76, 77, 78, 79, 80, 81, 82, 83, 84, 85, 86, 87] (by decide +kernel) (by decide +kernel)
set_option maxRecDepth 20000 in
theorem gX5_share_X5_chartOf : GoodIn wsX5_share (wsV RX5 145 RX5 yX5_chartOf wsX5_chartOf) := goodIn_app (goodIn_of _ (by decide +kernel)) ggX5_share_X5_chartOf
set_option maxRecDepth 20000 in
theorem ggX5_share_X2_sumOf : GoodIn wsX5_share wsX2_sumOf := goodIn_r _ [55, 39, 84] (by decide +kernel) (by decide +kernel)
set_option maxRecDepth 20000 in
theorem gX5_share_X2_sumOf : GoodIn wsX5_share (wsV RX5 168 RX2 yX2_sumOf wsX2_sumOf) := goodIn_app (goodIn_of _ (by decide +kernel)) ggX5_share_X2_sumOf
set_option maxRecDepth 20000 in
theorem ggX5_share_X2_sum : GoodIn wsX5_share wsX2_sum := goodIn_r _ [59, 60, 53, 54, 37, 55, 39, 84] (by decide +kernel) (by decide +kernel)
set_option maxRecDepth 20000 in
theorem gX5_share_X2_sum : GoodIn wsX5_share (wsV RX5 158 RX2 yX2_sum wsX2_sum) := goodIn_app (goodIn_of _ (by decide +kernel)) ggX5_share_X2_sum
set_option maxRecDepth 20000 in
theorem ggX5_share_X5_quotient : GoodIn wsX5_share wsX5_quotient := goodIn_r _ [63] (by decide +kernel) (by decide +kernel)
set_option maxRecDepth 20000 in
theorem gX5_share_X5_quotient : GoodIn wsX5_share (va_wsS RX5 162 yX5_quotient wsX5_quotient) := goodIn_app (goodIn_of _ (by decide +kernel)) ggX5_share_X5_quotient
theorem dX5_share_0 : decode cX5_share 0 = .ok (.iload_n 1, 1) := by decide +kernel
theorem dX5_share_1 : decode cX5_share 1 = .ok (.iload_n 2, 1) := by decide +kernel
theorem dX5_share_2 : decode cX5_share 2 = .ok (.invokestatic 59, 3) := by decide +kernel
theorem dX5_share_5 : decode cX5_share 5 = .ok (.iload_n 3, 1) := by decide +kernel
theorem dX5_share_6 : decode cX5_share 6 = .ok (.iload_n 1, 1) := by decide +kernel
theorem dX5_share_7 : decode cX5_share 7 = .ok (.if_icmp .lt 22, 3) := by decide +kernel
theorem dX5_share_10 : decode cX5_share 10 = .ok (.iload_n 3, 1) := by decide +kernel
theorem dX5_share_11 : decode cX5_share 11 = .ok (.bipush 8, 2) := by decide +kernel
theorem dX5_share_13 : decode cX5_share 13 = .ok (.if_icmp .ge 16, 3) := by decide +kernel
theorem dX5_share_16 : decode cX5_share 16 = .ok (.iload 4, 2) := by decide +kernel
theorem dX5_share_18 : decode cX5_share 18 = .ok (.iload_n 2, 1) := by decide +kernel
theorem dX5_share_19 : decode cX5_share 19 = .ok (.if_icmp .lt 10, 3) := by decide +kernel
theorem dX5_share_22 : decode cX5_share 22 = .ok (.iload 4, 2) := by decide +kernel
theorem dX5_share_24 : decode cX5_share 24 = .ok (.bipush 8, 2) := by decide +kernel
theorem dX5_share_26 : decode cX5_share 26 = .ok (.if_icmp .lt 11, 3) := by decide +kernel
theorem dX5_share_29 : decode cX5_share 29 = .ok (.new 83, 3) := by decide +kernel
theorem dX5_share_32 : decode cX5_share 32 = .ok (.dup, 1) := by decide +kernel
theorem dX5_share_33 : decode cX5_share 33 = .ok (.invokespecial 85, 3) := by decide +kernel
theorem dX5_share_36 : decode cX5_share 36 = .ok (.athrow, 1) := by decide +kernel
theorem dX5_share_37 : decode cX5_share 37 = .ok (.aload_n 0, 1) := by decide +kernel
theorem dX5_share_38 : decode cX5_share 38 = .ok (.invokevirtual 119, 3) := by decide +kernel
theorem dX5_share_41 : decode cX5_share 41 = .ok (.aload_n 0, 1) := by decide +kernel
theorem dX5_share_42 : decode cX5_share 42 = .ok (.iload 5, 2) := by decide +kernel
theorem dX5_share_44 : decode cX5_share 44 = .ok (.invokevirtual 145, 3) := by decide +kernel
theorem dX5_share_47 : decode cX5_share 47 = .ok (.astore 6, 2) := by decide +kernel
theorem dX5_share_49 : decode cX5_share 49 = .ok (.ldc2_w 166, 3) := by decide +kernel
theorem dX5_share_52 : decode cX5_share 52 = .ok (.aload 6, 2) := by decide +kernel
theorem dX5_share_54 : decode cX5_share 54 = .ok (.iload_n 1, 1) := by decide +kernel
theorem dX5_share_55 : decode cX5_share 55 = .ok (.iload_n 2, 1) := by decide +kernel
theorem dX5_share_56 : decode cX5_share 56 = .ok (.iload_n 3, 1) := by decide +kernel
theorem dX5_share_57 : decode cX5_share 57 = .ok (.iload 4, 2) := by decide +kernel
theorem dX5_share_59 : decode cX5_share 59 = .ok (.invokevirtual 168, 3) := by decide +kernel
theorem dX5_share_62 : decode cX5_share 62 = .ok (.lmul, 1) := by decide +kernel
theorem dX5_share_63 : decode cX5_share 63 = .ok (.aload 6, 2) := by decide +kernel
theorem dX5_share_65 : decode cX5_share 65 = .ok (.invokevirtual 158, 3) := by decide +kernel
theorem dX5_share_68 : decode cX5_share 68 = .ok (.invokestatic 162, 3) := by decide +kernel
theorem dX5_share_71 : decode cX5_share 71 = .ok (.l2i, 1) := by decide +kernel
theorem dX5_share_72 : decode cX5_share 72 = .ok (.ireturn, 1) := by decide +kernel
set_option maxRecDepth 20000 in
theorem ggX5_best_X5_checkSpread : GoodIn wsX5_best wsX5_checkSpread := goodIn_ca (goodIn_r _ [8, 9, 10, 11, 34, 35, 36, 37, 38, 39, 40, 41, 42] (by decide +kernel) (by decide +kernel)) (goodIn_sub (fun _ h => List.mem_cons_of_mem _ (List.mem_append_right _ h)) (by decide +kernel))
set_option maxRecDepth 20000 in
theorem gX5_best_X5_checkSpread : GoodIn wsX5_best (wsV RX5 119 RX5 yX5_checkSpread wsX5_checkSpread) := goodIn_app (goodIn_of _ (by decide +kernel)) ggX5_best_X5_checkSpread
set_option maxRecDepth 20000 in
theorem ggX5_best_X0_chart : GoodIn wsX5_best wsX0_chart := goodIn_r _ [16, 17, 43, 44, 45] (by decide +kernel) (by decide +kernel)
set_option maxRecDepth 20000 in
theorem gX5_best_X0_chart : GoodIn wsX5_best (wsV RX5 141 RX0 yX0_chart wsX0_chart) := goodIn_app (goodIn_of _ (by decide +kernel)) ggX5_best_X0_chart
set_option maxRecDepth 20000 in
theorem ggX5_best_X2_cellAtPlace : GoodIn wsX5_best wsX2_cellAtPlace := goodIn_r _ [22, 23, 24, 25, 26, 21, 27, 28, 29, 30, 31, 32, 7, 33, 46] (by decide +kernel) (by decide +kernel)
set_option maxRecDepth 20000 in
theorem gX5_best_X2_cellAtPlace : GoodIn wsX5_best (wsV RX5 172 RX2 yX2_cellAtPlace wsX2_cellAtPlace) := goodIn_app (goodIn_of _ (by decide +kernel)) ggX5_best_X2_cellAtPlace
theorem dX5_best_0 : decode cX5_best 0 = .ok (.iload_n 1, 1) := by decide +kernel
theorem dX5_best_1 : decode cX5_best 1 = .ok (.ifCond .ge 11, 3) := by decide +kernel
theorem dX5_best_4 : decode cX5_best 4 = .ok (.new 125, 3) := by decide +kernel
theorem dX5_best_7 : decode cX5_best 7 = .ok (.dup, 1) := by decide +kernel
theorem dX5_best_8 : decode cX5_best 8 = .ok (.invokespecial 127, 3) := by decide +kernel
theorem dX5_best_11 : decode cX5_best 11 = .ok (.athrow, 1) := by decide +kernel
theorem dX5_best_12 : decode cX5_best 12 = .ok (.aload_n 0, 1) := by decide +kernel
theorem dX5_best_13 : decode cX5_best 13 = .ok (.invokevirtual 119, 3) := by decide +kernel
theorem dX5_best_16 : decode cX5_best 16 = .ok (.aload_n 0, 1) := by decide +kernel
theorem dX5_best_17 : decode cX5_best 17 = .ok (.getfield 37, 3) := by decide +kernel
theorem dX5_best_20 : decode cX5_best 20 = .ok (.invokevirtual 141, 3) := by decide +kernel
theorem dX5_best_23 : decode cX5_best 23 = .ok (.iload_n 1, 1) := by decide +kernel
theorem dX5_best_24 : decode cX5_best 24 = .ok (.invokevirtual 172, 3) := by decide +kernel
theorem dX5_best_27 : decode cX5_best 27 = .ok (.ireturn, 1) := by decide +kernel
set_option maxRecDepth 20000 in
theorem ggX5_doubt_X5_checkSpread : GoodIn wsX5_doubt wsX5_checkSpread := goodIn_ca (goodIn_r _ [6, 7, 8, 9, 16, 17, 18, 19, 20, 21, 22, 23, 24] (by decide +kernel) (by decide +kernel)) (goodIn_sub (fun _ h => List.mem_cons_of_mem _ (List.mem_append_right _ h)) (by decide +kernel))
set_option maxRecDepth 20000 in
theorem gX5_doubt_X5_checkSpread : GoodIn wsX5_doubt (wsV RX5 119 RX5 yX5_checkSpread wsX5_checkSpread) := goodIn_app (goodIn_of _ (by decide +kernel)) ggX5_doubt_X5_checkSpread
set_option maxRecDepth 20000 in
theorem ggX5_doubt_X4_lastDoubt : GoodIn wsX5_doubt wsX4_lastDoubt := goodIn_r _ [14, 15, 25, 26, 27, 28, 29, 30, 31, 32, 33, 34, 35] (by decide +kernel) (by decide +kernel)
set_option maxRecDepth 20000 in
theorem gX5_doubt_X4_lastDoubt : GoodIn wsX5_doubt (wsV RX5 175 RX4 yX4_lastDoubt wsX4_lastDoubt) := goodIn_app (goodIn_of _ (by decide +kernel)) ggX5_doubt_X4_lastDoubt
theorem dX5_doubt_0 : decode cX5_doubt 0 = .ok (.aload_n 0, 1) := by decide +kernel
theorem dX5_doubt_1 : decode cX5_doubt 1 = .ok (.invokevirtual 119, 3) := by decide +kernel
theorem dX5_doubt_4 : decode cX5_doubt 4 = .ok (.aload_n 0, 1) := by decide +kernel
theorem dX5_doubt_5 : decode cX5_doubt 5 = .ok (.getfield 28, 3) := by decide +kernel
theorem dX5_doubt_8 : decode cX5_doubt 8 = .ok (.invokevirtual 175, 3) := by decide +kernel
theorem dX5_doubt_11 : decode cX5_doubt 11 = .ok (.ireturn, 1) := by decide +kernel
set_option maxRecDepth 20000 in
theorem ggX5_checkCell_X5_isInField : GoodIn wsX5_checkCell wsX5_isInField := goodIn_r _ [6] (by decide +kernel) (by decide +kernel)
set_option maxRecDepth 20000 in
theorem gX5_checkCell_X5_isInField : GoodIn wsX5_checkCell (va_wsS RX5 178 yX5_isInField wsX5_isInField) := goodIn_app (goodIn_of _ (by decide +kernel)) ggX5_checkCell_X5_isInField
theorem dX5_checkCell_0 : decode cX5_checkCell 0 = .ok (.iload_n 0, 1) := by decide +kernel
theorem dX5_checkCell_1 : decode cX5_checkCell 1 = .ok (.iload_n 1, 1) := by decide +kernel
theorem dX5_checkCell_2 : decode cX5_checkCell 2 = .ok (.invokestatic 178, 3) := by decide +kernel
theorem dX5_checkCell_5 : decode cX5_checkCell 5 = .ok (.ifCond .ne 11, 3) := by decide +kernel
theorem dX5_checkCell_8 : decode cX5_checkCell 8 = .ok (.new 125, 3) := by decide +kernel
theorem dX5_checkCell_11 : decode cX5_checkCell 11 = .ok (.dup, 1) := by decide +kernel
theorem dX5_checkCell_12 : decode cX5_checkCell 12 = .ok (.invokespecial 127, 3) := by decide +kernel
theorem dX5_checkCell_15 : decode cX5_checkCell 15 = .ok (.athrow, 1) := by decide +kernel
theorem dX5_checkCell_16 : decode cX5_checkCell 16 = .ok (.return_, 1) := by decide +kernel
set_option maxRecDepth 20000 in
theorem ggX5_checkDirection_X5_isDirection : GoodIn wsX5_checkDirection wsX5_isDirection := goodIn_r _ [6] (by decide +kernel) (by decide +kernel)
set_option maxRecDepth 20000 in
theorem gX5_checkDirection_X5_isDirection : GoodIn wsX5_checkDirection (va_wsS RX5 182 yX5_isDirection wsX5_isDirection) := goodIn_app (goodIn_of _ (by decide +kernel)) ggX5_checkDirection_X5_isDirection
theorem dX5_checkDirection_0 : decode cX5_checkDirection 0 = .ok (.iload_n 0, 1) := by decide +kernel
theorem dX5_checkDirection_1 : decode cX5_checkDirection 1 = .ok (.invokestatic 182, 3) := by decide +kernel
theorem dX5_checkDirection_4 : decode cX5_checkDirection 4 = .ok (.ifCond .ne 11, 3) := by decide +kernel
theorem dX5_checkDirection_7 : decode cX5_checkDirection 7 = .ok (.new 125, 3) := by decide +kernel
theorem dX5_checkDirection_10 : decode cX5_checkDirection 10 = .ok (.dup, 1) := by decide +kernel
theorem dX5_checkDirection_11 : decode cX5_checkDirection 11 = .ok (.invokespecial 127, 3) := by decide +kernel
theorem dX5_checkDirection_14 : decode cX5_checkDirection 14 = .ok (.athrow, 1) := by decide +kernel
theorem dX5_checkDirection_15 : decode cX5_checkDirection 15 = .ok (.return_, 1) := by decide +kernel
theorem dX5_checkSpread_0 : decode cX5_checkSpread 0 = .ok (.aload_n 0, 1) := by decide +kernel
theorem dX5_checkSpread_1 : decode cX5_checkSpread 1 = .ok (.getfield 55, 3) := by decide +kernel
theorem dX5_checkSpread_4 : decode cX5_checkSpread 4 = .ok (.ifCond .ne 11, 3) := by decide +kernel
theorem dX5_checkSpread_7 : decode cX5_checkSpread 7 = .ok (.new 75, 3) := by decide +kernel
theorem dX5_checkSpread_10 : decode cX5_checkSpread 10 = .ok (.dup, 1) := by decide +kernel
theorem dX5_checkSpread_11 : decode cX5_checkSpread 11 = .ok (.invokespecial 77, 3) := by decide +kernel
theorem dX5_checkSpread_14 : decode cX5_checkSpread 14 = .ok (.athrow, 1) := by decide +kernel
theorem dX5_checkSpread_15 : decode cX5_checkSpread 15 = .ok (.return_, 1) := by decide +kernel
theorem dX5_checkMayTell_0 : decode cX5_checkMayTell 0 = .ok (.aload_n 0, 1) := by decide +kernel
theorem dX5_checkMayTell_1 : decode cX5_checkMayTell 1 = .ok (.getfield 55, 3) := by decide +kernel
theorem dX5_checkMayTell_4 : decode cX5_checkMayTell 4 = .ok (.ifCond .eq 13, 3) := by decide +kernel
theorem dX5_checkMayTell_7 : decode cX5_checkMayTell 7 = .ok (.aload_n 0, 1) := by decide +kernel
theorem dX5_checkMayTell_8 : decode cX5_checkMayTell 8 = .ok (.getfield 51, 3) := by decide +kernel
theorem dX5_checkMayTell_11 : decode cX5_checkMayTell 11 = .ok (.sipush 300, 3) := by decide +kernel
theorem dX5_checkMayTell_14 : decode cX5_checkMayTell 14 = .ok (.if_icmp .lt 11, 3) := by decide +kernel
theorem dX5_checkMayTell_17 : decode cX5_checkMayTell 17 = .ok (.new 75, 3) := by decide +kernel
theorem dX5_checkMayTell_20 : decode cX5_checkMayTell 20 = .ok (.dup, 1) := by decide +kernel
theorem dX5_checkMayTell_21 : decode cX5_checkMayTell 21 = .ok (.invokespecial 77, 3) := by decide +kernel
theorem dX5_checkMayTell_24 : decode cX5_checkMayTell 24 = .ok (.athrow, 1) := by decide +kernel
theorem dX5_checkMayTell_25 : decode cX5_checkMayTell 25 = .ok (.return_, 1) := by decide +kernel
theorem dX5_keep_0 : decode cX5_keep 0 = .ok (.aload_n 0, 1) := by decide +kernel
theorem dX5_keep_1 : decode cX5_keep 1 = .ok (.getfield 51, 3) := by decide +kernel
theorem dX5_keep_4 : decode cX5_keep 4 = .ok (.ifCond .lt 43, 3) := by decide +kernel
theorem dX5_keep_7 : decode cX5_keep 7 = .ok (.aload_n 0, 1) := by decide +kernel
theorem dX5_keep_8 : decode cX5_keep 8 = .ok (.getfield 51, 3) := by decide +kernel
theorem dX5_keep_11 : decode cX5_keep 11 = .ok (.sipush 300, 3) := by decide +kernel
theorem dX5_keep_14 : decode cX5_keep 14 = .ok (.if_icmp .ge 33, 3) := by decide +kernel
theorem dX5_keep_17 : decode cX5_keep 17 = .ok (.aload_n 0, 1) := by decide +kernel
theorem dX5_keep_18 : decode cX5_keep 18 = .ok (.getfield 44, 3) := by decide +kernel
theorem dX5_keep_21 : decode cX5_keep 21 = .ok (.aload_n 0, 1) := by decide +kernel
theorem dX5_keep_22 : decode cX5_keep 22 = .ok (.getfield 51, 3) := by decide +kernel
theorem dX5_keep_25 : decode cX5_keep 25 = .ok (.iload_n 1, 1) := by decide +kernel
theorem dX5_keep_26 : decode cX5_keep 26 = .ok (.iastore, 1) := by decide +kernel
theorem dX5_keep_27 : decode cX5_keep 27 = .ok (.aload_n 0, 1) := by decide +kernel
theorem dX5_keep_28 : decode cX5_keep 28 = .ok (.getfield 48, 3) := by decide +kernel
theorem dX5_keep_31 : decode cX5_keep 31 = .ok (.aload_n 0, 1) := by decide +kernel
theorem dX5_keep_32 : decode cX5_keep 32 = .ok (.getfield 51, 3) := by decide +kernel
theorem dX5_keep_35 : decode cX5_keep 35 = .ok (.iload_n 2, 1) := by decide +kernel
theorem dX5_keep_36 : decode cX5_keep 36 = .ok (.iastore, 1) := by decide +kernel
theorem dX5_keep_37 : decode cX5_keep 37 = .ok (.aload_n 0, 1) := by decide +kernel
theorem dX5_keep_38 : decode cX5_keep 38 = .ok (.dup, 1) := by decide +kernel
theorem dX5_keep_39 : decode cX5_keep 39 = .ok (.getfield 51, 3) := by decide +kernel
theorem dX5_keep_42 : decode cX5_keep 42 = .ok (.iconst 1, 1) := by decide +kernel
theorem dX5_keep_43 : decode cX5_keep 43 = .ok (.iadd, 1) := by decide +kernel
theorem dX5_keep_44 : decode cX5_keep 44 = .ok (.putfield 51, 3) := by decide +kernel
theorem dX5_keep_47 : decode cX5_keep 47 = .ok (.return_, 1) := by decide +kernel
set_option maxRecDepth 20000 in
theorem ggX5_repeatAllTold_X0_begin : GoodIn wsX5_repeatAllTold wsX0_begin := goodIn_r _ [9, 10, 11, 12, 13, 14, 15, 16, 17, 18, 19, 20, 21, 22, 23, 24, 25, 26, 113, 114, 115, 116, 117, 118, 119] (by decide +kernel) (by decide +kernel)
set_option maxRecDepth 20000 in
theorem gX5_repeatAllTold_X0_begin : GoodIn wsX5_repeatAllTold (wsV RX5 94 RX0 yX0_begin wsX0_begin) := goodIn_app (goodIn_of _ (by decide +kernel)) ggX5_repeatAllTold_X0_begin
set_option maxRecDepth 20000 in
theorem ggX5_repeatAllTold_X0_fetch : GoodIn wsX5_repeatAllTold wsX0_fetch := goodIn_r _ [30, 31, 10, 32, 33, 34, 24, 35, 26, 36, 37, 38, 39, 40, 41, 42, 8, 43, 44, 11, 45, 46, 47, 48, 49, 18, 19, 20, 50, 51, 15, 52, 53, 54, 55, 56, 57, 58, 59, 60, 12, 13, 14, 16, 17, 61, 62, 63, 64, 65, 66, 67, 68, 69, 70, 71, 72, 73, 74, 21, 22, 23, 25, 75, 76, 77, 78, 79, 80, 81, 82, 83, 84, 85, 86, 87, 88, 89, 90, 91, 113, 114, 115, 119, 116, 117, 118] (by decide +kernel) (by decide +kernel)
set_option maxRecDepth 20000 in
theorem gX5_repeatAllTold_X0_fetch : GoodIn wsX5_repeatAllTold (wsV RX5 185 RX0 yX0_fetch wsX0_fetch) := goodIn_app (goodIn_of _ (by decide +kernel)) ggX5_repeatAllTold_X0_fetch
set_option maxRecDepth 20000 in
theorem ggX5_repeatAllTold_X0_weigh : GoodIn wsX5_repeatAllTold wsX0_weigh := goodIn_r _ [95, 10, 11, 46, 47, 48, 24, 49, 26, 18, 19, 20, 96, 97, 98, 15, 99, 100, 101, 67, 102, 69, 70, 71, 72, 73, 55, 56, 21, 22, 23, 25, 80, 81, 82, 83, 84, 85, 86, 103, 6, 7, 8, 9, 12, 13, 14, 16, 17, 75, 76, 77, 78, 79, 87, 88, 89, 90, 91, 113, 114, 115, 119, 116, 117, 118] (by decide +kernel) (by decide +kernel)
set_option maxRecDepth 20000 in
theorem gX5_repeatAllTold_X0_weigh : GoodIn wsX5_repeatAllTold (wsV RX5 114 RX0 yX0_weigh wsX0_weigh) := goodIn_app (goodIn_of _ (by decide +kernel)) ggX5_repeatAllTold_X0_weigh
theorem dX5_repeatAllTold_0 : decode cX5_repeatAllTold 0 = .ok (.aload_n 0, 1) := by decide +kernel
theorem dX5_repeatAllTold_1 : decode cX5_repeatAllTold 1 = .ok (.getfield 41, 3) := by decide +kernel
theorem dX5_repeatAllTold_4 : decode cX5_repeatAllTold 4 = .ok (.invokevirtual 94, 3) := by decide +kernel
theorem dX5_repeatAllTold_7 : decode cX5_repeatAllTold 7 = .ok (.iconst 0, 1) := by decide +kernel
theorem dX5_repeatAllTold_8 : decode cX5_repeatAllTold 8 = .ok (.istore_n 1, 1) := by decide +kernel
theorem dX5_repeatAllTold_9 : decode cX5_repeatAllTold 9 = .ok (.iload_n 1, 1) := by decide +kernel
theorem dX5_repeatAllTold_10 : decode cX5_repeatAllTold 10 = .ok (.aload_n 0, 1) := by decide +kernel
theorem dX5_repeatAllTold_11 : decode cX5_repeatAllTold 11 = .ok (.getfield 51, 3) := by decide +kernel
theorem dX5_repeatAllTold_14 : decode cX5_repeatAllTold 14 = .ok (.if_icmp .ge 61, 3) := by decide +kernel
theorem dX5_repeatAllTold_17 : decode cX5_repeatAllTold 17 = .ok (.iload_n 1, 1) := by decide +kernel
theorem dX5_repeatAllTold_18 : decode cX5_repeatAllTold 18 = .ok (.sipush 300, 3) := by decide +kernel
theorem dX5_repeatAllTold_21 : decode cX5_repeatAllTold 21 = .ok (.if_icmp .ge 54, 3) := by decide +kernel
theorem dX5_repeatAllTold_24 : decode cX5_repeatAllTold 24 = .ok (.aload_n 0, 1) := by decide +kernel
theorem dX5_repeatAllTold_25 : decode cX5_repeatAllTold 25 = .ok (.getfield 48, 3) := by decide +kernel
theorem dX5_repeatAllTold_28 : decode cX5_repeatAllTold 28 = .ok (.iload_n 1, 1) := by decide +kernel
theorem dX5_repeatAllTold_29 : decode cX5_repeatAllTold 29 = .ok (.iaload, 1) := by decide +kernel
theorem dX5_repeatAllTold_30 : decode cX5_repeatAllTold 30 = .ok (.iconst (-1), 1) := by decide +kernel
theorem dX5_repeatAllTold_31 : decode cX5_repeatAllTold 31 = .ok (.if_icmp .ne 19, 3) := by decide +kernel
theorem dX5_repeatAllTold_34 : decode cX5_repeatAllTold 34 = .ok (.aload_n 0, 1) := by decide +kernel
theorem dX5_repeatAllTold_35 : decode cX5_repeatAllTold 35 = .ok (.getfield 41, 3) := by decide +kernel
theorem dX5_repeatAllTold_38 : decode cX5_repeatAllTold 38 = .ok (.aload_n 0, 1) := by decide +kernel
theorem dX5_repeatAllTold_39 : decode cX5_repeatAllTold 39 = .ok (.getfield 44, 3) := by decide +kernel
theorem dX5_repeatAllTold_42 : decode cX5_repeatAllTold 42 = .ok (.iload_n 1, 1) := by decide +kernel
theorem dX5_repeatAllTold_43 : decode cX5_repeatAllTold 43 = .ok (.iaload, 1) := by decide +kernel
theorem dX5_repeatAllTold_44 : decode cX5_repeatAllTold 44 = .ok (.invokevirtual 185, 3) := by decide +kernel
theorem dX5_repeatAllTold_47 : decode cX5_repeatAllTold 47 = .ok (.goto 22, 3) := by decide +kernel
theorem dX5_repeatAllTold_50 : decode cX5_repeatAllTold 50 = .ok (.aload_n 0, 1) := by decide +kernel
theorem dX5_repeatAllTold_51 : decode cX5_repeatAllTold 51 = .ok (.getfield 41, 3) := by decide +kernel
theorem dX5_repeatAllTold_54 : decode cX5_repeatAllTold 54 = .ok (.aload_n 0, 1) := by decide +kernel
theorem dX5_repeatAllTold_55 : decode cX5_repeatAllTold 55 = .ok (.getfield 44, 3) := by decide +kernel
theorem dX5_repeatAllTold_58 : decode cX5_repeatAllTold 58 = .ok (.iload_n 1, 1) := by decide +kernel
theorem dX5_repeatAllTold_59 : decode cX5_repeatAllTold 59 = .ok (.iaload, 1) := by decide +kernel
theorem dX5_repeatAllTold_60 : decode cX5_repeatAllTold 60 = .ok (.aload_n 0, 1) := by decide +kernel
theorem dX5_repeatAllTold_61 : decode cX5_repeatAllTold 61 = .ok (.getfield 48, 3) := by decide +kernel
theorem dX5_repeatAllTold_64 : decode cX5_repeatAllTold 64 = .ok (.iload_n 1, 1) := by decide +kernel
theorem dX5_repeatAllTold_65 : decode cX5_repeatAllTold 65 = .ok (.iaload, 1) := by decide +kernel
theorem dX5_repeatAllTold_66 : decode cX5_repeatAllTold 66 = .ok (.invokevirtual 114, 3) := by decide +kernel
theorem dX5_repeatAllTold_69 : decode cX5_repeatAllTold 69 = .ok (.iinc 1 1, 3) := by decide +kernel
theorem dX5_repeatAllTold_72 : decode cX5_repeatAllTold 72 = .ok (.goto (-63), 3) := by decide +kernel
theorem dX5_repeatAllTold_75 : decode cX5_repeatAllTold 75 = .ok (.return_, 1) := by decide +kernel
set_option maxRecDepth 20000 in
theorem ggX5_chartOf_X4_chart : GoodIn wsX5_chartOf wsX4_chart := goodIn_r _ [7, 8, 9, 10, 11, 12, 13, 14, 15, 16, 17, 18, 19, 20, 21, 22, 23, 39, 40, 41, 42, 43, 44, 45, 46, 47, 48, 49, 50] (by decide +kernel) (by decide +kernel)
set_option maxRecDepth 20000 in
theorem gX5_chartOf_X4_chart : GoodIn wsX5_chartOf (wsV RX5 131 RX4 yX4_chart wsX4_chart) := goodIn_app (goodIn_of _ (by decide +kernel)) ggX5_chartOf_X4_chart
set_option maxRecDepth 20000 in
theorem ggX5_chartOf_X0_chart : GoodIn wsX5_chartOf wsX0_chart := goodIn_r _ [28, 29, 51, 52, 53] (by decide +kernel) (by decide +kernel)
set_option maxRecDepth 20000 in
theorem gX5_chartOf_X0_chart : GoodIn wsX5_chartOf (wsV RX5 141 RX0 yX0_chart wsX0_chart) := goodIn_app (goodIn_of _ (by decide +kernel)) ggX5_chartOf_X0_chart
theorem dX5_chartOf_0 : decode cX5_chartOf 0 = .ok (.iload_n 1, 1) := by decide +kernel
theorem dX5_chartOf_1 : decode cX5_chartOf 1 = .ok (.ifCond .eq 13, 3) := by decide +kernel
theorem dX5_chartOf_4 : decode cX5_chartOf 4 = .ok (.aload_n 0, 1) := by decide +kernel
theorem dX5_chartOf_5 : decode cX5_chartOf 5 = .ok (.getfield 28, 3) := by decide +kernel
theorem dX5_chartOf_8 : decode cX5_chartOf 8 = .ok (.invokevirtual 131, 3) := by decide +kernel
theorem dX5_chartOf_11 : decode cX5_chartOf 11 = .ok (.goto 10, 3) := by decide +kernel
theorem dX5_chartOf_14 : decode cX5_chartOf 14 = .ok (.aload_n 0, 1) := by decide +kernel
theorem dX5_chartOf_15 : decode cX5_chartOf 15 = .ok (.getfield 37, 3) := by decide +kernel
theorem dX5_chartOf_18 : decode cX5_chartOf 18 = .ok (.invokevirtual 141, 3) := by decide +kernel
theorem dX5_chartOf_21 : decode cX5_chartOf 21 = .ok (.areturn, 1) := by decide +kernel
theorem dX5_isInField_0 : decode cX5_isInField 0 = .ok (.iload_n 0, 1) := by decide +kernel
theorem dX5_isInField_1 : decode cX5_isInField 1 = .ok (.ifCond .lt 23, 3) := by decide +kernel
theorem dX5_isInField_4 : decode cX5_isInField 4 = .ok (.iload_n 0, 1) := by decide +kernel
theorem dX5_isInField_5 : decode cX5_isInField 5 = .ok (.bipush 8, 2) := by decide +kernel
theorem dX5_isInField_7 : decode cX5_isInField 7 = .ok (.if_icmp .ge 17, 3) := by decide +kernel
theorem dX5_isInField_10 : decode cX5_isInField 10 = .ok (.iload_n 1, 1) := by decide +kernel
theorem dX5_isInField_11 : decode cX5_isInField 11 = .ok (.ifCond .lt 13, 3) := by decide +kernel
theorem dX5_isInField_14 : decode cX5_isInField 14 = .ok (.iload_n 1, 1) := by decide +kernel
theorem dX5_isInField_15 : decode cX5_isInField 15 = .ok (.bipush 8, 2) := by decide +kernel
theorem dX5_isInField_17 : decode cX5_isInField 17 = .ok (.if_icmp .ge 7, 3) := by decide +kernel
theorem dX5_isInField_20 : decode cX5_isInField 20 = .ok (.iconst 1, 1) := by decide +kernel
theorem dX5_isInField_21 : decode cX5_isInField 21 = .ok (.goto 4, 3) := by decide +kernel
theorem dX5_isInField_24 : decode cX5_isInField 24 = .ok (.iconst 0, 1) := by decide +kernel
theorem dX5_isInField_25 : decode cX5_isInField 25 = .ok (.ireturn, 1) := by decide +kernel
theorem dX5_isCell_0 : decode cX5_isCell 0 = .ok (.iload_n 0, 1) := by decide +kernel
theorem dX5_isCell_1 : decode cX5_isCell 1 = .ok (.ifCond .lt 13, 3) := by decide +kernel
theorem dX5_isCell_4 : decode cX5_isCell 4 = .ok (.iload_n 0, 1) := by decide +kernel
theorem dX5_isCell_5 : decode cX5_isCell 5 = .ok (.bipush 64, 2) := by decide +kernel
theorem dX5_isCell_7 : decode cX5_isCell 7 = .ok (.if_icmp .ge 7, 3) := by decide +kernel
theorem dX5_isCell_10 : decode cX5_isCell 10 = .ok (.iconst 1, 1) := by decide +kernel
theorem dX5_isCell_11 : decode cX5_isCell 11 = .ok (.goto 4, 3) := by decide +kernel
theorem dX5_isCell_14 : decode cX5_isCell 14 = .ok (.iconst 0, 1) := by decide +kernel
theorem dX5_isCell_15 : decode cX5_isCell 15 = .ok (.ireturn, 1) := by decide +kernel
theorem dX5_isDirection_0 : decode cX5_isDirection 0 = .ok (.iload_n 0, 1) := by decide +kernel
theorem dX5_isDirection_1 : decode cX5_isDirection 1 = .ok (.ifCond .lt 12, 3) := by decide +kernel
theorem dX5_isDirection_4 : decode cX5_isDirection 4 = .ok (.iload_n 0, 1) := by decide +kernel
theorem dX5_isDirection_5 : decode cX5_isDirection 5 = .ok (.iconst 4, 1) := by decide +kernel
theorem dX5_isDirection_6 : decode cX5_isDirection 6 = .ok (.if_icmp .ge 7, 3) := by decide +kernel
theorem dX5_isDirection_9 : decode cX5_isDirection 9 = .ok (.iconst 1, 1) := by decide +kernel
theorem dX5_isDirection_10 : decode cX5_isDirection 10 = .ok (.goto 4, 3) := by decide +kernel
theorem dX5_isDirection_13 : decode cX5_isDirection 13 = .ok (.iconst 0, 1) := by decide +kernel
theorem dX5_isDirection_14 : decode cX5_isDirection 14 = .ok (.ireturn, 1) := by decide +kernel
theorem dX5_numberOf_0 : decode cX5_numberOf 0 = .ok (.bipush 8, 2) := by decide +kernel
theorem dX5_numberOf_2 : decode cX5_numberOf 2 = .ok (.iload_n 1, 1) := by decide +kernel
theorem dX5_numberOf_3 : decode cX5_numberOf 3 = .ok (.imul, 1) := by decide +kernel
theorem dX5_numberOf_4 : decode cX5_numberOf 4 = .ok (.iload_n 0, 1) := by decide +kernel
theorem dX5_numberOf_5 : decode cX5_numberOf 5 = .ok (.iadd, 1) := by decide +kernel
theorem dX5_numberOf_6 : decode cX5_numberOf 6 = .ok (.ireturn, 1) := by decide +kernel
theorem dX5_quotient_0 : decode cX5_quotient 0 = .ok (.lload_n 2, 1) := by decide +kernel
theorem dX5_quotient_1 : decode cX5_quotient 1 = .ok (.lconst 0, 1) := by decide +kernel
theorem dX5_quotient_2 : decode cX5_quotient 2 = .ok (.lcmp, 1) := by decide +kernel
theorem dX5_quotient_3 : decode cX5_quotient 3 = .ok (.ifCond .ne 7, 3) := by decide +kernel
theorem dX5_quotient_6 : decode cX5_quotient 6 = .ok (.lconst 0, 1) := by decide +kernel
theorem dX5_quotient_7 : decode cX5_quotient 7 = .ok (.goto 6, 3) := by decide +kernel
theorem dX5_quotient_10 : decode cX5_quotient 10 = .ok (.lload_n 0, 1) := by decide +kernel
theorem dX5_quotient_11 : decode cX5_quotient 11 = .ok (.lload_n 2, 1) := by decide +kernel
theorem dX5_quotient_12 : decode cX5_quotient 12 = .ok (.ldiv, 1) := by decide +kernel
theorem dX5_quotient_13 : decode cX5_quotient 13 = .ok (.lreturn, 1) := by decide +kernel
theorem dX6_init_0 : decode cX6_init 0 = .ok (.aload_n 0, 1) := by decide +kernel
theorem dX6_init_1 : decode cX6_init 1 = .ok (.invokespecial 1, 3) := by decide +kernel
theorem dX6_init_4 : decode cX6_init 4 = .ok (.aload_n 0, 1) := by decide +kernel
theorem dX6_init_5 : decode cX6_init 5 = .ok (.bipush 64, 2) := by decide +kernel
theorem dX6_init_7 : decode cX6_init 7 = .ok (.newarray .boolean, 2) := by decide +kernel
theorem dX6_init_9 : decode cX6_init 9 = .ok (.putfield 7, 3) := by decide +kernel
theorem dX6_init_12 : decode cX6_init 12 = .ok (.aload_n 0, 1) := by decide +kernel
theorem dX6_init_13 : decode cX6_init 13 = .ok (.iconst 1, 1) := by decide +kernel
theorem dX6_init_14 : decode cX6_init 14 = .ok (.putfield 13, 3) := by decide +kernel
theorem dX6_init_17 : decode cX6_init 17 = .ok (.aload_n 0, 1) := by decide +kernel
theorem dX6_init_18 : decode cX6_init 18 = .ok (.bipush 64, 2) := by decide +kernel
theorem dX6_init_20 : decode cX6_init 20 = .ok (.newarray .int, 2) := by decide +kernel
theorem dX6_init_22 : decode cX6_init 22 = .ok (.putfield 17, 3) := by decide +kernel
theorem dX6_init_25 : decode cX6_init 25 = .ok (.aload_n 0, 1) := by decide +kernel
theorem dX6_init_26 : decode cX6_init 26 = .ok (.bipush 64, 2) := by decide +kernel
theorem dX6_init_28 : decode cX6_init 28 = .ok (.newarray .int, 2) := by decide +kernel
theorem dX6_init_30 : decode cX6_init 30 = .ok (.putfield 21, 3) := by decide +kernel
theorem dX6_init_33 : decode cX6_init 33 = .ok (.aload_n 0, 1) := by decide +kernel
theorem dX6_init_34 : decode cX6_init 34 = .ok (.bipush 64, 2) := by decide +kernel
theorem dX6_init_36 : decode cX6_init 36 = .ok (.newarray .int, 2) := by decide +kernel
theorem dX6_init_38 : decode cX6_init 38 = .ok (.putfield 24, 3) := by decide +kernel
theorem dX6_init_41 : decode cX6_init 41 = .ok (.aload_n 0, 1) := by decide +kernel
theorem dX6_init_42 : decode cX6_init 42 = .ok (.bipush 64, 2) := by decide +kernel
theorem dX6_init_44 : decode cX6_init 44 = .ok (.newarray .long, 2) := by decide +kernel
theorem dX6_init_46 : decode cX6_init 46 = .ok (.putfield 27, 3) := by decide +kernel
theorem dX6_init_49 : decode cX6_init 49 = .ok (.aload_n 0, 1) := by decide +kernel
theorem dX6_init_50 : decode cX6_init 50 = .ok (.bipush 64, 2) := by decide +kernel
theorem dX6_init_52 : decode cX6_init 52 = .ok (.newarray .long, 2) := by decide +kernel
theorem dX6_init_54 : decode cX6_init 54 = .ok (.putfield 31, 3) := by decide +kernel
theorem dX6_init_57 : decode cX6_init 57 = .ok (.return_, 1) := by decide +kernel
theorem dX6_thrown_0 : decode cX6_thrown 0 = .ok (.aload_n 0, 1) := by decide +kernel
theorem dX6_thrown_1 : decode cX6_thrown 1 = .ok (.getfield 34, 3) := by decide +kernel
theorem dX6_thrown_4 : decode cX6_thrown 4 = .ok (.ireturn, 1) := by decide +kernel
theorem dX6_goesWell_0 : decode cX6_goesWell 0 = .ok (.aload_n 0, 1) := by decide +kernel
theorem dX6_goesWell_1 : decode cX6_goesWell 1 = .ok (.iload_n 1, 1) := by decide +kernel
theorem dX6_goesWell_2 : decode cX6_goesWell 2 = .ok (.putfield 34, 3) := by decide +kernel
theorem dX6_goesWell_5 : decode cX6_goesWell 5 = .ok (.iload_n 1, 1) := by decide +kernel
theorem dX6_goesWell_6 : decode cX6_goesWell 6 = .ok (.ifCond .ne 7, 3) := by decide +kernel
theorem dX6_goesWell_9 : decode cX6_goesWell 9 = .ok (.iconst 1, 1) := by decide +kernel
theorem dX6_goesWell_10 : decode cX6_goesWell 10 = .ok (.goto 4, 3) := by decide +kernel
theorem dX6_goesWell_13 : decode cX6_goesWell 13 = .ok (.iconst 0, 1) := by decide +kernel
theorem dX6_goesWell_14 : decode cX6_goesWell 14 = .ok (.ireturn, 1) := by decide +kernel
theorem dX6_in_0 : decode cX6_in 0 = .ok (.iload_n 0, 1) := by decide +kernel
theorem dX6_in_1 : decode cX6_in 1 = .ok (.iload_n 1, 1) := by decide +kernel
theorem dX6_in_2 : decode cX6_in 2 = .ok (.if_icmp .lt 12, 3) := by decide +kernel
theorem dX6_in_5 : decode cX6_in 5 = .ok (.iload_n 0, 1) := by decide +kernel
theorem dX6_in_6 : decode cX6_in 6 = .ok (.iload_n 2, 1) := by decide +kernel
theorem dX6_in_7 : decode cX6_in 7 = .ok (.if_icmp .gt 7, 3) := by decide +kernel
theorem dX6_in_10 : decode cX6_in 10 = .ok (.iconst 1, 1) := by decide +kernel
theorem dX6_in_11 : decode cX6_in 11 = .ok (.goto 4, 3) := by decide +kernel
theorem dX6_in_14 : decode cX6_in 14 = .ok (.iconst 0, 1) := by decide +kernel
theorem dX6_in_15 : decode cX6_in 15 = .ok (.ireturn, 1) := by decide +kernel
set_option maxRecDepth 20000 in
theorem ggX6_isCell_X6_in : GoodIn wsX6_isCell wsX6_in := goodIn_r _ [4] (by decide +kernel) (by decide +kernel)
set_option maxRecDepth 20000 in
theorem gX6_isCell_X6_in : GoodIn wsX6_isCell (va_wsS RX6 37 yX6_in wsX6_in) := goodIn_app (goodIn_of _ (by decide +kernel)) ggX6_isCell_X6_in
theorem dX6_isCell_0 : decode cX6_isCell 0 = .ok (.iload_n 0, 1) := by decide +kernel
theorem dX6_isCell_1 : decode cX6_isCell 1 = .ok (.iconst 0, 1) := by decide +kernel
theorem dX6_isCell_2 : decode cX6_isCell 2 = .ok (.bipush 7, 2) := by decide +kernel
theorem dX6_isCell_4 : decode cX6_isCell 4 = .ok (.invokestatic 37, 3) := by decide +kernel
theorem dX6_isCell_7 : decode cX6_isCell 7 = .ok (.ifCond .eq 17, 3) := by decide +kernel
theorem dX6_isCell_10 : decode cX6_isCell 10 = .ok (.iload_n 1, 1) := by decide +kernel
theorem dX6_isCell_11 : decode cX6_isCell 11 = .ok (.iconst 0, 1) := by decide +kernel
theorem dX6_isCell_12 : decode cX6_isCell 12 = .ok (.bipush 7, 2) := by decide +kernel
theorem dX6_isCell_14 : decode cX6_isCell 14 = .ok (.invokestatic 37, 3) := by decide +kernel
theorem dX6_isCell_17 : decode cX6_isCell 17 = .ok (.ifCond .eq 7, 3) := by decide +kernel
theorem dX6_isCell_20 : decode cX6_isCell 20 = .ok (.iconst 1, 1) := by decide +kernel
theorem dX6_isCell_21 : decode cX6_isCell 21 = .ok (.goto 4, 3) := by decide +kernel
theorem dX6_isCell_24 : decode cX6_isCell 24 = .ok (.iconst 0, 1) := by decide +kernel
theorem dX6_isCell_25 : decode cX6_isCell 25 = .ok (.ireturn, 1) := by decide +kernel
set_option maxRecDepth 20000 in
theorem ggX6_isDirection_X6_in : GoodIn wsX6_isDirection wsX6_in := goodIn_r _ [4] (by decide +kernel) (by decide +kernel)
set_option maxRecDepth 20000 in
theorem gX6_isDirection_X6_in : GoodIn wsX6_isDirection (va_wsS RX6 37 yX6_in wsX6_in) := goodIn_app (goodIn_of _ (by decide +kernel)) ggX6_isDirection_X6_in
theorem dX6_isDirection_0 : decode cX6_isDirection 0 = .ok (.iload_n 0, 1) := by decide +kernel
theorem dX6_isDirection_1 : decode cX6_isDirection 1 = .ok (.iconst 0, 1) := by decide +kernel
theorem dX6_isDirection_2 : decode cX6_isDirection 2 = .ok (.iconst 3, 1) := by decide +kernel
theorem dX6_isDirection_3 : decode cX6_isDirection 3 = .ok (.invokestatic 37, 3) := by decide +kernel
theorem dX6_isDirection_6 : decode cX6_isDirection 6 = .ok (.ireturn, 1) := by decide +kernel
theorem dX6_free_0 : decode cX6_free 0 = .ok (.iconst 0, 1) := by decide +kernel
theorem dX6_free_1 : decode cX6_free 1 = .ok (.istore_n 1, 1) := by decide +kernel
theorem dX6_free_2 : decode cX6_free 2 = .ok (.iconst 0, 1) := by decide +kernel
theorem dX6_free_3 : decode cX6_free 3 = .ok (.istore_n 2, 1) := by decide +kernel
theorem dX6_free_4 : decode cX6_free 4 = .ok (.iload_n 2, 1) := by decide +kernel
theorem dX6_free_5 : decode cX6_free 5 = .ok (.bipush 64, 2) := by decide +kernel
theorem dX6_free_7 : decode cX6_free 7 = .ok (.if_icmp .ge 26, 3) := by decide +kernel
theorem dX6_free_10 : decode cX6_free 10 = .ok (.iload_n 1, 1) := by decide +kernel
theorem dX6_free_11 : decode cX6_free 11 = .ok (.aload_n 0, 1) := by decide +kernel
theorem dX6_free_12 : decode cX6_free 12 = .ok (.getfield 7, 3) := by decide +kernel
theorem dX6_free_15 : decode cX6_free 15 = .ok (.iload_n 2, 1) := by decide +kernel
theorem dX6_free_16 : decode cX6_free 16 = .ok (.baload, 1) := by decide +kernel
theorem dX6_free_17 : decode cX6_free 17 = .ok (.ifCond .eq 7, 3) := by decide +kernel
theorem dX6_free_20 : decode cX6_free 20 = .ok (.iconst 0, 1) := by decide +kernel
theorem dX6_free_21 : decode cX6_free 21 = .ok (.goto 4, 3) := by decide +kernel
theorem dX6_free_24 : decode cX6_free 24 = .ok (.iconst 1, 1) := by decide +kernel
theorem dX6_free_25 : decode cX6_free 25 = .ok (.iadd, 1) := by decide +kernel
theorem dX6_free_26 : decode cX6_free 26 = .ok (.istore_n 1, 1) := by decide +kernel
theorem dX6_free_27 : decode cX6_free 27 = .ok (.iinc 2 1, 3) := by decide +kernel
theorem dX6_free_30 : decode cX6_free 30 = .ok (.goto (-26), 3) := by decide +kernel
theorem dX6_free_33 : decode cX6_free 33 = .ok (.iload_n 1, 1) := by decide +kernel
theorem dX6_free_34 : decode cX6_free 34 = .ok (.ireturn, 1) := by decide +kernel
set_option maxRecDepth 20000 in
theorem ggX6_wall_X6_isCell : GoodIn wsX6_wall wsX6_isCell := goodIn_r _ [6, 7, 8, 5, 9] (by decide +kernel) (by decide +kernel)
set_option maxRecDepth 20000 in
theorem gX6_wall_X6_isCell : GoodIn wsX6_wall (va_wsS RX6 41 yX6_isCell wsX6_isCell) := goodIn_app (goodIn_of _ (by decide +kernel)) ggX6_wall_X6_isCell
set_option maxRecDepth 20000 in
theorem ggX6_wall_X6_free : GoodIn wsX6_wall wsX6_free := goodIn_r _ [13, 1, 19, 20, 21, 22, 23, 24, 25, 26, 27, 28, 29, 30, 31, 32, 33] (by decide +kernel) (by decide +kernel)
set_option maxRecDepth 20000 in
theorem gX6_wall_X6_free : GoodIn wsX6_wall (wsV RX6 45 RX6 yX6_free wsX6_free) := goodIn_app (goodIn_of _ (by decide +kernel)) ggX6_wall_X6_free
set_option maxRecDepth 20000 in
theorem ggX6_wall_X6_goesWell : GoodIn wsX6_wall wsX6_goesWell := goodIn_r _ [17, 18, 19, 20, 21, 22, 23, 24, 25, 26, 27, 28, 29, 30, 31, 32, 33] (by decide +kernel) (by decide +kernel)
set_option maxRecDepth 20000 in
theorem gX6_wall_X6_goesWell : GoodIn wsX6_wall (wsV RX6 53 RX6 yX6_goesWell wsX6_goesWell) := goodIn_app (goodIn_of _ (by decide +kernel)) ggX6_wall_X6_goesWell
theorem dX6_wall_0 : decode cX6_wall 0 = .ok (.iload_n 1, 1) := by decide +kernel
theorem dX6_wall_1 : decode cX6_wall 1 = .ok (.iload_n 2, 1) := by decide +kernel
theorem dX6_wall_2 : decode cX6_wall 2 = .ok (.invokestatic 41, 3) := by decide +kernel
theorem dX6_wall_5 : decode cX6_wall 5 = .ok (.istore 4, 2) := by decide +kernel
theorem dX6_wall_7 : decode cX6_wall 7 = .ok (.iload 4, 2) := by decide +kernel
theorem dX6_wall_9 : decode cX6_wall 9 = .ok (.ifCond .eq 12, 3) := by decide +kernel
theorem dX6_wall_12 : decode cX6_wall 12 = .ok (.bipush 8, 2) := by decide +kernel
theorem dX6_wall_14 : decode cX6_wall 14 = .ok (.iload_n 2, 1) := by decide +kernel
theorem dX6_wall_15 : decode cX6_wall 15 = .ok (.imul, 1) := by decide +kernel
theorem dX6_wall_16 : decode cX6_wall 16 = .ok (.iload_n 1, 1) := by decide +kernel
theorem dX6_wall_17 : decode cX6_wall 17 = .ok (.iadd, 1) := by decide +kernel
theorem dX6_wall_18 : decode cX6_wall 18 = .ok (.goto 4, 3) := by decide +kernel
theorem dX6_wall_21 : decode cX6_wall 21 = .ok (.iconst 0, 1) := by decide +kernel
theorem dX6_wall_22 : decode cX6_wall 22 = .ok (.istore 5, 2) := by decide +kernel
theorem dX6_wall_24 : decode cX6_wall 24 = .ok (.iload_n 3, 1) := by decide +kernel
theorem dX6_wall_25 : decode cX6_wall 25 = .ok (.ifCond .eq 25, 3) := by decide +kernel
theorem dX6_wall_28 : decode cX6_wall 28 = .ok (.aload_n 0, 1) := by decide +kernel
theorem dX6_wall_29 : decode cX6_wall 29 = .ok (.getfield 7, 3) := by decide +kernel
theorem dX6_wall_32 : decode cX6_wall 32 = .ok (.iload 5, 2) := by decide +kernel
theorem dX6_wall_34 : decode cX6_wall 34 = .ok (.baload, 1) := by decide +kernel
theorem dX6_wall_35 : decode cX6_wall 35 = .ok (.ifCond .ne 15, 3) := by decide +kernel
theorem dX6_wall_38 : decode cX6_wall 38 = .ok (.aload_n 0, 1) := by decide +kernel
theorem dX6_wall_39 : decode cX6_wall 39 = .ok (.invokevirtual 45, 3) := by decide +kernel
theorem dX6_wall_42 : decode cX6_wall 42 = .ok (.iconst 1, 1) := by decide +kernel
theorem dX6_wall_43 : decode cX6_wall 43 = .ok (.if_icmp .ne 7, 3) := by decide +kernel
theorem dX6_wall_46 : decode cX6_wall 46 = .ok (.iconst 1, 1) := by decide +kernel
theorem dX6_wall_47 : decode cX6_wall 47 = .ok (.goto 4, 3) := by decide +kernel
theorem dX6_wall_50 : decode cX6_wall 50 = .ok (.iconst 0, 1) := by decide +kernel
theorem dX6_wall_51 : decode cX6_wall 51 = .ok (.istore 6, 2) := by decide +kernel
theorem dX6_wall_53 : decode cX6_wall 53 = .ok (.aload_n 0, 1) := by decide +kernel
theorem dX6_wall_54 : decode cX6_wall 54 = .ok (.iload 4, 2) := by decide +kernel
theorem dX6_wall_56 : decode cX6_wall 56 = .ok (.ifCond .ne 7, 3) := by decide +kernel
theorem dX6_wall_59 : decode cX6_wall 59 = .ok (.iconst 1, 1) := by decide +kernel
theorem dX6_wall_60 : decode cX6_wall 60 = .ok (.goto 20, 3) := by decide +kernel
theorem dX6_wall_63 : decode cX6_wall 63 = .ok (.aload_n 0, 1) := by decide +kernel
theorem dX6_wall_64 : decode cX6_wall 64 = .ok (.getfield 49, 3) := by decide +kernel
theorem dX6_wall_67 : decode cX6_wall 67 = .ok (.ifCond .ne 8, 3) := by decide +kernel
theorem dX6_wall_70 : decode cX6_wall 70 = .ok (.iload 6, 2) := by decide +kernel
theorem dX6_wall_72 : decode cX6_wall 72 = .ok (.ifCond .eq 7, 3) := by decide +kernel
theorem dX6_wall_75 : decode cX6_wall 75 = .ok (.iconst 2, 1) := by decide +kernel
theorem dX6_wall_76 : decode cX6_wall 76 = .ok (.goto 4, 3) := by decide +kernel
theorem dX6_wall_79 : decode cX6_wall 79 = .ok (.iconst 0, 1) := by decide +kernel
theorem dX6_wall_80 : decode cX6_wall 80 = .ok (.invokevirtual 53, 3) := by decide +kernel
theorem dX6_wall_83 : decode cX6_wall 83 = .ok (.ifCond .ne 5, 3) := by decide +kernel
theorem dX6_wall_86 : decode cX6_wall 86 = .ok (.iconst 0, 1) := by decide +kernel
theorem dX6_wall_87 : decode cX6_wall 87 = .ok (.ireturn, 1) := by decide +kernel
theorem dX6_wall_88 : decode cX6_wall 88 = .ok (.aload_n 0, 1) := by decide +kernel
theorem dX6_wall_89 : decode cX6_wall 89 = .ok (.getfield 7, 3) := by decide +kernel
theorem dX6_wall_92 : decode cX6_wall 92 = .ok (.iload 5, 2) := by decide +kernel
theorem dX6_wall_94 : decode cX6_wall 94 = .ok (.baload, 1) := by decide +kernel
theorem dX6_wall_95 : decode cX6_wall 95 = .ok (.istore 7, 2) := by decide +kernel
theorem dX6_wall_97 : decode cX6_wall 97 = .ok (.aload_n 0, 1) := by decide +kernel
theorem dX6_wall_98 : decode cX6_wall 98 = .ok (.getfield 7, 3) := by decide +kernel
theorem dX6_wall_101 : decode cX6_wall 101 = .ok (.iload 5, 2) := by decide +kernel
theorem dX6_wall_103 : decode cX6_wall 103 = .ok (.iload_n 3, 1) := by decide +kernel
theorem dX6_wall_104 : decode cX6_wall 104 = .ok (.bastore, 1) := by decide +kernel
theorem dX6_wall_105 : decode cX6_wall 105 = .ok (.iload 7, 2) := by decide +kernel
theorem dX6_wall_107 : decode cX6_wall 107 = .ok (.ireturn, 1) := by decide +kernel
set_option maxRecDepth 20000 in
theorem ggX6_draw_X6_in : GoodIn wsX6_draw wsX6_in := goodIn_r _ [6] (by decide +kernel) (by decide +kernel)
set_option maxRecDepth 20000 in
theorem gX6_draw_X6_in : GoodIn wsX6_draw (va_wsS RX6 37 yX6_in wsX6_in) := goodIn_app (goodIn_of _ (by decide +kernel)) ggX6_draw_X6_in
set_option maxRecDepth 20000 in
theorem ggX6_draw_X6_goesWell : GoodIn wsX6_draw wsX6_goesWell := goodIn_r _ [10, 11, 12, 13, 14, 15, 16, 17, 18, 19, 20, 21, 22, 23, 24, 25, 26] (by decide +kernel) (by decide +kernel)
set_option maxRecDepth 20000 in
theorem gX6_draw_X6_goesWell : GoodIn wsX6_draw (wsV RX6 53 RX6 yX6_goesWell wsX6_goesWell) := goodIn_app (goodIn_of _ (by decide +kernel)) ggX6_draw_X6_goesWell
theorem dX6_draw_0 : decode cX6_draw 0 = .ok (.aload_n 0, 1) := by decide +kernel
theorem dX6_draw_1 : decode cX6_draw 1 = .ok (.iload_n 1, 1) := by decide +kernel
theorem dX6_draw_2 : decode cX6_draw 2 = .ok (.iconst 1, 1) := by decide +kernel
theorem dX6_draw_3 : decode cX6_draw 3 = .ok (.ldc 57, 2) := by decide +kernel
theorem dX6_draw_5 : decode cX6_draw 5 = .ok (.invokestatic 37, 3) := by decide +kernel
theorem dX6_draw_8 : decode cX6_draw 8 = .ok (.ifCond .eq 7, 3) := by decide +kernel
theorem dX6_draw_11 : decode cX6_draw 11 = .ok (.iconst 0, 1) := by decide +kernel
theorem dX6_draw_12 : decode cX6_draw 12 = .ok (.goto 4, 3) := by decide +kernel
theorem dX6_draw_15 : decode cX6_draw 15 = .ok (.iconst 1, 1) := by decide +kernel
theorem dX6_draw_16 : decode cX6_draw 16 = .ok (.invokevirtual 53, 3) := by decide +kernel
theorem dX6_draw_19 : decode cX6_draw 19 = .ok (.ifCond .ne 5, 3) := by decide +kernel
theorem dX6_draw_22 : decode cX6_draw 22 = .ok (.iconst 0, 1) := by decide +kernel
theorem dX6_draw_23 : decode cX6_draw 23 = .ok (.ireturn, 1) := by decide +kernel
theorem dX6_draw_24 : decode cX6_draw 24 = .ok (.aload_n 0, 1) := by decide +kernel
theorem dX6_draw_25 : decode cX6_draw 25 = .ok (.getfield 13, 3) := by decide +kernel
theorem dX6_draw_28 : decode cX6_draw 28 = .ok (.istore_n 2, 1) := by decide +kernel
theorem dX6_draw_29 : decode cX6_draw 29 = .ok (.aload_n 0, 1) := by decide +kernel
theorem dX6_draw_30 : decode cX6_draw 30 = .ok (.iload_n 1, 1) := by decide +kernel
theorem dX6_draw_31 : decode cX6_draw 31 = .ok (.putfield 13, 3) := by decide +kernel
theorem dX6_draw_34 : decode cX6_draw 34 = .ok (.iload_n 2, 1) := by decide +kernel
theorem dX6_draw_35 : decode cX6_draw 35 = .ok (.ireturn, 1) := by decide +kernel
theorem dX6_next_0 : decode cX6_next 0 = .ok (.aload_n 0, 1) := by decide +kernel
theorem dX6_next_1 : decode cX6_next 1 = .ok (.bipush 75, 2) := by decide +kernel
theorem dX6_next_3 : decode cX6_next 3 = .ok (.aload_n 0, 1) := by decide +kernel
theorem dX6_next_4 : decode cX6_next 4 = .ok (.getfield 13, 3) := by decide +kernel
theorem dX6_next_7 : decode cX6_next 7 = .ok (.imul, 1) := by decide +kernel
theorem dX6_next_8 : decode cX6_next 8 = .ok (.bipush 74, 2) := by decide +kernel
theorem dX6_next_10 : decode cX6_next 10 = .ok (.iadd, 1) := by decide +kernel
theorem dX6_next_11 : decode cX6_next 11 = .ok (.ldc 58, 2) := by decide +kernel
theorem dX6_next_13 : decode cX6_next 13 = .ok (.irem, 1) := by decide +kernel
theorem dX6_next_14 : decode cX6_next 14 = .ok (.putfield 13, 3) := by decide +kernel
theorem dX6_next_17 : decode cX6_next 17 = .ok (.aload_n 0, 1) := by decide +kernel
theorem dX6_next_18 : decode cX6_next 18 = .ok (.getfield 13, 3) := by decide +kernel
theorem dX6_next_21 : decode cX6_next 21 = .ok (.ireturn, 1) := by decide +kernel
set_option maxRecDepth 20000 in
theorem ggX6_drawCell_X6_next : GoodIn wsX6_drawCell wsX6_next := goodIn_r _ [6, 7, 8, 13, 14, 15, 16, 17, 18, 19, 20, 21, 22, 23, 24, 25, 26, 27] (by decide +kernel) (by decide +kernel)
set_option maxRecDepth 20000 in
theorem gX6_drawCell_X6_next : GoodIn wsX6_drawCell (wsV RX6 59 RX6 yX6_next wsX6_next) := goodIn_app (goodIn_of _ (by decide +kernel)) ggX6_drawCell_X6_next
set_option maxRecDepth 20000 in
theorem ggX6_drawCell_X6_free : GoodIn wsX6_drawCell wsX6_free := goodIn_r _ [12, 1, 13, 14, 15, 16, 17, 18, 19, 20, 21, 22, 23, 24, 25, 26, 27] (by decide +kernel) (by decide +kernel)
set_option maxRecDepth 20000 in
theorem gX6_drawCell_X6_free : GoodIn wsX6_drawCell (wsV RX6 45 RX6 yX6_free wsX6_free) := goodIn_app (goodIn_of _ (by decide +kernel)) ggX6_drawCell_X6_free
theorem dX6_drawCell_0 : decode cX6_drawCell 0 = .ok (.aload_n 0, 1) := by decide +kernel
theorem dX6_drawCell_1 : decode cX6_drawCell 1 = .ok (.invokevirtual 59, 3) := by decide +kernel
theorem dX6_drawCell_4 : decode cX6_drawCell 4 = .ok (.aload_n 0, 1) := by decide +kernel
theorem dX6_drawCell_5 : decode cX6_drawCell 5 = .ok (.invokevirtual 45, 3) := by decide +kernel
theorem dX6_drawCell_8 : decode cX6_drawCell 8 = .ok (.irem, 1) := by decide +kernel
theorem dX6_drawCell_9 : decode cX6_drawCell 9 = .ok (.istore_n 1, 1) := by decide +kernel
theorem dX6_drawCell_10 : decode cX6_drawCell 10 = .ok (.iconst 0, 1) := by decide +kernel
theorem dX6_drawCell_11 : decode cX6_drawCell 11 = .ok (.istore_n 2, 1) := by decide +kernel
theorem dX6_drawCell_12 : decode cX6_drawCell 12 = .ok (.aload_n 0, 1) := by decide +kernel
theorem dX6_drawCell_13 : decode cX6_drawCell 13 = .ok (.getfield 7, 3) := by decide +kernel
theorem dX6_drawCell_16 : decode cX6_drawCell 16 = .ok (.iload_n 2, 1) := by decide +kernel
theorem dX6_drawCell_17 : decode cX6_drawCell 17 = .ok (.baload, 1) := by decide +kernel
theorem dX6_drawCell_18 : decode cX6_drawCell 18 = .ok (.ifCond .ne 7, 3) := by decide +kernel
theorem dX6_drawCell_21 : decode cX6_drawCell 21 = .ok (.iload_n 1, 1) := by decide +kernel
theorem dX6_drawCell_22 : decode cX6_drawCell 22 = .ok (.ifCond .le 26, 3) := by decide +kernel
theorem dX6_drawCell_25 : decode cX6_drawCell 25 = .ok (.iload_n 1, 1) := by decide +kernel
theorem dX6_drawCell_26 : decode cX6_drawCell 26 = .ok (.aload_n 0, 1) := by decide +kernel
theorem dX6_drawCell_27 : decode cX6_drawCell 27 = .ok (.getfield 7, 3) := by decide +kernel
theorem dX6_drawCell_30 : decode cX6_drawCell 30 = .ok (.iload_n 2, 1) := by decide +kernel
theorem dX6_drawCell_31 : decode cX6_drawCell 31 = .ok (.baload, 1) := by decide +kernel
theorem dX6_drawCell_32 : decode cX6_drawCell 32 = .ok (.ifCond .eq 7, 3) := by decide +kernel
theorem dX6_drawCell_35 : decode cX6_drawCell 35 = .ok (.iconst 0, 1) := by decide +kernel
theorem dX6_drawCell_36 : decode cX6_drawCell 36 = .ok (.goto 4, 3) := by decide +kernel
theorem dX6_drawCell_39 : decode cX6_drawCell 39 = .ok (.iconst 1, 1) := by decide +kernel
theorem dX6_drawCell_40 : decode cX6_drawCell 40 = .ok (.isub, 1) := by decide +kernel
theorem dX6_drawCell_41 : decode cX6_drawCell 41 = .ok (.istore_n 1, 1) := by decide +kernel
theorem dX6_drawCell_42 : decode cX6_drawCell 42 = .ok (.iinc 2 1, 3) := by decide +kernel
theorem dX6_drawCell_45 : decode cX6_drawCell 45 = .ok (.goto (-33), 3) := by decide +kernel
theorem dX6_drawCell_48 : decode cX6_drawCell 48 = .ok (.iload_n 2, 1) := by decide +kernel
theorem dX6_drawCell_49 : decode cX6_drawCell 49 = .ok (.ireturn, 1) := by decide +kernel
set_option maxRecDepth 20000 in
theorem ggX6_step_X6_isCell : GoodIn wsX6_step wsX6_isCell := goodIn_r _ [5, 6, 7, 4, 8] (by decide +kernel) (by decide +kernel)
set_option maxRecDepth 20000 in
theorem gX6_step_X6_isCell : GoodIn wsX6_step (va_wsS RX6 41 yX6_isCell wsX6_isCell) := goodIn_app (goodIn_of _ (by decide +kernel)) ggX6_step_X6_isCell
theorem dX6_step_0 : decode cX6_step 0 = .ok (.iload_n 1, 1) := by decide +kernel
theorem dX6_step_1 : decode cX6_step 1 = .ok (.bipush 8, 2) := by decide +kernel
theorem dX6_step_3 : decode cX6_step 3 = .ok (.irem, 1) := by decide +kernel
theorem dX6_step_4 : decode cX6_step 4 = .ok (.iload_n 2, 1) := by decide +kernel
theorem dX6_step_5 : decode cX6_step 5 = .ok (.ifCond .ne 7, 3) := by decide +kernel
theorem dX6_step_8 : decode cX6_step 8 = .ok (.iconst 1, 1) := by decide +kernel
theorem dX6_step_9 : decode cX6_step 9 = .ok (.goto 13, 3) := by decide +kernel
theorem dX6_step_12 : decode cX6_step 12 = .ok (.iload_n 2, 1) := by decide +kernel
theorem dX6_step_13 : decode cX6_step 13 = .ok (.iconst 2, 1) := by decide +kernel
theorem dX6_step_14 : decode cX6_step 14 = .ok (.if_icmp .ne 7, 3) := by decide +kernel
theorem dX6_step_17 : decode cX6_step 17 = .ok (.iconst (-1), 1) := by decide +kernel
theorem dX6_step_18 : decode cX6_step 18 = .ok (.goto 4, 3) := by decide +kernel
theorem dX6_step_21 : decode cX6_step 21 = .ok (.iconst 0, 1) := by decide +kernel
theorem dX6_step_22 : decode cX6_step 22 = .ok (.iadd, 1) := by decide +kernel
theorem dX6_step_23 : decode cX6_step 23 = .ok (.istore_n 3, 1) := by decide +kernel
theorem dX6_step_24 : decode cX6_step 24 = .ok (.iload_n 1, 1) := by decide +kernel
theorem dX6_step_25 : decode cX6_step 25 = .ok (.bipush 8, 2) := by decide +kernel
theorem dX6_step_27 : decode cX6_step 27 = .ok (.idiv, 1) := by decide +kernel
theorem dX6_step_28 : decode cX6_step 28 = .ok (.iload_n 2, 1) := by decide +kernel
theorem dX6_step_29 : decode cX6_step 29 = .ok (.iconst 1, 1) := by decide +kernel
theorem dX6_step_30 : decode cX6_step 30 = .ok (.if_icmp .ne 7, 3) := by decide +kernel
theorem dX6_step_33 : decode cX6_step 33 = .ok (.iconst 1, 1) := by decide +kernel
theorem dX6_step_34 : decode cX6_step 34 = .ok (.goto 13, 3) := by decide +kernel
theorem dX6_step_37 : decode cX6_step 37 = .ok (.iload_n 2, 1) := by decide +kernel
theorem dX6_step_38 : decode cX6_step 38 = .ok (.iconst 3, 1) := by decide +kernel
theorem dX6_step_39 : decode cX6_step 39 = .ok (.if_icmp .ne 7, 3) := by decide +kernel
theorem dX6_step_42 : decode cX6_step 42 = .ok (.iconst (-1), 1) := by decide +kernel
theorem dX6_step_43 : decode cX6_step 43 = .ok (.goto 4, 3) := by decide +kernel
theorem dX6_step_46 : decode cX6_step 46 = .ok (.iconst 0, 1) := by decide +kernel
theorem dX6_step_47 : decode cX6_step 47 = .ok (.iadd, 1) := by decide +kernel
theorem dX6_step_48 : decode cX6_step 48 = .ok (.istore 4, 2) := by decide +kernel
theorem dX6_step_50 : decode cX6_step 50 = .ok (.iload_n 3, 1) := by decide +kernel
theorem dX6_step_51 : decode cX6_step 51 = .ok (.iload 4, 2) := by decide +kernel
theorem dX6_step_53 : decode cX6_step 53 = .ok (.invokestatic 41, 3) := by decide +kernel
theorem dX6_step_56 : decode cX6_step 56 = .ok (.ifCond .eq 28, 3) := by decide +kernel
theorem dX6_step_59 : decode cX6_step 59 = .ok (.aload_n 0, 1) := by decide +kernel
theorem dX6_step_60 : decode cX6_step 60 = .ok (.getfield 7, 3) := by decide +kernel
theorem dX6_step_63 : decode cX6_step 63 = .ok (.bipush 8, 2) := by decide +kernel
theorem dX6_step_65 : decode cX6_step 65 = .ok (.iload 4, 2) := by decide +kernel
theorem dX6_step_67 : decode cX6_step 67 = .ok (.imul, 1) := by decide +kernel
theorem dX6_step_68 : decode cX6_step 68 = .ok (.iload_n 3, 1) := by decide +kernel
theorem dX6_step_69 : decode cX6_step 69 = .ok (.iadd, 1) := by decide +kernel
theorem dX6_step_70 : decode cX6_step 70 = .ok (.baload, 1) := by decide +kernel
theorem dX6_step_71 : decode cX6_step 71 = .ok (.ifCond .ne 13, 3) := by decide +kernel
theorem dX6_step_74 : decode cX6_step 74 = .ok (.bipush 8, 2) := by decide +kernel
theorem dX6_step_76 : decode cX6_step 76 = .ok (.iload 4, 2) := by decide +kernel
theorem dX6_step_78 : decode cX6_step 78 = .ok (.imul, 1) := by decide +kernel
theorem dX6_step_79 : decode cX6_step 79 = .ok (.iload_n 3, 1) := by decide +kernel
theorem dX6_step_80 : decode cX6_step 80 = .ok (.iadd, 1) := by decide +kernel
theorem dX6_step_81 : decode cX6_step 81 = .ok (.goto 4, 3) := by decide +kernel
theorem dX6_step_84 : decode cX6_step 84 = .ok (.iload_n 1, 1) := by decide +kernel
theorem dX6_step_85 : decode cX6_step 85 = .ok (.ireturn, 1) := by decide +kernel
set_option maxRecDepth 20000 in
theorem ggX6_reads_X6_step : GoodIn wsX6_reads wsX6_step := goodIn_r _ [5, 6, 7, 8, 4, 9, 10, 11, 12, 13, 14, 15, 16, 17, 18, 19, 20, 21, 22, 23, 24, 25, 26, 27] (by decide +kernel) (by decide +kernel)
set_option maxRecDepth 20000 in
theorem gX6_reads_X6_step : GoodIn wsX6_reads (wsV RX6 62 RX6 yX6_step wsX6_step) := goodIn_app (goodIn_of _ (by decide +kernel)) ggX6_reads_X6_step
theorem dX6_reads_0 : decode cX6_reads 0 = .ok (.iconst 0, 1) := by decide +kernel
theorem dX6_reads_1 : decode cX6_reads 1 = .ok (.istore_n 3, 1) := by decide +kernel
theorem dX6_reads_2 : decode cX6_reads 2 = .ok (.iload_n 1, 1) := by decide +kernel
theorem dX6_reads_3 : decode cX6_reads 3 = .ok (.istore 4, 2) := by decide +kernel
theorem dX6_reads_5 : decode cX6_reads 5 = .ok (.aload_n 0, 1) := by decide +kernel
theorem dX6_reads_6 : decode cX6_reads 6 = .ok (.iload 4, 2) := by decide +kernel
theorem dX6_reads_8 : decode cX6_reads 8 = .ok (.iload_n 2, 1) := by decide +kernel
theorem dX6_reads_9 : decode cX6_reads 9 = .ok (.invokevirtual 62, 3) := by decide +kernel
theorem dX6_reads_12 : decode cX6_reads 12 = .ok (.iload 4, 2) := by decide +kernel
theorem dX6_reads_14 : decode cX6_reads 14 = .ok (.if_icmp .eq 18, 3) := by decide +kernel
theorem dX6_reads_17 : decode cX6_reads 17 = .ok (.aload_n 0, 1) := by decide +kernel
theorem dX6_reads_18 : decode cX6_reads 18 = .ok (.iload 4, 2) := by decide +kernel
theorem dX6_reads_20 : decode cX6_reads 20 = .ok (.iload_n 2, 1) := by decide +kernel
theorem dX6_reads_21 : decode cX6_reads 21 = .ok (.invokevirtual 62, 3) := by decide +kernel
theorem dX6_reads_24 : decode cX6_reads 24 = .ok (.istore 4, 2) := by decide +kernel
theorem dX6_reads_26 : decode cX6_reads 26 = .ok (.iinc 3 1, 3) := by decide +kernel
theorem dX6_reads_29 : decode cX6_reads 29 = .ok (.goto (-24), 3) := by decide +kernel
theorem dX6_reads_32 : decode cX6_reads 32 = .ok (.iload_n 3, 1) := by decide +kernel
theorem dX6_reads_33 : decode cX6_reads 33 = .ok (.ireturn, 1) := by decide +kernel
set_option maxRecDepth 20000 in
theorem ggX6_weightOf_X6_reads : GoodIn wsX6_weightOf wsX6_reads := goodIn_r _ [5, 6, 7, 8, 4, 9, 10, 11, 12, 13, 14, 15, 16, 17, 18, 19, 20, 21, 22, 23, 24, 25, 26, 27, 28, 29, 30, 31] (by decide +kernel) (by decide +kernel)
set_option maxRecDepth 20000 in
theorem gX6_weightOf_X6_reads : GoodIn wsX6_weightOf (wsV RX6 66 RX6 yX6_reads wsX6_reads) := goodIn_app (goodIn_of _ (by decide +kernel)) ggX6_weightOf_X6_reads
theorem dX6_weightOf_0 : decode cX6_weightOf 0 = .ok (.aload_n 0, 1) := by decide +kernel
theorem dX6_weightOf_1 : decode cX6_weightOf 1 = .ok (.iload_n 1, 1) := by decide +kernel
theorem dX6_weightOf_2 : decode cX6_weightOf 2 = .ok (.iload_n 2, 1) := by decide +kernel
theorem dX6_weightOf_3 : decode cX6_weightOf 3 = .ok (.invokevirtual 66, 3) := by decide +kernel
theorem dX6_weightOf_6 : decode cX6_weightOf 6 = .ok (.iload_n 3, 1) := by decide +kernel
theorem dX6_weightOf_7 : decode cX6_weightOf 7 = .ok (.isub, 1) := by decide +kernel
theorem dX6_weightOf_8 : decode cX6_weightOf 8 = .ok (.istore 4, 2) := by decide +kernel
theorem dX6_weightOf_10 : decode cX6_weightOf 10 = .ok (.iload 4, 2) := by decide +kernel
theorem dX6_weightOf_12 : decode cX6_weightOf 12 = .ok (.ifCond .ge 9, 3) := by decide +kernel
theorem dX6_weightOf_15 : decode cX6_weightOf 15 = .ok (.iload 4, 2) := by decide +kernel
theorem dX6_weightOf_17 : decode cX6_weightOf 17 = .ok (.ineg, 1) := by decide +kernel
theorem dX6_weightOf_18 : decode cX6_weightOf 18 = .ok (.goto 5, 3) := by decide +kernel
theorem dX6_weightOf_21 : decode cX6_weightOf 21 = .ok (.iload 4, 2) := by decide +kernel
theorem dX6_weightOf_23 : decode cX6_weightOf 23 = .ok (.istore 4, 2) := by decide +kernel
theorem dX6_weightOf_25 : decode cX6_weightOf 25 = .ok (.iload 4, 2) := by decide +kernel
theorem dX6_weightOf_27 : decode cX6_weightOf 27 = .ok (.ifCond .ne 8, 3) := by decide +kernel
theorem dX6_weightOf_30 : decode cX6_weightOf 30 = .ok (.bipush 8, 2) := by decide +kernel
theorem dX6_weightOf_32 : decode cX6_weightOf 32 = .ok (.goto 24, 3) := by decide +kernel
theorem dX6_weightOf_35 : decode cX6_weightOf 35 = .ok (.iload 4, 2) := by decide +kernel
theorem dX6_weightOf_37 : decode cX6_weightOf 37 = .ok (.iconst 1, 1) := by decide +kernel
theorem dX6_weightOf_38 : decode cX6_weightOf 38 = .ok (.if_icmp .ne 7, 3) := by decide +kernel
theorem dX6_weightOf_41 : decode cX6_weightOf 41 = .ok (.iconst 3, 1) := by decide +kernel
theorem dX6_weightOf_42 : decode cX6_weightOf 42 = .ok (.goto 14, 3) := by decide +kernel
theorem dX6_weightOf_45 : decode cX6_weightOf 45 = .ok (.iload 4, 2) := by decide +kernel
theorem dX6_weightOf_47 : decode cX6_weightOf 47 = .ok (.iconst 2, 1) := by decide +kernel
theorem dX6_weightOf_48 : decode cX6_weightOf 48 = .ok (.if_icmp .ne 7, 3) := by decide +kernel
theorem dX6_weightOf_51 : decode cX6_weightOf 51 = .ok (.iconst 1, 1) := by decide +kernel
theorem dX6_weightOf_52 : decode cX6_weightOf 52 = .ok (.goto 4, 3) := by decide +kernel
theorem dX6_weightOf_55 : decode cX6_weightOf 55 = .ok (.iconst 0, 1) := by decide +kernel
theorem dX6_weightOf_56 : decode cX6_weightOf 56 = .ok (.ireturn, 1) := by decide +kernel
theorem dX6_believeAll_0 : decode cX6_believeAll 0 = .ok (.iconst 0, 1) := by decide +kernel
theorem dX6_believeAll_1 : decode cX6_believeAll 1 = .ok (.istore_n 1, 1) := by decide +kernel
theorem dX6_believeAll_2 : decode cX6_believeAll 2 = .ok (.iload_n 1, 1) := by decide +kernel
theorem dX6_believeAll_3 : decode cX6_believeAll 3 = .ok (.bipush 64, 2) := by decide +kernel
theorem dX6_believeAll_5 : decode cX6_believeAll 5 = .ok (.if_icmp .ge 29, 3) := by decide +kernel
theorem dX6_believeAll_8 : decode cX6_believeAll 8 = .ok (.aload_n 0, 1) := by decide +kernel
theorem dX6_believeAll_9 : decode cX6_believeAll 9 = .ok (.getfield 27, 3) := by decide +kernel
theorem dX6_believeAll_12 : decode cX6_believeAll 12 = .ok (.iload_n 1, 1) := by decide +kernel
theorem dX6_believeAll_13 : decode cX6_believeAll 13 = .ok (.aload_n 0, 1) := by decide +kernel
theorem dX6_believeAll_14 : decode cX6_believeAll 14 = .ok (.getfield 7, 3) := by decide +kernel
theorem dX6_believeAll_17 : decode cX6_believeAll 17 = .ok (.iload_n 1, 1) := by decide +kernel
theorem dX6_believeAll_18 : decode cX6_believeAll 18 = .ok (.baload, 1) := by decide +kernel
theorem dX6_believeAll_19 : decode cX6_believeAll 19 = .ok (.ifCond .eq 7, 3) := by decide +kernel
theorem dX6_believeAll_22 : decode cX6_believeAll 22 = .ok (.lconst 0, 1) := by decide +kernel
theorem dX6_believeAll_23 : decode cX6_believeAll 23 = .ok (.goto 4, 3) := by decide +kernel
theorem dX6_believeAll_26 : decode cX6_believeAll 26 = .ok (.lconst 1, 1) := by decide +kernel
theorem dX6_believeAll_27 : decode cX6_believeAll 27 = .ok (.lastore, 1) := by decide +kernel
theorem dX6_believeAll_28 : decode cX6_believeAll 28 = .ok (.iinc 1 1, 3) := by decide +kernel
theorem dX6_believeAll_31 : decode cX6_believeAll 31 = .ok (.goto (-29), 3) := by decide +kernel
theorem dX6_believeAll_34 : decode cX6_believeAll 34 = .ok (.return_, 1) := by decide +kernel
set_option maxRecDepth 20000 in
theorem ggX6_spread_X6_in : GoodIn wsX6_spread wsX6_in := goodIn_r _ [10] (by decide +kernel) (by decide +kernel)
set_option maxRecDepth 20000 in
theorem gX6_spread_X6_in : GoodIn wsX6_spread (va_wsS RX6 37 yX6_in wsX6_in) := goodIn_app (goodIn_of _ (by decide +kernel)) ggX6_spread_X6_in
set_option maxRecDepth 20000 in
theorem ggX6_spread_X6_goesWell : GoodIn wsX6_spread wsX6_goesWell := goodIn_r _ [14, 15, 36, 37, 38, 39, 40, 41, 42, 43, 44, 45, 46, 47, 48, 49, 50] (by decide +kernel) (by decide +kernel)
set_option maxRecDepth 20000 in
theorem gX6_spread_X6_goesWell : GoodIn wsX6_spread (wsV RX6 53 RX6 yX6_goesWell wsX6_goesWell) := goodIn_app (goodIn_of _ (by decide +kernel)) ggX6_spread_X6_goesWell
set_option maxRecDepth 20000 in
theorem ggX6_spread_X6_drawCell : GoodIn wsX6_spread wsX6_drawCell := goodIn_r _ [19, 20, 21, 22, 23, 9, 24, 25, 26, 27, 28, 29, 30, 36, 37, 38, 39, 40, 41, 42, 43, 44, 45, 46, 47, 48, 49, 50] (by decide +kernel) (by decide +kernel)
set_option maxRecDepth 20000 in
theorem gX6_spread_X6_drawCell : GoodIn wsX6_spread (wsV RX6 72 RX6 yX6_drawCell wsX6_drawCell) := goodIn_app (goodIn_of _ (by decide +kernel)) ggX6_spread_X6_drawCell
set_option maxRecDepth 20000 in
theorem ggX6_spread_X6_believeAll : GoodIn wsX6_spread wsX6_believeAll := goodIn_r _ [34, 35, 20, 36, 37, 38, 39, 40, 41, 42, 43, 44, 45, 46, 47, 48, 49, 50] (by decide +kernel) (by decide +kernel)
set_option maxRecDepth 20000 in
theorem gX6_spread_X6_believeAll : GoodIn wsX6_spread (wsV RX6 75 RX6 yX6_believeAll wsX6_believeAll) := goodIn_app (goodIn_of _ (by decide +kernel)) ggX6_spread_X6_believeAll
theorem dX6_spread_0 : decode cX6_spread 0 = .ok (.aload_n 0, 1) := by decide +kernel
theorem dX6_spread_1 : decode cX6_spread 1 = .ok (.iload_n 1, 1) := by decide +kernel
theorem dX6_spread_2 : decode cX6_spread 2 = .ok (.bipush 8, 2) := by decide +kernel
theorem dX6_spread_4 : decode cX6_spread 4 = .ok (.bipush 64, 2) := by decide +kernel
theorem dX6_spread_6 : decode cX6_spread 6 = .ok (.invokestatic 37, 3) := by decide +kernel
theorem dX6_spread_9 : decode cX6_spread 9 = .ok (.ifCond .eq 7, 3) := by decide +kernel
theorem dX6_spread_12 : decode cX6_spread 12 = .ok (.iconst 0, 1) := by decide +kernel
end
section
theorem dX6_spread_13 : decode cX6_spread 13 = .ok (.goto 4, 3) := by decide +kernel
theorem dX6_spread_16 : decode cX6_spread 16 = .ok (.iconst 1, 1) := by decide +kernel
theorem dX6_spread_17 : decode cX6_spread 17 = .ok (.invokevirtual 53, 3) := by decide +kernel
theorem dX6_spread_20 : decode cX6_spread 20 = .ok (.ifCond .ne 4, 3) := by decide +kernel
theorem dX6_spread_23 : decode cX6_spread 23 = .ok (.return_, 1) := by decide +kernel
theorem dX6_spread_24 : decode cX6_spread 24 = .ok (.aload_n 0, 1) := by decide +kernel
theorem dX6_spread_25 : decode cX6_spread 25 = .ok (.iconst 1, 1) := by decide +kernel
theorem dX6_spread_26 : decode cX6_spread 26 = .ok (.putfield 49, 3) := by decide +kernel
theorem dX6_spread_29 : decode cX6_spread 29 = .ok (.aload_n 0, 1) := by decide +kernel
theorem dX6_spread_30 : decode cX6_spread 30 = .ok (.iload_n 1, 1) := by decide +kernel
theorem dX6_spread_31 : decode cX6_spread 31 = .ok (.putfield 69, 3) := by decide +kernel
theorem dX6_spread_34 : decode cX6_spread 34 = .ok (.iconst 0, 1) := by decide +kernel
theorem dX6_spread_35 : decode cX6_spread 35 = .ok (.istore_n 2, 1) := by decide +kernel
theorem dX6_spread_36 : decode cX6_spread 36 = .ok (.iload_n 2, 1) := by decide +kernel
theorem dX6_spread_37 : decode cX6_spread 37 = .ok (.iload_n 1, 1) := by decide +kernel
theorem dX6_spread_38 : decode cX6_spread 38 = .ok (.if_icmp .ge 19, 3) := by decide +kernel
theorem dX6_spread_41 : decode cX6_spread 41 = .ok (.aload_n 0, 1) := by decide +kernel
theorem dX6_spread_42 : decode cX6_spread 42 = .ok (.getfield 17, 3) := by decide +kernel
theorem dX6_spread_45 : decode cX6_spread 45 = .ok (.iload_n 2, 1) := by decide +kernel
theorem dX6_spread_46 : decode cX6_spread 46 = .ok (.aload_n 0, 1) := by decide +kernel
theorem dX6_spread_47 : decode cX6_spread 47 = .ok (.invokevirtual 72, 3) := by decide +kernel
theorem dX6_spread_50 : decode cX6_spread 50 = .ok (.iastore, 1) := by decide +kernel
theorem dX6_spread_51 : decode cX6_spread 51 = .ok (.iinc 2 1, 3) := by decide +kernel
theorem dX6_spread_54 : decode cX6_spread 54 = .ok (.goto (-18), 3) := by decide +kernel
theorem dX6_spread_57 : decode cX6_spread 57 = .ok (.aload_n 0, 1) := by decide +kernel
theorem dX6_spread_58 : decode cX6_spread 58 = .ok (.invokevirtual 75, 3) := by decide +kernel
theorem dX6_spread_61 : decode cX6_spread 61 = .ok (.aload_n 0, 1) := by decide +kernel
theorem dX6_spread_62 : decode cX6_spread 62 = .ok (.iconst 0, 1) := by decide +kernel
theorem dX6_spread_63 : decode cX6_spread 63 = .ok (.putfield 78, 3) := by decide +kernel
theorem dX6_spread_66 : decode cX6_spread 66 = .ok (.aload_n 0, 1) := by decide +kernel
theorem dX6_spread_67 : decode cX6_spread 67 = .ok (.iconst 0, 1) := by decide +kernel
theorem dX6_spread_68 : decode cX6_spread 68 = .ok (.putfield 81, 3) := by decide +kernel
theorem dX6_spread_71 : decode cX6_spread 71 = .ok (.aload_n 0, 1) := by decide +kernel
theorem dX6_spread_72 : decode cX6_spread 72 = .ok (.iconst 0, 1) := by decide +kernel
theorem dX6_spread_73 : decode cX6_spread 73 = .ok (.putfield 84, 3) := by decide +kernel
theorem dX6_spread_76 : decode cX6_spread 76 = .ok (.return_, 1) := by decide +kernel
theorem dX6_areNone_0 : decode cX6_areNone 0 = .ok (.iconst 1, 1) := by decide +kernel
theorem dX6_areNone_1 : decode cX6_areNone 1 = .ok (.istore_n 1, 1) := by decide +kernel
theorem dX6_areNone_2 : decode cX6_areNone 2 = .ok (.iconst 0, 1) := by decide +kernel
theorem dX6_areNone_3 : decode cX6_areNone 3 = .ok (.istore_n 2, 1) := by decide +kernel
theorem dX6_areNone_4 : decode cX6_areNone 4 = .ok (.iload_n 2, 1) := by decide +kernel
theorem dX6_areNone_5 : decode cX6_areNone 5 = .ok (.bipush 64, 2) := by decide +kernel
theorem dX6_areNone_7 : decode cX6_areNone 7 = .ok (.if_icmp .ge 30, 3) := by decide +kernel
theorem dX6_areNone_10 : decode cX6_areNone 10 = .ok (.iload_n 1, 1) := by decide +kernel
theorem dX6_areNone_11 : decode cX6_areNone 11 = .ok (.ifCond .eq 18, 3) := by decide +kernel
theorem dX6_areNone_14 : decode cX6_areNone 14 = .ok (.aload_n 0, 1) := by decide +kernel
theorem dX6_areNone_15 : decode cX6_areNone 15 = .ok (.getfield 27, 3) := by decide +kernel
theorem dX6_areNone_18 : decode cX6_areNone 18 = .ok (.iload_n 2, 1) := by decide +kernel
theorem dX6_areNone_19 : decode cX6_areNone 19 = .ok (.laload, 1) := by decide +kernel
theorem dX6_areNone_20 : decode cX6_areNone 20 = .ok (.lconst 0, 1) := by decide +kernel
theorem dX6_areNone_21 : decode cX6_areNone 21 = .ok (.lcmp, 1) := by decide +kernel
theorem dX6_areNone_22 : decode cX6_areNone 22 = .ok (.ifCond .ne 7, 3) := by decide +kernel
theorem dX6_areNone_25 : decode cX6_areNone 25 = .ok (.iconst 1, 1) := by decide +kernel
theorem dX6_areNone_26 : decode cX6_areNone 26 = .ok (.goto 4, 3) := by decide +kernel
theorem dX6_areNone_29 : decode cX6_areNone 29 = .ok (.iconst 0, 1) := by decide +kernel
theorem dX6_areNone_30 : decode cX6_areNone 30 = .ok (.istore_n 1, 1) := by decide +kernel
theorem dX6_areNone_31 : decode cX6_areNone 31 = .ok (.iinc 2 1, 3) := by decide +kernel
theorem dX6_areNone_34 : decode cX6_areNone 34 = .ok (.goto (-30), 3) := by decide +kernel
theorem dX6_areNone_37 : decode cX6_areNone 37 = .ok (.iload_n 1, 1) := by decide +kernel
theorem dX6_areNone_38 : decode cX6_areNone 38 = .ok (.ireturn, 1) := by decide +kernel
theorem dX6_greatest_0 : decode cX6_greatest 0 = .ok (.lconst 0, 1) := by decide +kernel
theorem dX6_greatest_1 : decode cX6_greatest 1 = .ok (.lstore_n 1, 1) := by decide +kernel
theorem dX6_greatest_2 : decode cX6_greatest 2 = .ok (.iconst 0, 1) := by decide +kernel
theorem dX6_greatest_3 : decode cX6_greatest 3 = .ok (.istore_n 3, 1) := by decide +kernel
theorem dX6_greatest_4 : decode cX6_greatest 4 = .ok (.iload_n 3, 1) := by decide +kernel
theorem dX6_greatest_5 : decode cX6_greatest 5 = .ok (.bipush 64, 2) := by decide +kernel
theorem dX6_greatest_7 : decode cX6_greatest 7 = .ok (.if_icmp .ge 31, 3) := by decide +kernel
theorem dX6_greatest_10 : decode cX6_greatest 10 = .ok (.aload_n 0, 1) := by decide +kernel
theorem dX6_greatest_11 : decode cX6_greatest 11 = .ok (.getfield 27, 3) := by decide +kernel
theorem dX6_greatest_14 : decode cX6_greatest 14 = .ok (.iload_n 3, 1) := by decide +kernel
theorem dX6_greatest_15 : decode cX6_greatest 15 = .ok (.laload, 1) := by decide +kernel
theorem dX6_greatest_16 : decode cX6_greatest 16 = .ok (.lload_n 1, 1) := by decide +kernel
theorem dX6_greatest_17 : decode cX6_greatest 17 = .ok (.lcmp, 1) := by decide +kernel
theorem dX6_greatest_18 : decode cX6_greatest 18 = .ok (.ifCond .le 12, 3) := by decide +kernel
theorem dX6_greatest_21 : decode cX6_greatest 21 = .ok (.aload_n 0, 1) := by decide +kernel
theorem dX6_greatest_22 : decode cX6_greatest 22 = .ok (.getfield 27, 3) := by decide +kernel
theorem dX6_greatest_25 : decode cX6_greatest 25 = .ok (.iload_n 3, 1) := by decide +kernel
theorem dX6_greatest_26 : decode cX6_greatest 26 = .ok (.laload, 1) := by decide +kernel
theorem dX6_greatest_27 : decode cX6_greatest 27 = .ok (.goto 4, 3) := by decide +kernel
theorem dX6_greatest_30 : decode cX6_greatest 30 = .ok (.lload_n 1, 1) := by decide +kernel
theorem dX6_greatest_31 : decode cX6_greatest 31 = .ok (.lstore_n 1, 1) := by decide +kernel
theorem dX6_greatest_32 : decode cX6_greatest 32 = .ok (.iinc 3 1, 3) := by decide +kernel
theorem dX6_greatest_35 : decode cX6_greatest 35 = .ok (.goto (-31), 3) := by decide +kernel
theorem dX6_greatest_38 : decode cX6_greatest 38 = .ok (.lload_n 1, 1) := by decide +kernel
theorem dX6_greatest_39 : decode cX6_greatest 39 = .ok (.lreturn, 1) := by decide +kernel
set_option maxRecDepth 20000 in
theorem ggX6_halve_X6_greatest : GoodIn wsX6_halve wsX6_greatest := goodIn_r _ [8, 2, 9, 10, 11, 12, 13, 14, 15, 16, 17, 18, 19, 20, 21, 22, 23] (by decide +kernel) (by decide +kernel)
set_option maxRecDepth 20000 in
theorem gX6_halve_X6_greatest : GoodIn wsX6_halve (wsV RX6 87 RX6 yX6_greatest wsX6_greatest) := goodIn_app (goodIn_of _ (by decide +kernel)) ggX6_halve_X6_greatest
theorem dX6_halve_0 : decode cX6_halve 0 = .ok (.aload_n 0, 1) := by decide +kernel
theorem dX6_halve_1 : decode cX6_halve 1 = .ok (.invokevirtual 87, 3) := by decide +kernel
theorem dX6_halve_4 : decode cX6_halve 4 = .ok (.ldc2_w 91, 3) := by decide +kernel
theorem dX6_halve_7 : decode cX6_halve 7 = .ok (.lcmp, 1) := by decide +kernel
theorem dX6_halve_8 : decode cX6_halve 8 = .ok (.ifCond .le 32, 3) := by decide +kernel
theorem dX6_halve_11 : decode cX6_halve 11 = .ok (.iconst 0, 1) := by decide +kernel
theorem dX6_halve_12 : decode cX6_halve 12 = .ok (.istore_n 1, 1) := by decide +kernel
theorem dX6_halve_13 : decode cX6_halve 13 = .ok (.iload_n 1, 1) := by decide +kernel
theorem dX6_halve_14 : decode cX6_halve 14 = .ok (.bipush 64, 2) := by decide +kernel
theorem dX6_halve_16 : decode cX6_halve 16 = .ok (.if_icmp .ge 21, 3) := by decide +kernel
theorem dX6_halve_19 : decode cX6_halve 19 = .ok (.aload_n 0, 1) := by decide +kernel
theorem dX6_halve_20 : decode cX6_halve 20 = .ok (.getfield 27, 3) := by decide +kernel
theorem dX6_halve_23 : decode cX6_halve 23 = .ok (.iload_n 1, 1) := by decide +kernel
theorem dX6_halve_24 : decode cX6_halve 24 = .ok (.dup2, 1) := by decide +kernel
theorem dX6_halve_25 : decode cX6_halve 25 = .ok (.laload, 1) := by decide +kernel
theorem dX6_halve_26 : decode cX6_halve 26 = .ok (.ldc2_w 93, 3) := by decide +kernel
theorem dX6_halve_29 : decode cX6_halve 29 = .ok (.ldiv, 1) := by decide +kernel
theorem dX6_halve_30 : decode cX6_halve 30 = .ok (.lastore, 1) := by decide +kernel
theorem dX6_halve_31 : decode cX6_halve 31 = .ok (.iinc 1 1, 3) := by decide +kernel
theorem dX6_halve_34 : decode cX6_halve 34 = .ok (.goto (-21), 3) := by decide +kernel
theorem dX6_halve_37 : decode cX6_halve 37 = .ok (.goto (-37), 3) := by decide +kernel
theorem dX6_halve_40 : decode cX6_halve 40 = .ok (.return_, 1) := by decide +kernel
set_option maxRecDepth 20000 in
theorem ggX6_drive_X6_isDirection : GoodIn wsX6_drive wsX6_isDirection := goodIn_r _ [13, 14, 15, 12, 16] (by decide +kernel) (by decide +kernel)
set_option maxRecDepth 20000 in
theorem gX6_drive_X6_isDirection : GoodIn wsX6_drive (va_wsS RX6 95 yX6_isDirection wsX6_isDirection) := goodIn_app (goodIn_of _ (by decide +kernel)) ggX6_drive_X6_isDirection
set_option maxRecDepth 20000 in
theorem ggX6_drive_X6_goesWell : GoodIn wsX6_drive wsX6_goesWell := goodIn_r _ [20, 21, 45, 46, 47, 48, 49, 50, 51, 52, 53, 54, 55, 56, 57, 58, 59] (by decide +kernel) (by decide +kernel)
set_option maxRecDepth 20000 in
theorem gX6_drive_X6_goesWell : GoodIn wsX6_drive (wsV RX6 53 RX6 yX6_goesWell wsX6_goesWell) := goodIn_app (goodIn_of _ (by decide +kernel)) ggX6_drive_X6_goesWell
set_option maxRecDepth 20000 in
theorem ggX6_drive_X6_next : GoodIn wsX6_drive wsX6_next := goodIn_r _ [25, 26, 27, 45, 46, 47, 48, 49, 50, 51, 52, 53, 54, 55, 56, 57, 58, 59] (by decide +kernel) (by decide +kernel)
set_option maxRecDepth 20000 in
theorem gX6_drive_X6_next : GoodIn wsX6_drive (wsV RX6 59 RX6 yX6_next wsX6_next) := goodIn_app (goodIn_of _ (by decide +kernel)) ggX6_drive_X6_next
set_option maxRecDepth 20000 in
theorem ggX6_drive_X6_step : GoodIn wsX6_drive wsX6_step := goodIn_r _ [31, 6, 32, 33, 12, 34, 14, 15, 16, 45, 46, 47, 48, 49, 50, 51, 52, 53, 54, 55, 56, 57, 58, 59] (by decide +kernel) (by decide +kernel)
set_option maxRecDepth 20000 in
theorem gX6_drive_X6_step : GoodIn wsX6_drive (wsV RX6 62 RX6 yX6_step wsX6_step) := goodIn_app (goodIn_of _ (by decide +kernel)) ggX6_drive_X6_step
set_option maxRecDepth 20000 in
theorem ggX6_drive_X6_halve : GoodIn wsX6_drive wsX6_halve := goodIn_r _ [38, 39, 8, 40, 41, 42, 43, 12, 44, 45, 46, 47, 48, 49, 50, 51, 52, 53, 54, 55, 56, 57, 58, 59] (by decide +kernel) (by decide +kernel)
set_option maxRecDepth 20000 in
theorem gX6_drive_X6_halve : GoodIn wsX6_drive (wsV RX6 102 RX6 yX6_halve wsX6_halve) := goodIn_app (goodIn_of _ (by decide +kernel)) ggX6_drive_X6_halve
theorem dX6_drive_0 : decode cX6_drive 0 = .ok (.iload_n 1, 1) := by decide +kernel
theorem dX6_drive_1 : decode cX6_drive 1 = .ok (.invokestatic 95, 3) := by decide +kernel
theorem dX6_drive_4 : decode cX6_drive 4 = .ok (.istore_n 2, 1) := by decide +kernel
theorem dX6_drive_5 : decode cX6_drive 5 = .ok (.aload_n 0, 1) := by decide +kernel
theorem dX6_drive_6 : decode cX6_drive 6 = .ok (.iload_n 2, 1) := by decide +kernel
theorem dX6_drive_7 : decode cX6_drive 7 = .ok (.ifCond .ne 7, 3) := by decide +kernel
theorem dX6_drive_10 : decode cX6_drive 10 = .ok (.iconst 1, 1) := by decide +kernel
theorem dX6_drive_11 : decode cX6_drive 11 = .ok (.goto 25, 3) := by decide +kernel
theorem dX6_drive_14 : decode cX6_drive 14 = .ok (.aload_n 0, 1) := by decide +kernel
theorem dX6_drive_15 : decode cX6_drive 15 = .ok (.getfield 49, 3) := by decide +kernel
theorem dX6_drive_18 : decode cX6_drive 18 = .ok (.ifCond .eq 13, 3) := by decide +kernel
theorem dX6_drive_21 : decode cX6_drive 21 = .ok (.aload_n 0, 1) := by decide +kernel
theorem dX6_drive_22 : decode cX6_drive 22 = .ok (.getfield 78, 3) := by decide +kernel
theorem dX6_drive_25 : decode cX6_drive 25 = .ok (.sipush 300, 3) := by decide +kernel
theorem dX6_drive_28 : decode cX6_drive 28 = .ok (.if_icmp .ne 7, 3) := by decide +kernel
theorem dX6_drive_31 : decode cX6_drive 31 = .ok (.iconst 2, 1) := by decide +kernel
theorem dX6_drive_32 : decode cX6_drive 32 = .ok (.goto 4, 3) := by decide +kernel
theorem dX6_drive_35 : decode cX6_drive 35 = .ok (.iconst 0, 1) := by decide +kernel
theorem dX6_drive_36 : decode cX6_drive 36 = .ok (.invokevirtual 53, 3) := by decide +kernel
theorem dX6_drive_39 : decode cX6_drive 39 = .ok (.ifCond .ne 4, 3) := by decide +kernel
theorem dX6_drive_42 : decode cX6_drive 42 = .ok (.return_, 1) := by decide +kernel
theorem dX6_drive_43 : decode cX6_drive 43 = .ok (.iconst 0, 1) := by decide +kernel
theorem dX6_drive_44 : decode cX6_drive 44 = .ok (.istore_n 3, 1) := by decide +kernel
theorem dX6_drive_45 : decode cX6_drive 45 = .ok (.iload_n 3, 1) := by decide +kernel
theorem dX6_drive_46 : decode cX6_drive 46 = .ok (.aload_n 0, 1) := by decide +kernel
theorem dX6_drive_47 : decode cX6_drive 47 = .ok (.getfield 69, 3) := by decide +kernel
theorem dX6_drive_50 : decode cX6_drive 50 = .ok (.if_icmp .ge 72, 3) := by decide +kernel
theorem dX6_drive_53 : decode cX6_drive 53 = .ok (.aload_n 0, 1) := by decide +kernel
theorem dX6_drive_54 : decode cX6_drive 54 = .ok (.invokevirtual 59, 3) := by decide +kernel
theorem dX6_drive_57 : decode cX6_drive 57 = .ok (.bipush 16, 2) := by decide +kernel
theorem dX6_drive_59 : decode cX6_drive 59 = .ok (.irem, 1) := by decide +kernel
theorem dX6_drive_60 : decode cX6_drive 60 = .ok (.istore 4, 2) := by decide +kernel
theorem dX6_drive_62 : decode cX6_drive 62 = .ok (.aload_n 0, 1) := by decide +kernel
theorem dX6_drive_63 : decode cX6_drive 63 = .ok (.aload_n 0, 1) := by decide +kernel
theorem dX6_drive_64 : decode cX6_drive 64 = .ok (.getfield 17, 3) := by decide +kernel
theorem dX6_drive_67 : decode cX6_drive 67 = .ok (.iload_n 3, 1) := by decide +kernel
theorem dX6_drive_68 : decode cX6_drive 68 = .ok (.iaload, 1) := by decide +kernel
theorem dX6_drive_69 : decode cX6_drive 69 = .ok (.iload_n 1, 1) := by decide +kernel
theorem dX6_drive_70 : decode cX6_drive 70 = .ok (.invokevirtual 62, 3) := by decide +kernel
theorem dX6_drive_73 : decode cX6_drive 73 = .ok (.istore 5, 2) := by decide +kernel
theorem dX6_drive_75 : decode cX6_drive 75 = .ok (.aload_n 0, 1) := by decide +kernel
theorem dX6_drive_76 : decode cX6_drive 76 = .ok (.getfield 17, 3) := by decide +kernel
theorem dX6_drive_79 : decode cX6_drive 79 = .ok (.iload_n 3, 1) := by decide +kernel
theorem dX6_drive_80 : decode cX6_drive 80 = .ok (.iload 4, 2) := by decide +kernel
theorem dX6_drive_82 : decode cX6_drive 82 = .ok (.bipush 12, 2) := by decide +kernel
theorem dX6_drive_84 : decode cX6_drive 84 = .ok (.if_icmp .ge 8, 3) := by decide +kernel
theorem dX6_drive_87 : decode cX6_drive 87 = .ok (.iload 5, 2) := by decide +kernel
theorem dX6_drive_89 : decode cX6_drive 89 = .ok (.goto 26, 3) := by decide +kernel
theorem dX6_drive_92 : decode cX6_drive 92 = .ok (.iload 4, 2) := by decide +kernel
theorem dX6_drive_94 : decode cX6_drive 94 = .ok (.bipush 15, 2) := by decide +kernel
theorem dX6_drive_96 : decode cX6_drive 96 = .ok (.if_icmp .ge 12, 3) := by decide +kernel
theorem dX6_drive_99 : decode cX6_drive 99 = .ok (.aload_n 0, 1) := by decide +kernel
theorem dX6_drive_100 : decode cX6_drive 100 = .ok (.getfield 17, 3) := by decide +kernel
theorem dX6_drive_103 : decode cX6_drive 103 = .ok (.iload_n 3, 1) := by decide +kernel
theorem dX6_drive_104 : decode cX6_drive 104 = .ok (.iaload, 1) := by decide +kernel
theorem dX6_drive_105 : decode cX6_drive 105 = .ok (.goto 10, 3) := by decide +kernel
theorem dX6_drive_108 : decode cX6_drive 108 = .ok (.aload_n 0, 1) := by decide +kernel
theorem dX6_drive_109 : decode cX6_drive 109 = .ok (.iload 5, 2) := by decide +kernel
theorem dX6_drive_111 : decode cX6_drive 111 = .ok (.iload_n 1, 1) := by decide +kernel
theorem dX6_drive_112 : decode cX6_drive 112 = .ok (.invokevirtual 62, 3) := by decide +kernel
theorem dX6_drive_115 : decode cX6_drive 115 = .ok (.iastore, 1) := by decide +kernel
theorem dX6_drive_116 : decode cX6_drive 116 = .ok (.iinc 3 1, 3) := by decide +kernel
theorem dX6_drive_119 : decode cX6_drive 119 = .ok (.goto (-74), 3) := by decide +kernel
theorem dX6_drive_122 : decode cX6_drive 122 = .ok (.iconst 0, 1) := by decide +kernel
theorem dX6_drive_123 : decode cX6_drive 123 = .ok (.istore_n 3, 1) := by decide +kernel
theorem dX6_drive_124 : decode cX6_drive 124 = .ok (.iload_n 3, 1) := by decide +kernel
theorem dX6_drive_125 : decode cX6_drive 125 = .ok (.bipush 64, 2) := by decide +kernel
theorem dX6_drive_127 : decode cX6_drive 127 = .ok (.if_icmp .ge 16, 3) := by decide +kernel
theorem dX6_drive_130 : decode cX6_drive 130 = .ok (.aload_n 0, 1) := by decide +kernel
theorem dX6_drive_131 : decode cX6_drive 131 = .ok (.getfield 31, 3) := by decide +kernel
theorem dX6_drive_134 : decode cX6_drive 134 = .ok (.iload_n 3, 1) := by decide +kernel
theorem dX6_drive_135 : decode cX6_drive 135 = .ok (.lconst 0, 1) := by decide +kernel
theorem dX6_drive_136 : decode cX6_drive 136 = .ok (.lastore, 1) := by decide +kernel
theorem dX6_drive_137 : decode cX6_drive 137 = .ok (.iinc 3 1, 3) := by decide +kernel
theorem dX6_drive_140 : decode cX6_drive 140 = .ok (.goto (-16), 3) := by decide +kernel
theorem dX6_drive_143 : decode cX6_drive 143 = .ok (.iconst 0, 1) := by decide +kernel
theorem dX6_drive_144 : decode cX6_drive 144 = .ok (.istore_n 3, 1) := by decide +kernel
theorem dX6_drive_145 : decode cX6_drive 145 = .ok (.iload_n 3, 1) := by decide +kernel
theorem dX6_drive_146 : decode cX6_drive 146 = .ok (.bipush 64, 2) := by decide +kernel
theorem dX6_drive_148 : decode cX6_drive 148 = .ok (.if_icmp .ge 86, 3) := by decide +kernel
theorem dX6_drive_151 : decode cX6_drive 151 = .ok (.aload_n 0, 1) := by decide +kernel
theorem dX6_drive_152 : decode cX6_drive 152 = .ok (.getfield 7, 3) := by decide +kernel
theorem dX6_drive_155 : decode cX6_drive 155 = .ok (.iload_n 3, 1) := by decide +kernel
theorem dX6_drive_156 : decode cX6_drive 156 = .ok (.baload, 1) := by decide +kernel
theorem dX6_drive_157 : decode cX6_drive 157 = .ok (.ifCond .ne 71, 3) := by decide +kernel
theorem dX6_drive_160 : decode cX6_drive 160 = .ok (.aload_n 0, 1) := by decide +kernel
theorem dX6_drive_161 : decode cX6_drive 161 = .ok (.iload_n 3, 1) := by decide +kernel
theorem dX6_drive_162 : decode cX6_drive 162 = .ok (.iload_n 1, 1) := by decide +kernel
theorem dX6_drive_163 : decode cX6_drive 163 = .ok (.invokevirtual 62, 3) := by decide +kernel
theorem dX6_drive_166 : decode cX6_drive 166 = .ok (.istore 4, 2) := by decide +kernel
theorem dX6_drive_168 : decode cX6_drive 168 = .ok (.aload_n 0, 1) := by decide +kernel
theorem dX6_drive_169 : decode cX6_drive 169 = .ok (.getfield 31, 3) := by decide +kernel
theorem dX6_drive_172 : decode cX6_drive 172 = .ok (.iload 4, 2) := by decide +kernel
theorem dX6_drive_174 : decode cX6_drive 174 = .ok (.dup2, 1) := by decide +kernel
theorem dX6_drive_175 : decode cX6_drive 175 = .ok (.laload, 1) := by decide +kernel
theorem dX6_drive_176 : decode cX6_drive 176 = .ok (.ldc2_w 98, 3) := by decide +kernel
theorem dX6_drive_179 : decode cX6_drive 179 = .ok (.aload_n 0, 1) := by decide +kernel
theorem dX6_drive_180 : decode cX6_drive 180 = .ok (.getfield 27, 3) := by decide +kernel
theorem dX6_drive_183 : decode cX6_drive 183 = .ok (.iload_n 3, 1) := by decide +kernel
theorem dX6_drive_184 : decode cX6_drive 184 = .ok (.laload, 1) := by decide +kernel
theorem dX6_drive_185 : decode cX6_drive 185 = .ok (.lmul, 1) := by decide +kernel
theorem dX6_drive_186 : decode cX6_drive 186 = .ok (.ladd, 1) := by decide +kernel
theorem dX6_drive_187 : decode cX6_drive 187 = .ok (.lastore, 1) := by decide +kernel
theorem dX6_drive_188 : decode cX6_drive 188 = .ok (.aload_n 0, 1) := by decide +kernel
theorem dX6_drive_189 : decode cX6_drive 189 = .ok (.getfield 31, 3) := by decide +kernel
theorem dX6_drive_192 : decode cX6_drive 192 = .ok (.iload_n 3, 1) := by decide +kernel
theorem dX6_drive_193 : decode cX6_drive 193 = .ok (.dup2, 1) := by decide +kernel
theorem dX6_drive_194 : decode cX6_drive 194 = .ok (.laload, 1) := by decide +kernel
theorem dX6_drive_195 : decode cX6_drive 195 = .ok (.ldc2_w 100, 3) := by decide +kernel
theorem dX6_drive_198 : decode cX6_drive 198 = .ok (.aload_n 0, 1) := by decide +kernel
theorem dX6_drive_199 : decode cX6_drive 199 = .ok (.getfield 27, 3) := by decide +kernel
theorem dX6_drive_202 : decode cX6_drive 202 = .ok (.iload_n 3, 1) := by decide +kernel
theorem dX6_drive_203 : decode cX6_drive 203 = .ok (.laload, 1) := by decide +kernel
theorem dX6_drive_204 : decode cX6_drive 204 = .ok (.lmul, 1) := by decide +kernel
theorem dX6_drive_205 : decode cX6_drive 205 = .ok (.ladd, 1) := by decide +kernel
theorem dX6_drive_206 : decode cX6_drive 206 = .ok (.lastore, 1) := by decide +kernel
theorem dX6_drive_207 : decode cX6_drive 207 = .ok (.aload_n 0, 1) := by decide +kernel
theorem dX6_drive_208 : decode cX6_drive 208 = .ok (.getfield 31, 3) := by decide +kernel
theorem dX6_drive_211 : decode cX6_drive 211 = .ok (.aload_n 0, 1) := by decide +kernel
theorem dX6_drive_212 : decode cX6_drive 212 = .ok (.iload 4, 2) := by decide +kernel
theorem dX6_drive_214 : decode cX6_drive 214 = .ok (.iload_n 1, 1) := by decide +kernel
theorem dX6_drive_215 : decode cX6_drive 215 = .ok (.invokevirtual 62, 3) := by decide +kernel
theorem dX6_drive_218 : decode cX6_drive 218 = .ok (.dup2, 1) := by decide +kernel
theorem dX6_drive_219 : decode cX6_drive 219 = .ok (.laload, 1) := by decide +kernel
theorem dX6_drive_220 : decode cX6_drive 220 = .ok (.aload_n 0, 1) := by decide +kernel
theorem dX6_drive_221 : decode cX6_drive 221 = .ok (.getfield 27, 3) := by decide +kernel
theorem dX6_drive_224 : decode cX6_drive 224 = .ok (.iload_n 3, 1) := by decide +kernel
theorem dX6_drive_225 : decode cX6_drive 225 = .ok (.laload, 1) := by decide +kernel
theorem dX6_drive_226 : decode cX6_drive 226 = .ok (.ladd, 1) := by decide +kernel
theorem dX6_drive_227 : decode cX6_drive 227 = .ok (.lastore, 1) := by decide +kernel
theorem dX6_drive_228 : decode cX6_drive 228 = .ok (.iinc 3 1, 3) := by decide +kernel
theorem dX6_drive_231 : decode cX6_drive 231 = .ok (.goto (-86), 3) := by decide +kernel
theorem dX6_drive_234 : decode cX6_drive 234 = .ok (.iconst 0, 1) := by decide +kernel
theorem dX6_drive_235 : decode cX6_drive 235 = .ok (.istore_n 3, 1) := by decide +kernel
theorem dX6_drive_236 : decode cX6_drive 236 = .ok (.iload_n 3, 1) := by decide +kernel
theorem dX6_drive_237 : decode cX6_drive 237 = .ok (.bipush 64, 2) := by decide +kernel
theorem dX6_drive_239 : decode cX6_drive 239 = .ok (.if_icmp .ge 21, 3) := by decide +kernel
theorem dX6_drive_242 : decode cX6_drive 242 = .ok (.aload_n 0, 1) := by decide +kernel
theorem dX6_drive_243 : decode cX6_drive 243 = .ok (.getfield 27, 3) := by decide +kernel
theorem dX6_drive_246 : decode cX6_drive 246 = .ok (.iload_n 3, 1) := by decide +kernel
theorem dX6_drive_247 : decode cX6_drive 247 = .ok (.aload_n 0, 1) := by decide +kernel
theorem dX6_drive_248 : decode cX6_drive 248 = .ok (.getfield 31, 3) := by decide +kernel
theorem dX6_drive_251 : decode cX6_drive 251 = .ok (.iload_n 3, 1) := by decide +kernel
theorem dX6_drive_252 : decode cX6_drive 252 = .ok (.laload, 1) := by decide +kernel
theorem dX6_drive_253 : decode cX6_drive 253 = .ok (.lastore, 1) := by decide +kernel
theorem dX6_drive_254 : decode cX6_drive 254 = .ok (.iinc 3 1, 3) := by decide +kernel
theorem dX6_drive_257 : decode cX6_drive 257 = .ok (.goto (-21), 3) := by decide +kernel
theorem dX6_drive_260 : decode cX6_drive 260 = .ok (.aload_n 0, 1) := by decide +kernel
theorem dX6_drive_261 : decode cX6_drive 261 = .ok (.invokevirtual 102, 3) := by decide +kernel
theorem dX6_drive_264 : decode cX6_drive 264 = .ok (.aload_n 0, 1) := by decide +kernel
theorem dX6_drive_265 : decode cX6_drive 265 = .ok (.dup, 1) := by decide +kernel
theorem dX6_drive_266 : decode cX6_drive 266 = .ok (.getfield 78, 3) := by decide +kernel
theorem dX6_drive_269 : decode cX6_drive 269 = .ok (.iconst 1, 1) := by decide +kernel
theorem dX6_drive_270 : decode cX6_drive 270 = .ok (.iadd, 1) := by decide +kernel
theorem dX6_drive_271 : decode cX6_drive 271 = .ok (.putfield 78, 3) := by decide +kernel
theorem dX6_drive_274 : decode cX6_drive 274 = .ok (.return_, 1) := by decide +kernel
theorem dX6_judge_0 : decode cX6_judge 0 = .ok (.bipush 32, 2) := by decide +kernel
theorem dX6_judge_2 : decode cX6_judge 2 = .ok (.iload_n 1, 1) := by decide +kernel
theorem dX6_judge_3 : decode cX6_judge 3 = .ok (.imul, 1) := by decide +kernel
theorem dX6_judge_4 : decode cX6_judge 4 = .ok (.aload_n 0, 1) := by decide +kernel
theorem dX6_judge_5 : decode cX6_judge 5 = .ok (.getfield 69, 3) := by decide +kernel
theorem dX6_judge_8 : decode cX6_judge 8 = .ok (.idiv, 1) := by decide +kernel
theorem dX6_judge_9 : decode cX6_judge 9 = .ok (.istore_n 2, 1) := by decide +kernel
theorem dX6_judge_10 : decode cX6_judge 10 = .ok (.aload_n 0, 1) := by decide +kernel
theorem dX6_judge_11 : decode cX6_judge 11 = .ok (.aload_n 0, 1) := by decide +kernel
theorem dX6_judge_12 : decode cX6_judge 12 = .ok (.getfield 81, 3) := by decide +kernel
theorem dX6_judge_15 : decode cX6_judge 15 = .ok (.ifCond .ne 7, 3) := by decide +kernel
theorem dX6_judge_18 : decode cX6_judge 18 = .ok (.iload_n 2, 1) := by decide +kernel
theorem dX6_judge_19 : decode cX6_judge 19 = .ok (.goto 17, 3) := by decide +kernel
theorem dX6_judge_22 : decode cX6_judge 22 = .ok (.aload_n 0, 1) := by decide +kernel
theorem dX6_judge_23 : decode cX6_judge 23 = .ok (.getfield 105, 3) := by decide +kernel
theorem dX6_judge_26 : decode cX6_judge 26 = .ok (.iload_n 2, 1) := by decide +kernel
theorem dX6_judge_27 : decode cX6_judge 27 = .ok (.aload_n 0, 1) := by decide +kernel
theorem dX6_judge_28 : decode cX6_judge 28 = .ok (.getfield 105, 3) := by decide +kernel
theorem dX6_judge_31 : decode cX6_judge 31 = .ok (.isub, 1) := by decide +kernel
theorem dX6_judge_32 : decode cX6_judge 32 = .ok (.bipush 8, 2) := by decide +kernel
theorem dX6_judge_34 : decode cX6_judge 34 = .ok (.idiv, 1) := by decide +kernel
theorem dX6_judge_35 : decode cX6_judge 35 = .ok (.iadd, 1) := by decide +kernel
theorem dX6_judge_36 : decode cX6_judge 36 = .ok (.putfield 105, 3) := by decide +kernel
theorem dX6_judge_39 : decode cX6_judge 39 = .ok (.aload_n 0, 1) := by decide +kernel
theorem dX6_judge_40 : decode cX6_judge 40 = .ok (.aload_n 0, 1) := by decide +kernel
theorem dX6_judge_41 : decode cX6_judge 41 = .ok (.getfield 81, 3) := by decide +kernel
theorem dX6_judge_44 : decode cX6_judge 44 = .ok (.ifCond .ne 7, 3) := by decide +kernel
theorem dX6_judge_47 : decode cX6_judge 47 = .ok (.iload_n 2, 1) := by decide +kernel
theorem dX6_judge_48 : decode cX6_judge 48 = .ok (.goto 16, 3) := by decide +kernel
theorem dX6_judge_51 : decode cX6_judge 51 = .ok (.aload_n 0, 1) := by decide +kernel
theorem dX6_judge_52 : decode cX6_judge 52 = .ok (.getfield 108, 3) := by decide +kernel
theorem dX6_judge_55 : decode cX6_judge 55 = .ok (.iload_n 2, 1) := by decide +kernel
theorem dX6_judge_56 : decode cX6_judge 56 = .ok (.aload_n 0, 1) := by decide +kernel
theorem dX6_judge_57 : decode cX6_judge 57 = .ok (.getfield 108, 3) := by decide +kernel
theorem dX6_judge_60 : decode cX6_judge 60 = .ok (.isub, 1) := by decide +kernel
theorem dX6_judge_61 : decode cX6_judge 61 = .ok (.iconst 2, 1) := by decide +kernel
theorem dX6_judge_62 : decode cX6_judge 62 = .ok (.idiv, 1) := by decide +kernel
theorem dX6_judge_63 : decode cX6_judge 63 = .ok (.iadd, 1) := by decide +kernel
theorem dX6_judge_64 : decode cX6_judge 64 = .ok (.putfield 108, 3) := by decide +kernel
theorem dX6_judge_67 : decode cX6_judge 67 = .ok (.aload_n 0, 1) := by decide +kernel
theorem dX6_judge_68 : decode cX6_judge 68 = .ok (.getfield 105, 3) := by decide +kernel
theorem dX6_judge_71 : decode cX6_judge 71 = .ok (.ifCond .ne 9, 3) := by decide +kernel
theorem dX6_judge_74 : decode cX6_judge 74 = .ok (.sipush 256, 3) := by decide +kernel
theorem dX6_judge_77 : decode cX6_judge 77 = .ok (.goto 20, 3) := by decide +kernel
theorem dX6_judge_80 : decode cX6_judge 80 = .ok (.sipush 256, 3) := by decide +kernel
theorem dX6_judge_83 : decode cX6_judge 83 = .ok (.sipush 256, 3) := by decide +kernel
theorem dX6_judge_86 : decode cX6_judge 86 = .ok (.aload_n 0, 1) := by decide +kernel
theorem dX6_judge_87 : decode cX6_judge 87 = .ok (.getfield 108, 3) := by decide +kernel
theorem dX6_judge_90 : decode cX6_judge 90 = .ok (.imul, 1) := by decide +kernel
theorem dX6_judge_91 : decode cX6_judge 91 = .ok (.aload_n 0, 1) := by decide +kernel
theorem dX6_judge_92 : decode cX6_judge 92 = .ok (.getfield 105, 3) := by decide +kernel
theorem dX6_judge_95 : decode cX6_judge 95 = .ok (.idiv, 1) := by decide +kernel
theorem dX6_judge_96 : decode cX6_judge 96 = .ok (.isub, 1) := by decide +kernel
theorem dX6_judge_97 : decode cX6_judge 97 = .ok (.istore_n 3, 1) := by decide +kernel
theorem dX6_judge_98 : decode cX6_judge 98 = .ok (.aload_n 0, 1) := by decide +kernel
theorem dX6_judge_99 : decode cX6_judge 99 = .ok (.iload_n 3, 1) := by decide +kernel
theorem dX6_judge_100 : decode cX6_judge 100 = .ok (.ifCond .ge 7, 3) := by decide +kernel
theorem dX6_judge_103 : decode cX6_judge 103 = .ok (.iconst 0, 1) := by decide +kernel
theorem dX6_judge_104 : decode cX6_judge 104 = .ok (.goto 4, 3) := by decide +kernel
theorem dX6_judge_107 : decode cX6_judge 107 = .ok (.iload_n 3, 1) := by decide +kernel
theorem dX6_judge_108 : decode cX6_judge 108 = .ok (.putfield 84, 3) := by decide +kernel
theorem dX6_judge_111 : decode cX6_judge 111 = .ok (.aload_n 0, 1) := by decide +kernel
theorem dX6_judge_112 : decode cX6_judge 112 = .ok (.dup, 1) := by decide +kernel
theorem dX6_judge_113 : decode cX6_judge 113 = .ok (.getfield 81, 3) := by decide +kernel
theorem dX6_judge_116 : decode cX6_judge 116 = .ok (.iconst 1, 1) := by decide +kernel
theorem dX6_judge_117 : decode cX6_judge 117 = .ok (.iadd, 1) := by decide +kernel
theorem dX6_judge_118 : decode cX6_judge 118 = .ok (.putfield 81, 3) := by decide +kernel
theorem dX6_judge_121 : decode cX6_judge 121 = .ok (.return_, 1) := by decide +kernel
theorem dX6_manyNew_0 : decode cX6_manyNew 0 = .ok (.lconst 0, 1) := by decide +kernel
theorem dX6_manyNew_1 : decode cX6_manyNew 1 = .ok (.lstore_n 1, 1) := by decide +kernel
theorem dX6_manyNew_2 : decode cX6_manyNew 2 = .ok (.iconst 0, 1) := by decide +kernel
theorem dX6_manyNew_3 : decode cX6_manyNew 3 = .ok (.istore_n 3, 1) := by decide +kernel
theorem dX6_manyNew_4 : decode cX6_manyNew 4 = .ok (.iload_n 3, 1) := by decide +kernel
theorem dX6_manyNew_5 : decode cX6_manyNew 5 = .ok (.aload_n 0, 1) := by decide +kernel
theorem dX6_manyNew_6 : decode cX6_manyNew 6 = .ok (.getfield 69, 3) := by decide +kernel
theorem dX6_manyNew_9 : decode cX6_manyNew 9 = .ok (.if_icmp .ge 33, 3) := by decide +kernel
theorem dX6_manyNew_12 : decode cX6_manyNew 12 = .ok (.lload_n 1, 1) := by decide +kernel
theorem dX6_manyNew_13 : decode cX6_manyNew 13 = .ok (.aload_n 0, 1) := by decide +kernel
theorem dX6_manyNew_14 : decode cX6_manyNew 14 = .ok (.getfield 24, 3) := by decide +kernel
theorem dX6_manyNew_17 : decode cX6_manyNew 17 = .ok (.iload_n 3, 1) := by decide +kernel
theorem dX6_manyNew_18 : decode cX6_manyNew 18 = .ok (.iaload, 1) := by decide +kernel
theorem dX6_manyNew_19 : decode cX6_manyNew 19 = .ok (.ifCond .le 14, 3) := by decide +kernel
theorem dX6_manyNew_22 : decode cX6_manyNew 22 = .ok (.lconst 1, 1) := by decide +kernel
theorem dX6_manyNew_23 : decode cX6_manyNew 23 = .ok (.aload_n 0, 1) := by decide +kernel
theorem dX6_manyNew_24 : decode cX6_manyNew 24 = .ok (.getfield 17, 3) := by decide +kernel
theorem dX6_manyNew_27 : decode cX6_manyNew 27 = .ok (.iload_n 3, 1) := by decide +kernel
theorem dX6_manyNew_28 : decode cX6_manyNew 28 = .ok (.iaload, 1) := by decide +kernel
theorem dX6_manyNew_29 : decode cX6_manyNew 29 = .ok (.lshl, 1) := by decide +kernel
theorem dX6_manyNew_30 : decode cX6_manyNew 30 = .ok (.goto 4, 3) := by decide +kernel
theorem dX6_manyNew_33 : decode cX6_manyNew 33 = .ok (.lconst 0, 1) := by decide +kernel
theorem dX6_manyNew_34 : decode cX6_manyNew 34 = .ok (.lor, 1) := by decide +kernel
theorem dX6_manyNew_35 : decode cX6_manyNew 35 = .ok (.lstore_n 1, 1) := by decide +kernel
theorem dX6_manyNew_36 : decode cX6_manyNew 36 = .ok (.iinc 3 1, 3) := by decide +kernel
theorem dX6_manyNew_39 : decode cX6_manyNew 39 = .ok (.goto (-35), 3) := by decide +kernel
theorem dX6_manyNew_42 : decode cX6_manyNew 42 = .ok (.bipush 8, 2) := by decide +kernel
theorem dX6_manyNew_44 : decode cX6_manyNew 44 = .ok (.istore_n 3, 1) := by decide +kernel
theorem dX6_manyNew_45 : decode cX6_manyNew 45 = .ok (.iconst 0, 1) := by decide +kernel
theorem dX6_manyNew_46 : decode cX6_manyNew 46 = .ok (.istore 4, 2) := by decide +kernel
theorem dX6_manyNew_48 : decode cX6_manyNew 48 = .ok (.iload 4, 2) := by decide +kernel
theorem dX6_manyNew_50 : decode cX6_manyNew 50 = .ok (.bipush 64, 2) := by decide +kernel
theorem dX6_manyNew_52 : decode cX6_manyNew 52 = .ok (.if_icmp .ge 21, 3) := by decide +kernel
theorem dX6_manyNew_55 : decode cX6_manyNew 55 = .ok (.iload_n 3, 1) := by decide +kernel
theorem dX6_manyNew_56 : decode cX6_manyNew 56 = .ok (.lload_n 1, 1) := by decide +kernel
theorem dX6_manyNew_57 : decode cX6_manyNew 57 = .ok (.iload 4, 2) := by decide +kernel
theorem dX6_manyNew_59 : decode cX6_manyNew 59 = .ok (.lushr, 1) := by decide +kernel
theorem dX6_manyNew_60 : decode cX6_manyNew 60 = .ok (.lconst 1, 1) := by decide +kernel
theorem dX6_manyNew_61 : decode cX6_manyNew 61 = .ok (.land, 1) := by decide +kernel
theorem dX6_manyNew_62 : decode cX6_manyNew 62 = .ok (.l2i, 1) := by decide +kernel
theorem dX6_manyNew_63 : decode cX6_manyNew 63 = .ok (.iconst 4, 1) := by decide +kernel
theorem dX6_manyNew_64 : decode cX6_manyNew 64 = .ok (.imul, 1) := by decide +kernel
theorem dX6_manyNew_65 : decode cX6_manyNew 65 = .ok (.iadd, 1) := by decide +kernel
theorem dX6_manyNew_66 : decode cX6_manyNew 66 = .ok (.istore_n 3, 1) := by decide +kernel
theorem dX6_manyNew_67 : decode cX6_manyNew 67 = .ok (.iinc 4 1, 3) := by decide +kernel
theorem dX6_manyNew_70 : decode cX6_manyNew 70 = .ok (.goto (-22), 3) := by decide +kernel
theorem dX6_manyNew_73 : decode cX6_manyNew 73 = .ok (.iload_n 3, 1) := by decide +kernel
theorem dX6_manyNew_74 : decode cX6_manyNew 74 = .ok (.bipush 64, 2) := by decide +kernel
theorem dX6_manyNew_76 : decode cX6_manyNew 76 = .ok (.if_icmp .le 8, 3) := by decide +kernel
theorem dX6_manyNew_79 : decode cX6_manyNew 79 = .ok (.bipush 64, 2) := by decide +kernel
theorem dX6_manyNew_81 : decode cX6_manyNew 81 = .ok (.goto 4, 3) := by decide +kernel
theorem dX6_manyNew_84 : decode cX6_manyNew 84 = .ok (.iload_n 3, 1) := by decide +kernel
theorem dX6_manyNew_85 : decode cX6_manyNew 85 = .ok (.ireturn, 1) := by decide +kernel
theorem dX6_oldAbove_0 : decode cX6_oldAbove 0 = .ok (.aload_n 0, 1) := by decide +kernel
theorem dX6_oldAbove_1 : decode cX6_oldAbove 1 = .ok (.getfield 24, 3) := by decide +kernel
theorem dX6_oldAbove_4 : decode cX6_oldAbove 4 = .ok (.iconst 0, 1) := by decide +kernel
theorem dX6_oldAbove_5 : decode cX6_oldAbove 5 = .ok (.iaload, 1) := by decide +kernel
theorem dX6_oldAbove_6 : decode cX6_oldAbove 6 = .ok (.istore_n 2, 1) := by decide +kernel
theorem dX6_oldAbove_7 : decode cX6_oldAbove 7 = .ok (.iconst 0, 1) := by decide +kernel
theorem dX6_oldAbove_8 : decode cX6_oldAbove 8 = .ok (.istore_n 3, 1) := by decide +kernel
theorem dX6_oldAbove_9 : decode cX6_oldAbove 9 = .ok (.iload_n 2, 1) := by decide +kernel
theorem dX6_oldAbove_10 : decode cX6_oldAbove 10 = .ok (.iload_n 1, 1) := by decide +kernel
theorem dX6_oldAbove_11 : decode cX6_oldAbove 11 = .ok (.if_icmp .gt 18, 3) := by decide +kernel
theorem dX6_oldAbove_14 : decode cX6_oldAbove 14 = .ok (.iinc 3 1, 3) := by decide +kernel
theorem dX6_oldAbove_17 : decode cX6_oldAbove 17 = .ok (.iload_n 2, 1) := by decide +kernel
theorem dX6_oldAbove_18 : decode cX6_oldAbove 18 = .ok (.aload_n 0, 1) := by decide +kernel
theorem dX6_oldAbove_19 : decode cX6_oldAbove 19 = .ok (.getfield 24, 3) := by decide +kernel
theorem dX6_oldAbove_22 : decode cX6_oldAbove 22 = .ok (.iload_n 3, 1) := by decide +kernel
theorem dX6_oldAbove_23 : decode cX6_oldAbove 23 = .ok (.iaload, 1) := by decide +kernel
theorem dX6_oldAbove_24 : decode cX6_oldAbove 24 = .ok (.iadd, 1) := by decide +kernel
theorem dX6_oldAbove_25 : decode cX6_oldAbove 25 = .ok (.istore_n 2, 1) := by decide +kernel
theorem dX6_oldAbove_26 : decode cX6_oldAbove 26 = .ok (.goto (-17), 3) := by decide +kernel
theorem dX6_oldAbove_29 : decode cX6_oldAbove 29 = .ok (.aload_n 0, 1) := by decide +kernel
theorem dX6_oldAbove_30 : decode cX6_oldAbove 30 = .ok (.getfield 21, 3) := by decide +kernel
theorem dX6_oldAbove_33 : decode cX6_oldAbove 33 = .ok (.iload_n 3, 1) := by decide +kernel
theorem dX6_oldAbove_34 : decode cX6_oldAbove 34 = .ok (.iaload, 1) := by decide +kernel
theorem dX6_oldAbove_35 : decode cX6_oldAbove 35 = .ok (.ireturn, 1) := by decide +kernel
set_option maxRecDepth 20000 in
theorem ggX6_drawAnew_X6_manyNew : GoodIn wsX6_drawAnew wsX6_manyNew := goodIn_r _ [9, 1, 10, 3, 30, 31, 32, 33, 34, 35, 36, 37, 38, 39, 40, 41, 42, 43, 44] (by decide +kernel) (by decide +kernel)
set_option maxRecDepth 20000 in
theorem gX6_drawAnew_X6_manyNew : GoodIn wsX6_drawAnew (wsV RX6 111 RX6 yX6_manyNew wsX6_manyNew) := goodIn_app (goodIn_of _ (by decide +kernel)) ggX6_drawAnew_X6_manyNew
set_option maxRecDepth 20000 in
theorem ggX6_drawAnew_X6_next : GoodIn wsX6_drawAnew wsX6_next := goodIn_r _ [14, 15, 16, 30, 31, 32, 33, 34, 35, 36, 37, 38, 39, 40, 41, 42, 43, 44] (by decide +kernel) (by decide +kernel)
set_option maxRecDepth 20000 in
theorem gX6_drawAnew_X6_next : GoodIn wsX6_drawAnew (wsV RX6 59 RX6 yX6_next wsX6_next) := goodIn_app (goodIn_of _ (by decide +kernel)) ggX6_drawAnew_X6_next
set_option maxRecDepth 20000 in
theorem ggX6_drawAnew_X6_drawCell : GoodIn wsX6_drawAnew wsX6_drawCell := goodIn_r _ [20, 21, 11, 12, 13, 8, 14, 15, 16, 22, 23, 24, 25, 30, 31, 32, 33, 34, 35, 36, 37, 38, 39, 40, 41, 42, 43, 44] (by decide +kernel) (by decide +kernel)
set_option maxRecDepth 20000 in
theorem gX6_drawAnew_X6_drawCell : GoodIn wsX6_drawAnew (wsV RX6 72 RX6 yX6_drawCell wsX6_drawCell) := goodIn_app (goodIn_of _ (by decide +kernel)) ggX6_drawAnew_X6_drawCell
set_option maxRecDepth 20000 in
theorem ggX6_drawAnew_X6_oldAbove : GoodIn wsX6_drawAnew wsX6_oldAbove := goodIn_r _ [29, 10, 2, 30, 31, 32, 33, 34, 35, 36, 37, 38, 39, 40, 41, 42, 43, 44] (by decide +kernel) (by decide +kernel)
set_option maxRecDepth 20000 in
theorem gX6_drawAnew_X6_oldAbove : GoodIn wsX6_drawAnew (wsV RX6 114 RX6 yX6_oldAbove wsX6_oldAbove) := goodIn_app (goodIn_of _ (by decide +kernel)) ggX6_drawAnew_X6_oldAbove
theorem dX6_drawAnew_0 : decode cX6_drawAnew 0 = .ok (.aload_n 0, 1) := by decide +kernel
theorem dX6_drawAnew_1 : decode cX6_drawAnew 1 = .ok (.invokevirtual 111, 3) := by decide +kernel
theorem dX6_drawAnew_4 : decode cX6_drawAnew 4 = .ok (.istore_n 2, 1) := by decide +kernel
theorem dX6_drawAnew_5 : decode cX6_drawAnew 5 = .ok (.iconst 0, 1) := by decide +kernel
theorem dX6_drawAnew_6 : decode cX6_drawAnew 6 = .ok (.istore_n 3, 1) := by decide +kernel
theorem dX6_drawAnew_7 : decode cX6_drawAnew 7 = .ok (.iload_n 3, 1) := by decide +kernel
theorem dX6_drawAnew_8 : decode cX6_drawAnew 8 = .ok (.aload_n 0, 1) := by decide +kernel
theorem dX6_drawAnew_9 : decode cX6_drawAnew 9 = .ok (.getfield 69, 3) := by decide +kernel
theorem dX6_drawAnew_12 : decode cX6_drawAnew 12 = .ok (.if_icmp .ge 21, 3) := by decide +kernel
theorem dX6_drawAnew_15 : decode cX6_drawAnew 15 = .ok (.aload_n 0, 1) := by decide +kernel
theorem dX6_drawAnew_16 : decode cX6_drawAnew 16 = .ok (.getfield 21, 3) := by decide +kernel
theorem dX6_drawAnew_19 : decode cX6_drawAnew 19 = .ok (.iload_n 3, 1) := by decide +kernel
theorem dX6_drawAnew_20 : decode cX6_drawAnew 20 = .ok (.aload_n 0, 1) := by decide +kernel
theorem dX6_drawAnew_21 : decode cX6_drawAnew 21 = .ok (.getfield 17, 3) := by decide +kernel
theorem dX6_drawAnew_24 : decode cX6_drawAnew 24 = .ok (.iload_n 3, 1) := by decide +kernel
theorem dX6_drawAnew_25 : decode cX6_drawAnew 25 = .ok (.iaload, 1) := by decide +kernel
theorem dX6_drawAnew_26 : decode cX6_drawAnew 26 = .ok (.iastore, 1) := by decide +kernel
theorem dX6_drawAnew_27 : decode cX6_drawAnew 27 = .ok (.iinc 3 1, 3) := by decide +kernel
theorem dX6_drawAnew_30 : decode cX6_drawAnew 30 = .ok (.goto (-23), 3) := by decide +kernel
theorem dX6_drawAnew_33 : decode cX6_drawAnew 33 = .ok (.iload_n 1, 1) := by decide +kernel
theorem dX6_drawAnew_34 : decode cX6_drawAnew 34 = .ok (.ifCond .ne 7, 3) := by decide +kernel
theorem dX6_drawAnew_37 : decode cX6_drawAnew 37 = .ok (.iconst 0, 1) := by decide +kernel
theorem dX6_drawAnew_38 : decode cX6_drawAnew 38 = .ok (.goto 9, 3) := by decide +kernel
theorem dX6_drawAnew_41 : decode cX6_drawAnew 41 = .ok (.aload_n 0, 1) := by decide +kernel
theorem dX6_drawAnew_42 : decode cX6_drawAnew 42 = .ok (.invokevirtual 59, 3) := by decide +kernel
theorem dX6_drawAnew_45 : decode cX6_drawAnew 45 = .ok (.iload_n 1, 1) := by decide +kernel
theorem dX6_drawAnew_46 : decode cX6_drawAnew 46 = .ok (.irem, 1) := by decide +kernel
theorem dX6_drawAnew_47 : decode cX6_drawAnew 47 = .ok (.istore_n 3, 1) := by decide +kernel
theorem dX6_drawAnew_48 : decode cX6_drawAnew 48 = .ok (.iconst 0, 1) := by decide +kernel
theorem dX6_drawAnew_49 : decode cX6_drawAnew 49 = .ok (.istore 4, 2) := by decide +kernel
theorem dX6_drawAnew_51 : decode cX6_drawAnew 51 = .ok (.iload 4, 2) := by decide +kernel
theorem dX6_drawAnew_53 : decode cX6_drawAnew 53 = .ok (.iload_n 2, 1) := by decide +kernel
theorem dX6_drawAnew_54 : decode cX6_drawAnew 54 = .ok (.if_icmp .ge 66, 3) := by decide +kernel
theorem dX6_drawAnew_57 : decode cX6_drawAnew 57 = .ok (.aload_n 0, 1) := by decide +kernel
theorem dX6_drawAnew_58 : decode cX6_drawAnew 58 = .ok (.invokevirtual 59, 3) := by decide +kernel
theorem dX6_drawAnew_61 : decode cX6_drawAnew 61 = .ok (.sipush 256, 3) := by decide +kernel
theorem dX6_drawAnew_64 : decode cX6_drawAnew 64 = .ok (.irem, 1) := by decide +kernel
theorem dX6_drawAnew_65 : decode cX6_drawAnew 65 = .ok (.aload_n 0, 1) := by decide +kernel
theorem dX6_drawAnew_66 : decode cX6_drawAnew 66 = .ok (.getfield 84, 3) := by decide +kernel
theorem dX6_drawAnew_69 : decode cX6_drawAnew 69 = .ok (.if_icmp .lt 7, 3) := by decide +kernel
theorem dX6_drawAnew_72 : decode cX6_drawAnew 72 = .ok (.iload_n 1, 1) := by decide +kernel
theorem dX6_drawAnew_73 : decode cX6_drawAnew 73 = .ok (.ifCond .ne 7, 3) := by decide +kernel
theorem dX6_drawAnew_76 : decode cX6_drawAnew 76 = .ok (.iconst 1, 1) := by decide +kernel
theorem dX6_drawAnew_77 : decode cX6_drawAnew 77 = .ok (.goto 4, 3) := by decide +kernel
theorem dX6_drawAnew_80 : decode cX6_drawAnew 80 = .ok (.iconst 0, 1) := by decide +kernel
theorem dX6_drawAnew_81 : decode cX6_drawAnew 81 = .ok (.istore 5, 2) := by decide +kernel
theorem dX6_drawAnew_83 : decode cX6_drawAnew 83 = .ok (.aload_n 0, 1) := by decide +kernel
theorem dX6_drawAnew_84 : decode cX6_drawAnew 84 = .ok (.getfield 17, 3) := by decide +kernel
theorem dX6_drawAnew_87 : decode cX6_drawAnew 87 = .ok (.iload 4, 2) := by decide +kernel
theorem dX6_drawAnew_89 : decode cX6_drawAnew 89 = .ok (.iload 5, 2) := by decide +kernel
theorem dX6_drawAnew_91 : decode cX6_drawAnew 91 = .ok (.ifCond .eq 10, 3) := by decide +kernel
theorem dX6_drawAnew_94 : decode cX6_drawAnew 94 = .ok (.aload_n 0, 1) := by decide +kernel
theorem dX6_drawAnew_95 : decode cX6_drawAnew 95 = .ok (.invokevirtual 72, 3) := by decide +kernel
theorem dX6_drawAnew_98 : decode cX6_drawAnew 98 = .ok (.goto 15, 3) := by decide +kernel
theorem dX6_drawAnew_101 : decode cX6_drawAnew 101 = .ok (.aload_n 0, 1) := by decide +kernel
theorem dX6_drawAnew_102 : decode cX6_drawAnew 102 = .ok (.iload_n 3, 1) := by decide +kernel
theorem dX6_drawAnew_103 : decode cX6_drawAnew 103 = .ok (.iload 4, 2) := by decide +kernel
theorem dX6_drawAnew_105 : decode cX6_drawAnew 105 = .ok (.iload_n 1, 1) := by decide +kernel
theorem dX6_drawAnew_106 : decode cX6_drawAnew 106 = .ok (.imul, 1) := by decide +kernel
theorem dX6_drawAnew_107 : decode cX6_drawAnew 107 = .ok (.iadd, 1) := by decide +kernel
theorem dX6_drawAnew_108 : decode cX6_drawAnew 108 = .ok (.iload_n 2, 1) := by decide +kernel
theorem dX6_drawAnew_109 : decode cX6_drawAnew 109 = .ok (.idiv, 1) := by decide +kernel
theorem dX6_drawAnew_110 : decode cX6_drawAnew 110 = .ok (.invokevirtual 114, 3) := by decide +kernel
theorem dX6_drawAnew_113 : decode cX6_drawAnew 113 = .ok (.iastore, 1) := by decide +kernel
theorem dX6_drawAnew_114 : decode cX6_drawAnew 114 = .ok (.iinc 4 1, 3) := by decide +kernel
theorem dX6_drawAnew_117 : decode cX6_drawAnew 117 = .ok (.goto (-66), 3) := by decide +kernel
theorem dX6_drawAnew_120 : decode cX6_drawAnew 120 = .ok (.aload_n 0, 1) := by decide +kernel
theorem dX6_drawAnew_121 : decode cX6_drawAnew 121 = .ok (.iload_n 2, 1) := by decide +kernel
theorem dX6_drawAnew_122 : decode cX6_drawAnew 122 = .ok (.putfield 69, 3) := by decide +kernel
theorem dX6_drawAnew_125 : decode cX6_drawAnew 125 = .ok (.return_, 1) := by decide +kernel
set_option maxRecDepth 20000 in
theorem ggX6_read_X6_isDirection : GoodIn wsX6_read wsX6_isDirection := goodIn_r _ [11, 12, 13, 10, 14] (by decide +kernel) (by decide +kernel)
set_option maxRecDepth 20000 in
theorem gX6_read_X6_isDirection : GoodIn wsX6_read (va_wsS RX6 95 yX6_isDirection wsX6_isDirection) := goodIn_app (goodIn_of _ (by decide +kernel)) ggX6_read_X6_isDirection
set_option maxRecDepth 20000 in
theorem ggX6_read_X6_in : GoodIn wsX6_read wsX6_in := goodIn_r _ [14] (by decide +kernel) (by decide +kernel)
set_option maxRecDepth 20000 in
theorem gX6_read_X6_in : GoodIn wsX6_read (va_wsS RX6 37 yX6_in wsX6_in) := goodIn_app (goodIn_of _ (by decide +kernel)) ggX6_read_X6_in
set_option maxRecDepth 20000 in
theorem ggX6_read_X6_goesWell : GoodIn wsX6_read wsX6_goesWell := goodIn_r _ [18, 19, 88, 89, 90, 91, 92, 93, 94, 95, 96, 97, 98, 99, 100, 101, 102] (by decide +kernel) (by decide +kernel)
set_option maxRecDepth 20000 in
theorem gX6_read_X6_goesWell : GoodIn wsX6_read (wsV RX6 53 RX6 yX6_goesWell wsX6_goesWell) := goodIn_app (goodIn_of _ (by decide +kernel)) ggX6_read_X6_goesWell
set_option maxRecDepth 20000 in
theorem ggX6_read_X6_weightOf : GoodIn wsX6_read wsX6_weightOf := goodIn_r _ [23, 24, 25, 26, 10, 27, 28, 29, 30, 31, 7, 32, 33, 34, 12, 13, 14, 88, 89, 90, 91, 92, 93, 94, 95, 96, 97, 98, 99, 100, 101, 102] (by decide +kernel) (by decide +kernel)
set_option maxRecDepth 20000 in
theorem gX6_read_X6_weightOf : GoodIn wsX6_read (wsV RX6 118 RX6 yX6_weightOf wsX6_weightOf) := goodIn_app (goodIn_of _ (by decide +kernel)) ggX6_read_X6_weightOf
set_option maxRecDepth 20000 in
theorem ggX6_read_X6_judge : GoodIn wsX6_read wsX6_judge := goodIn_r _ [38, 3, 39, 40, 41, 42, 88, 89, 90, 91, 92, 93, 94, 95, 96, 97, 98, 99, 100, 101, 102] (by decide +kernel) (by decide +kernel)
set_option maxRecDepth 20000 in
theorem gX6_read_X6_judge : GoodIn wsX6_read (wsV RX6 122 RX6 yX6_judge wsX6_judge) := goodIn_app (goodIn_of _ (by decide +kernel)) ggX6_read_X6_judge
set_option maxRecDepth 20000 in
theorem ggX6_read_X6_drawAnew : GoodIn wsX6_read wsX6_drawAnew := goodIn_r _ [46, 3, 47, 5, 42, 48, 49, 50, 10, 51, 4, 52, 53, 54, 55, 56, 57, 58, 59, 60, 61, 7, 62, 63, 64, 65, 66, 67, 68, 69, 88, 89, 90, 91, 92, 93, 94, 95, 96, 97, 98, 99, 100, 101, 102] (by decide +kernel) (by decide +kernel)
set_option maxRecDepth 20000 in
theorem gX6_read_X6_drawAnew : GoodIn wsX6_read (wsV RX6 126 RX6 yX6_drawAnew wsX6_drawAnew) := goodIn_app (goodIn_of _ (by decide +kernel)) ggX6_read_X6_drawAnew
set_option maxRecDepth 20000 in
theorem ggX6_read_X6_areNone : GoodIn wsX6_read wsX6_areNone := goodIn_r _ [73, 6, 88, 89, 90, 91, 92, 93, 94, 95, 96, 97, 98, 99, 100, 101, 102] (by decide +kernel) (by decide +kernel)
set_option maxRecDepth 20000 in
theorem gX6_read_X6_areNone : GoodIn wsX6_read (wsV RX6 129 RX6 yX6_areNone wsX6_areNone) := goodIn_app (goodIn_of _ (by decide +kernel)) ggX6_read_X6_areNone
set_option maxRecDepth 20000 in
theorem ggX6_read_X6_believeAll : GoodIn wsX6_read wsX6_believeAll := goodIn_r _ [77, 6, 7, 88, 89, 90, 91, 92, 93, 94, 95, 96, 97, 98, 99, 100, 101, 102] (by decide +kernel) (by decide +kernel)
set_option maxRecDepth 20000 in
theorem gX6_read_X6_believeAll : GoodIn wsX6_read (wsV RX6 75 RX6 yX6_believeAll wsX6_believeAll) := goodIn_app (goodIn_of _ (by decide +kernel)) ggX6_read_X6_believeAll
set_option maxRecDepth 20000 in
theorem ggX6_read_X6_halve : GoodIn wsX6_read wsX6_halve := goodIn_r _ [81, 82, 6, 83, 84, 85, 86, 10, 87, 88, 89, 90, 91, 92, 93, 94, 95, 96, 97, 98, 99, 100, 101, 102] (by decide +kernel) (by decide +kernel)
set_option maxRecDepth 20000 in
theorem gX6_read_X6_halve : GoodIn wsX6_read (wsV RX6 102 RX6 yX6_halve wsX6_halve) := goodIn_app (goodIn_of _ (by decide +kernel)) ggX6_read_X6_halve
theorem dX6_read_0 : decode cX6_read 0 = .ok (.iload_n 1, 1) := by decide +kernel
theorem dX6_read_1 : decode cX6_read 1 = .ok (.invokestatic 95, 3) := by decide +kernel
theorem dX6_read_4 : decode cX6_read 4 = .ok (.istore_n 3, 1) := by decide +kernel
theorem dX6_read_5 : decode cX6_read 5 = .ok (.iload_n 2, 1) := by decide +kernel
theorem dX6_read_6 : decode cX6_read 6 = .ok (.iconst 0, 1) := by decide +kernel
theorem dX6_read_7 : decode cX6_read 7 = .ok (.bipush 7, 2) := by decide +kernel
theorem dX6_read_9 : decode cX6_read 9 = .ok (.invokestatic 37, 3) := by decide +kernel
theorem dX6_read_12 : decode cX6_read 12 = .ok (.istore 4, 2) := by decide +kernel
theorem dX6_read_14 : decode cX6_read 14 = .ok (.aload_n 0, 1) := by decide +kernel
theorem dX6_read_15 : decode cX6_read 15 = .ok (.iload_n 3, 1) := by decide +kernel
theorem dX6_read_16 : decode cX6_read 16 = .ok (.ifCond .ne 7, 3) := by decide +kernel
theorem dX6_read_19 : decode cX6_read 19 = .ok (.iconst 1, 1) := by decide +kernel
theorem dX6_read_20 : decode cX6_read 20 = .ok (.goto 34, 3) := by decide +kernel
theorem dX6_read_23 : decode cX6_read 23 = .ok (.iload 4, 2) := by decide +kernel
theorem dX6_read_25 : decode cX6_read 25 = .ok (.ifCond .ne 7, 3) := by decide +kernel
theorem dX6_read_28 : decode cX6_read 28 = .ok (.iconst 2, 1) := by decide +kernel
theorem dX6_read_29 : decode cX6_read 29 = .ok (.goto 25, 3) := by decide +kernel
theorem dX6_read_32 : decode cX6_read 32 = .ok (.aload_n 0, 1) := by decide +kernel
theorem dX6_read_33 : decode cX6_read 33 = .ok (.getfield 49, 3) := by decide +kernel
theorem dX6_read_36 : decode cX6_read 36 = .ok (.ifCond .eq 13, 3) := by decide +kernel
theorem dX6_read_39 : decode cX6_read 39 = .ok (.aload_n 0, 1) := by decide +kernel
theorem dX6_read_40 : decode cX6_read 40 = .ok (.getfield 78, 3) := by decide +kernel
theorem dX6_read_43 : decode cX6_read 43 = .ok (.sipush 300, 3) := by decide +kernel
theorem dX6_read_46 : decode cX6_read 46 = .ok (.if_icmp .ne 7, 3) := by decide +kernel
theorem dX6_read_49 : decode cX6_read 49 = .ok (.iconst 3, 1) := by decide +kernel
theorem dX6_read_50 : decode cX6_read 50 = .ok (.goto 4, 3) := by decide +kernel
theorem dX6_read_53 : decode cX6_read 53 = .ok (.iconst 0, 1) := by decide +kernel
theorem dX6_read_54 : decode cX6_read 54 = .ok (.invokevirtual 53, 3) := by decide +kernel
theorem dX6_read_57 : decode cX6_read 57 = .ok (.ifCond .ne 5, 3) := by decide +kernel
theorem dX6_read_60 : decode cX6_read 60 = .ok (.iconst 0, 1) := by decide +kernel
theorem dX6_read_61 : decode cX6_read 61 = .ok (.ireturn, 1) := by decide +kernel
theorem dX6_read_62 : decode cX6_read 62 = .ok (.iconst 0, 1) := by decide +kernel
theorem dX6_read_63 : decode cX6_read 63 = .ok (.istore 5, 2) := by decide +kernel
theorem dX6_read_65 : decode cX6_read 65 = .ok (.iconst 0, 1) := by decide +kernel
theorem dX6_read_66 : decode cX6_read 66 = .ok (.istore 6, 2) := by decide +kernel
theorem dX6_read_68 : decode cX6_read 68 = .ok (.iload 6, 2) := by decide +kernel
theorem dX6_read_70 : decode cX6_read 70 = .ok (.aload_n 0, 1) := by decide +kernel
theorem dX6_read_71 : decode cX6_read 71 = .ok (.getfield 69, 3) := by decide +kernel
theorem dX6_read_74 : decode cX6_read 74 = .ok (.if_icmp .ge 41, 3) := by decide +kernel
theorem dX6_read_77 : decode cX6_read 77 = .ok (.aload_n 0, 1) := by decide +kernel
theorem dX6_read_78 : decode cX6_read 78 = .ok (.getfield 24, 3) := by decide +kernel
theorem dX6_read_81 : decode cX6_read 81 = .ok (.iload 6, 2) := by decide +kernel
theorem dX6_read_83 : decode cX6_read 83 = .ok (.aload_n 0, 1) := by decide +kernel
theorem dX6_read_84 : decode cX6_read 84 = .ok (.aload_n 0, 1) := by decide +kernel
theorem dX6_read_85 : decode cX6_read 85 = .ok (.getfield 17, 3) := by decide +kernel
theorem dX6_read_88 : decode cX6_read 88 = .ok (.iload 6, 2) := by decide +kernel
theorem dX6_read_90 : decode cX6_read 90 = .ok (.iaload, 1) := by decide +kernel
theorem dX6_read_91 : decode cX6_read 91 = .ok (.iload_n 1, 1) := by decide +kernel
theorem dX6_read_92 : decode cX6_read 92 = .ok (.iload_n 2, 1) := by decide +kernel
theorem dX6_read_93 : decode cX6_read 93 = .ok (.invokevirtual 118, 3) := by decide +kernel
theorem dX6_read_96 : decode cX6_read 96 = .ok (.iastore, 1) := by decide +kernel
theorem dX6_read_97 : decode cX6_read 97 = .ok (.iload 5, 2) := by decide +kernel
theorem dX6_read_99 : decode cX6_read 99 = .ok (.aload_n 0, 1) := by decide +kernel
theorem dX6_read_100 : decode cX6_read 100 = .ok (.getfield 24, 3) := by decide +kernel
theorem dX6_read_103 : decode cX6_read 103 = .ok (.iload 6, 2) := by decide +kernel
theorem dX6_read_105 : decode cX6_read 105 = .ok (.iaload, 1) := by decide +kernel
theorem dX6_read_106 : decode cX6_read 106 = .ok (.iadd, 1) := by decide +kernel
theorem dX6_read_107 : decode cX6_read 107 = .ok (.istore 5, 2) := by decide +kernel
theorem dX6_read_109 : decode cX6_read 109 = .ok (.iinc 6 1, 3) := by decide +kernel
theorem dX6_read_112 : decode cX6_read 112 = .ok (.goto (-44), 3) := by decide +kernel
theorem dX6_read_115 : decode cX6_read 115 = .ok (.aload_n 0, 1) := by decide +kernel
theorem dX6_read_116 : decode cX6_read 116 = .ok (.iload 5, 2) := by decide +kernel
theorem dX6_read_118 : decode cX6_read 118 = .ok (.invokevirtual 122, 3) := by decide +kernel
theorem dX6_read_121 : decode cX6_read 121 = .ok (.aload_n 0, 1) := by decide +kernel
theorem dX6_read_122 : decode cX6_read 122 = .ok (.iload 5, 2) := by decide +kernel
theorem dX6_read_124 : decode cX6_read 124 = .ok (.invokevirtual 126, 3) := by decide +kernel
theorem dX6_read_127 : decode cX6_read 127 = .ok (.iconst 0, 1) := by decide +kernel
theorem dX6_read_128 : decode cX6_read 128 = .ok (.istore 6, 2) := by decide +kernel
theorem dX6_read_130 : decode cX6_read 130 = .ok (.iload 6, 2) := by decide +kernel
theorem dX6_read_132 : decode cX6_read 132 = .ok (.bipush 64, 2) := by decide +kernel
theorem dX6_read_134 : decode cX6_read 134 = .ok (.if_icmp .ge 42, 3) := by decide +kernel
theorem dX6_read_137 : decode cX6_read 137 = .ok (.aload_n 0, 1) := by decide +kernel
theorem dX6_read_138 : decode cX6_read 138 = .ok (.getfield 27, 3) := by decide +kernel
theorem dX6_read_141 : decode cX6_read 141 = .ok (.iload 6, 2) := by decide +kernel
theorem dX6_read_143 : decode cX6_read 143 = .ok (.dup2, 1) := by decide +kernel
theorem dX6_read_144 : decode cX6_read 144 = .ok (.laload, 1) := by decide +kernel
theorem dX6_read_145 : decode cX6_read 145 = .ok (.aload_n 0, 1) := by decide +kernel
theorem dX6_read_146 : decode cX6_read 146 = .ok (.getfield 7, 3) := by decide +kernel
theorem dX6_read_149 : decode cX6_read 149 = .ok (.iload 6, 2) := by decide +kernel
theorem dX6_read_151 : decode cX6_read 151 = .ok (.baload, 1) := by decide +kernel
theorem dX6_read_152 : decode cX6_read 152 = .ok (.ifCond .eq 7, 3) := by decide +kernel
theorem dX6_read_155 : decode cX6_read 155 = .ok (.lconst 0, 1) := by decide +kernel
theorem dX6_read_156 : decode cX6_read 156 = .ok (.goto 12, 3) := by decide +kernel
theorem dX6_read_159 : decode cX6_read 159 = .ok (.aload_n 0, 1) := by decide +kernel
theorem dX6_read_160 : decode cX6_read 160 = .ok (.iload 6, 2) := by decide +kernel
theorem dX6_read_162 : decode cX6_read 162 = .ok (.iload_n 1, 1) := by decide +kernel
theorem dX6_read_163 : decode cX6_read 163 = .ok (.iload_n 2, 1) := by decide +kernel
theorem dX6_read_164 : decode cX6_read 164 = .ok (.invokevirtual 118, 3) := by decide +kernel
theorem dX6_read_167 : decode cX6_read 167 = .ok (.i2l, 1) := by decide +kernel
theorem dX6_read_168 : decode cX6_read 168 = .ok (.lmul, 1) := by decide +kernel
theorem dX6_read_169 : decode cX6_read 169 = .ok (.lastore, 1) := by decide +kernel
theorem dX6_read_170 : decode cX6_read 170 = .ok (.iinc 6 1, 3) := by decide +kernel
theorem dX6_read_173 : decode cX6_read 173 = .ok (.goto (-43), 3) := by decide +kernel
theorem dX6_read_176 : decode cX6_read 176 = .ok (.aload_n 0, 1) := by decide +kernel
theorem dX6_read_177 : decode cX6_read 177 = .ok (.invokevirtual 129, 3) := by decide +kernel
theorem dX6_read_180 : decode cX6_read 180 = .ok (.ifCond .eq 7, 3) := by decide +kernel
theorem dX6_read_183 : decode cX6_read 183 = .ok (.aload_n 0, 1) := by decide +kernel
theorem dX6_read_184 : decode cX6_read 184 = .ok (.invokevirtual 75, 3) := by decide +kernel
theorem dX6_read_187 : decode cX6_read 187 = .ok (.aload_n 0, 1) := by decide +kernel
theorem dX6_read_188 : decode cX6_read 188 = .ok (.invokevirtual 102, 3) := by decide +kernel
theorem dX6_read_191 : decode cX6_read 191 = .ok (.aload_n 0, 1) := by decide +kernel
theorem dX6_read_192 : decode cX6_read 192 = .ok (.dup, 1) := by decide +kernel
theorem dX6_read_193 : decode cX6_read 193 = .ok (.getfield 78, 3) := by decide +kernel
theorem dX6_read_196 : decode cX6_read 196 = .ok (.iconst 1, 1) := by decide +kernel
theorem dX6_read_197 : decode cX6_read 197 = .ok (.iadd, 1) := by decide +kernel
theorem dX6_read_198 : decode cX6_read 198 = .ok (.putfield 78, 3) := by decide +kernel
theorem dX6_read_201 : decode cX6_read 201 = .ok (.iload 5, 2) := by decide +kernel
theorem dX6_read_203 : decode cX6_read 203 = .ok (.ireturn, 1) := by decide +kernel
set_option maxRecDepth 20000 in
theorem ggX6_toRead_X6_isCell : GoodIn wsX6_toRead wsX6_isCell := goodIn_r _ [5, 6, 7, 4, 8] (by decide +kernel) (by decide +kernel)
set_option maxRecDepth 20000 in
theorem gX6_toRead_X6_isCell : GoodIn wsX6_toRead (va_wsS RX6 41 yX6_isCell wsX6_isCell) := goodIn_app (goodIn_of _ (by decide +kernel)) ggX6_toRead_X6_isCell
set_option maxRecDepth 20000 in
theorem ggX6_toRead_X6_isDirection : GoodIn wsX6_toRead wsX6_isDirection := goodIn_r _ [11, 6, 7, 4, 8] (by decide +kernel) (by decide +kernel)
set_option maxRecDepth 20000 in
theorem gX6_toRead_X6_isDirection : GoodIn wsX6_toRead (va_wsS RX6 95 yX6_isDirection wsX6_isDirection) := goodIn_app (goodIn_of _ (by decide +kernel)) ggX6_toRead_X6_isDirection
set_option maxRecDepth 20000 in
theorem ggX6_toRead_X6_goesWell : GoodIn wsX6_toRead wsX6_goesWell := goodIn_r _ [15, 16, 25, 26, 27, 28, 29, 30, 31, 32, 33, 34, 35, 36, 37, 38, 39] (by decide +kernel) (by decide +kernel)
set_option maxRecDepth 20000 in
theorem gX6_toRead_X6_goesWell : GoodIn wsX6_toRead (wsV RX6 53 RX6 yX6_goesWell wsX6_goesWell) := goodIn_app (goodIn_of _ (by decide +kernel)) ggX6_toRead_X6_goesWell
set_option maxRecDepth 20000 in
theorem ggX6_toRead_X6_reads : GoodIn wsX6_toRead wsX6_reads := goodIn_r _ [20, 21, 22, 23, 4, 24, 1, 2, 3, 5, 6, 7, 8, 25, 26, 27, 28, 29, 30, 31, 32, 33, 34, 35, 36, 37, 38, 39] (by decide +kernel) (by decide +kernel)
set_option maxRecDepth 20000 in
theorem gX6_toRead_X6_reads : GoodIn wsX6_toRead (wsV RX6 66 RX6 yX6_reads wsX6_reads) := goodIn_app (goodIn_of _ (by decide +kernel)) ggX6_toRead_X6_reads
theorem dX6_toRead_0 : decode cX6_toRead 0 = .ok (.aload_n 0, 1) := by decide +kernel
theorem dX6_toRead_1 : decode cX6_toRead 1 = .ok (.iload_n 1, 1) := by decide +kernel
theorem dX6_toRead_2 : decode cX6_toRead 2 = .ok (.iload_n 2, 1) := by decide +kernel
theorem dX6_toRead_3 : decode cX6_toRead 3 = .ok (.invokestatic 41, 3) := by decide +kernel
theorem dX6_toRead_6 : decode cX6_toRead 6 = .ok (.ifCond .eq 14, 3) := by decide +kernel
theorem dX6_toRead_9 : decode cX6_toRead 9 = .ok (.iload_n 3, 1) := by decide +kernel
theorem dX6_toRead_10 : decode cX6_toRead 10 = .ok (.invokestatic 95, 3) := by decide +kernel
theorem dX6_toRead_13 : decode cX6_toRead 13 = .ok (.ifCond .eq 7, 3) := by decide +kernel
theorem dX6_toRead_16 : decode cX6_toRead 16 = .ok (.iconst 0, 1) := by decide +kernel
theorem dX6_toRead_17 : decode cX6_toRead 17 = .ok (.goto 4, 3) := by decide +kernel
theorem dX6_toRead_20 : decode cX6_toRead 20 = .ok (.iconst 1, 1) := by decide +kernel
theorem dX6_toRead_21 : decode cX6_toRead 21 = .ok (.invokevirtual 53, 3) := by decide +kernel
theorem dX6_toRead_24 : decode cX6_toRead 24 = .ok (.ifCond .ne 5, 3) := by decide +kernel
theorem dX6_toRead_27 : decode cX6_toRead 27 = .ok (.iconst 0, 1) := by decide +kernel
theorem dX6_toRead_28 : decode cX6_toRead 28 = .ok (.ireturn, 1) := by decide +kernel
theorem dX6_toRead_29 : decode cX6_toRead 29 = .ok (.aload_n 0, 1) := by decide +kernel
theorem dX6_toRead_30 : decode cX6_toRead 30 = .ok (.getfield 7, 3) := by decide +kernel
theorem dX6_toRead_33 : decode cX6_toRead 33 = .ok (.bipush 8, 2) := by decide +kernel
theorem dX6_toRead_35 : decode cX6_toRead 35 = .ok (.iload_n 2, 1) := by decide +kernel
theorem dX6_toRead_36 : decode cX6_toRead 36 = .ok (.imul, 1) := by decide +kernel
theorem dX6_toRead_37 : decode cX6_toRead 37 = .ok (.iload_n 1, 1) := by decide +kernel
theorem dX6_toRead_38 : decode cX6_toRead 38 = .ok (.iadd, 1) := by decide +kernel
theorem dX6_toRead_39 : decode cX6_toRead 39 = .ok (.baload, 1) := by decide +kernel
theorem dX6_toRead_40 : decode cX6_toRead 40 = .ok (.ifCond .eq 7, 3) := by decide +kernel
theorem dX6_toRead_43 : decode cX6_toRead 43 = .ok (.iconst (-1), 1) := by decide +kernel
theorem dX6_toRead_44 : decode cX6_toRead 44 = .ok (.goto 14, 3) := by decide +kernel
theorem dX6_toRead_47 : decode cX6_toRead 47 = .ok (.aload_n 0, 1) := by decide +kernel
theorem dX6_toRead_48 : decode cX6_toRead 48 = .ok (.bipush 8, 2) := by decide +kernel
theorem dX6_toRead_50 : decode cX6_toRead 50 = .ok (.iload_n 2, 1) := by decide +kernel
theorem dX6_toRead_51 : decode cX6_toRead 51 = .ok (.imul, 1) := by decide +kernel
theorem dX6_toRead_52 : decode cX6_toRead 52 = .ok (.iload_n 1, 1) := by decide +kernel
theorem dX6_toRead_53 : decode cX6_toRead 53 = .ok (.iadd, 1) := by decide +kernel
theorem dX6_toRead_54 : decode cX6_toRead 54 = .ok (.iload_n 3, 1) := by decide +kernel
theorem dX6_toRead_55 : decode cX6_toRead 55 = .ok (.invokevirtual 66, 3) := by decide +kernel
theorem dX6_toRead_58 : decode cX6_toRead 58 = .ok (.ireturn, 1) := by decide +kernel
set_option maxRecDepth 20000 in
theorem ggX6_samples_X6_goesWell : GoodIn wsX6_samples wsX6_goesWell := goodIn_r _ [7, 8, 9, 10, 11, 12, 13, 14, 15, 16, 17, 18, 19, 20, 21, 22, 23] (by decide +kernel) (by decide +kernel)
set_option maxRecDepth 20000 in
theorem gX6_samples_X6_goesWell : GoodIn wsX6_samples (wsV RX6 53 RX6 yX6_goesWell wsX6_goesWell) := goodIn_app (goodIn_of _ (by decide +kernel)) ggX6_samples_X6_goesWell
theorem dX6_samples_0 : decode cX6_samples 0 = .ok (.aload_n 0, 1) := by decide +kernel
theorem dX6_samples_1 : decode cX6_samples 1 = .ok (.aload_n 0, 1) := by decide +kernel
theorem dX6_samples_2 : decode cX6_samples 2 = .ok (.getfield 49, 3) := by decide +kernel
theorem dX6_samples_5 : decode cX6_samples 5 = .ok (.ifCond .eq 7, 3) := by decide +kernel
theorem dX6_samples_8 : decode cX6_samples 8 = .ok (.iconst 0, 1) := by decide +kernel
theorem dX6_samples_9 : decode cX6_samples 9 = .ok (.goto 4, 3) := by decide +kernel
theorem dX6_samples_12 : decode cX6_samples 12 = .ok (.iconst 1, 1) := by decide +kernel
theorem dX6_samples_13 : decode cX6_samples 13 = .ok (.invokevirtual 53, 3) := by decide +kernel
theorem dX6_samples_16 : decode cX6_samples 16 = .ok (.ifCond .eq 10, 3) := by decide +kernel
theorem dX6_samples_19 : decode cX6_samples 19 = .ok (.aload_n 0, 1) := by decide +kernel
theorem dX6_samples_20 : decode cX6_samples 20 = .ok (.getfield 69, 3) := by decide +kernel
theorem dX6_samples_23 : decode cX6_samples 23 = .ok (.goto 4, 3) := by decide +kernel
theorem dX6_samples_26 : decode cX6_samples 26 = .ok (.iconst 0, 1) := by decide +kernel
theorem dX6_samples_27 : decode cX6_samples 27 = .ok (.ireturn, 1) := by decide +kernel
set_option maxRecDepth 20000 in
theorem ggX6_sample_X6_in : GoodIn wsX6_sample wsX6_in := goodIn_r _ [7] (by decide +kernel) (by decide +kernel)
set_option maxRecDepth 20000 in
theorem gX6_sample_X6_in : GoodIn wsX6_sample (va_wsS RX6 37 yX6_in wsX6_in) := goodIn_app (goodIn_of _ (by decide +kernel)) ggX6_sample_X6_in
set_option maxRecDepth 20000 in
theorem ggX6_sample_X6_goesWell : GoodIn wsX6_sample wsX6_goesWell := goodIn_r _ [11, 12, 13, 14, 15, 16, 17, 18, 19, 20, 21, 22, 23, 24, 25, 26, 27] (by decide +kernel) (by decide +kernel)
set_option maxRecDepth 20000 in
theorem gX6_sample_X6_goesWell : GoodIn wsX6_sample (wsV RX6 53 RX6 yX6_goesWell wsX6_goesWell) := goodIn_app (goodIn_of _ (by decide +kernel)) ggX6_sample_X6_goesWell
theorem dX6_sample_0 : decode cX6_sample 0 = .ok (.aload_n 0, 1) := by decide +kernel
theorem dX6_sample_1 : decode cX6_sample 1 = .ok (.aload_n 0, 1) := by decide +kernel
theorem dX6_sample_2 : decode cX6_sample 2 = .ok (.getfield 49, 3) := by decide +kernel
theorem dX6_sample_5 : decode cX6_sample 5 = .ok (.ifCond .eq 21, 3) := by decide +kernel
theorem dX6_sample_8 : decode cX6_sample 8 = .ok (.iload_n 1, 1) := by decide +kernel
theorem dX6_sample_9 : decode cX6_sample 9 = .ok (.iconst 0, 1) := by decide +kernel
theorem dX6_sample_10 : decode cX6_sample 10 = .ok (.aload_n 0, 1) := by decide +kernel
theorem dX6_sample_11 : decode cX6_sample 11 = .ok (.getfield 69, 3) := by decide +kernel
theorem dX6_sample_14 : decode cX6_sample 14 = .ok (.iconst 1, 1) := by decide +kernel
theorem dX6_sample_15 : decode cX6_sample 15 = .ok (.isub, 1) := by decide +kernel
theorem dX6_sample_16 : decode cX6_sample 16 = .ok (.invokestatic 37, 3) := by decide +kernel
theorem dX6_sample_19 : decode cX6_sample 19 = .ok (.ifCond .eq 7, 3) := by decide +kernel
theorem dX6_sample_22 : decode cX6_sample 22 = .ok (.iconst 0, 1) := by decide +kernel
theorem dX6_sample_23 : decode cX6_sample 23 = .ok (.goto 4, 3) := by decide +kernel
theorem dX6_sample_26 : decode cX6_sample 26 = .ok (.iconst 1, 1) := by decide +kernel
theorem dX6_sample_27 : decode cX6_sample 27 = .ok (.invokevirtual 53, 3) := by decide +kernel
theorem dX6_sample_30 : decode cX6_sample 30 = .ok (.ifCond .eq 12, 3) := by decide +kernel
theorem dX6_sample_33 : decode cX6_sample 33 = .ok (.aload_n 0, 1) := by decide +kernel
theorem dX6_sample_34 : decode cX6_sample 34 = .ok (.getfield 17, 3) := by decide +kernel
theorem dX6_sample_37 : decode cX6_sample 37 = .ok (.iload_n 1, 1) := by decide +kernel
theorem dX6_sample_38 : decode cX6_sample 38 = .ok (.iaload, 1) := by decide +kernel
theorem dX6_sample_39 : decode cX6_sample 39 = .ok (.goto 4, 3) := by decide +kernel
theorem dX6_sample_42 : decode cX6_sample 42 = .ok (.iconst 0, 1) := by decide +kernel
theorem dX6_sample_43 : decode cX6_sample 43 = .ok (.ireturn, 1) := by decide +kernel
theorem dX6_countOf_0 : decode cX6_countOf 0 = .ok (.iconst 0, 1) := by decide +kernel
theorem dX6_countOf_1 : decode cX6_countOf 1 = .ok (.istore_n 2, 1) := by decide +kernel
theorem dX6_countOf_2 : decode cX6_countOf 2 = .ok (.iconst 0, 1) := by decide +kernel
theorem dX6_countOf_3 : decode cX6_countOf 3 = .ok (.istore_n 3, 1) := by decide +kernel
theorem dX6_countOf_4 : decode cX6_countOf 4 = .ok (.iload_n 3, 1) := by decide +kernel
theorem dX6_countOf_5 : decode cX6_countOf 5 = .ok (.aload_n 0, 1) := by decide +kernel
theorem dX6_countOf_6 : decode cX6_countOf 6 = .ok (.getfield 69, 3) := by decide +kernel
theorem dX6_countOf_9 : decode cX6_countOf 9 = .ok (.if_icmp .ge 27, 3) := by decide +kernel
theorem dX6_countOf_12 : decode cX6_countOf 12 = .ok (.iload_n 2, 1) := by decide +kernel
theorem dX6_countOf_13 : decode cX6_countOf 13 = .ok (.aload_n 0, 1) := by decide +kernel
theorem dX6_countOf_14 : decode cX6_countOf 14 = .ok (.getfield 17, 3) := by decide +kernel
theorem dX6_countOf_17 : decode cX6_countOf 17 = .ok (.iload_n 3, 1) := by decide +kernel
theorem dX6_countOf_18 : decode cX6_countOf 18 = .ok (.iaload, 1) := by decide +kernel
theorem dX6_countOf_19 : decode cX6_countOf 19 = .ok (.iload_n 1, 1) := by decide +kernel
theorem dX6_countOf_20 : decode cX6_countOf 20 = .ok (.if_icmp .ne 7, 3) := by decide +kernel
theorem dX6_countOf_23 : decode cX6_countOf 23 = .ok (.iconst 1, 1) := by decide +kernel
theorem dX6_countOf_24 : decode cX6_countOf 24 = .ok (.goto 4, 3) := by decide +kernel
theorem dX6_countOf_27 : decode cX6_countOf 27 = .ok (.iconst 0, 1) := by decide +kernel
theorem dX6_countOf_28 : decode cX6_countOf 28 = .ok (.iadd, 1) := by decide +kernel
theorem dX6_countOf_29 : decode cX6_countOf 29 = .ok (.istore_n 2, 1) := by decide +kernel
theorem dX6_countOf_30 : decode cX6_countOf 30 = .ok (.iinc 3 1, 3) := by decide +kernel
theorem dX6_countOf_33 : decode cX6_countOf 33 = .ok (.goto (-29), 3) := by decide +kernel
theorem dX6_countOf_36 : decode cX6_countOf 36 = .ok (.iload_n 2, 1) := by decide +kernel
theorem dX6_countOf_37 : decode cX6_countOf 37 = .ok (.ireturn, 1) := by decide +kernel
set_option maxRecDepth 20000 in
theorem ggX6_count_X6_isCell : GoodIn wsX6_count wsX6_isCell := goodIn_r _ [5, 6, 7, 4, 8] (by decide +kernel) (by decide +kernel)
set_option maxRecDepth 20000 in
theorem gX6_count_X6_isCell : GoodIn wsX6_count (va_wsS RX6 41 yX6_isCell wsX6_isCell) := goodIn_app (goodIn_of _ (by decide +kernel)) ggX6_count_X6_isCell
set_option maxRecDepth 20000 in
theorem ggX6_count_X6_goesWell : GoodIn wsX6_count wsX6_goesWell := goodIn_r _ [12, 13, 20, 21, 22, 23, 24, 25, 26, 27, 28, 29, 30, 31, 32, 33, 34] (by decide +kernel) (by decide +kernel)
set_option maxRecDepth 20000 in
theorem gX6_count_X6_goesWell : GoodIn wsX6_count (wsV RX6 53 RX6 yX6_goesWell wsX6_goesWell) := goodIn_app (goodIn_of _ (by decide +kernel)) ggX6_count_X6_goesWell
set_option maxRecDepth 20000 in
theorem ggX6_count_X6_countOf : GoodIn wsX6_count wsX6_countOf := goodIn_r _ [17, 18, 19, 20, 21, 22, 23, 24, 25, 26, 27, 28, 29, 30, 31, 32, 33, 34] (by decide +kernel) (by decide +kernel)
set_option maxRecDepth 20000 in
theorem gX6_count_X6_countOf : GoodIn wsX6_count (wsV RX6 133 RX6 yX6_countOf wsX6_countOf) := goodIn_app (goodIn_of _ (by decide +kernel)) ggX6_count_X6_countOf
theorem dX6_count_0 : decode cX6_count 0 = .ok (.iload_n 1, 1) := by decide +kernel
theorem dX6_count_1 : decode cX6_count 1 = .ok (.iload_n 2, 1) := by decide +kernel
theorem dX6_count_2 : decode cX6_count 2 = .ok (.invokestatic 41, 3) := by decide +kernel
theorem dX6_count_5 : decode cX6_count 5 = .ok (.istore_n 3, 1) := by decide +kernel
theorem dX6_count_6 : decode cX6_count 6 = .ok (.aload_n 0, 1) := by decide +kernel
theorem dX6_count_7 : decode cX6_count 7 = .ok (.iload_n 3, 1) := by decide +kernel
theorem dX6_count_8 : decode cX6_count 8 = .ok (.ifCond .ne 7, 3) := by decide +kernel
theorem dX6_count_11 : decode cX6_count 11 = .ok (.iconst 1, 1) := by decide +kernel
theorem dX6_count_12 : decode cX6_count 12 = .ok (.goto 15, 3) := by decide +kernel
theorem dX6_count_15 : decode cX6_count 15 = .ok (.aload_n 0, 1) := by decide +kernel
theorem dX6_count_16 : decode cX6_count 16 = .ok (.getfield 49, 3) := by decide +kernel
theorem dX6_count_19 : decode cX6_count 19 = .ok (.ifCond .eq 7, 3) := by decide +kernel
theorem dX6_count_22 : decode cX6_count 22 = .ok (.iconst 0, 1) := by decide +kernel
theorem dX6_count_23 : decode cX6_count 23 = .ok (.goto 4, 3) := by decide +kernel
theorem dX6_count_26 : decode cX6_count 26 = .ok (.iconst 2, 1) := by decide +kernel
theorem dX6_count_27 : decode cX6_count 27 = .ok (.invokevirtual 53, 3) := by decide +kernel
theorem dX6_count_30 : decode cX6_count 30 = .ok (.ifCond .eq 16, 3) := by decide +kernel
theorem dX6_count_33 : decode cX6_count 33 = .ok (.aload_n 0, 1) := by decide +kernel
theorem dX6_count_34 : decode cX6_count 34 = .ok (.bipush 8, 2) := by decide +kernel
theorem dX6_count_36 : decode cX6_count 36 = .ok (.iload_n 2, 1) := by decide +kernel
theorem dX6_count_37 : decode cX6_count 37 = .ok (.imul, 1) := by decide +kernel
theorem dX6_count_38 : decode cX6_count 38 = .ok (.iload_n 1, 1) := by decide +kernel
theorem dX6_count_39 : decode cX6_count 39 = .ok (.iadd, 1) := by decide +kernel
theorem dX6_count_40 : decode cX6_count 40 = .ok (.invokevirtual 133, 3) := by decide +kernel
theorem dX6_count_43 : decode cX6_count 43 = .ok (.goto 4, 3) := by decide +kernel
theorem dX6_count_46 : decode cX6_count 46 = .ok (.iconst 0, 1) := by decide +kernel
theorem dX6_count_47 : decode cX6_count 47 = .ok (.ireturn, 1) := by decide +kernel
set_option maxRecDepth 20000 in
theorem ggX6_belief_X6_isCell : GoodIn wsX6_belief wsX6_isCell := goodIn_r _ [6, 7, 8, 5, 9] (by decide +kernel) (by decide +kernel)
set_option maxRecDepth 20000 in
theorem gX6_belief_X6_isCell : GoodIn wsX6_belief (va_wsS RX6 41 yX6_isCell wsX6_isCell) := goodIn_app (goodIn_of _ (by decide +kernel)) ggX6_belief_X6_isCell
set_option maxRecDepth 20000 in
theorem ggX6_belief_X6_goesWell : GoodIn wsX6_belief wsX6_goesWell := goodIn_r _ [13, 14, 15, 16, 17, 18, 19, 20, 21, 22, 23, 24, 25, 26, 27, 28, 29] (by decide +kernel) (by decide +kernel)
set_option maxRecDepth 20000 in
theorem gX6_belief_X6_goesWell : GoodIn wsX6_belief (wsV RX6 53 RX6 yX6_goesWell wsX6_goesWell) := goodIn_app (goodIn_of _ (by decide +kernel)) ggX6_belief_X6_goesWell
theorem dX6_belief_0 : decode cX6_belief 0 = .ok (.iload_n 1, 1) := by decide +kernel
theorem dX6_belief_1 : decode cX6_belief 1 = .ok (.iload_n 2, 1) := by decide +kernel
theorem dX6_belief_2 : decode cX6_belief 2 = .ok (.invokestatic 41, 3) := by decide +kernel
theorem dX6_belief_5 : decode cX6_belief 5 = .ok (.istore_n 3, 1) := by decide +kernel
theorem dX6_belief_6 : decode cX6_belief 6 = .ok (.aload_n 0, 1) := by decide +kernel
theorem dX6_belief_7 : decode cX6_belief 7 = .ok (.iload_n 3, 1) := by decide +kernel
theorem dX6_belief_8 : decode cX6_belief 8 = .ok (.ifCond .ne 7, 3) := by decide +kernel
theorem dX6_belief_11 : decode cX6_belief 11 = .ok (.iconst 1, 1) := by decide +kernel
theorem dX6_belief_12 : decode cX6_belief 12 = .ok (.goto 15, 3) := by decide +kernel
theorem dX6_belief_15 : decode cX6_belief 15 = .ok (.aload_n 0, 1) := by decide +kernel
theorem dX6_belief_16 : decode cX6_belief 16 = .ok (.getfield 49, 3) := by decide +kernel
theorem dX6_belief_19 : decode cX6_belief 19 = .ok (.ifCond .eq 7, 3) := by decide +kernel
theorem dX6_belief_22 : decode cX6_belief 22 = .ok (.iconst 0, 1) := by decide +kernel
theorem dX6_belief_23 : decode cX6_belief 23 = .ok (.goto 4, 3) := by decide +kernel
theorem dX6_belief_26 : decode cX6_belief 26 = .ok (.iconst 2, 1) := by decide +kernel
theorem dX6_belief_27 : decode cX6_belief 27 = .ok (.invokevirtual 53, 3) := by decide +kernel
theorem dX6_belief_30 : decode cX6_belief 30 = .ok (.ifCond .eq 17, 3) := by decide +kernel
theorem dX6_belief_33 : decode cX6_belief 33 = .ok (.aload_n 0, 1) := by decide +kernel
theorem dX6_belief_34 : decode cX6_belief 34 = .ok (.getfield 27, 3) := by decide +kernel
theorem dX6_belief_37 : decode cX6_belief 37 = .ok (.bipush 8, 2) := by decide +kernel
theorem dX6_belief_39 : decode cX6_belief 39 = .ok (.iload_n 2, 1) := by decide +kernel
theorem dX6_belief_40 : decode cX6_belief 40 = .ok (.imul, 1) := by decide +kernel
theorem dX6_belief_41 : decode cX6_belief 41 = .ok (.iload_n 1, 1) := by decide +kernel
theorem dX6_belief_42 : decode cX6_belief 42 = .ok (.iadd, 1) := by decide +kernel
theorem dX6_belief_43 : decode cX6_belief 43 = .ok (.laload, 1) := by decide +kernel
theorem dX6_belief_44 : decode cX6_belief 44 = .ok (.goto 4, 3) := by decide +kernel
theorem dX6_belief_47 : decode cX6_belief 47 = .ok (.lconst 0, 1) := by decide +kernel
theorem dX6_belief_48 : decode cX6_belief 48 = .ok (.lreturn, 1) := by decide +kernel
set_option maxRecDepth 20000 in
theorem ggX6_beliefAnew_X6_isCell : GoodIn wsX6_beliefAnew wsX6_isCell := goodIn_r _ [6, 7, 8, 5, 9] (by decide +kernel) (by decide +kernel)
set_option maxRecDepth 20000 in
theorem gX6_beliefAnew_X6_isCell : GoodIn wsX6_beliefAnew (va_wsS RX6 41 yX6_isCell wsX6_isCell) := goodIn_app (goodIn_of _ (by decide +kernel)) ggX6_beliefAnew_X6_isCell
set_option maxRecDepth 20000 in
theorem ggX6_beliefAnew_X6_goesWell : GoodIn wsX6_beliefAnew wsX6_goesWell := goodIn_r _ [13, 14, 15, 16, 17, 18, 19, 20, 21, 22, 23, 24, 25, 26, 27, 28, 29] (by decide +kernel) (by decide +kernel)
set_option maxRecDepth 20000 in
theorem gX6_beliefAnew_X6_goesWell : GoodIn wsX6_beliefAnew (wsV RX6 53 RX6 yX6_goesWell wsX6_goesWell) := goodIn_app (goodIn_of _ (by decide +kernel)) ggX6_beliefAnew_X6_goesWell
theorem dX6_beliefAnew_0 : decode cX6_beliefAnew 0 = .ok (.iload_n 1, 1) := by decide +kernel
theorem dX6_beliefAnew_1 : decode cX6_beliefAnew 1 = .ok (.iload_n 2, 1) := by decide +kernel
theorem dX6_beliefAnew_2 : decode cX6_beliefAnew 2 = .ok (.invokestatic 41, 3) := by decide +kernel
theorem dX6_beliefAnew_5 : decode cX6_beliefAnew 5 = .ok (.istore_n 3, 1) := by decide +kernel
theorem dX6_beliefAnew_6 : decode cX6_beliefAnew 6 = .ok (.aload_n 0, 1) := by decide +kernel
theorem dX6_beliefAnew_7 : decode cX6_beliefAnew 7 = .ok (.iload_n 3, 1) := by decide +kernel
theorem dX6_beliefAnew_8 : decode cX6_beliefAnew 8 = .ok (.ifCond .ne 7, 3) := by decide +kernel
theorem dX6_beliefAnew_11 : decode cX6_beliefAnew 11 = .ok (.iconst 1, 1) := by decide +kernel
theorem dX6_beliefAnew_12 : decode cX6_beliefAnew 12 = .ok (.goto 15, 3) := by decide +kernel
theorem dX6_beliefAnew_15 : decode cX6_beliefAnew 15 = .ok (.aload_n 0, 1) := by decide +kernel
theorem dX6_beliefAnew_16 : decode cX6_beliefAnew 16 = .ok (.getfield 49, 3) := by decide +kernel
theorem dX6_beliefAnew_19 : decode cX6_beliefAnew 19 = .ok (.ifCond .eq 7, 3) := by decide +kernel
theorem dX6_beliefAnew_22 : decode cX6_beliefAnew 22 = .ok (.iconst 0, 1) := by decide +kernel
theorem dX6_beliefAnew_23 : decode cX6_beliefAnew 23 = .ok (.goto 4, 3) := by decide +kernel
theorem dX6_beliefAnew_26 : decode cX6_beliefAnew 26 = .ok (.iconst 2, 1) := by decide +kernel
theorem dX6_beliefAnew_27 : decode cX6_beliefAnew 27 = .ok (.invokevirtual 53, 3) := by decide +kernel
theorem dX6_beliefAnew_30 : decode cX6_beliefAnew 30 = .ok (.ifCond .eq 17, 3) := by decide +kernel
theorem dX6_beliefAnew_33 : decode cX6_beliefAnew 33 = .ok (.aload_n 0, 1) := by decide +kernel
theorem dX6_beliefAnew_34 : decode cX6_beliefAnew 34 = .ok (.getfield 27, 3) := by decide +kernel
theorem dX6_beliefAnew_37 : decode cX6_beliefAnew 37 = .ok (.bipush 8, 2) := by decide +kernel
theorem dX6_beliefAnew_39 : decode cX6_beliefAnew 39 = .ok (.iload_n 2, 1) := by decide +kernel
theorem dX6_beliefAnew_40 : decode cX6_beliefAnew 40 = .ok (.imul, 1) := by decide +kernel
theorem dX6_beliefAnew_41 : decode cX6_beliefAnew 41 = .ok (.iload_n 1, 1) := by decide +kernel
theorem dX6_beliefAnew_42 : decode cX6_beliefAnew 42 = .ok (.iadd, 1) := by decide +kernel
theorem dX6_beliefAnew_43 : decode cX6_beliefAnew 43 = .ok (.laload, 1) := by decide +kernel
theorem dX6_beliefAnew_44 : decode cX6_beliefAnew 44 = .ok (.goto 4, 3) := by decide +kernel
theorem dX6_beliefAnew_47 : decode cX6_beliefAnew 47 = .ok (.lconst 0, 1) := by decide +kernel
theorem dX6_beliefAnew_48 : decode cX6_beliefAnew 48 = .ok (.lreturn, 1) := by decide +kernel
set_option maxRecDepth 20000 in
theorem ggX6_partOf_X6_countOf : GoodIn wsX6_partOf wsX6_countOf := goodIn_r _ [6, 7, 8, 9, 10, 11, 12, 13, 14, 15, 16, 17, 18, 19, 20, 21, 22, 23] (by decide +kernel) (by decide +kernel)
set_option maxRecDepth 20000 in
theorem gX6_partOf_X6_countOf : GoodIn wsX6_partOf (wsV RX6 133 RX6 yX6_countOf wsX6_countOf) := goodIn_app (goodIn_of _ (by decide +kernel)) ggX6_partOf_X6_countOf
theorem dX6_partOf_0 : decode cX6_partOf 0 = .ok (.iload_n 2, 1) := by decide +kernel
theorem dX6_partOf_1 : decode cX6_partOf 1 = .ok (.ifCond .eq 12, 3) := by decide +kernel
theorem dX6_partOf_4 : decode cX6_partOf 4 = .ok (.aload_n 0, 1) := by decide +kernel
theorem dX6_partOf_5 : decode cX6_partOf 5 = .ok (.iload_n 1, 1) := by decide +kernel
theorem dX6_partOf_6 : decode cX6_partOf 6 = .ok (.invokevirtual 133, 3) := by decide +kernel
theorem dX6_partOf_9 : decode cX6_partOf 9 = .ok (.i2l, 1) := by decide +kernel
theorem dX6_partOf_10 : decode cX6_partOf 10 = .ok (.goto 9, 3) := by decide +kernel
theorem dX6_partOf_13 : decode cX6_partOf 13 = .ok (.aload_n 0, 1) := by decide +kernel
theorem dX6_partOf_14 : decode cX6_partOf 14 = .ok (.getfield 27, 3) := by decide +kernel
theorem dX6_partOf_17 : decode cX6_partOf 17 = .ok (.iload_n 1, 1) := by decide +kernel
theorem dX6_partOf_18 : decode cX6_partOf 18 = .ok (.laload, 1) := by decide +kernel
theorem dX6_partOf_19 : decode cX6_partOf 19 = .ok (.lreturn, 1) := by decide +kernel
set_option maxRecDepth 20000 in
theorem ggX6_mode_X6_goesWell : GoodIn wsX6_mode wsX6_goesWell := goodIn_r _ [6, 7, 19, 20, 21, 22, 23, 24, 25, 26, 27, 28, 29, 30, 31, 32, 33] (by decide +kernel) (by decide +kernel)
set_option maxRecDepth 20000 in
theorem gX6_mode_X6_goesWell : GoodIn wsX6_mode (wsV RX6 53 RX6 yX6_goesWell wsX6_goesWell) := goodIn_app (goodIn_of _ (by decide +kernel)) ggX6_mode_X6_goesWell
set_option maxRecDepth 20000 in
theorem ggX6_mode_X6_partOf : GoodIn wsX6_mode wsX6_partOf := goodIn_r _ [11, 12, 13, 14, 15, 5, 16, 17, 18, 19, 20, 21, 22, 23, 24, 25, 26, 27, 28, 29, 30, 31, 32, 33] (by decide +kernel) (by decide +kernel)
set_option maxRecDepth 20000 in
theorem gX6_mode_X6_partOf : GoodIn wsX6_mode (wsV RX6 136 RX6 yX6_partOf wsX6_partOf) := goodIn_app (goodIn_of _ (by decide +kernel)) ggX6_mode_X6_partOf
theorem dX6_mode_0 : decode cX6_mode 0 = .ok (.aload_n 0, 1) := by decide +kernel
theorem dX6_mode_1 : decode cX6_mode 1 = .ok (.aload_n 0, 1) := by decide +kernel
theorem dX6_mode_2 : decode cX6_mode 2 = .ok (.getfield 49, 3) := by decide +kernel
theorem dX6_mode_5 : decode cX6_mode 5 = .ok (.ifCond .eq 7, 3) := by decide +kernel
theorem dX6_mode_8 : decode cX6_mode 8 = .ok (.iconst 0, 1) := by decide +kernel
theorem dX6_mode_9 : decode cX6_mode 9 = .ok (.goto 4, 3) := by decide +kernel
theorem dX6_mode_12 : decode cX6_mode 12 = .ok (.iconst 1, 1) := by decide +kernel
theorem dX6_mode_13 : decode cX6_mode 13 = .ok (.invokevirtual 53, 3) := by decide +kernel
theorem dX6_mode_16 : decode cX6_mode 16 = .ok (.ifCond .ne 5, 3) := by decide +kernel
theorem dX6_mode_19 : decode cX6_mode 19 = .ok (.iconst 0, 1) := by decide +kernel
theorem dX6_mode_20 : decode cX6_mode 20 = .ok (.ireturn, 1) := by decide +kernel
theorem dX6_mode_21 : decode cX6_mode 21 = .ok (.iconst 0, 1) := by decide +kernel
theorem dX6_mode_22 : decode cX6_mode 22 = .ok (.istore_n 2, 1) := by decide +kernel
theorem dX6_mode_23 : decode cX6_mode 23 = .ok (.iconst 1, 1) := by decide +kernel
theorem dX6_mode_24 : decode cX6_mode 24 = .ok (.istore_n 3, 1) := by decide +kernel
theorem dX6_mode_25 : decode cX6_mode 25 = .ok (.iload_n 3, 1) := by decide +kernel
theorem dX6_mode_26 : decode cX6_mode 26 = .ok (.bipush 64, 2) := by decide +kernel
theorem dX6_mode_28 : decode cX6_mode 28 = .ok (.if_icmp .ge 31, 3) := by decide +kernel
theorem dX6_mode_31 : decode cX6_mode 31 = .ok (.aload_n 0, 1) := by decide +kernel
theorem dX6_mode_32 : decode cX6_mode 32 = .ok (.iload_n 3, 1) := by decide +kernel
theorem dX6_mode_33 : decode cX6_mode 33 = .ok (.iload_n 1, 1) := by decide +kernel
theorem dX6_mode_34 : decode cX6_mode 34 = .ok (.invokevirtual 136, 3) := by decide +kernel
theorem dX6_mode_37 : decode cX6_mode 37 = .ok (.aload_n 0, 1) := by decide +kernel
theorem dX6_mode_38 : decode cX6_mode 38 = .ok (.iload_n 2, 1) := by decide +kernel
theorem dX6_mode_39 : decode cX6_mode 39 = .ok (.iload_n 1, 1) := by decide +kernel
theorem dX6_mode_40 : decode cX6_mode 40 = .ok (.invokevirtual 136, 3) := by decide +kernel
theorem dX6_mode_43 : decode cX6_mode 43 = .ok (.lcmp, 1) := by decide +kernel
theorem dX6_mode_44 : decode cX6_mode 44 = .ok (.ifCond .le 7, 3) := by decide +kernel
theorem dX6_mode_47 : decode cX6_mode 47 = .ok (.iload_n 3, 1) := by decide +kernel
theorem dX6_mode_48 : decode cX6_mode 48 = .ok (.goto 4, 3) := by decide +kernel
theorem dX6_mode_51 : decode cX6_mode 51 = .ok (.iload_n 2, 1) := by decide +kernel
theorem dX6_mode_52 : decode cX6_mode 52 = .ok (.istore_n 2, 1) := by decide +kernel
theorem dX6_mode_53 : decode cX6_mode 53 = .ok (.iinc 3 1, 3) := by decide +kernel
theorem dX6_mode_56 : decode cX6_mode 56 = .ok (.goto (-31), 3) := by decide +kernel
theorem dX6_mode_59 : decode cX6_mode 59 = .ok (.iload_n 2, 1) := by decide +kernel
theorem dX6_mode_60 : decode cX6_mode 60 = .ok (.ireturn, 1) := by decide +kernel
set_option maxRecDepth 20000 in
theorem ggX6_mean_X6_goesWell : GoodIn wsX6_mean wsX6_goesWell := goodIn_r _ [7, 8, 20, 21, 22, 23, 24, 25, 26, 27, 28, 29, 30, 31, 32, 33, 34] (by decide +kernel) (by decide +kernel)
set_option maxRecDepth 20000 in
theorem gX6_mean_X6_goesWell : GoodIn wsX6_mean (wsV RX6 53 RX6 yX6_goesWell wsX6_goesWell) := goodIn_app (goodIn_of _ (by decide +kernel)) ggX6_mean_X6_goesWell
set_option maxRecDepth 20000 in
theorem ggX6_mean_X6_partOf : GoodIn wsX6_mean wsX6_partOf := goodIn_r _ [12, 13, 14, 15, 16, 6, 17, 18, 19, 20, 21, 22, 23, 24, 25, 26, 27, 28, 29, 30, 31, 32, 33, 34] (by decide +kernel) (by decide +kernel)
set_option maxRecDepth 20000 in
theorem gX6_mean_X6_partOf : GoodIn wsX6_mean (wsV RX6 136 RX6 yX6_partOf wsX6_partOf) := goodIn_app (goodIn_of _ (by decide +kernel)) ggX6_mean_X6_partOf
theorem dX6_mean_0 : decode cX6_mean 0 = .ok (.aload_n 0, 1) := by decide +kernel
theorem dX6_mean_1 : decode cX6_mean 1 = .ok (.aload_n 0, 1) := by decide +kernel
theorem dX6_mean_2 : decode cX6_mean 2 = .ok (.getfield 49, 3) := by decide +kernel
theorem dX6_mean_5 : decode cX6_mean 5 = .ok (.ifCond .eq 7, 3) := by decide +kernel
theorem dX6_mean_8 : decode cX6_mean 8 = .ok (.iconst 0, 1) := by decide +kernel
theorem dX6_mean_9 : decode cX6_mean 9 = .ok (.goto 4, 3) := by decide +kernel
theorem dX6_mean_12 : decode cX6_mean 12 = .ok (.iconst 1, 1) := by decide +kernel
theorem dX6_mean_13 : decode cX6_mean 13 = .ok (.invokevirtual 53, 3) := by decide +kernel
theorem dX6_mean_16 : decode cX6_mean 16 = .ok (.ifCond .ne 5, 3) := by decide +kernel
theorem dX6_mean_19 : decode cX6_mean 19 = .ok (.iconst 0, 1) := by decide +kernel
theorem dX6_mean_20 : decode cX6_mean 20 = .ok (.ireturn, 1) := by decide +kernel
theorem dX6_mean_21 : decode cX6_mean 21 = .ok (.lconst 0, 1) := by decide +kernel
theorem dX6_mean_22 : decode cX6_mean 22 = .ok (.lstore_n 3, 1) := by decide +kernel
theorem dX6_mean_23 : decode cX6_mean 23 = .ok (.lconst 0, 1) := by decide +kernel
theorem dX6_mean_24 : decode cX6_mean 24 = .ok (.lstore 5, 2) := by decide +kernel
theorem dX6_mean_26 : decode cX6_mean 26 = .ok (.iconst 0, 1) := by decide +kernel
theorem dX6_mean_27 : decode cX6_mean 27 = .ok (.istore 7, 2) := by decide +kernel
theorem dX6_mean_29 : decode cX6_mean 29 = .ok (.iload 7, 2) := by decide +kernel
theorem dX6_mean_31 : decode cX6_mean 31 = .ok (.bipush 64, 2) := by decide +kernel
theorem dX6_mean_33 : decode cX6_mean 33 = .ok (.if_icmp .ge 49, 3) := by decide +kernel
theorem dX6_mean_36 : decode cX6_mean 36 = .ok (.aload_n 0, 1) := by decide +kernel
theorem dX6_mean_37 : decode cX6_mean 37 = .ok (.iload 7, 2) := by decide +kernel
theorem dX6_mean_39 : decode cX6_mean 39 = .ok (.iload_n 1, 1) := by decide +kernel
theorem dX6_mean_40 : decode cX6_mean 40 = .ok (.invokevirtual 136, 3) := by decide +kernel
theorem dX6_mean_43 : decode cX6_mean 43 = .ok (.lstore 8, 2) := by decide +kernel
theorem dX6_mean_45 : decode cX6_mean 45 = .ok (.lload_n 3, 1) := by decide +kernel
theorem dX6_mean_46 : decode cX6_mean 46 = .ok (.lload 8, 2) := by decide +kernel
theorem dX6_mean_48 : decode cX6_mean 48 = .ok (.ladd, 1) := by decide +kernel
theorem dX6_mean_49 : decode cX6_mean 49 = .ok (.lstore_n 3, 1) := by decide +kernel
theorem dX6_mean_50 : decode cX6_mean 50 = .ok (.lload 5, 2) := by decide +kernel
theorem dX6_mean_52 : decode cX6_mean 52 = .ok (.lload 8, 2) := by decide +kernel
theorem dX6_mean_54 : decode cX6_mean 54 = .ok (.iload_n 2, 1) := by decide +kernel
theorem dX6_mean_55 : decode cX6_mean 55 = .ok (.ifCond .eq 11, 3) := by decide +kernel
theorem dX6_mean_58 : decode cX6_mean 58 = .ok (.iload 7, 2) := by decide +kernel
theorem dX6_mean_60 : decode cX6_mean 60 = .ok (.bipush 8, 2) := by decide +kernel
theorem dX6_mean_62 : decode cX6_mean 62 = .ok (.idiv, 1) := by decide +kernel
theorem dX6_mean_63 : decode cX6_mean 63 = .ok (.goto 8, 3) := by decide +kernel
theorem dX6_mean_66 : decode cX6_mean 66 = .ok (.iload 7, 2) := by decide +kernel
theorem dX6_mean_68 : decode cX6_mean 68 = .ok (.bipush 8, 2) := by decide +kernel
theorem dX6_mean_70 : decode cX6_mean 70 = .ok (.irem, 1) := by decide +kernel
theorem dX6_mean_71 : decode cX6_mean 71 = .ok (.i2l, 1) := by decide +kernel
theorem dX6_mean_72 : decode cX6_mean 72 = .ok (.lmul, 1) := by decide +kernel
theorem dX6_mean_73 : decode cX6_mean 73 = .ok (.ladd, 1) := by decide +kernel
theorem dX6_mean_74 : decode cX6_mean 74 = .ok (.lstore 5, 2) := by decide +kernel
theorem dX6_mean_76 : decode cX6_mean 76 = .ok (.iinc 7 1, 3) := by decide +kernel
theorem dX6_mean_79 : decode cX6_mean 79 = .ok (.goto (-50), 3) := by decide +kernel
theorem dX6_mean_82 : decode cX6_mean 82 = .ok (.ldc2_w 140, 3) := by decide +kernel
theorem dX6_mean_85 : decode cX6_mean 85 = .ok (.lload 5, 2) := by decide +kernel
theorem dX6_mean_87 : decode cX6_mean 87 = .ok (.lmul, 1) := by decide +kernel
theorem dX6_mean_88 : decode cX6_mean 88 = .ok (.lload_n 3, 1) := by decide +kernel
theorem dX6_mean_89 : decode cX6_mean 89 = .ok (.ldiv, 1) := by decide +kernel
theorem dX6_mean_90 : decode cX6_mean 90 = .ok (.l2i, 1) := by decide +kernel
theorem dX6_mean_91 : decode cX6_mean 91 = .ok (.ireturn, 1) := by decide +kernel
set_option maxRecDepth 20000 in
theorem ggX6_share_X6_isCell : GoodIn wsX6_share wsX6_isCell := goodIn_r _ [6, 7, 8, 5, 9] (by decide +kernel) (by decide +kernel)
set_option maxRecDepth 20000 in
theorem gX6_share_X6_isCell : GoodIn wsX6_share (va_wsS RX6 41 yX6_isCell wsX6_isCell) := goodIn_app (goodIn_of _ (by decide +kernel)) ggX6_share_X6_isCell
set_option maxRecDepth 20000 in
theorem ggX6_share_X6_in : GoodIn wsX6_share wsX6_in := goodIn_r _ [9] (by decide +kernel) (by decide +kernel)
set_option maxRecDepth 20000 in
theorem gX6_share_X6_in : GoodIn wsX6_share (va_wsS RX6 37 yX6_in wsX6_in) := goodIn_app (goodIn_of _ (by decide +kernel)) ggX6_share_X6_in
set_option maxRecDepth 20000 in
theorem ggX6_share_X6_goesWell : GoodIn wsX6_share wsX6_goesWell := goodIn_r _ [13, 14, 26, 27, 28, 29, 30, 31, 32, 33, 34, 35, 36, 37, 38, 39, 40] (by decide +kernel) (by decide +kernel)
set_option maxRecDepth 20000 in
theorem gX6_share_X6_goesWell : GoodIn wsX6_share (wsV RX6 53 RX6 yX6_goesWell wsX6_goesWell) := goodIn_app (goodIn_of _ (by decide +kernel)) ggX6_share_X6_goesWell
set_option maxRecDepth 20000 in
theorem ggX6_share_X6_partOf : GoodIn wsX6_share wsX6_partOf := goodIn_r _ [18, 19, 20, 21, 22, 5, 23, 24, 25, 26, 27, 28, 29, 30, 31, 32, 33, 34, 35, 36, 37, 38, 39, 40] (by decide +kernel) (by decide +kernel)
set_option maxRecDepth 20000 in
theorem gX6_share_X6_partOf : GoodIn wsX6_share (wsV RX6 136 RX6 yX6_partOf wsX6_partOf) := goodIn_app (goodIn_of _ (by decide +kernel)) ggX6_share_X6_partOf
theorem dX6_share_0 : decode cX6_share 0 = .ok (.iload_n 1, 1) := by decide +kernel
theorem dX6_share_1 : decode cX6_share 1 = .ok (.iload_n 2, 1) := by decide +kernel
theorem dX6_share_2 : decode cX6_share 2 = .ok (.invokestatic 41, 3) := by decide +kernel
theorem dX6_share_5 : decode cX6_share 5 = .ok (.istore 6, 2) := by decide +kernel
theorem dX6_share_7 : decode cX6_share 7 = .ok (.iload 6, 2) := by decide +kernel
theorem dX6_share_9 : decode cX6_share 9 = .ok (.ifCond .eq 28, 3) := by decide +kernel
theorem dX6_share_12 : decode cX6_share 12 = .ok (.iload_n 3, 1) := by decide +kernel
theorem dX6_share_13 : decode cX6_share 13 = .ok (.iload_n 1, 1) := by decide +kernel
theorem dX6_share_14 : decode cX6_share 14 = .ok (.bipush 7, 2) := by decide +kernel
theorem dX6_share_16 : decode cX6_share 16 = .ok (.invokestatic 37, 3) := by decide +kernel
theorem dX6_share_19 : decode cX6_share 19 = .ok (.ifCond .eq 18, 3) := by decide +kernel
theorem dX6_share_22 : decode cX6_share 22 = .ok (.iload 4, 2) := by decide +kernel
theorem dX6_share_24 : decode cX6_share 24 = .ok (.iload_n 2, 1) := by decide +kernel
theorem dX6_share_25 : decode cX6_share 25 = .ok (.bipush 7, 2) := by decide +kernel
theorem dX6_share_27 : decode cX6_share 27 = .ok (.invokestatic 37, 3) := by decide +kernel
theorem dX6_share_30 : decode cX6_share 30 = .ok (.ifCond .eq 7, 3) := by decide +kernel
theorem dX6_share_33 : decode cX6_share 33 = .ok (.iconst 1, 1) := by decide +kernel
theorem dX6_share_34 : decode cX6_share 34 = .ok (.goto 4, 3) := by decide +kernel
theorem dX6_share_37 : decode cX6_share 37 = .ok (.iconst 0, 1) := by decide +kernel
theorem dX6_share_38 : decode cX6_share 38 = .ok (.istore 7, 2) := by decide +kernel
theorem dX6_share_40 : decode cX6_share 40 = .ok (.aload_n 0, 1) := by decide +kernel
theorem dX6_share_41 : decode cX6_share 41 = .ok (.iload 6, 2) := by decide +kernel
theorem dX6_share_43 : decode cX6_share 43 = .ok (.ifCond .ne 7, 3) := by decide +kernel
theorem dX6_share_46 : decode cX6_share 46 = .ok (.iconst 1, 1) := by decide +kernel
theorem dX6_share_47 : decode cX6_share 47 = .ok (.goto 24, 3) := by decide +kernel
theorem dX6_share_50 : decode cX6_share 50 = .ok (.iload 7, 2) := by decide +kernel
theorem dX6_share_52 : decode cX6_share 52 = .ok (.ifCond .ne 7, 3) := by decide +kernel
theorem dX6_share_55 : decode cX6_share 55 = .ok (.iconst 2, 1) := by decide +kernel
theorem dX6_share_56 : decode cX6_share 56 = .ok (.goto 15, 3) := by decide +kernel
theorem dX6_share_59 : decode cX6_share 59 = .ok (.aload_n 0, 1) := by decide +kernel
theorem dX6_share_60 : decode cX6_share 60 = .ok (.getfield 49, 3) := by decide +kernel
theorem dX6_share_63 : decode cX6_share 63 = .ok (.ifCond .eq 7, 3) := by decide +kernel
theorem dX6_share_66 : decode cX6_share 66 = .ok (.iconst 0, 1) := by decide +kernel
theorem dX6_share_67 : decode cX6_share 67 = .ok (.goto 4, 3) := by decide +kernel
theorem dX6_share_70 : decode cX6_share 70 = .ok (.iconst 3, 1) := by decide +kernel
theorem dX6_share_71 : decode cX6_share 71 = .ok (.invokevirtual 53, 3) := by decide +kernel
theorem dX6_share_74 : decode cX6_share 74 = .ok (.ifCond .ne 5, 3) := by decide +kernel
theorem dX6_share_77 : decode cX6_share 77 = .ok (.iconst 0, 1) := by decide +kernel
theorem dX6_share_78 : decode cX6_share 78 = .ok (.ireturn, 1) := by decide +kernel
theorem dX6_share_79 : decode cX6_share 79 = .ok (.lconst 0, 1) := by decide +kernel
theorem dX6_share_80 : decode cX6_share 80 = .ok (.lstore 8, 2) := by decide +kernel
theorem dX6_share_82 : decode cX6_share 82 = .ok (.lconst 0, 1) := by decide +kernel
theorem dX6_share_83 : decode cX6_share 83 = .ok (.lstore 10, 2) := by decide +kernel
theorem dX6_share_85 : decode cX6_share 85 = .ok (.iconst 0, 1) := by decide +kernel
theorem dX6_share_86 : decode cX6_share 86 = .ok (.istore 12, 2) := by decide +kernel
theorem dX6_share_88 : decode cX6_share 88 = .ok (.iload 12, 2) := by decide +kernel
theorem dX6_share_90 : decode cX6_share 90 = .ok (.bipush 64, 2) := by decide +kernel
theorem dX6_share_92 : decode cX6_share 92 = .ok (.if_icmp .ge 64, 3) := by decide +kernel
theorem dX6_share_95 : decode cX6_share 95 = .ok (.aload_n 0, 1) := by decide +kernel
theorem dX6_share_96 : decode cX6_share 96 = .ok (.iload 12, 2) := by decide +kernel
theorem dX6_share_98 : decode cX6_share 98 = .ok (.iload 5, 2) := by decide +kernel
theorem dX6_share_100 : decode cX6_share 100 = .ok (.invokevirtual 136, 3) := by decide +kernel
theorem dX6_share_103 : decode cX6_share 103 = .ok (.lstore 13, 2) := by decide +kernel
theorem dX6_share_105 : decode cX6_share 105 = .ok (.lload 8, 2) := by decide +kernel
theorem dX6_share_107 : decode cX6_share 107 = .ok (.lload 13, 2) := by decide +kernel
theorem dX6_share_109 : decode cX6_share 109 = .ok (.ladd, 1) := by decide +kernel
theorem dX6_share_110 : decode cX6_share 110 = .ok (.lstore 8, 2) := by decide +kernel
theorem dX6_share_112 : decode cX6_share 112 = .ok (.lload 10, 2) := by decide +kernel
theorem dX6_share_114 : decode cX6_share 114 = .ok (.iload 12, 2) := by decide +kernel
theorem dX6_share_116 : decode cX6_share 116 = .ok (.bipush 8, 2) := by decide +kernel
theorem dX6_share_118 : decode cX6_share 118 = .ok (.irem, 1) := by decide +kernel
theorem dX6_share_119 : decode cX6_share 119 = .ok (.iload_n 1, 1) := by decide +kernel
theorem dX6_share_120 : decode cX6_share 120 = .ok (.iload_n 3, 1) := by decide +kernel
theorem dX6_share_121 : decode cX6_share 121 = .ok (.invokestatic 37, 3) := by decide +kernel
theorem dX6_share_124 : decode cX6_share 124 = .ok (.ifCond .eq 22, 3) := by decide +kernel
theorem dX6_share_127 : decode cX6_share 127 = .ok (.iload 12, 2) := by decide +kernel
theorem dX6_share_129 : decode cX6_share 129 = .ok (.bipush 8, 2) := by decide +kernel
theorem dX6_share_131 : decode cX6_share 131 = .ok (.idiv, 1) := by decide +kernel
theorem dX6_share_132 : decode cX6_share 132 = .ok (.iload_n 2, 1) := by decide +kernel
theorem dX6_share_133 : decode cX6_share 133 = .ok (.iload 4, 2) := by decide +kernel
theorem dX6_share_135 : decode cX6_share 135 = .ok (.invokestatic 37, 3) := by decide +kernel
theorem dX6_share_138 : decode cX6_share 138 = .ok (.ifCond .eq 8, 3) := by decide +kernel
theorem dX6_share_141 : decode cX6_share 141 = .ok (.lload 13, 2) := by decide +kernel
theorem dX6_share_143 : decode cX6_share 143 = .ok (.goto 4, 3) := by decide +kernel
theorem dX6_share_146 : decode cX6_share 146 = .ok (.lconst 0, 1) := by decide +kernel
theorem dX6_share_147 : decode cX6_share 147 = .ok (.ladd, 1) := by decide +kernel
theorem dX6_share_148 : decode cX6_share 148 = .ok (.lstore 10, 2) := by decide +kernel
theorem dX6_share_150 : decode cX6_share 150 = .ok (.iinc 12 1, 3) := by decide +kernel
theorem dX6_share_153 : decode cX6_share 153 = .ok (.goto (-65), 3) := by decide +kernel
theorem dX6_share_156 : decode cX6_share 156 = .ok (.ldc2_w 142, 3) := by decide +kernel
theorem dX6_share_159 : decode cX6_share 159 = .ok (.lload 10, 2) := by decide +kernel
theorem dX6_share_161 : decode cX6_share 161 = .ok (.lmul, 1) := by decide +kernel
theorem dX6_share_162 : decode cX6_share 162 = .ok (.lload 8, 2) := by decide +kernel
theorem dX6_share_164 : decode cX6_share 164 = .ok (.ldiv, 1) := by decide +kernel
theorem dX6_share_165 : decode cX6_share 165 = .ok (.l2i, 1) := by decide +kernel
theorem dX6_share_166 : decode cX6_share 166 = .ok (.ireturn, 1) := by decide +kernel
theorem dX6_ahead_0 : decode cX6_ahead 0 = .ok (.iconst 0, 1) := by decide +kernel
theorem dX6_ahead_1 : decode cX6_ahead 1 = .ok (.istore_n 2, 1) := by decide +kernel
theorem dX6_ahead_2 : decode cX6_ahead 2 = .ok (.iconst 0, 1) := by decide +kernel
theorem dX6_ahead_3 : decode cX6_ahead 3 = .ok (.istore_n 3, 1) := by decide +kernel
theorem dX6_ahead_4 : decode cX6_ahead 4 = .ok (.iload_n 3, 1) := by decide +kernel
theorem dX6_ahead_5 : decode cX6_ahead 5 = .ok (.bipush 64, 2) := by decide +kernel
theorem dX6_ahead_7 : decode cX6_ahead 7 = .ok (.if_icmp .ge 54, 3) := by decide +kernel
theorem dX6_ahead_10 : decode cX6_ahead 10 = .ok (.iload_n 2, 1) := by decide +kernel
theorem dX6_ahead_11 : decode cX6_ahead 11 = .ok (.aload_n 0, 1) := by decide +kernel
theorem dX6_ahead_12 : decode cX6_ahead 12 = .ok (.getfield 27, 3) := by decide +kernel
theorem dX6_ahead_15 : decode cX6_ahead 15 = .ok (.iload_n 3, 1) := by decide +kernel
theorem dX6_ahead_16 : decode cX6_ahead 16 = .ok (.laload, 1) := by decide +kernel
theorem dX6_ahead_17 : decode cX6_ahead 17 = .ok (.aload_n 0, 1) := by decide +kernel
theorem dX6_ahead_18 : decode cX6_ahead 18 = .ok (.getfield 27, 3) := by decide +kernel
theorem dX6_ahead_21 : decode cX6_ahead 21 = .ok (.iload_n 1, 1) := by decide +kernel
theorem dX6_ahead_22 : decode cX6_ahead 22 = .ok (.laload, 1) := by decide +kernel
theorem dX6_ahead_23 : decode cX6_ahead 23 = .ok (.lcmp, 1) := by decide +kernel
theorem dX6_ahead_24 : decode cX6_ahead 24 = .ok (.ifCond .gt 24, 3) := by decide +kernel
theorem dX6_ahead_27 : decode cX6_ahead 27 = .ok (.aload_n 0, 1) := by decide +kernel
theorem dX6_ahead_28 : decode cX6_ahead 28 = .ok (.getfield 27, 3) := by decide +kernel
theorem dX6_ahead_31 : decode cX6_ahead 31 = .ok (.iload_n 3, 1) := by decide +kernel
theorem dX6_ahead_32 : decode cX6_ahead 32 = .ok (.laload, 1) := by decide +kernel
theorem dX6_ahead_33 : decode cX6_ahead 33 = .ok (.aload_n 0, 1) := by decide +kernel
theorem dX6_ahead_34 : decode cX6_ahead 34 = .ok (.getfield 27, 3) := by decide +kernel
theorem dX6_ahead_37 : decode cX6_ahead 37 = .ok (.iload_n 1, 1) := by decide +kernel
theorem dX6_ahead_38 : decode cX6_ahead 38 = .ok (.laload, 1) := by decide +kernel
theorem dX6_ahead_39 : decode cX6_ahead 39 = .ok (.lcmp, 1) := by decide +kernel
theorem dX6_ahead_40 : decode cX6_ahead 40 = .ok (.ifCond .ne 12, 3) := by decide +kernel
theorem dX6_ahead_43 : decode cX6_ahead 43 = .ok (.iload_n 3, 1) := by decide +kernel
theorem dX6_ahead_44 : decode cX6_ahead 44 = .ok (.iload_n 1, 1) := by decide +kernel
theorem dX6_ahead_45 : decode cX6_ahead 45 = .ok (.if_icmp .ge 7, 3) := by decide +kernel
theorem dX6_ahead_48 : decode cX6_ahead 48 = .ok (.iconst 1, 1) := by decide +kernel
theorem dX6_ahead_49 : decode cX6_ahead 49 = .ok (.goto 4, 3) := by decide +kernel
theorem dX6_ahead_52 : decode cX6_ahead 52 = .ok (.iconst 0, 1) := by decide +kernel
theorem dX6_ahead_53 : decode cX6_ahead 53 = .ok (.iadd, 1) := by decide +kernel
theorem dX6_ahead_54 : decode cX6_ahead 54 = .ok (.istore_n 2, 1) := by decide +kernel
theorem dX6_ahead_55 : decode cX6_ahead 55 = .ok (.iinc 3 1, 3) := by decide +kernel
theorem dX6_ahead_58 : decode cX6_ahead 58 = .ok (.goto (-54), 3) := by decide +kernel
theorem dX6_ahead_61 : decode cX6_ahead 61 = .ok (.iload_n 2, 1) := by decide +kernel
theorem dX6_ahead_62 : decode cX6_ahead 62 = .ok (.ireturn, 1) := by decide +kernel
set_option maxRecDepth 20000 in
theorem ggX6_best_X6_goesWell : GoodIn wsX6_best wsX6_goesWell := goodIn_r _ [7, 8, 13, 14, 15, 16, 17, 18, 19, 20, 21, 22, 23, 24, 25, 26, 27] (by decide +kernel) (by decide +kernel)
set_option maxRecDepth 20000 in
theorem gX6_best_X6_goesWell : GoodIn wsX6_best (wsV RX6 53 RX6 yX6_goesWell wsX6_goesWell) := goodIn_app (goodIn_of _ (by decide +kernel)) ggX6_best_X6_goesWell
set_option maxRecDepth 20000 in
theorem ggX6_best_X6_ahead : GoodIn wsX6_best wsX6_ahead := goodIn_r _ [12, 2, 13, 14, 15, 16, 17, 18, 19, 20, 21, 22, 23, 24, 25, 26, 27] (by decide +kernel) (by decide +kernel)
set_option maxRecDepth 20000 in
theorem gX6_best_X6_ahead : GoodIn wsX6_best (wsV RX6 144 RX6 yX6_ahead wsX6_ahead) := goodIn_app (goodIn_of _ (by decide +kernel)) ggX6_best_X6_ahead
theorem dX6_best_0 : decode cX6_best 0 = .ok (.aload_n 0, 1) := by decide +kernel
theorem dX6_best_1 : decode cX6_best 1 = .ok (.iload_n 1, 1) := by decide +kernel
theorem dX6_best_2 : decode cX6_best 2 = .ok (.ifCond .ge 7, 3) := by decide +kernel
theorem dX6_best_5 : decode cX6_best 5 = .ok (.iconst 1, 1) := by decide +kernel
theorem dX6_best_6 : decode cX6_best 6 = .ok (.goto 15, 3) := by decide +kernel
theorem dX6_best_9 : decode cX6_best 9 = .ok (.aload_n 0, 1) := by decide +kernel
theorem dX6_best_10 : decode cX6_best 10 = .ok (.getfield 49, 3) := by decide +kernel
theorem dX6_best_13 : decode cX6_best 13 = .ok (.ifCond .eq 7, 3) := by decide +kernel
theorem dX6_best_16 : decode cX6_best 16 = .ok (.iconst 0, 1) := by decide +kernel
theorem dX6_best_17 : decode cX6_best 17 = .ok (.goto 4, 3) := by decide +kernel
theorem dX6_best_20 : decode cX6_best 20 = .ok (.iconst 2, 1) := by decide +kernel
theorem dX6_best_21 : decode cX6_best 21 = .ok (.invokevirtual 53, 3) := by decide +kernel
theorem dX6_best_24 : decode cX6_best 24 = .ok (.ifCond .ne 5, 3) := by decide +kernel
theorem dX6_best_27 : decode cX6_best 27 = .ok (.iconst 0, 1) := by decide +kernel
theorem dX6_best_28 : decode cX6_best 28 = .ok (.ireturn, 1) := by decide +kernel
theorem dX6_best_29 : decode cX6_best 29 = .ok (.iconst (-1), 1) := by decide +kernel
theorem dX6_best_30 : decode cX6_best 30 = .ok (.istore_n 2, 1) := by decide +kernel
theorem dX6_best_31 : decode cX6_best 31 = .ok (.iconst 0, 1) := by decide +kernel
theorem dX6_best_32 : decode cX6_best 32 = .ok (.istore_n 3, 1) := by decide +kernel
theorem dX6_best_33 : decode cX6_best 33 = .ok (.iload_n 3, 1) := by decide +kernel
theorem dX6_best_34 : decode cX6_best 34 = .ok (.bipush 64, 2) := by decide +kernel
theorem dX6_best_36 : decode cX6_best 36 = .ok (.if_icmp .ge 35, 3) := by decide +kernel
theorem dX6_best_39 : decode cX6_best 39 = .ok (.aload_n 0, 1) := by decide +kernel
theorem dX6_best_40 : decode cX6_best 40 = .ok (.getfield 27, 3) := by decide +kernel
theorem dX6_best_43 : decode cX6_best 43 = .ok (.iload_n 3, 1) := by decide +kernel
theorem dX6_best_44 : decode cX6_best 44 = .ok (.laload, 1) := by decide +kernel
theorem dX6_best_45 : decode cX6_best 45 = .ok (.lconst 0, 1) := by decide +kernel
theorem dX6_best_46 : decode cX6_best 46 = .ok (.lcmp, 1) := by decide +kernel
theorem dX6_best_47 : decode cX6_best 47 = .ok (.ifCond .le 16, 3) := by decide +kernel
theorem dX6_best_50 : decode cX6_best 50 = .ok (.aload_n 0, 1) := by decide +kernel
theorem dX6_best_51 : decode cX6_best 51 = .ok (.iload_n 3, 1) := by decide +kernel
theorem dX6_best_52 : decode cX6_best 52 = .ok (.invokevirtual 144, 3) := by decide +kernel
theorem dX6_best_55 : decode cX6_best 55 = .ok (.iload_n 1, 1) := by decide +kernel
theorem dX6_best_56 : decode cX6_best 56 = .ok (.if_icmp .ne 7, 3) := by decide +kernel
theorem dX6_best_59 : decode cX6_best 59 = .ok (.iload_n 3, 1) := by decide +kernel
theorem dX6_best_60 : decode cX6_best 60 = .ok (.goto 4, 3) := by decide +kernel
theorem dX6_best_63 : decode cX6_best 63 = .ok (.iload_n 2, 1) := by decide +kernel
theorem dX6_best_64 : decode cX6_best 64 = .ok (.istore_n 2, 1) := by decide +kernel
theorem dX6_best_65 : decode cX6_best 65 = .ok (.iinc 3 1, 3) := by decide +kernel
theorem dX6_best_68 : decode cX6_best 68 = .ok (.goto (-35), 3) := by decide +kernel
theorem dX6_best_71 : decode cX6_best 71 = .ok (.iload_n 2, 1) := by decide +kernel
theorem dX6_best_72 : decode cX6_best 72 = .ok (.ireturn, 1) := by decide +kernel
set_option maxRecDepth 20000 in
theorem ggX6_doubt_X6_goesWell : GoodIn wsX6_doubt wsX6_goesWell := goodIn_r _ [7, 8, 9, 10, 11, 12, 13, 14, 15, 16, 17, 18, 19, 20, 21, 22, 23] (by decide +kernel) (by decide +kernel)
set_option maxRecDepth 20000 in
theorem gX6_doubt_X6_goesWell : GoodIn wsX6_doubt (wsV RX6 53 RX6 yX6_goesWell wsX6_goesWell) := goodIn_app (goodIn_of _ (by decide +kernel)) ggX6_doubt_X6_goesWell
theorem dX6_doubt_0 : decode cX6_doubt 0 = .ok (.aload_n 0, 1) := by decide +kernel
theorem dX6_doubt_1 : decode cX6_doubt 1 = .ok (.aload_n 0, 1) := by decide +kernel
theorem dX6_doubt_2 : decode cX6_doubt 2 = .ok (.getfield 49, 3) := by decide +kernel
theorem dX6_doubt_5 : decode cX6_doubt 5 = .ok (.ifCond .eq 7, 3) := by decide +kernel
theorem dX6_doubt_8 : decode cX6_doubt 8 = .ok (.iconst 0, 1) := by decide +kernel
theorem dX6_doubt_9 : decode cX6_doubt 9 = .ok (.goto 4, 3) := by decide +kernel
theorem dX6_doubt_12 : decode cX6_doubt 12 = .ok (.iconst 1, 1) := by decide +kernel
theorem dX6_doubt_13 : decode cX6_doubt 13 = .ok (.invokevirtual 53, 3) := by decide +kernel
theorem dX6_doubt_16 : decode cX6_doubt 16 = .ok (.ifCond .eq 10, 3) := by decide +kernel
theorem dX6_doubt_19 : decode cX6_doubt 19 = .ok (.aload_n 0, 1) := by decide +kernel
theorem dX6_doubt_20 : decode cX6_doubt 20 = .ok (.getfield 84, 3) := by decide +kernel
theorem dX6_doubt_23 : decode cX6_doubt 23 = .ok (.goto 4, 3) := by decide +kernel
theorem dX6_doubt_26 : decode cX6_doubt 26 = .ok (.iconst 0, 1) := by decide +kernel
theorem dX6_doubt_27 : decode cX6_doubt 27 = .ok (.ireturn, 1) := by decide +kernel
theorem dJ9_abs_0f7a4_0 : decode cJ9_abs_0f7a4 0 = .ok (.iload_n 0, 1) := by decide +kernel
theorem dJ9_abs_0f7a4_1 : decode cJ9_abs_0f7a4 1 = .ok (.ifCond .ge 8, 3) := by decide +kernel
theorem dJ9_abs_0f7a4_4 : decode cJ9_abs_0f7a4 4 = .ok (.iload_n 0, 1) := by decide +kernel
theorem dJ9_abs_0f7a4_5 : decode cJ9_abs_0f7a4 5 = .ok (.ineg, 1) := by decide +kernel
theorem dJ9_abs_0f7a4_6 : decode cJ9_abs_0f7a4 6 = .ok (.goto 4, 3) := by decide +kernel
theorem dJ9_abs_0f7a4_9 : decode cJ9_abs_0f7a4 9 = .ok (.iload_n 0, 1) := by decide +kernel
theorem dJ9_abs_0f7a4_10 : decode cJ9_abs_0f7a4 10 = .ok (.ireturn, 1) := by decide +kernel
theorem dJ9_max_7cf53_0 : decode cJ9_max_7cf53 0 = .ok (.iload_n 0, 1) := by decide +kernel
theorem dJ9_max_7cf53_1 : decode cJ9_max_7cf53 1 = .ok (.iload_n 1, 1) := by decide +kernel
theorem dJ9_max_7cf53_2 : decode cJ9_max_7cf53 2 = .ok (.if_icmp .lt 7, 3) := by decide +kernel
theorem dJ9_max_7cf53_5 : decode cJ9_max_7cf53 5 = .ok (.iload_n 0, 1) := by decide +kernel
theorem dJ9_max_7cf53_6 : decode cJ9_max_7cf53 6 = .ok (.goto 4, 3) := by decide +kernel
theorem dJ9_max_7cf53_9 : decode cJ9_max_7cf53 9 = .ok (.iload_n 1, 1) := by decide +kernel
theorem dJ9_max_7cf53_10 : decode cJ9_max_7cf53 10 = .ok (.ireturn, 1) := by decide +kernel
theorem dJ9_max_f86c9_0 : decode cJ9_max_f86c9 0 = .ok (.lload_n 0, 1) := by decide +kernel
theorem dJ9_max_f86c9_1 : decode cJ9_max_f86c9 1 = .ok (.lload_n 2, 1) := by decide +kernel
theorem dJ9_max_f86c9_2 : decode cJ9_max_f86c9 2 = .ok (.lcmp, 1) := by decide +kernel
theorem dJ9_max_f86c9_3 : decode cJ9_max_f86c9 3 = .ok (.ifCond .lt 7, 3) := by decide +kernel
theorem dJ9_max_f86c9_6 : decode cJ9_max_f86c9 6 = .ok (.lload_n 0, 1) := by decide +kernel
theorem dJ9_max_f86c9_7 : decode cJ9_max_f86c9 7 = .ok (.goto 4, 3) := by decide +kernel
theorem dJ9_max_f86c9_10 : decode cJ9_max_f86c9 10 = .ok (.lload_n 2, 1) := by decide +kernel
theorem dJ9_max_f86c9_11 : decode cJ9_max_f86c9 11 = .ok (.lreturn, 1) := by decide +kernel
theorem dJ9_min_7cf53_0 : decode cJ9_min_7cf53 0 = .ok (.iload_n 0, 1) := by decide +kernel
theorem dJ9_min_7cf53_1 : decode cJ9_min_7cf53 1 = .ok (.iload_n 1, 1) := by decide +kernel
theorem dJ9_min_7cf53_2 : decode cJ9_min_7cf53 2 = .ok (.if_icmp .gt 7, 3) := by decide +kernel
theorem dJ9_min_7cf53_5 : decode cJ9_min_7cf53 5 = .ok (.iload_n 0, 1) := by decide +kernel
theorem dJ9_min_7cf53_6 : decode cJ9_min_7cf53 6 = .ok (.goto 4, 3) := by decide +kernel
theorem dJ9_min_7cf53_9 : decode cJ9_min_7cf53 9 = .ok (.iload_n 1, 1) := by decide +kernel
theorem dJ9_min_7cf53_10 : decode cJ9_min_7cf53 10 = .ok (.ireturn, 1) := by decide +kernel
set_option maxRecDepth 20000 in
theorem ggL_wall_X5_wall : GoodIn wsL_wall wsX5_wall := goodIn_ca (goodIn_ca (goodIn_r _ [7, 8, 9, 10, 11, 12, 13, 6, 14, 15, 16, 17, 18, 19, 20, 21, 22, 23, 24, 25, 26, 27, 28, 29, 30, 31, 32, 33, 34, 35, 36, 37, 38, 39, 40, 41, 42, 43, 44, 45, 46, 47, 48, 49, 50, 51, 52, 53, 54, 55, 56, 57, 58, 59, 60, 61, 62, 63, 64, 65, 66, 67, 68] (by decide +kernel) (by decide +kernel)) (goodIn_sub (fun _ h => List.mem_cons_of_mem _ (List.mem_append_left _ (List.mem_append_right _ h))) (by decide +kernel))) (goodIn_sub (fun _ h => List.mem_cons_of_mem _ (List.mem_append_right _ h)) (by decide +kernel))
set_option maxRecDepth 20000 in
theorem gL_wall_X5_wall : GoodIn wsL_wall (wsV RL 7 RX5 yX5_wall wsX5_wall) := goodIn_app (goodIn_of _ (by decide +kernel)) ggL_wall_X5_wall
theorem dL_wall_0 : decode cL_wall 0 = .ok (.aload 4, 2) := by decide +kernel
theorem dL_wall_2 : decode cL_wall 2 = .ok (.iconst 0, 1) := by decide +kernel
theorem dL_wall_3 : decode cL_wall 3 = .ok (.aload_n 0, 1) := by decide +kernel
theorem dL_wall_4 : decode cL_wall 4 = .ok (.iload_n 1, 1) := by decide +kernel
theorem dL_wall_5 : decode cL_wall 5 = .ok (.iload_n 2, 1) := by decide +kernel
theorem dL_wall_6 : decode cL_wall 6 = .ok (.iload_n 3, 1) := by decide +kernel
theorem dL_wall_7 : decode cL_wall 7 = .ok (.invokevirtual 7, 3) := by decide +kernel
theorem dL_wall_10 : decode cL_wall 10 = .ok (.ifCond .eq 7, 3) := by decide +kernel
theorem dL_wall_13 : decode cL_wall 13 = .ok (.lconst 1, 1) := by decide +kernel
theorem dL_wall_14 : decode cL_wall 14 = .ok (.goto 4, 3) := by decide +kernel
theorem dL_wall_17 : decode cL_wall 17 = .ok (.lconst 0, 1) := by decide +kernel
theorem dL_wall_18 : decode cL_wall 18 = .ok (.lastore, 1) := by decide +kernel
theorem dL_wall_19 : decode cL_wall 19 = .ok (.goto 11, 3) := by decide +kernel
theorem dL_wall_22 : decode cL_wall 22 = .ok (.astore 5, 2) := by decide +kernel
theorem dL_wall_24 : decode cL_wall 24 = .ok (.iconst 1, 1) := by decide +kernel
theorem dL_wall_25 : decode cL_wall 25 = .ok (.ireturn, 1) := by decide +kernel
theorem dL_wall_26 : decode cL_wall 26 = .ok (.astore 5, 2) := by decide +kernel
theorem dL_wall_28 : decode cL_wall 28 = .ok (.iconst 2, 1) := by decide +kernel
theorem dL_wall_29 : decode cL_wall 29 = .ok (.ireturn, 1) := by decide +kernel
theorem dL_wall_30 : decode cL_wall 30 = .ok (.iconst 0, 1) := by decide +kernel
theorem dL_wall_31 : decode cL_wall 31 = .ok (.ireturn, 1) := by decide +kernel
set_option maxRecDepth 20000 in
theorem ggL_draw_X5_draw : GoodIn wsL_draw wsX5_draw := goodIn_ca (goodIn_r _ [6, 7, 8, 9, 10, 11, 12, 13, 14, 15, 16, 17, 18, 19, 20, 21, 22, 23, 24, 25, 26] (by decide +kernel) (by decide +kernel)) (goodIn_sub (fun _ h => List.mem_cons_of_mem _ (List.mem_append_right _ h)) (by decide +kernel))
set_option maxRecDepth 20000 in
theorem gL_draw_X5_draw : GoodIn wsL_draw (wsV RL 17 RX5 yX5_draw wsX5_draw) := goodIn_app (goodIn_of _ (by decide +kernel)) ggL_draw_X5_draw
theorem dL_draw_0 : decode cL_draw 0 = .ok (.aload_n 2, 1) := by decide +kernel
theorem dL_draw_1 : decode cL_draw 1 = .ok (.iconst 0, 1) := by decide +kernel
theorem dL_draw_2 : decode cL_draw 2 = .ok (.aload_n 0, 1) := by decide +kernel
theorem dL_draw_3 : decode cL_draw 3 = .ok (.iload_n 1, 1) := by decide +kernel
theorem dL_draw_4 : decode cL_draw 4 = .ok (.invokevirtual 17, 3) := by decide +kernel
theorem dL_draw_7 : decode cL_draw 7 = .ok (.i2l, 1) := by decide +kernel
theorem dL_draw_8 : decode cL_draw 8 = .ok (.lastore, 1) := by decide +kernel
theorem dL_draw_9 : decode cL_draw 9 = .ok (.goto 6, 3) := by decide +kernel
theorem dL_draw_12 : decode cL_draw 12 = .ok (.astore_n 3, 1) := by decide +kernel
theorem dL_draw_13 : decode cL_draw 13 = .ok (.iconst 1, 1) := by decide +kernel
theorem dL_draw_14 : decode cL_draw 14 = .ok (.ireturn, 1) := by decide +kernel
theorem dL_draw_15 : decode cL_draw 15 = .ok (.iconst 0, 1) := by decide +kernel
theorem dL_draw_16 : decode cL_draw 16 = .ok (.ireturn, 1) := by decide +kernel
set_option maxRecDepth 20000 in
theorem ggL_spread_X5_spread : GoodIn wsL_spread wsX5_spread := goodIn_ca (goodIn_r _ [6, 7, 8, 9, 10, 11, 12, 13, 14, 15, 16, 17, 18, 19, 20, 21, 22, 23, 24, 25, 26, 27, 28, 29, 30, 31, 32, 33, 34, 35, 36, 37, 38, 39, 40, 41, 42, 43, 44, 45, 46, 47, 48, 49, 50, 51, 5, 52, 53, 54, 55, 56, 57, 58, 59, 60, 61, 62, 63, 64, 65, 66, 67, 68, 69, 70, 71, 72, 73, 74, 75, 76, 77, 78, 79, 80, 81, 82, 83, 84, 85, 86] (by decide +kernel) (by decide +kernel)) (goodIn_sub (fun _ h => List.mem_cons_of_mem _ (List.mem_append_right _ h)) (by decide +kernel))
set_option maxRecDepth 20000 in
theorem gL_spread_X5_spread : GoodIn wsL_spread (wsV RL 23 RX5 yX5_spread wsX5_spread) := goodIn_app (goodIn_of _ (by decide +kernel)) ggL_spread_X5_spread
end
section
theorem dL_spread_0 : decode cL_spread 0 = .ok (.aload_n 0, 1) := by decide +kernel
theorem dL_spread_1 : decode cL_spread 1 = .ok (.iload_n 1, 1) := by decide +kernel
theorem dL_spread_2 : decode cL_spread 2 = .ok (.invokevirtual 23, 3) := by decide +kernel
theorem dL_spread_5 : decode cL_spread 5 = .ok (.goto 6, 3) := by decide +kernel
theorem dL_spread_8 : decode cL_spread 8 = .ok (.astore_n 2, 1) := by decide +kernel
theorem dL_spread_9 : decode cL_spread 9 = .ok (.iconst 1, 1) := by decide +kernel
theorem dL_spread_10 : decode cL_spread 10 = .ok (.ireturn, 1) := by decide +kernel
theorem dL_spread_11 : decode cL_spread 11 = .ok (.iconst 0, 1) := by decide +kernel
theorem dL_spread_12 : decode cL_spread 12 = .ok (.ireturn, 1) := by decide +kernel
set_option maxRecDepth 20000 in
theorem ggL_drive_X5_drive : GoodIn wsL_drive wsX5_drive := goodIn_ca (goodIn_ca (goodIn_r _ [7, 8, 9, 10, 11, 6, 12, 13, 14, 15, 16, 17, 18, 19, 20, 21, 22, 23, 24, 25, 26, 27, 28, 29, 30, 31, 32, 33, 34, 35, 36, 37, 38, 39, 40, 41, 42, 43, 44, 45, 46, 47, 48, 49, 50, 51, 52, 53, 54, 55, 56, 57, 58, 59, 60, 61, 62, 63, 64, 65, 66, 67, 68, 69, 70, 71, 72, 73, 74, 75, 76, 77, 78, 79, 80, 81, 82, 83, 84, 85, 86, 87, 88, 89, 90, 91, 92, 93, 94, 95, 96, 97, 98, 99, 100, 101, 102, 103, 104, 105, 106, 107, 108, 109, 110, 111, 112, 113, 114, 115, 116, 117, 118, 119, 120, 121, 122, 123, 124, 125, 126, 127, 128, 129, 130, 131, 132, 133, 134, 135, 136, 137, 138, 139, 140, 141, 142, 143, 144, 145, 146, 147, 148, 149, 150, 151, 152, 153, 154, 155, 156, 157, 158, 159] (by decide +kernel) (by decide +kernel)) (goodIn_sub (fun _ h => List.mem_cons_of_mem _ (List.mem_append_left _ (List.mem_append_right _ h))) (by decide +kernel))) (goodIn_sub (fun _ h => List.mem_cons_of_mem _ (List.mem_append_right _ h)) (by decide +kernel))
set_option maxRecDepth 20000 in
theorem gL_drive_X5_drive : GoodIn wsL_drive (wsV RL 27 RX5 yX5_drive wsX5_drive) := goodIn_app (goodIn_of _ (by decide +kernel)) ggL_drive_X5_drive
theorem dL_drive_0 : decode cL_drive 0 = .ok (.aload_n 0, 1) := by decide +kernel
theorem dL_drive_1 : decode cL_drive 1 = .ok (.iload_n 1, 1) := by decide +kernel
theorem dL_drive_2 : decode cL_drive 2 = .ok (.invokevirtual 27, 3) := by decide +kernel
theorem dL_drive_5 : decode cL_drive 5 = .ok (.goto 9, 3) := by decide +kernel
theorem dL_drive_8 : decode cL_drive 8 = .ok (.astore_n 2, 1) := by decide +kernel
theorem dL_drive_9 : decode cL_drive 9 = .ok (.iconst 1, 1) := by decide +kernel
theorem dL_drive_10 : decode cL_drive 10 = .ok (.ireturn, 1) := by decide +kernel
theorem dL_drive_11 : decode cL_drive 11 = .ok (.astore_n 2, 1) := by decide +kernel
theorem dL_drive_12 : decode cL_drive 12 = .ok (.iconst 2, 1) := by decide +kernel
theorem dL_drive_13 : decode cL_drive 13 = .ok (.ireturn, 1) := by decide +kernel
theorem dL_drive_14 : decode cL_drive 14 = .ok (.iconst 0, 1) := by decide +kernel
theorem dL_drive_15 : decode cL_drive 15 = .ok (.ireturn, 1) := by decide +kernel
set_option maxRecDepth 20000 in
theorem ggL_read_X5_read : GoodIn wsL_read wsX5_read := goodIn_ca (goodIn_ca (goodIn_ca (goodIn_r _ [8, 9, 10, 11, 12, 13, 14, 7, 15, 16, 17, 18, 19, 20, 21, 22, 23, 24, 25, 26, 27, 28, 29, 30, 31, 32, 33, 34, 35, 36, 37, 38, 39, 40, 41, 42, 43, 44, 45, 46, 47, 48, 49, 50, 51, 52, 53, 54, 55, 56, 57, 58, 59, 60, 61, 62, 63, 64, 65, 66, 67, 68, 69, 70, 71, 72, 73, 74, 75, 76, 77, 78, 79, 80, 81, 82, 83, 84, 85, 86, 87, 88, 89, 90, 91, 92, 93, 94, 95, 96, 97, 98, 99, 100, 101, 102, 103, 104, 105, 106, 107, 108, 109, 110, 111, 112, 113, 114, 115, 116, 117, 118, 119, 120, 121, 122, 123, 124, 125, 126, 127, 128, 129, 130, 131, 132, 133, 134, 135, 136, 137, 138, 139, 140, 141, 142, 143, 144, 145, 146, 147, 148, 149, 150, 151, 152, 153, 154, 155, 156, 157, 158, 159, 160, 161, 162, 163, 164, 165, 166, 167, 168, 169, 170, 171, 172, 173, 174, 175, 176, 177, 178, 179, 180, 181, 182, 183, 184, 185, 186, 187, 188, 189, 190, 191, 192] (by decide +kernel) (by decide +kernel)) (goodIn_sub (fun _ h => List.mem_cons_of_mem _ (List.mem_append_left _ (List.mem_append_left _ (List.mem_append_right _ h)))) (by decide +kernel))) (goodIn_sub (fun _ h => List.mem_cons_of_mem _ (List.mem_append_left _ (List.mem_append_right _ h))) (by decide +kernel))) (goodIn_sub (fun _ h => List.mem_cons_of_mem _ (List.mem_append_right _ h)) (by decide +kernel))
set_option maxRecDepth 20000 in
theorem gL_read_X5_read : GoodIn wsL_read (wsV RL 30 RX5 yX5_read wsX5_read) := goodIn_app (goodIn_of _ (by decide +kernel)) ggL_read_X5_read
theorem dL_read_0 : decode cL_read 0 = .ok (.aload_n 3, 1) := by decide +kernel
theorem dL_read_1 : decode cL_read 1 = .ok (.iconst 0, 1) := by decide +kernel
theorem dL_read_2 : decode cL_read 2 = .ok (.aload_n 0, 1) := by decide +kernel
theorem dL_read_3 : decode cL_read 3 = .ok (.iload_n 1, 1) := by decide +kernel
theorem dL_read_4 : decode cL_read 4 = .ok (.iload_n 2, 1) := by decide +kernel
theorem dL_read_5 : decode cL_read 5 = .ok (.invokevirtual 30, 3) := by decide +kernel
theorem dL_read_8 : decode cL_read 8 = .ok (.i2l, 1) := by decide +kernel
theorem dL_read_9 : decode cL_read 9 = .ok (.lastore, 1) := by decide +kernel
theorem dL_read_10 : decode cL_read 10 = .ok (.goto 15, 3) := by decide +kernel
theorem dL_read_13 : decode cL_read 13 = .ok (.astore 4, 2) := by decide +kernel
theorem dL_read_15 : decode cL_read 15 = .ok (.iconst 1, 1) := by decide +kernel
theorem dL_read_16 : decode cL_read 16 = .ok (.ireturn, 1) := by decide +kernel
theorem dL_read_17 : decode cL_read 17 = .ok (.astore 4, 2) := by decide +kernel
theorem dL_read_19 : decode cL_read 19 = .ok (.iconst 2, 1) := by decide +kernel
theorem dL_read_20 : decode cL_read 20 = .ok (.ireturn, 1) := by decide +kernel
theorem dL_read_21 : decode cL_read 21 = .ok (.astore 4, 2) := by decide +kernel
theorem dL_read_23 : decode cL_read 23 = .ok (.iconst 3, 1) := by decide +kernel
theorem dL_read_24 : decode cL_read 24 = .ok (.ireturn, 1) := by decide +kernel
theorem dL_read_25 : decode cL_read 25 = .ok (.iconst 0, 1) := by decide +kernel
theorem dL_read_26 : decode cL_read 26 = .ok (.ireturn, 1) := by decide +kernel
set_option maxRecDepth 20000 in
theorem ggL_toRead_X5_toRead : GoodIn wsL_toRead wsX5_toRead := goodIn_ca (goodIn_r _ [6, 7, 8, 9, 5, 10, 11, 12, 13, 14, 15, 16, 17, 18, 19, 20, 21, 22, 23, 24, 25, 26, 27, 28, 29, 30, 31, 32, 33, 34, 35, 36, 37, 38, 39, 40, 41, 42, 43, 44] (by decide +kernel) (by decide +kernel)) (goodIn_sub (fun _ h => List.mem_cons_of_mem _ (List.mem_append_right _ h)) (by decide +kernel))
set_option maxRecDepth 20000 in
theorem gL_toRead_X5_toRead : GoodIn wsL_toRead (wsV RL 34 RX5 yX5_toRead wsX5_toRead) := goodIn_app (goodIn_of _ (by decide +kernel)) ggL_toRead_X5_toRead
theorem dL_toRead_0 : decode cL_toRead 0 = .ok (.aload 4, 2) := by decide +kernel
theorem dL_toRead_2 : decode cL_toRead 2 = .ok (.iconst 0, 1) := by decide +kernel
theorem dL_toRead_3 : decode cL_toRead 3 = .ok (.aload_n 0, 1) := by decide +kernel
theorem dL_toRead_4 : decode cL_toRead 4 = .ok (.iload_n 1, 1) := by decide +kernel
theorem dL_toRead_5 : decode cL_toRead 5 = .ok (.iload_n 2, 1) := by decide +kernel
theorem dL_toRead_6 : decode cL_toRead 6 = .ok (.iload_n 3, 1) := by decide +kernel
theorem dL_toRead_7 : decode cL_toRead 7 = .ok (.invokevirtual 34, 3) := by decide +kernel
theorem dL_toRead_10 : decode cL_toRead 10 = .ok (.i2l, 1) := by decide +kernel
theorem dL_toRead_11 : decode cL_toRead 11 = .ok (.lastore, 1) := by decide +kernel
theorem dL_toRead_12 : decode cL_toRead 12 = .ok (.goto 7, 3) := by decide +kernel
theorem dL_toRead_15 : decode cL_toRead 15 = .ok (.astore 5, 2) := by decide +kernel
theorem dL_toRead_17 : decode cL_toRead 17 = .ok (.iconst 1, 1) := by decide +kernel
theorem dL_toRead_18 : decode cL_toRead 18 = .ok (.ireturn, 1) := by decide +kernel
theorem dL_toRead_19 : decode cL_toRead 19 = .ok (.iconst 0, 1) := by decide +kernel
theorem dL_toRead_20 : decode cL_toRead 20 = .ok (.ireturn, 1) := by decide +kernel
set_option maxRecDepth 20000 in
theorem ggL_samples_X5_samples : GoodIn wsL_samples wsX5_samples := goodIn_ca (goodIn_r _ [6, 7, 8, 9, 10, 5, 11, 12, 13, 14, 15, 16, 17, 18, 19, 20, 21, 22, 23, 24, 25, 26, 27, 28, 29, 30, 31, 32, 33, 34, 35, 36, 37, 38, 39, 40] (by decide +kernel) (by decide +kernel)) (goodIn_sub (fun _ h => List.mem_cons_of_mem _ (List.mem_append_right _ h)) (by decide +kernel))
set_option maxRecDepth 20000 in
theorem gL_samples_X5_samples : GoodIn wsL_samples (wsV RL 38 RX5 yX5_samples wsX5_samples) := goodIn_app (goodIn_of _ (by decide +kernel)) ggL_samples_X5_samples
theorem dL_samples_0 : decode cL_samples 0 = .ok (.aload_n 1, 1) := by decide +kernel
theorem dL_samples_1 : decode cL_samples 1 = .ok (.iconst 0, 1) := by decide +kernel
theorem dL_samples_2 : decode cL_samples 2 = .ok (.aload_n 0, 1) := by decide +kernel
theorem dL_samples_3 : decode cL_samples 3 = .ok (.invokevirtual 38, 3) := by decide +kernel
theorem dL_samples_6 : decode cL_samples 6 = .ok (.i2l, 1) := by decide +kernel
theorem dL_samples_7 : decode cL_samples 7 = .ok (.lastore, 1) := by decide +kernel
theorem dL_samples_8 : decode cL_samples 8 = .ok (.goto 6, 3) := by decide +kernel
theorem dL_samples_11 : decode cL_samples 11 = .ok (.astore_n 2, 1) := by decide +kernel
theorem dL_samples_12 : decode cL_samples 12 = .ok (.iconst 1, 1) := by decide +kernel
theorem dL_samples_13 : decode cL_samples 13 = .ok (.ireturn, 1) := by decide +kernel
theorem dL_samples_14 : decode cL_samples 14 = .ok (.iconst 0, 1) := by decide +kernel
theorem dL_samples_15 : decode cL_samples 15 = .ok (.ireturn, 1) := by decide +kernel
set_option maxRecDepth 20000 in
theorem ggL_sample_X5_sample : GoodIn wsL_sample wsX5_sample := goodIn_ca (goodIn_r _ [6, 7, 8, 9, 10, 11, 12, 13, 14, 15, 16, 17, 18, 19, 20, 21, 22, 23, 24, 25, 26, 27, 28, 29, 30, 31, 32, 33, 34, 35, 36, 37, 38, 39, 40] (by decide +kernel) (by decide +kernel)) (goodIn_sub (fun _ h => List.mem_cons_of_mem _ (List.mem_append_right _ h)) (by decide +kernel))
set_option maxRecDepth 20000 in
theorem gL_sample_X5_sample : GoodIn wsL_sample (wsV RL 42 RX5 yX5_sample wsX5_sample) := goodIn_app (goodIn_of _ (by decide +kernel)) ggL_sample_X5_sample
theorem dL_sample_0 : decode cL_sample 0 = .ok (.aload_n 2, 1) := by decide +kernel
theorem dL_sample_1 : decode cL_sample 1 = .ok (.iconst 0, 1) := by decide +kernel
theorem dL_sample_2 : decode cL_sample 2 = .ok (.aload_n 0, 1) := by decide +kernel
theorem dL_sample_3 : decode cL_sample 3 = .ok (.iload_n 1, 1) := by decide +kernel
theorem dL_sample_4 : decode cL_sample 4 = .ok (.invokevirtual 42, 3) := by decide +kernel
theorem dL_sample_7 : decode cL_sample 7 = .ok (.i2l, 1) := by decide +kernel
theorem dL_sample_8 : decode cL_sample 8 = .ok (.lastore, 1) := by decide +kernel
theorem dL_sample_9 : decode cL_sample 9 = .ok (.goto 6, 3) := by decide +kernel
theorem dL_sample_12 : decode cL_sample 12 = .ok (.astore_n 3, 1) := by decide +kernel
theorem dL_sample_13 : decode cL_sample 13 = .ok (.iconst 1, 1) := by decide +kernel
theorem dL_sample_14 : decode cL_sample 14 = .ok (.ireturn, 1) := by decide +kernel
theorem dL_sample_15 : decode cL_sample 15 = .ok (.iconst 0, 1) := by decide +kernel
theorem dL_sample_16 : decode cL_sample 16 = .ok (.ireturn, 1) := by decide +kernel
set_option maxRecDepth 20000 in
theorem ggL_count_X5_count : GoodIn wsL_count wsX5_count := goodIn_ca (goodIn_ca (goodIn_r _ [7, 8, 9, 10, 6, 11, 12, 13, 14, 15, 16, 17, 18, 19, 20, 21, 22, 23, 24, 25, 26, 27, 28, 29, 30, 31, 32, 33, 34, 35, 36, 37, 38, 39, 40, 41, 42, 43, 44, 45, 46, 47, 48, 49, 50, 51, 52, 53, 54, 55, 56, 57, 58, 59, 60, 61, 62, 63, 64, 65, 66, 67, 68, 69, 70, 71] (by decide +kernel) (by decide +kernel)) (goodIn_sub (fun _ h => List.mem_cons_of_mem _ (List.mem_append_left _ (List.mem_append_right _ h))) (by decide +kernel))) (goodIn_sub (fun _ h => List.mem_cons_of_mem _ (List.mem_append_right _ h)) (by decide +kernel))
set_option maxRecDepth 20000 in
theorem gL_count_X5_count : GoodIn wsL_count (wsV RL 45 RX5 yX5_count wsX5_count) := goodIn_app (goodIn_of _ (by decide +kernel)) ggL_count_X5_count
theorem dL_count_0 : decode cL_count 0 = .ok (.aload_n 3, 1) := by decide +kernel
theorem dL_count_1 : decode cL_count 1 = .ok (.iconst 0, 1) := by decide +kernel
theorem dL_count_2 : decode cL_count 2 = .ok (.aload_n 0, 1) := by decide +kernel
theorem dL_count_3 : decode cL_count 3 = .ok (.iload_n 1, 1) := by decide +kernel
theorem dL_count_4 : decode cL_count 4 = .ok (.iload_n 2, 1) := by decide +kernel
theorem dL_count_5 : decode cL_count 5 = .ok (.invokevirtual 45, 3) := by decide +kernel
theorem dL_count_8 : decode cL_count 8 = .ok (.i2l, 1) := by decide +kernel
theorem dL_count_9 : decode cL_count 9 = .ok (.lastore, 1) := by decide +kernel
theorem dL_count_10 : decode cL_count 10 = .ok (.goto 11, 3) := by decide +kernel
theorem dL_count_13 : decode cL_count 13 = .ok (.astore 4, 2) := by decide +kernel
theorem dL_count_15 : decode cL_count 15 = .ok (.iconst 1, 1) := by decide +kernel
theorem dL_count_16 : decode cL_count 16 = .ok (.ireturn, 1) := by decide +kernel
theorem dL_count_17 : decode cL_count 17 = .ok (.astore 4, 2) := by decide +kernel
theorem dL_count_19 : decode cL_count 19 = .ok (.iconst 2, 1) := by decide +kernel
theorem dL_count_20 : decode cL_count 20 = .ok (.ireturn, 1) := by decide +kernel
theorem dL_count_21 : decode cL_count 21 = .ok (.iconst 0, 1) := by decide +kernel
theorem dL_count_22 : decode cL_count 22 = .ok (.ireturn, 1) := by decide +kernel
set_option maxRecDepth 20000 in
theorem ggL_belief_X5_belief : GoodIn wsL_belief wsX5_belief := goodIn_ca (goodIn_ca (goodIn_r _ [7, 8, 9, 10, 6, 11, 12, 13, 14, 15, 16, 17, 18, 19, 20, 21, 22, 23, 24, 25, 26, 27, 28, 29, 30, 31, 32, 33, 34, 35, 36, 37, 38, 39, 40, 41, 42, 43, 44, 45, 46, 47, 48, 49, 50, 51, 52, 53] (by decide +kernel) (by decide +kernel)) (goodIn_sub (fun _ h => List.mem_cons_of_mem _ (List.mem_append_left _ (List.mem_append_right _ h))) (by decide +kernel))) (goodIn_sub (fun _ h => List.mem_cons_of_mem _ (List.mem_append_right _ h)) (by decide +kernel))
set_option maxRecDepth 20000 in
theorem gL_belief_X5_belief : GoodIn wsL_belief (wsV RL 48 RX5 yX5_belief wsX5_belief) := goodIn_app (goodIn_of _ (by decide +kernel)) ggL_belief_X5_belief
theorem dL_belief_0 : decode cL_belief 0 = .ok (.aload_n 3, 1) := by decide +kernel
theorem dL_belief_1 : decode cL_belief 1 = .ok (.iconst 0, 1) := by decide +kernel
theorem dL_belief_2 : decode cL_belief 2 = .ok (.aload_n 0, 1) := by decide +kernel
theorem dL_belief_3 : decode cL_belief 3 = .ok (.iload_n 1, 1) := by decide +kernel
theorem dL_belief_4 : decode cL_belief 4 = .ok (.iload_n 2, 1) := by decide +kernel
theorem dL_belief_5 : decode cL_belief 5 = .ok (.invokevirtual 48, 3) := by decide +kernel
theorem dL_belief_8 : decode cL_belief 8 = .ok (.lastore, 1) := by decide +kernel
theorem dL_belief_9 : decode cL_belief 9 = .ok (.goto 11, 3) := by decide +kernel
theorem dL_belief_12 : decode cL_belief 12 = .ok (.astore 4, 2) := by decide +kernel
theorem dL_belief_14 : decode cL_belief 14 = .ok (.iconst 1, 1) := by decide +kernel
theorem dL_belief_15 : decode cL_belief 15 = .ok (.ireturn, 1) := by decide +kernel
theorem dL_belief_16 : decode cL_belief 16 = .ok (.astore 4, 2) := by decide +kernel
theorem dL_belief_18 : decode cL_belief 18 = .ok (.iconst 2, 1) := by decide +kernel
theorem dL_belief_19 : decode cL_belief 19 = .ok (.ireturn, 1) := by decide +kernel
theorem dL_belief_20 : decode cL_belief 20 = .ok (.iconst 0, 1) := by decide +kernel
theorem dL_belief_21 : decode cL_belief 21 = .ok (.ireturn, 1) := by decide +kernel
set_option maxRecDepth 20000 in
theorem ggL_beliefAnew_X5_beliefAnew : GoodIn wsL_beliefAnew wsX5_beliefAnew := goodIn_ca (goodIn_ca (goodIn_r _ [7, 8, 9, 10, 6, 11, 12, 13, 14, 15, 16, 17, 18, 19, 20, 21, 22, 23, 24, 25, 26, 27, 28, 29, 30, 31, 32, 33, 34, 35, 36, 37, 38, 39, 40, 41, 42, 43, 44, 45, 46, 47, 48, 49, 50, 51, 52, 53, 54, 55, 56, 57, 58, 59, 60, 61, 62, 63, 64, 65, 66, 67, 68, 69, 70, 71, 72, 73, 74, 75, 76, 77, 78, 79, 80, 81, 82, 83, 84, 85, 86, 87, 88, 89, 90, 91, 92, 93, 94, 95, 96, 97, 98, 99, 100, 101, 102, 103, 104, 105, 106, 107, 108, 109, 110, 111, 112, 113, 114, 115, 116, 117, 118, 119, 120, 121, 122, 123, 124, 125, 126, 127, 128, 129, 130, 131, 132, 133, 134, 135, 136, 137, 138, 139, 140, 141, 142, 143, 144, 145, 146, 147, 148] (by decide +kernel) (by decide +kernel)) (goodIn_sub (fun _ h => List.mem_cons_of_mem _ (List.mem_append_left _ (List.mem_append_right _ h))) (by decide +kernel))) (goodIn_sub (fun _ h => List.mem_cons_of_mem _ (List.mem_append_right _ h)) (by decide +kernel))
set_option maxRecDepth 20000 in
theorem gL_beliefAnew_X5_beliefAnew : GoodIn wsL_beliefAnew (wsV RL 52 RX5 yX5_beliefAnew wsX5_beliefAnew) := goodIn_app (goodIn_of _ (by decide +kernel)) ggL_beliefAnew_X5_beliefAnew
theorem dL_beliefAnew_0 : decode cL_beliefAnew 0 = .ok (.aload_n 3, 1) := by decide +kernel
theorem dL_beliefAnew_1 : decode cL_beliefAnew 1 = .ok (.iconst 0, 1) := by decide +kernel
theorem dL_beliefAnew_2 : decode cL_beliefAnew 2 = .ok (.aload_n 0, 1) := by decide +kernel
theorem dL_beliefAnew_3 : decode cL_beliefAnew 3 = .ok (.iload_n 1, 1) := by decide +kernel
theorem dL_beliefAnew_4 : decode cL_beliefAnew 4 = .ok (.iload_n 2, 1) := by decide +kernel
theorem dL_beliefAnew_5 : decode cL_beliefAnew 5 = .ok (.invokevirtual 52, 3) := by decide +kernel
theorem dL_beliefAnew_8 : decode cL_beliefAnew 8 = .ok (.lastore, 1) := by decide +kernel
theorem dL_beliefAnew_9 : decode cL_beliefAnew 9 = .ok (.goto 11, 3) := by decide +kernel
theorem dL_beliefAnew_12 : decode cL_beliefAnew 12 = .ok (.astore 4, 2) := by decide +kernel
theorem dL_beliefAnew_14 : decode cL_beliefAnew 14 = .ok (.iconst 1, 1) := by decide +kernel
theorem dL_beliefAnew_15 : decode cL_beliefAnew 15 = .ok (.ireturn, 1) := by decide +kernel
theorem dL_beliefAnew_16 : decode cL_beliefAnew 16 = .ok (.astore 4, 2) := by decide +kernel
theorem dL_beliefAnew_18 : decode cL_beliefAnew 18 = .ok (.iconst 2, 1) := by decide +kernel
theorem dL_beliefAnew_19 : decode cL_beliefAnew 19 = .ok (.ireturn, 1) := by decide +kernel
theorem dL_beliefAnew_20 : decode cL_beliefAnew 20 = .ok (.iconst 0, 1) := by decide +kernel
theorem dL_beliefAnew_21 : decode cL_beliefAnew 21 = .ok (.ireturn, 1) := by decide +kernel
set_option maxRecDepth 20000 in
theorem ggL_mode_X5_mode : GoodIn wsL_mode wsX5_mode := goodIn_ca (goodIn_r _ [6, 7, 8, 9, 5, 10, 11, 12, 13, 14, 15, 16, 17, 18, 19, 20, 21, 22, 23, 24, 25, 26, 27, 28, 29, 30, 31, 32, 33, 34, 35, 36, 37, 38, 39, 40, 41, 42, 43, 44, 45, 46, 47, 48, 49, 50, 51, 52, 53, 54, 55, 56, 57, 58, 59, 60, 61, 62, 63, 64, 65, 66, 67, 68, 69, 70, 71, 72, 73, 74, 75, 76, 77, 78, 79, 80, 81] (by decide +kernel) (by decide +kernel)) (goodIn_sub (fun _ h => List.mem_cons_of_mem _ (List.mem_append_right _ h)) (by decide +kernel))
set_option maxRecDepth 20000 in
theorem gL_mode_X5_mode : GoodIn wsL_mode (wsV RL 55 RX5 yX5_mode wsX5_mode) := goodIn_app (goodIn_of _ (by decide +kernel)) ggL_mode_X5_mode
theorem dL_mode_0 : decode cL_mode 0 = .ok (.aload_n 2, 1) := by decide +kernel
theorem dL_mode_1 : decode cL_mode 1 = .ok (.iconst 0, 1) := by decide +kernel
theorem dL_mode_2 : decode cL_mode 2 = .ok (.aload_n 0, 1) := by decide +kernel
theorem dL_mode_3 : decode cL_mode 3 = .ok (.iload_n 1, 1) := by decide +kernel
theorem dL_mode_4 : decode cL_mode 4 = .ok (.invokevirtual 55, 3) := by decide +kernel
theorem dL_mode_7 : decode cL_mode 7 = .ok (.i2l, 1) := by decide +kernel
theorem dL_mode_8 : decode cL_mode 8 = .ok (.lastore, 1) := by decide +kernel
theorem dL_mode_9 : decode cL_mode 9 = .ok (.goto 6, 3) := by decide +kernel
theorem dL_mode_12 : decode cL_mode 12 = .ok (.astore_n 3, 1) := by decide +kernel
theorem dL_mode_13 : decode cL_mode 13 = .ok (.iconst 1, 1) := by decide +kernel
theorem dL_mode_14 : decode cL_mode 14 = .ok (.ireturn, 1) := by decide +kernel
theorem dL_mode_15 : decode cL_mode 15 = .ok (.iconst 0, 1) := by decide +kernel
theorem dL_mode_16 : decode cL_mode 16 = .ok (.ireturn, 1) := by decide +kernel
set_option maxRecDepth 20000 in
theorem ggL_mean_X5_mean : GoodIn wsL_mean wsX5_mean := goodIn_ca (goodIn_r _ [6, 7, 8, 9, 10, 5, 11, 12, 13, 14, 15, 16, 17, 18, 19, 20, 21, 22, 23, 24, 25, 26, 27, 28, 29, 30, 31, 32, 33, 34, 35, 36, 37, 38, 39, 40, 41, 42, 43, 44, 45, 46, 47, 48, 49, 50, 51, 52, 53, 54, 55, 56, 57, 58, 59, 60, 61, 62, 63, 64, 65, 66, 67, 68, 69, 70, 71, 72, 73, 74, 75, 76, 77, 78, 79, 80, 81, 82, 83, 84, 85] (by decide +kernel) (by decide +kernel)) (goodIn_sub (fun _ h => List.mem_cons_of_mem _ (List.mem_append_right _ h)) (by decide +kernel))
set_option maxRecDepth 20000 in
theorem gL_mean_X5_mean : GoodIn wsL_mean (wsV RL 59 RX5 yX5_mean wsX5_mean) := goodIn_app (goodIn_of _ (by decide +kernel)) ggL_mean_X5_mean
theorem dL_mean_0 : decode cL_mean 0 = .ok (.aload_n 3, 1) := by decide +kernel
theorem dL_mean_1 : decode cL_mean 1 = .ok (.iconst 0, 1) := by decide +kernel
theorem dL_mean_2 : decode cL_mean 2 = .ok (.aload_n 0, 1) := by decide +kernel
theorem dL_mean_3 : decode cL_mean 3 = .ok (.iload_n 1, 1) := by decide +kernel
theorem dL_mean_4 : decode cL_mean 4 = .ok (.iload_n 2, 1) := by decide +kernel
theorem dL_mean_5 : decode cL_mean 5 = .ok (.invokevirtual 59, 3) := by decide +kernel
theorem dL_mean_8 : decode cL_mean 8 = .ok (.i2l, 1) := by decide +kernel
theorem dL_mean_9 : decode cL_mean 9 = .ok (.lastore, 1) := by decide +kernel
theorem dL_mean_10 : decode cL_mean 10 = .ok (.goto 7, 3) := by decide +kernel
theorem dL_mean_13 : decode cL_mean 13 = .ok (.astore 4, 2) := by decide +kernel
theorem dL_mean_15 : decode cL_mean 15 = .ok (.iconst 1, 1) := by decide +kernel
theorem dL_mean_16 : decode cL_mean 16 = .ok (.ireturn, 1) := by decide +kernel
theorem dL_mean_17 : decode cL_mean 17 = .ok (.iconst 0, 1) := by decide +kernel
theorem dL_mean_18 : decode cL_mean 18 = .ok (.ireturn, 1) := by decide +kernel
set_option maxRecDepth 20000 in
theorem ggL_share_X5_share : GoodIn wsL_share wsX5_share := goodIn_ca (goodIn_ca (goodIn_ca (goodIn_r _ [8, 9, 10, 11, 12, 13, 7, 14, 15, 16, 17, 18, 19, 20, 21, 22, 23, 24, 25, 26, 27, 28, 29, 30, 31, 32, 33, 34, 35, 36, 37, 38, 39, 40, 41, 42, 43, 44, 45, 46, 47, 48, 49, 50, 51, 52, 53, 54, 55, 56, 57, 58, 59, 60, 61, 62, 63, 64, 65, 66, 67, 68, 69, 70, 71, 72, 73, 74, 75, 76, 77, 78, 79, 80, 81, 82, 83, 84, 85, 86, 87, 88, 89, 90, 91, 92, 93, 94] (by decide +kernel) (by decide +kernel)) (goodIn_sub (fun _ h => List.mem_cons_of_mem _ (List.mem_append_left _ (List.mem_append_left _ (List.mem_append_right _ h)))) (by decide +kernel))) (goodIn_sub (fun _ h => List.mem_cons_of_mem _ (List.mem_append_left _ (List.mem_append_right _ h))) (by decide +kernel))) (goodIn_sub (fun _ h => List.mem_cons_of_mem _ (List.mem_append_right _ h)) (by decide +kernel))
set_option maxRecDepth 20000 in
theorem gL_share_X5_share : GoodIn wsL_share (wsV RL 63 RX5 yX5_share wsX5_share) := goodIn_app (goodIn_of _ (by decide +kernel)) ggL_share_X5_share
theorem dL_share_0 : decode cL_share 0 = .ok (.aload 6, 2) := by decide +kernel
theorem dL_share_2 : decode cL_share 2 = .ok (.iconst 0, 1) := by decide +kernel
theorem dL_share_3 : decode cL_share 3 = .ok (.aload_n 0, 1) := by decide +kernel
theorem dL_share_4 : decode cL_share 4 = .ok (.iload_n 1, 1) := by decide +kernel
theorem dL_share_5 : decode cL_share 5 = .ok (.iload_n 2, 1) := by decide +kernel
theorem dL_share_6 : decode cL_share 6 = .ok (.iload_n 3, 1) := by decide +kernel
theorem dL_share_7 : decode cL_share 7 = .ok (.iload 4, 2) := by decide +kernel
theorem dL_share_9 : decode cL_share 9 = .ok (.iload 5, 2) := by decide +kernel
theorem dL_share_11 : decode cL_share 11 = .ok (.invokevirtual 63, 3) := by decide +kernel
theorem dL_share_14 : decode cL_share 14 = .ok (.i2l, 1) := by decide +kernel
theorem dL_share_15 : decode cL_share 15 = .ok (.lastore, 1) := by decide +kernel
theorem dL_share_16 : decode cL_share 16 = .ok (.goto 15, 3) := by decide +kernel
theorem dL_share_19 : decode cL_share 19 = .ok (.astore 7, 2) := by decide +kernel
theorem dL_share_21 : decode cL_share 21 = .ok (.iconst 1, 1) := by decide +kernel
theorem dL_share_22 : decode cL_share 22 = .ok (.ireturn, 1) := by decide +kernel
theorem dL_share_23 : decode cL_share 23 = .ok (.astore 7, 2) := by decide +kernel
theorem dL_share_25 : decode cL_share 25 = .ok (.iconst 2, 1) := by decide +kernel
theorem dL_share_26 : decode cL_share 26 = .ok (.ireturn, 1) := by decide +kernel
theorem dL_share_27 : decode cL_share 27 = .ok (.astore 7, 2) := by decide +kernel
theorem dL_share_29 : decode cL_share 29 = .ok (.iconst 3, 1) := by decide +kernel
theorem dL_share_30 : decode cL_share 30 = .ok (.ireturn, 1) := by decide +kernel
theorem dL_share_31 : decode cL_share 31 = .ok (.iconst 0, 1) := by decide +kernel
theorem dL_share_32 : decode cL_share 32 = .ok (.ireturn, 1) := by decide +kernel
set_option maxRecDepth 20000 in
theorem ggL_best_X5_best : GoodIn wsL_best wsX5_best := goodIn_ca (goodIn_ca (goodIn_r _ [7, 8, 9, 10, 11, 12, 13, 6, 14, 15, 16, 17, 18, 19, 20, 21, 22, 23, 24, 25, 26, 27, 28, 29, 30, 31, 32, 33, 34, 35, 36, 37, 38, 39, 40, 41, 42, 43, 44, 45, 46, 47, 48, 49, 50, 51, 52] (by decide +kernel) (by decide +kernel)) (goodIn_sub (fun _ h => List.mem_cons_of_mem _ (List.mem_append_left _ (List.mem_append_right _ h))) (by decide +kernel))) (goodIn_sub (fun _ h => List.mem_cons_of_mem _ (List.mem_append_right _ h)) (by decide +kernel))
set_option maxRecDepth 20000 in
theorem gL_best_X5_best : GoodIn wsL_best (wsV RL 67 RX5 yX5_best wsX5_best) := goodIn_app (goodIn_of _ (by decide +kernel)) ggL_best_X5_best
theorem dL_best_0 : decode cL_best 0 = .ok (.aload_n 2, 1) := by decide +kernel
theorem dL_best_1 : decode cL_best 1 = .ok (.iconst 0, 1) := by decide +kernel
theorem dL_best_2 : decode cL_best 2 = .ok (.aload_n 0, 1) := by decide +kernel
theorem dL_best_3 : decode cL_best 3 = .ok (.iload_n 1, 1) := by decide +kernel
theorem dL_best_4 : decode cL_best 4 = .ok (.invokevirtual 67, 3) := by decide +kernel
theorem dL_best_7 : decode cL_best 7 = .ok (.i2l, 1) := by decide +kernel
theorem dL_best_8 : decode cL_best 8 = .ok (.lastore, 1) := by decide +kernel
theorem dL_best_9 : decode cL_best 9 = .ok (.goto 9, 3) := by decide +kernel
theorem dL_best_12 : decode cL_best 12 = .ok (.astore_n 3, 1) := by decide +kernel
theorem dL_best_13 : decode cL_best 13 = .ok (.iconst 1, 1) := by decide +kernel
theorem dL_best_14 : decode cL_best 14 = .ok (.ireturn, 1) := by decide +kernel
theorem dL_best_15 : decode cL_best 15 = .ok (.astore_n 3, 1) := by decide +kernel
theorem dL_best_16 : decode cL_best 16 = .ok (.iconst 2, 1) := by decide +kernel
theorem dL_best_17 : decode cL_best 17 = .ok (.ireturn, 1) := by decide +kernel
theorem dL_best_18 : decode cL_best 18 = .ok (.iconst 0, 1) := by decide +kernel
theorem dL_best_19 : decode cL_best 19 = .ok (.ireturn, 1) := by decide +kernel
set_option maxRecDepth 20000 in
theorem ggL_doubt_X5_doubt : GoodIn wsL_doubt wsX5_doubt := goodIn_ca (goodIn_r _ [6, 7, 8, 9, 10, 5, 11, 12, 13, 14, 15, 16, 17, 18, 19, 20, 21, 22, 23, 24, 25, 26, 27, 28, 29, 30, 31, 32, 33, 34, 35, 36, 37, 38, 39, 40] (by decide +kernel) (by decide +kernel)) (goodIn_sub (fun _ h => List.mem_cons_of_mem _ (List.mem_append_right _ h)) (by decide +kernel))
set_option maxRecDepth 20000 in
theorem gL_doubt_X5_doubt : GoodIn wsL_doubt (wsV RL 70 RX5 yX5_doubt wsX5_doubt) := goodIn_app (goodIn_of _ (by decide +kernel)) ggL_doubt_X5_doubt
theorem dL_doubt_0 : decode cL_doubt 0 = .ok (.aload_n 1, 1) := by decide +kernel
theorem dL_doubt_1 : decode cL_doubt 1 = .ok (.iconst 0, 1) := by decide +kernel
theorem dL_doubt_2 : decode cL_doubt 2 = .ok (.aload_n 0, 1) := by decide +kernel
theorem dL_doubt_3 : decode cL_doubt 3 = .ok (.invokevirtual 70, 3) := by decide +kernel
theorem dL_doubt_6 : decode cL_doubt 6 = .ok (.i2l, 1) := by decide +kernel
theorem dL_doubt_7 : decode cL_doubt 7 = .ok (.lastore, 1) := by decide +kernel
theorem dL_doubt_8 : decode cL_doubt 8 = .ok (.goto 6, 3) := by decide +kernel
theorem dL_doubt_11 : decode cL_doubt 11 = .ok (.astore_n 2, 1) := by decide +kernel
theorem dL_doubt_12 : decode cL_doubt 12 = .ok (.iconst 1, 1) := by decide +kernel
theorem dL_doubt_13 : decode cL_doubt 13 = .ok (.ireturn, 1) := by decide +kernel
theorem dL_doubt_14 : decode cL_doubt 14 = .ok (.iconst 0, 1) := by decide +kernel
theorem dL_doubt_15 : decode cL_doubt 15 = .ok (.ireturn, 1) := by decide +kernel
set_option maxRecDepth 20000 in
theorem ggL_law_X5_init : GoodIn wsL_law wsX5_init := goodIn_r _ [9, 10, 11, 12, 13, 14, 15, 16, 17, 18, 19, 20, 21, 22, 23, 24, 25, 26, 27, 28, 29, 30, 31, 32, 33, 34, 35, 36, 37, 38, 39, 40, 41, 42, 43, 44, 45, 46, 47, 48, 49, 50, 51, 52, 53, 54, 55, 56, 2, 57, 58, 59, 60, 61, 62, 63, 64, 65, 66, 67, 68, 69, 70, 71, 72, 73, 74, 75, 76, 77, 78, 79, 80, 81, 82, 83, 84, 85, 86, 87, 88, 89, 90, 6, 91, 92, 93, 94, 95, 96, 97, 98, 99, 100, 662, 663, 664, 638, 639, 640, 641, 642, 643, 644, 645, 646, 665, 666, 667, 668, 669, 670, 671, 672, 673, 674, 675, 676, 677, 678, 679, 680] (by decide +kernel) (by decide +kernel)
set_option maxRecDepth 20000 in
theorem gL_law_X5_init : GoodIn wsL_law (wsX5_init) := ggL_law_X5_init
set_option maxRecDepth 20000 in
theorem ggL_law_X6_init : GoodIn wsL_law wsX6_init := goodIn_r _ [103, 104, 11, 12, 39, 105, 106, 30, 107, 108, 109, 6, 110, 111, 647, 648, 649, 650, 651, 652, 653, 654, 655, 656, 657, 658, 659, 660, 661] (by decide +kernel) (by decide +kernel)
set_option maxRecDepth 20000 in
theorem gL_law_X6_init : GoodIn wsL_law (wsX6_init) := ggL_law_X6_init
set_option maxRecDepth 20000 in
theorem ggL_law_L_wall : GoodIn wsL_law wsL_wall := goodIn_ca (goodIn_ca (goodIn_r _ [115, 116, 117, 118, 119, 120, 2, 121, 122, 123, 16, 34, 124, 125, 126, 127, 128, 129, 60, 61, 130, 62, 63, 131, 65, 66, 15, 67, 40, 56, 57, 132, 133, 134, 135, 46, 136, 137, 138, 139, 42, 43, 44, 45, 41, 47, 48, 49, 50, 51, 52, 53, 54, 55, 58, 59, 64, 638, 639, 640, 641, 642, 643, 644, 645, 646, 662, 663, 664] (by decide +kernel) (by decide +kernel)) (goodIn_sub (fun _ h => List.mem_append_left _ (List.mem_append_left _ (List.mem_append_right _ h))) (by decide +kernel))) (goodIn_sub (fun _ h => List.mem_append_left _ (List.mem_append_right _ h)) (by decide +kernel))
set_option maxRecDepth 20000 in
theorem gL_law_L_wall : GoodIn wsL_law (va_wsS RL 77 yL_wall wsL_wall) := goodIn_app (goodIn_of _ (by decide +kernel)) ggL_law_L_wall
set_option maxRecDepth 20000 in
theorem ggL_law_X6_wall : GoodIn wsL_law wsX6_wall := goodIn_r _ [143, 105, 144, 145, 146, 5, 147, 148, 149, 150, 151, 152, 153, 154, 155, 156, 157, 158, 159, 647, 648, 649, 650, 651, 652, 653, 654, 655, 656, 657, 658, 659, 660, 661] (by decide +kernel) (by decide +kernel)
set_option maxRecDepth 20000 in
theorem gL_law_X6_wall : GoodIn wsL_law (wsV RL 82 RX6 yX6_wall wsX6_wall) := goodIn_app (goodIn_of _ (by decide +kernel)) ggL_law_X6_wall
set_option maxRecDepth 20000 in
theorem ggL_law_X6_thrown : GoodIn wsL_law wsX6_thrown := goodIn_r _ [163, 159, 647, 648, 649, 650, 651, 652, 653, 654, 655, 656, 657, 658, 659, 660, 661] (by decide +kernel) (by decide +kernel)
set_option maxRecDepth 20000 in
theorem gL_law_X6_thrown : GoodIn wsL_law (wsV RL 83 RX6 yX6_thrown wsX6_thrown) := goodIn_app (goodIn_of _ (by decide +kernel)) ggL_law_X6_thrown
set_option maxRecDepth 20000 in
theorem ggL_law_L_draw : GoodIn wsL_law wsL_draw := goodIn_ca (goodIn_r _ [166, 167, 168, 169, 170, 2, 171, 172, 173, 174, 20, 175, 176, 177, 19, 178, 72, 638, 639, 640, 641, 642, 643, 644, 645, 646, 665] (by decide +kernel) (by decide +kernel)) (goodIn_sub (fun _ h => List.mem_append_right _ h) (by decide +kernel))
set_option maxRecDepth 20000 in
theorem gL_law_L_draw : GoodIn wsL_law (va_wsS RL 86 yL_draw wsL_draw) := goodIn_app (goodIn_of _ (by decide +kernel)) ggL_law_L_draw
set_option maxRecDepth 20000 in
theorem ggL_law_X6_draw : GoodIn wsL_law wsX6_draw := goodIn_r _ [182, 183, 106, 148, 149, 5, 150, 155, 156, 157, 158, 159, 647, 648, 649, 650, 651, 652, 653, 654, 655, 656, 657, 658, 659, 660, 661] (by decide +kernel) (by decide +kernel)
set_option maxRecDepth 20000 in
theorem gL_law_X6_draw : GoodIn wsL_law (wsV RL 89 RX6 yX6_draw wsX6_draw) := goodIn_app (goodIn_of _ (by decide +kernel)) ggL_law_X6_draw
set_option maxRecDepth 20000 in
theorem ggL_law_L_spread : GoodIn wsL_law wsL_spread := goodIn_ca (goodIn_r _ [186, 167, 187, 188, 189, 2, 190, 172, 173, 24, 28, 33, 34, 191, 192, 193, 23, 194, 86, 79, 77, 78, 195, 196, 197, 198, 199, 200, 201, 15, 202, 46, 40, 203, 204, 205, 19, 206, 72, 207, 208, 209, 210, 27, 211, 98, 96, 212, 65, 66, 67, 56, 57, 213, 214, 215, 84, 216, 91, 638, 639, 640, 641, 642, 643, 644, 645, 646, 666, 667, 668, 669, 670, 671, 672, 673, 674, 675, 676, 662, 663, 664, 665, 677, 678, 679, 680] (by decide +kernel) (by decide +kernel)) (goodIn_sub (fun _ h => List.mem_append_right _ h) (by decide +kernel))
set_option maxRecDepth 20000 in
theorem gL_law_L_spread : GoodIn wsL_law (va_wsS RL 90 yL_spread wsL_spread) := goodIn_app (goodIn_of _ (by decide +kernel)) ggL_law_L_spread
set_option maxRecDepth 20000 in
theorem ggL_law_X6_spread : GoodIn wsL_law wsX6_spread := goodIn_r _ [220, 144, 221, 107, 222, 223, 224, 148, 149, 5, 150, 155, 156, 157, 158, 159, 225, 226, 227, 228, 105, 229, 230, 231, 232, 106, 233, 151, 152, 153, 154, 234, 235, 236, 237, 110, 647, 648, 649, 650, 651, 652, 653, 654, 655, 656, 657, 658, 659, 660, 661] (by decide +kernel) (by decide +kernel)
set_option maxRecDepth 20000 in
theorem gL_law_X6_spread : GoodIn wsL_law (wsV RL 93 RX6 yX6_spread wsX6_spread) := goodIn_app (goodIn_of _ (by decide +kernel)) ggL_law_X6_spread
set_option maxRecDepth 20000 in
theorem ggL_law_L_drive : GoodIn wsL_law wsL_drive := goodIn_ca (goodIn_ca (goodIn_r _ [240, 116, 117, 241, 242, 243, 2, 244, 24, 28, 245, 246, 247, 127, 128, 248, 58, 59, 249, 250, 251, 252, 122, 123, 34, 33, 253, 254, 255, 23, 256, 86, 79, 77, 257, 258, 259, 260, 78, 261, 204, 205, 19, 206, 72, 207, 262, 263, 264, 15, 265, 266, 267, 268, 269, 270, 271, 272, 273, 41, 56, 57, 51, 52, 53, 54, 55, 60, 61, 62, 63, 274, 275, 276, 27, 277, 99, 98, 96, 278, 279, 280, 281, 282, 84, 283, 91, 284, 285, 286, 287, 288, 289, 290, 291, 212, 65, 66, 67, 40, 292, 293, 294, 295, 296, 297, 298, 299, 300, 301, 302, 303, 304, 305, 306, 307, 308, 309, 310, 311, 312, 313, 314, 315, 316, 317, 318, 319, 320, 321, 31, 32, 638, 639, 640, 641, 642, 643, 644, 645, 646, 666, 667, 668, 669, 670, 671, 672, 673, 674, 675, 676, 665, 662, 663, 664, 677, 678, 679, 680] (by decide +kernel) (by decide +kernel)) (goodIn_sub (fun _ h => List.mem_append_left _ (List.mem_append_right _ h)) (by decide +kernel))) (goodIn_sub (fun _ h => List.mem_append_left _ (List.mem_append_left _ (List.mem_append_right _ h))) (by decide +kernel))
set_option maxRecDepth 20000 in
theorem gL_law_L_drive : GoodIn wsL_law (va_wsS RL 94 yL_drive wsL_drive) := goodIn_app (goodIn_of _ (by decide +kernel)) ggL_law_L_drive
set_option maxRecDepth 20000 in
theorem ggL_law_X6_drive : GoodIn wsL_law wsX6_drive := goodIn_r _ [325, 144, 222, 221, 107, 111, 105, 326, 110, 327, 328, 329, 5, 330, 148, 149, 150, 155, 156, 157, 158, 159, 229, 230, 231, 232, 106, 233, 331, 332, 333, 334, 145, 146, 147, 335, 336, 337, 338, 339, 340, 341, 342, 343, 344, 647, 648, 649, 650, 651, 652, 653, 654, 655, 656, 657, 658, 659, 660, 661] (by decide +kernel) (by decide +kernel)
set_option maxRecDepth 20000 in
theorem gL_law_X6_drive : GoodIn wsL_law (wsV RL 96 RX6 yX6_drive wsX6_drive) := goodIn_app (goodIn_of _ (by decide +kernel)) ggL_law_X6_drive
set_option maxRecDepth 20000 in
theorem ggL_law_L_read : GoodIn wsL_law wsL_read := goodIn_ca (goodIn_ca (goodIn_ca (goodIn_r _ [347, 116, 167, 117, 348, 349, 350, 2, 351, 172, 173, 24, 28, 245, 246, 247, 127, 128, 248, 58, 59, 249, 250, 251, 252, 122, 123, 34, 33, 352, 353, 354, 23, 355, 86, 81, 77, 79, 356, 357, 358, 15, 359, 360, 361, 268, 362, 270, 271, 272, 273, 41, 56, 57, 363, 364, 365, 366, 367, 368, 195, 196, 197, 369, 370, 371, 198, 372, 373, 374, 375, 376, 267, 269, 377, 378, 379, 380, 85, 381, 289, 290, 84, 291, 91, 382, 297, 298, 299, 383, 293, 294, 295, 384, 385, 386, 387, 80, 388, 285, 286, 287, 78, 261, 204, 205, 19, 206, 72, 207, 199, 200, 201, 202, 46, 40, 203, 389, 390, 391, 392, 393, 394, 395, 27, 396, 98, 96, 292, 397, 213, 214, 215, 216, 306, 307, 308, 309, 310, 311, 312, 398, 209, 210, 211, 212, 65, 66, 67, 301, 302, 303, 304, 305, 313, 314, 315, 316, 317, 318, 319, 320, 321, 31, 32, 638, 639, 640, 641, 642, 643, 644, 645, 646, 666, 667, 668, 669, 670, 671, 672, 673, 674, 675, 676, 662, 663, 664, 680, 665, 677, 678, 679] (by decide +kernel) (by decide +kernel)) (goodIn_sub (fun _ h => List.mem_append_right _ h) (by decide +kernel))) (goodIn_sub (fun _ h => List.mem_append_left _ (List.mem_append_right _ h)) (by decide +kernel))) (goodIn_sub (fun _ h => List.mem_append_left _ (List.mem_append_left _ (List.mem_append_right _ h))) (by decide +kernel))
set_option maxRecDepth 20000 in
theorem gL_law_L_read : GoodIn wsL_law (va_wsS RL 97 yL_read wsL_read) := goodIn_app (goodIn_of _ (by decide +kernel)) ggL_law_L_read
set_option maxRecDepth 20000 in
theorem ggL_law_X6_read : GoodIn wsL_law wsX6_read := goodIn_r _ [402, 144, 222, 221, 109, 107, 110, 105, 328, 329, 5, 330, 148, 149, 150, 155, 156, 157, 158, 159, 403, 404, 405, 406, 407, 408, 409, 410, 331, 332, 333, 334, 145, 146, 147, 411, 412, 413, 414, 223, 415, 416, 224, 417, 418, 419, 420, 108, 421, 422, 423, 424, 229, 230, 231, 232, 106, 233, 225, 226, 227, 228, 151, 152, 153, 154, 425, 426, 427, 428, 429, 430, 431, 432, 234, 235, 236, 237, 335, 336, 337, 338, 339, 340, 341, 342, 343, 344, 647, 648, 649, 650, 651, 652, 653, 654, 655, 656, 657, 658, 659, 660, 661] (by decide +kernel) (by decide +kernel)
set_option maxRecDepth 20000 in
theorem gL_law_X6_read : GoodIn wsL_law (wsV RL 100 RX6 yX6_read wsX6_read) := goodIn_app (goodIn_of _ (by decide +kernel)) ggL_law_X6_read
set_option maxRecDepth 20000 in
theorem ggL_law_L_toRead : GoodIn wsL_law wsL_toRead := goodIn_ca (goodIn_r _ [435, 116, 436, 437, 438, 2, 439, 16, 124, 125, 126, 127, 128, 129, 60, 61, 245, 246, 247, 248, 58, 59, 130, 62, 63, 440, 271, 272, 15, 273, 41, 56, 57, 638, 639, 640, 641, 642, 643, 644, 645, 646, 662, 663, 664] (by decide +kernel) (by decide +kernel)) (goodIn_sub (fun _ h => List.mem_append_left _ (List.mem_append_right _ h)) (by decide +kernel))
set_option maxRecDepth 20000 in
theorem gL_law_L_toRead : GoodIn wsL_law (va_wsS RL 101 yL_toRead wsL_toRead) := goodIn_app (goodIn_of _ (by decide +kernel)) ggL_law_L_toRead
set_option maxRecDepth 20000 in
theorem ggL_law_X6_toRead : GoodIn wsL_law wsX6_toRead := goodIn_r _ [444, 105, 145, 146, 5, 147, 148, 149, 150, 328, 329, 330, 155, 156, 157, 158, 159, 407, 408, 409, 410, 331, 332, 333, 334, 647, 648, 649, 650, 651, 652, 653, 654, 655, 656, 657, 658, 659, 660, 661] (by decide +kernel) (by decide +kernel)
set_option maxRecDepth 20000 in
theorem gL_law_X6_toRead : GoodIn wsL_law (wsV RL 104 RX6 yX6_toRead wsX6_toRead) := goodIn_app (goodIn_of _ (by decide +kernel)) ggL_law_X6_toRead
set_option maxRecDepth 20000 in
theorem ggL_law_L_samples : GoodIn wsL_law wsL_samples := goodIn_ca (goodIn_r _ [447, 117, 448, 449, 450, 2, 451, 24, 452, 453, 454, 455, 122, 123, 34, 456, 457, 458, 23, 459, 86, 638, 639, 640, 641, 642, 643, 644, 645, 646, 666, 667, 668, 669, 670, 671, 672, 673, 674, 675, 676] (by decide +kernel) (by decide +kernel)) (goodIn_sub (fun _ h => List.mem_append_left _ (List.mem_append_left _ (List.mem_append_right _ h))) (by decide +kernel))
set_option maxRecDepth 20000 in
theorem gL_law_L_samples : GoodIn wsL_law (va_wsS RL 105 yL_samples wsL_samples) := goodIn_app (goodIn_of _ (by decide +kernel)) ggL_law_L_samples
set_option maxRecDepth 20000 in
theorem ggL_law_X6_samples : GoodIn wsL_law wsX6_samples := goodIn_r _ [463, 144, 221, 155, 156, 157, 5, 158, 159, 647, 648, 649, 650, 651, 652, 653, 654, 655, 656, 657, 658, 659, 660, 661] (by decide +kernel) (by decide +kernel)
set_option maxRecDepth 20000 in
theorem gL_law_X6_samples : GoodIn wsL_law (wsV RL 108 RX6 yX6_samples wsX6_samples) := goodIn_app (goodIn_of _ (by decide +kernel)) ggL_law_X6_samples
set_option maxRecDepth 20000 in
theorem ggL_law_L_sample : GoodIn wsL_law wsL_sample := goodIn_ca (goodIn_r _ [466, 116, 467, 468, 469, 2, 470, 127, 128, 24, 456, 457, 458, 23, 459, 86, 471, 472, 473, 474, 79, 638, 639, 640, 641, 642, 643, 644, 645, 646, 666, 667, 668, 669, 670, 671, 672, 673, 674, 675, 676] (by decide +kernel) (by decide +kernel)) (goodIn_sub (fun _ h => List.mem_append_left _ (List.mem_append_right _ h)) (by decide +kernel))
set_option maxRecDepth 20000 in
theorem gL_law_L_sample : GoodIn wsL_law (va_wsS RL 109 yL_sample wsL_sample) := goodIn_app (goodIn_of _ (by decide +kernel)) ggL_law_L_sample
set_option maxRecDepth 20000 in
theorem ggL_law_X6_sample : GoodIn wsL_law wsX6_sample := goodIn_r _ [478, 144, 221, 107, 148, 149, 5, 150, 155, 156, 157, 158, 159, 647, 648, 649, 650, 651, 652, 653, 654, 655, 656, 657, 658, 659, 660, 661] (by decide +kernel) (by decide +kernel)
set_option maxRecDepth 20000 in
theorem gL_law_X6_sample : GoodIn wsL_law (wsV RL 111 RX6 yX6_sample wsX6_sample) := goodIn_app (goodIn_of _ (by decide +kernel)) ggL_law_X6_sample
set_option maxRecDepth 20000 in
theorem ggL_law_L_count : GoodIn wsL_law wsL_count := goodIn_ca (goodIn_ca (goodIn_r _ [481, 116, 117, 482, 483, 484, 2, 485, 24, 124, 125, 126, 127, 128, 129, 60, 61, 452, 453, 454, 455, 122, 123, 34, 486, 378, 379, 23, 380, 85, 86, 79, 381, 289, 290, 84, 291, 91, 382, 297, 298, 299, 56, 57, 130, 62, 63, 487, 293, 294, 295, 638, 639, 640, 641, 642, 643, 644, 645, 646, 666, 667, 668, 669, 670, 671, 672, 673, 674, 675, 676, 680] (by decide +kernel) (by decide +kernel)) (goodIn_sub (fun _ h => List.mem_append_left _ (List.mem_append_right _ h)) (by decide +kernel))) (goodIn_sub (fun _ h => List.mem_append_left _ (List.mem_append_left _ (List.mem_append_right _ h))) (by decide +kernel))
set_option maxRecDepth 20000 in
theorem gL_law_L_count : GoodIn wsL_law (va_wsS RL 112 yL_count wsL_count) := goodIn_app (goodIn_of _ (by decide +kernel)) ggL_law_L_count
set_option maxRecDepth 20000 in
theorem ggL_law_X6_count : GoodIn wsL_law wsX6_count := goodIn_r _ [491, 144, 145, 146, 5, 147, 148, 149, 150, 155, 156, 157, 158, 159, 492, 493, 494, 495, 221, 107, 647, 648, 649, 650, 651, 652, 653, 654, 655, 656, 657, 658, 659, 660, 661] (by decide +kernel) (by decide +kernel)
set_option maxRecDepth 20000 in
theorem gL_law_X6_count : GoodIn wsL_law (wsV RL 114 RX6 yX6_count wsX6_count) := goodIn_app (goodIn_of _ (by decide +kernel)) ggL_law_X6_count
set_option maxRecDepth 20000 in
theorem ggL_law_L_belief : GoodIn wsL_law wsL_belief := goodIn_ca (goodIn_ca (goodIn_r _ [498, 116, 117, 499, 500, 501, 2, 502, 28, 124, 125, 126, 127, 128, 129, 60, 61, 452, 453, 454, 455, 122, 123, 34, 503, 504, 505, 27, 506, 98, 130, 62, 63, 487, 293, 294, 84, 295, 91, 56, 57, 638, 639, 640, 641, 642, 643, 644, 645, 646, 677, 678, 679, 680] (by decide +kernel) (by decide +kernel)) (goodIn_sub (fun _ h => List.mem_append_left _ (List.mem_append_right _ h)) (by decide +kernel))) (goodIn_sub (fun _ h => List.mem_append_left _ (List.mem_append_left _ (List.mem_append_right _ h))) (by decide +kernel))
set_option maxRecDepth 20000 in
theorem gL_law_L_belief : GoodIn wsL_law (va_wsS RL 115 yL_belief wsL_belief) := goodIn_app (goodIn_of _ (by decide +kernel)) ggL_law_L_belief
set_option maxRecDepth 20000 in
theorem ggL_law_X6_belief : GoodIn wsL_law wsX6_belief := goodIn_r _ [510, 144, 110, 145, 146, 5, 147, 148, 149, 150, 155, 156, 157, 158, 159, 647, 648, 649, 650, 651, 652, 653, 654, 655, 656, 657, 658, 659, 660, 661] (by decide +kernel) (by decide +kernel)
set_option maxRecDepth 20000 in
theorem gL_law_X6_belief : GoodIn wsL_law (wsV RL 117 RX6 yX6_belief wsX6_belief) := goodIn_app (goodIn_of _ (by decide +kernel)) ggL_law_X6_belief
set_option maxRecDepth 20000 in
theorem ggL_law_L_beliefAnew : GoodIn wsL_law wsL_beliefAnew := goodIn_ca (goodIn_ca (goodIn_r _ [513, 116, 117, 514, 515, 516, 2, 517, 29, 124, 125, 126, 127, 128, 129, 60, 61, 452, 453, 454, 455, 122, 123, 34, 518, 519, 520, 521, 33, 32, 31, 208, 209, 210, 27, 211, 98, 96, 212, 65, 66, 15, 67, 40, 56, 57, 213, 214, 215, 84, 216, 91, 522, 523, 524, 525, 99, 280, 281, 282, 283, 284, 285, 286, 287, 526, 527, 528, 529, 278, 279, 292, 293, 294, 295, 530, 52, 53, 54, 55, 58, 59, 62, 63, 300, 263, 264, 265, 266, 267, 268, 269, 270, 271, 272, 273, 41, 51, 301, 302, 303, 304, 305, 306, 307, 308, 309, 310, 311, 312, 313, 314, 315, 316, 317, 393, 394, 395, 396, 397, 357, 358, 359, 360, 361, 362, 398, 503, 504, 505, 506, 130, 487, 638, 639, 640, 641, 642, 643, 644, 645, 646, 677, 678, 679, 662, 663, 664, 680] (by decide +kernel) (by decide +kernel)) (goodIn_sub (fun _ h => List.mem_append_left _ (List.mem_append_right _ h)) (by decide +kernel))) (goodIn_sub (fun _ h => List.mem_append_left _ (List.mem_append_left _ (List.mem_append_right _ h))) (by decide +kernel))
set_option maxRecDepth 20000 in
theorem gL_law_L_beliefAnew : GoodIn wsL_law (va_wsS RL 118 yL_beliefAnew wsL_beliefAnew) := goodIn_app (goodIn_of _ (by decide +kernel)) ggL_law_L_beliefAnew
set_option maxRecDepth 20000 in
theorem ggL_law_X6_beliefAnew : GoodIn wsL_law wsX6_beliefAnew := goodIn_r _ [534, 144, 110, 145, 146, 5, 147, 148, 149, 150, 155, 156, 157, 158, 159, 647, 648, 649, 650, 651, 652, 653, 654, 655, 656, 657, 658, 659, 660, 661] (by decide +kernel) (by decide +kernel)
set_option maxRecDepth 20000 in
theorem gL_law_X6_beliefAnew : GoodIn wsL_law (wsV RL 120 RX6 yX6_beliefAnew wsX6_beliefAnew) := goodIn_app (goodIn_of _ (by decide +kernel)) ggL_law_X6_beliefAnew
set_option maxRecDepth 20000 in
theorem ggL_law_L_mode : GoodIn wsL_law wsL_mode := goodIn_ca (goodIn_r _ [537, 117, 538, 539, 540, 2, 541, 452, 453, 454, 455, 122, 123, 34, 542, 543, 544, 545, 24, 28, 486, 378, 379, 23, 380, 85, 86, 79, 381, 289, 290, 84, 291, 91, 382, 297, 298, 299, 56, 57, 503, 504, 505, 27, 506, 98, 546, 547, 548, 549, 550, 307, 308, 309, 310, 311, 268, 312, 638, 639, 640, 641, 642, 643, 644, 645, 646, 666, 667, 668, 669, 670, 671, 672, 673, 674, 675, 676, 680, 677, 678, 679] (by decide +kernel) (by decide +kernel)) (goodIn_sub (fun _ h => List.mem_append_left _ (List.mem_append_left _ (List.mem_append_right _ h))) (by decide +kernel))
set_option maxRecDepth 20000 in
theorem gL_law_L_mode : GoodIn wsL_law (va_wsS RL 121 yL_mode wsL_mode) := goodIn_app (goodIn_of _ (by decide +kernel)) ggL_law_L_mode
set_option maxRecDepth 20000 in
theorem ggL_law_X6_mode : GoodIn wsL_law wsX6_mode := goodIn_r _ [554, 144, 155, 156, 157, 5, 158, 159, 555, 556, 557, 558, 110, 492, 493, 494, 495, 221, 107, 647, 648, 649, 650, 651, 652, 653, 654, 655, 656, 657, 658, 659, 660, 661] (by decide +kernel) (by decide +kernel)
set_option maxRecDepth 20000 in
theorem gL_law_X6_mode : GoodIn wsL_law (wsV RL 124 RX6 yX6_mode wsX6_mode) := goodIn_app (goodIn_of _ (by decide +kernel)) ggL_law_X6_mode
set_option maxRecDepth 20000 in
theorem ggL_law_L_mean : GoodIn wsL_law wsL_mean := goodIn_ca (goodIn_r _ [561, 117, 562, 563, 564, 2, 565, 566, 452, 453, 454, 455, 122, 123, 34, 542, 543, 544, 545, 24, 28, 486, 378, 379, 23, 380, 85, 86, 79, 381, 289, 290, 84, 291, 91, 382, 297, 298, 299, 56, 57, 503, 504, 505, 27, 506, 98, 567, 568, 569, 570, 571, 572, 573, 574, 575, 576, 577, 578, 579, 363, 364, 638, 639, 640, 641, 642, 643, 644, 645, 646, 666, 667, 668, 669, 670, 671, 672, 673, 674, 675, 676, 680, 677, 678, 679] (by decide +kernel) (by decide +kernel)) (goodIn_sub (fun _ h => List.mem_append_left _ (List.mem_append_left _ (List.mem_append_right _ h))) (by decide +kernel))
set_option maxRecDepth 20000 in
theorem gL_law_L_mean : GoodIn wsL_law (va_wsS RL 125 yL_mean wsL_mean) := goodIn_app (goodIn_of _ (by decide +kernel)) ggL_law_L_mean
set_option maxRecDepth 20000 in
theorem ggL_law_X6_mean : GoodIn wsL_law wsX6_mean := goodIn_r _ [583, 144, 584, 155, 156, 157, 5, 158, 159, 555, 556, 557, 558, 110, 492, 493, 494, 495, 221, 107, 647, 648, 649, 650, 651, 652, 653, 654, 655, 656, 657, 658, 659, 660, 661] (by decide +kernel) (by decide +kernel)
set_option maxRecDepth 20000 in
theorem gL_law_X6_mean : GoodIn wsL_law (wsV RL 128 RX6 yX6_mean wsX6_mean) := goodIn_app (goodIn_of _ (by decide +kernel)) ggL_law_X6_mean
set_option maxRecDepth 20000 in
theorem ggL_law_L_share : GoodIn wsL_law wsL_share := goodIn_ca (goodIn_ca (goodIn_ca (goodIn_r _ [587, 116, 167, 117, 588, 589, 590, 2, 591, 172, 173, 592, 124, 125, 126, 127, 128, 129, 60, 61, 452, 453, 454, 455, 122, 123, 34, 542, 543, 544, 545, 24, 28, 486, 378, 379, 23, 380, 85, 86, 79, 381, 289, 290, 84, 291, 91, 382, 297, 298, 299, 56, 57, 503, 504, 505, 27, 506, 98, 593, 576, 577, 578, 571, 572, 573, 574, 575, 579, 363, 364, 638, 639, 640, 641, 642, 643, 644, 645, 646, 666, 667, 668, 669, 670, 671, 672, 673, 674, 675, 676, 680, 677, 678, 679] (by decide +kernel) (by decide +kernel)) (goodIn_sub (fun _ h => List.mem_append_right _ h) (by decide +kernel))) (goodIn_sub (fun _ h => List.mem_append_left _ (List.mem_append_right _ h)) (by decide +kernel))) (goodIn_sub (fun _ h => List.mem_append_left _ (List.mem_append_left _ (List.mem_append_right _ h))) (by decide +kernel))
set_option maxRecDepth 20000 in
theorem gL_law_L_share : GoodIn wsL_law (va_wsS RL 129 yL_share wsL_share) := goodIn_app (goodIn_of _ (by decide +kernel)) ggL_law_L_share
set_option maxRecDepth 20000 in
theorem ggL_law_X6_share : GoodIn wsL_law wsX6_share := goodIn_r _ [597, 144, 598, 145, 146, 5, 147, 148, 149, 150, 155, 156, 157, 158, 159, 555, 556, 557, 558, 110, 492, 493, 494, 495, 221, 107, 647, 648, 649, 650, 651, 652, 653, 654, 655, 656, 657, 658, 659, 660, 661] (by decide +kernel) (by decide +kernel)
set_option maxRecDepth 20000 in
theorem gL_law_X6_share : GoodIn wsL_law (wsV RL 132 RX6 yX6_share wsX6_share) := goodIn_app (goodIn_of _ (by decide +kernel)) ggL_law_X6_share
set_option maxRecDepth 20000 in
theorem ggL_law_L_best : GoodIn wsL_law wsL_best := goodIn_ca (goodIn_ca (goodIn_r _ [601, 116, 117, 602, 603, 604, 2, 605, 127, 128, 28, 452, 453, 454, 455, 122, 123, 34, 503, 504, 505, 27, 506, 98, 606, 607, 608, 84, 609, 91, 610, 611, 612, 613, 614, 293, 294, 295, 56, 57, 638, 639, 640, 641, 642, 643, 644, 645, 646, 677, 678, 679, 680] (by decide +kernel) (by decide +kernel)) (goodIn_sub (fun _ h => List.mem_append_left _ (List.mem_append_right _ h)) (by decide +kernel))) (goodIn_sub (fun _ h => List.mem_append_left _ (List.mem_append_left _ (List.mem_append_right _ h))) (by decide +kernel))
set_option maxRecDepth 20000 in
theorem gL_law_L_best : GoodIn wsL_law (va_wsS RL 133 yL_best wsL_best) := goodIn_app (goodIn_of _ (by decide +kernel)) ggL_law_L_best
set_option maxRecDepth 20000 in
theorem ggL_law_X6_best : GoodIn wsL_law wsX6_best := goodIn_r _ [618, 144, 110, 155, 156, 157, 5, 158, 159, 619, 620, 621, 622, 647, 648, 649, 650, 651, 652, 653, 654, 655, 656, 657, 658, 659, 660, 661] (by decide +kernel) (by decide +kernel)
set_option maxRecDepth 20000 in
theorem gL_law_X6_best : GoodIn wsL_law (wsV RL 135 RX6 yX6_best wsX6_best) := goodIn_app (goodIn_of _ (by decide +kernel)) ggL_law_X6_best
set_option maxRecDepth 20000 in
theorem ggL_law_L_doubt : GoodIn wsL_law wsL_doubt := goodIn_ca (goodIn_r _ [625, 117, 626, 627, 628, 2, 629, 24, 452, 453, 454, 455, 122, 123, 34, 630, 631, 632, 23, 633, 198, 638, 639, 640, 641, 642, 643, 644, 645, 646, 666, 667, 668, 669, 670, 671, 672, 673, 674, 675, 676] (by decide +kernel) (by decide +kernel)) (goodIn_sub (fun _ h => List.mem_append_left _ (List.mem_append_left _ (List.mem_append_right _ h))) (by decide +kernel))
set_option maxRecDepth 20000 in
theorem gL_law_L_doubt : GoodIn wsL_law (va_wsS RL 136 yL_doubt wsL_doubt) := goodIn_app (goodIn_of _ (by decide +kernel)) ggL_law_L_doubt
set_option maxRecDepth 20000 in
theorem ggL_law_X6_doubt : GoodIn wsL_law wsX6_doubt := goodIn_r _ [637, 144, 224, 155, 156, 157, 5, 158, 159, 647, 648, 649, 650, 651, 652, 653, 654, 655, 656, 657, 658, 659, 660, 661] (by decide +kernel) (by decide +kernel)
set_option maxRecDepth 20000 in
theorem gL_law_X6_doubt : GoodIn wsL_law (wsV RL 138 RX6 yX6_doubt wsX6_doubt) := goodIn_app (goodIn_of _ (by decide +kernel)) ggL_law_X6_doubt
theorem dL_law_0 : decode cL_law 0 = .ok (.new 8, 3) := by decide +kernel
theorem dL_law_3 : decode cL_law 3 = .ok (.dup, 1) := by decide +kernel
theorem dL_law_4 : decode cL_law 4 = .ok (.invokespecial 73, 3) := by decide +kernel
theorem dL_law_7 : decode cL_law 7 = .ok (.astore_n 1, 1) := by decide +kernel
theorem dL_law_8 : decode cL_law 8 = .ok (.new 74, 3) := by decide +kernel
theorem dL_law_11 : decode cL_law 11 = .ok (.dup, 1) := by decide +kernel
theorem dL_law_12 : decode cL_law 12 = .ok (.invokespecial 76, 3) := by decide +kernel
theorem dL_law_15 : decode cL_law 15 = .ok (.astore_n 2, 1) := by decide +kernel
theorem dL_law_16 : decode cL_law 16 = .ok (.iconst 1, 1) := by decide +kernel
theorem dL_law_17 : decode cL_law 17 = .ok (.newarray .long, 2) := by decide +kernel
theorem dL_law_19 : decode cL_law 19 = .ok (.astore_n 3, 1) := by decide +kernel
theorem dL_law_20 : decode cL_law 20 = .ok (.iconst 0, 1) := by decide +kernel
theorem dL_law_21 : decode cL_law 21 = .ok (.istore 4, 2) := by decide +kernel
theorem dL_law_23 : decode cL_law 23 = .ok (.iload 4, 2) := by decide +kernel
theorem dL_law_25 : decode cL_law 25 = .ok (.aload_n 0, 1) := by decide +kernel
theorem dL_law_26 : decode cL_law 26 = .ok (.arraylength, 1) := by decide +kernel
theorem dL_law_27 : decode cL_law 27 = .ok (.bipush 6, 2) := by decide +kernel
theorem dL_law_29 : decode cL_law 29 = .ok (.isub, 1) := by decide +kernel
theorem dL_law_30 : decode cL_law 30 = .ok (.if_icmp .gt 1169, 3) := by decide +kernel
theorem dL_law_33 : decode cL_law 33 = .ok (.aload_n 0, 1) := by decide +kernel
theorem dL_law_34 : decode cL_law 34 = .ok (.iload 4, 2) := by decide +kernel
theorem dL_law_36 : decode cL_law 36 = .ok (.iaload, 1) := by decide +kernel
theorem dL_law_37 : decode cL_law 37 = .ok (.bipush 15, 2) := by decide +kernel
theorem dL_law_39 : decode cL_law 39 = .ok (.iand, 1) := by decide +kernel
theorem dL_law_40 : decode cL_law 40 = .ok (.tableswitch 1153 0 15 #[80, 183, 239, 275, 311, 379, 459, 503, 559, 627, 694, 761, 833, 933, 1053, 1109], 80) := by decide +kernel
theorem dL_law_120 : decode cL_law 120 = .ok (.aload_n 1, 1) := by decide +kernel
theorem dL_law_121 : decode cL_law 121 = .ok (.aload_n 0, 1) := by decide +kernel
theorem dL_law_122 : decode cL_law 122 = .ok (.iload 4, 2) := by decide +kernel
theorem dL_law_124 : decode cL_law 124 = .ok (.iconst 1, 1) := by decide +kernel
theorem dL_law_125 : decode cL_law 125 = .ok (.iadd, 1) := by decide +kernel
theorem dL_law_126 : decode cL_law 126 = .ok (.iaload, 1) := by decide +kernel
theorem dL_law_127 : decode cL_law 127 = .ok (.aload_n 0, 1) := by decide +kernel
theorem dL_law_128 : decode cL_law 128 = .ok (.iload 4, 2) := by decide +kernel
theorem dL_law_130 : decode cL_law 130 = .ok (.iconst 2, 1) := by decide +kernel
theorem dL_law_131 : decode cL_law 131 = .ok (.iadd, 1) := by decide +kernel
theorem dL_law_132 : decode cL_law 132 = .ok (.iaload, 1) := by decide +kernel
theorem dL_law_133 : decode cL_law 133 = .ok (.aload_n 0, 1) := by decide +kernel
theorem dL_law_134 : decode cL_law 134 = .ok (.iload 4, 2) := by decide +kernel
theorem dL_law_136 : decode cL_law 136 = .ok (.iconst 3, 1) := by decide +kernel
theorem dL_law_137 : decode cL_law 137 = .ok (.iadd, 1) := by decide +kernel
theorem dL_law_138 : decode cL_law 138 = .ok (.iaload, 1) := by decide +kernel
theorem dL_law_139 : decode cL_law 139 = .ok (.ifCond .eq 7, 3) := by decide +kernel
theorem dL_law_142 : decode cL_law 142 = .ok (.iconst 1, 1) := by decide +kernel
theorem dL_law_143 : decode cL_law 143 = .ok (.goto 4, 3) := by decide +kernel
theorem dL_law_146 : decode cL_law 146 = .ok (.iconst 0, 1) := by decide +kernel
theorem dL_law_147 : decode cL_law 147 = .ok (.aload_n 3, 1) := by decide +kernel
theorem dL_law_148 : decode cL_law 148 = .ok (.invokestatic 77, 3) := by decide +kernel
theorem dL_law_151 : decode cL_law 151 = .ok (.istore 5, 2) := by decide +kernel
theorem dL_law_153 : decode cL_law 153 = .ok (.aload_n 2, 1) := by decide +kernel
theorem dL_law_154 : decode cL_law 154 = .ok (.aload_n 0, 1) := by decide +kernel
theorem dL_law_155 : decode cL_law 155 = .ok (.iload 4, 2) := by decide +kernel
theorem dL_law_157 : decode cL_law 157 = .ok (.iconst 1, 1) := by decide +kernel
theorem dL_law_158 : decode cL_law 158 = .ok (.iadd, 1) := by decide +kernel
theorem dL_law_159 : decode cL_law 159 = .ok (.iaload, 1) := by decide +kernel
theorem dL_law_160 : decode cL_law 160 = .ok (.aload_n 0, 1) := by decide +kernel
theorem dL_law_161 : decode cL_law 161 = .ok (.iload 4, 2) := by decide +kernel
theorem dL_law_163 : decode cL_law 163 = .ok (.iconst 2, 1) := by decide +kernel
theorem dL_law_164 : decode cL_law 164 = .ok (.iadd, 1) := by decide +kernel
theorem dL_law_165 : decode cL_law 165 = .ok (.iaload, 1) := by decide +kernel
theorem dL_law_166 : decode cL_law 166 = .ok (.aload_n 0, 1) := by decide +kernel
theorem dL_law_167 : decode cL_law 167 = .ok (.iload 4, 2) := by decide +kernel
theorem dL_law_169 : decode cL_law 169 = .ok (.iconst 3, 1) := by decide +kernel
theorem dL_law_170 : decode cL_law 170 = .ok (.iadd, 1) := by decide +kernel
theorem dL_law_171 : decode cL_law 171 = .ok (.iaload, 1) := by decide +kernel
theorem dL_law_172 : decode cL_law 172 = .ok (.ifCond .eq 7, 3) := by decide +kernel
theorem dL_law_175 : decode cL_law 175 = .ok (.iconst 1, 1) := by decide +kernel
theorem dL_law_176 : decode cL_law 176 = .ok (.goto 4, 3) := by decide +kernel
theorem dL_law_179 : decode cL_law 179 = .ok (.iconst 0, 1) := by decide +kernel
theorem dL_law_180 : decode cL_law 180 = .ok (.invokevirtual 82, 3) := by decide +kernel
theorem dL_law_183 : decode cL_law 183 = .ok (.istore 6, 2) := by decide +kernel
theorem dL_law_185 : decode cL_law 185 = .ok (.aload_n 2, 1) := by decide +kernel
theorem dL_law_186 : decode cL_law 186 = .ok (.invokevirtual 83, 3) := by decide +kernel
theorem dL_law_189 : decode cL_law 189 = .ok (.iload 5, 2) := by decide +kernel
theorem dL_law_191 : decode cL_law 191 = .ok (.if_icmp .eq 5, 3) := by decide +kernel
theorem dL_law_194 : decode cL_law 194 = .ok (.iconst 0, 1) := by decide +kernel
theorem dL_law_195 : decode cL_law 195 = .ok (.ireturn, 1) := by decide +kernel
theorem dL_law_196 : decode cL_law 196 = .ok (.iload 5, 2) := by decide +kernel
theorem dL_law_198 : decode cL_law 198 = .ok (.ifCond .ne 22, 3) := by decide +kernel
theorem dL_law_201 : decode cL_law 201 = .ok (.aload_n 3, 1) := by decide +kernel
theorem dL_law_202 : decode cL_law 202 = .ok (.iconst 0, 1) := by decide +kernel
theorem dL_law_203 : decode cL_law 203 = .ok (.laload, 1) := by decide +kernel
theorem dL_law_204 : decode cL_law 204 = .ok (.iload 6, 2) := by decide +kernel
theorem dL_law_206 : decode cL_law 206 = .ok (.ifCond .eq 7, 3) := by decide +kernel
theorem dL_law_209 : decode cL_law 209 = .ok (.lconst 1, 1) := by decide +kernel
theorem dL_law_210 : decode cL_law 210 = .ok (.goto 4, 3) := by decide +kernel
theorem dL_law_213 : decode cL_law 213 = .ok (.lconst 0, 1) := by decide +kernel
theorem dL_law_214 : decode cL_law 214 = .ok (.lcmp, 1) := by decide +kernel
theorem dL_law_215 : decode cL_law 215 = .ok (.ifCond .eq 5, 3) := by decide +kernel
theorem dL_law_218 : decode cL_law 218 = .ok (.iconst 0, 1) := by decide +kernel
theorem dL_law_219 : decode cL_law 219 = .ok (.ireturn, 1) := by decide +kernel
theorem dL_law_220 : decode cL_law 220 = .ok (.goto 973, 3) := by decide +kernel
theorem dL_law_223 : decode cL_law 223 = .ok (.aload_n 1, 1) := by decide +kernel
theorem dL_law_224 : decode cL_law 224 = .ok (.aload_n 0, 1) := by decide +kernel
theorem dL_law_225 : decode cL_law 225 = .ok (.iload 4, 2) := by decide +kernel
theorem dL_law_227 : decode cL_law 227 = .ok (.iconst 1, 1) := by decide +kernel
theorem dL_law_228 : decode cL_law 228 = .ok (.iadd, 1) := by decide +kernel
theorem dL_law_229 : decode cL_law 229 = .ok (.iaload, 1) := by decide +kernel
theorem dL_law_230 : decode cL_law 230 = .ok (.aload_n 3, 1) := by decide +kernel
theorem dL_law_231 : decode cL_law 231 = .ok (.invokestatic 86, 3) := by decide +kernel
theorem dL_law_234 : decode cL_law 234 = .ok (.istore 5, 2) := by decide +kernel
theorem dL_law_236 : decode cL_law 236 = .ok (.aload_n 2, 1) := by decide +kernel
theorem dL_law_237 : decode cL_law 237 = .ok (.aload_n 0, 1) := by decide +kernel
theorem dL_law_238 : decode cL_law 238 = .ok (.iload 4, 2) := by decide +kernel
theorem dL_law_240 : decode cL_law 240 = .ok (.iconst 1, 1) := by decide +kernel
theorem dL_law_241 : decode cL_law 241 = .ok (.iadd, 1) := by decide +kernel
theorem dL_law_242 : decode cL_law 242 = .ok (.iaload, 1) := by decide +kernel
theorem dL_law_243 : decode cL_law 243 = .ok (.invokevirtual 89, 3) := by decide +kernel
theorem dL_law_246 : decode cL_law 246 = .ok (.istore 6, 2) := by decide +kernel
theorem dL_law_248 : decode cL_law 248 = .ok (.aload_n 2, 1) := by decide +kernel
theorem dL_law_249 : decode cL_law 249 = .ok (.invokevirtual 83, 3) := by decide +kernel
theorem dL_law_252 : decode cL_law 252 = .ok (.iload 5, 2) := by decide +kernel
theorem dL_law_254 : decode cL_law 254 = .ok (.if_icmp .eq 5, 3) := by decide +kernel
theorem dL_law_257 : decode cL_law 257 = .ok (.iconst 0, 1) := by decide +kernel
theorem dL_law_258 : decode cL_law 258 = .ok (.ireturn, 1) := by decide +kernel
theorem dL_law_259 : decode cL_law 259 = .ok (.iload 5, 2) := by decide +kernel
theorem dL_law_261 : decode cL_law 261 = .ok (.ifCond .ne 15, 3) := by decide +kernel
theorem dL_law_264 : decode cL_law 264 = .ok (.aload_n 3, 1) := by decide +kernel
theorem dL_law_265 : decode cL_law 265 = .ok (.iconst 0, 1) := by decide +kernel
theorem dL_law_266 : decode cL_law 266 = .ok (.laload, 1) := by decide +kernel
theorem dL_law_267 : decode cL_law 267 = .ok (.iload 6, 2) := by decide +kernel
theorem dL_law_269 : decode cL_law 269 = .ok (.i2l, 1) := by decide +kernel
theorem dL_law_270 : decode cL_law 270 = .ok (.lcmp, 1) := by decide +kernel
theorem dL_law_271 : decode cL_law 271 = .ok (.ifCond .eq 5, 3) := by decide +kernel
theorem dL_law_274 : decode cL_law 274 = .ok (.iconst 0, 1) := by decide +kernel
theorem dL_law_275 : decode cL_law 275 = .ok (.ireturn, 1) := by decide +kernel
theorem dL_law_276 : decode cL_law 276 = .ok (.goto 917, 3) := by decide +kernel
theorem dL_law_279 : decode cL_law 279 = .ok (.aload_n 1, 1) := by decide +kernel
theorem dL_law_280 : decode cL_law 280 = .ok (.aload_n 0, 1) := by decide +kernel
theorem dL_law_281 : decode cL_law 281 = .ok (.iload 4, 2) := by decide +kernel
theorem dL_law_283 : decode cL_law 283 = .ok (.iconst 1, 1) := by decide +kernel
theorem dL_law_284 : decode cL_law 284 = .ok (.iadd, 1) := by decide +kernel
theorem dL_law_285 : decode cL_law 285 = .ok (.iaload, 1) := by decide +kernel
theorem dL_law_286 : decode cL_law 286 = .ok (.invokestatic 90, 3) := by decide +kernel
theorem dL_law_289 : decode cL_law 289 = .ok (.istore 5, 2) := by decide +kernel
theorem dL_law_291 : decode cL_law 291 = .ok (.aload_n 2, 1) := by decide +kernel
theorem dL_law_292 : decode cL_law 292 = .ok (.aload_n 0, 1) := by decide +kernel
theorem dL_law_293 : decode cL_law 293 = .ok (.iload 4, 2) := by decide +kernel
theorem dL_law_295 : decode cL_law 295 = .ok (.iconst 1, 1) := by decide +kernel
theorem dL_law_296 : decode cL_law 296 = .ok (.iadd, 1) := by decide +kernel
theorem dL_law_297 : decode cL_law 297 = .ok (.iaload, 1) := by decide +kernel
theorem dL_law_298 : decode cL_law 298 = .ok (.invokevirtual 93, 3) := by decide +kernel
theorem dL_law_301 : decode cL_law 301 = .ok (.aload_n 2, 1) := by decide +kernel
theorem dL_law_302 : decode cL_law 302 = .ok (.invokevirtual 83, 3) := by decide +kernel
theorem dL_law_305 : decode cL_law 305 = .ok (.iload 5, 2) := by decide +kernel
theorem dL_law_307 : decode cL_law 307 = .ok (.if_icmp .eq 5, 3) := by decide +kernel
theorem dL_law_310 : decode cL_law 310 = .ok (.iconst 0, 1) := by decide +kernel
theorem dL_law_311 : decode cL_law 311 = .ok (.ireturn, 1) := by decide +kernel
theorem dL_law_312 : decode cL_law 312 = .ok (.goto 881, 3) := by decide +kernel
theorem dL_law_315 : decode cL_law 315 = .ok (.aload_n 1, 1) := by decide +kernel
theorem dL_law_316 : decode cL_law 316 = .ok (.aload_n 0, 1) := by decide +kernel
theorem dL_law_317 : decode cL_law 317 = .ok (.iload 4, 2) := by decide +kernel
theorem dL_law_319 : decode cL_law 319 = .ok (.iconst 1, 1) := by decide +kernel
theorem dL_law_320 : decode cL_law 320 = .ok (.iadd, 1) := by decide +kernel
theorem dL_law_321 : decode cL_law 321 = .ok (.iaload, 1) := by decide +kernel
theorem dL_law_322 : decode cL_law 322 = .ok (.invokestatic 94, 3) := by decide +kernel
theorem dL_law_325 : decode cL_law 325 = .ok (.istore 5, 2) := by decide +kernel
theorem dL_law_327 : decode cL_law 327 = .ok (.aload_n 2, 1) := by decide +kernel
theorem dL_law_328 : decode cL_law 328 = .ok (.aload_n 0, 1) := by decide +kernel
theorem dL_law_329 : decode cL_law 329 = .ok (.iload 4, 2) := by decide +kernel
theorem dL_law_331 : decode cL_law 331 = .ok (.iconst 1, 1) := by decide +kernel
theorem dL_law_332 : decode cL_law 332 = .ok (.iadd, 1) := by decide +kernel
theorem dL_law_333 : decode cL_law 333 = .ok (.iaload, 1) := by decide +kernel
theorem dL_law_334 : decode cL_law 334 = .ok (.invokevirtual 96, 3) := by decide +kernel
theorem dL_law_337 : decode cL_law 337 = .ok (.aload_n 2, 1) := by decide +kernel
theorem dL_law_338 : decode cL_law 338 = .ok (.invokevirtual 83, 3) := by decide +kernel
theorem dL_law_341 : decode cL_law 341 = .ok (.iload 5, 2) := by decide +kernel
theorem dL_law_343 : decode cL_law 343 = .ok (.if_icmp .eq 5, 3) := by decide +kernel
theorem dL_law_346 : decode cL_law 346 = .ok (.iconst 0, 1) := by decide +kernel
theorem dL_law_347 : decode cL_law 347 = .ok (.ireturn, 1) := by decide +kernel
theorem dL_law_348 : decode cL_law 348 = .ok (.goto 845, 3) := by decide +kernel
theorem dL_law_351 : decode cL_law 351 = .ok (.aload_n 1, 1) := by decide +kernel
theorem dL_law_352 : decode cL_law 352 = .ok (.aload_n 0, 1) := by decide +kernel
theorem dL_law_353 : decode cL_law 353 = .ok (.iload 4, 2) := by decide +kernel
theorem dL_law_355 : decode cL_law 355 = .ok (.iconst 1, 1) := by decide +kernel
theorem dL_law_356 : decode cL_law 356 = .ok (.iadd, 1) := by decide +kernel
theorem dL_law_357 : decode cL_law 357 = .ok (.iaload, 1) := by decide +kernel
theorem dL_law_358 : decode cL_law 358 = .ok (.aload_n 0, 1) := by decide +kernel
theorem dL_law_359 : decode cL_law 359 = .ok (.iload 4, 2) := by decide +kernel
theorem dL_law_361 : decode cL_law 361 = .ok (.iconst 2, 1) := by decide +kernel
theorem dL_law_362 : decode cL_law 362 = .ok (.iadd, 1) := by decide +kernel
theorem dL_law_363 : decode cL_law 363 = .ok (.iaload, 1) := by decide +kernel
theorem dL_law_364 : decode cL_law 364 = .ok (.aload_n 3, 1) := by decide +kernel
theorem dL_law_365 : decode cL_law 365 = .ok (.invokestatic 97, 3) := by decide +kernel
theorem dL_law_368 : decode cL_law 368 = .ok (.istore 5, 2) := by decide +kernel
theorem dL_law_370 : decode cL_law 370 = .ok (.aload_n 2, 1) := by decide +kernel
theorem dL_law_371 : decode cL_law 371 = .ok (.aload_n 0, 1) := by decide +kernel
theorem dL_law_372 : decode cL_law 372 = .ok (.iload 4, 2) := by decide +kernel
theorem dL_law_374 : decode cL_law 374 = .ok (.iconst 1, 1) := by decide +kernel
theorem dL_law_375 : decode cL_law 375 = .ok (.iadd, 1) := by decide +kernel
theorem dL_law_376 : decode cL_law 376 = .ok (.iaload, 1) := by decide +kernel
theorem dL_law_377 : decode cL_law 377 = .ok (.aload_n 0, 1) := by decide +kernel
theorem dL_law_378 : decode cL_law 378 = .ok (.iload 4, 2) := by decide +kernel
theorem dL_law_380 : decode cL_law 380 = .ok (.iconst 2, 1) := by decide +kernel
theorem dL_law_381 : decode cL_law 381 = .ok (.iadd, 1) := by decide +kernel
theorem dL_law_382 : decode cL_law 382 = .ok (.iaload, 1) := by decide +kernel
theorem dL_law_383 : decode cL_law 383 = .ok (.invokevirtual 100, 3) := by decide +kernel
theorem dL_law_386 : decode cL_law 386 = .ok (.istore 6, 2) := by decide +kernel
theorem dL_law_388 : decode cL_law 388 = .ok (.aload_n 2, 1) := by decide +kernel
theorem dL_law_389 : decode cL_law 389 = .ok (.invokevirtual 83, 3) := by decide +kernel
theorem dL_law_392 : decode cL_law 392 = .ok (.iload 5, 2) := by decide +kernel
theorem dL_law_394 : decode cL_law 394 = .ok (.if_icmp .eq 5, 3) := by decide +kernel
theorem dL_law_397 : decode cL_law 397 = .ok (.iconst 0, 1) := by decide +kernel
theorem dL_law_398 : decode cL_law 398 = .ok (.ireturn, 1) := by decide +kernel
theorem dL_law_399 : decode cL_law 399 = .ok (.iload 5, 2) := by decide +kernel
theorem dL_law_401 : decode cL_law 401 = .ok (.ifCond .ne 15, 3) := by decide +kernel
theorem dL_law_404 : decode cL_law 404 = .ok (.aload_n 3, 1) := by decide +kernel
theorem dL_law_405 : decode cL_law 405 = .ok (.iconst 0, 1) := by decide +kernel
theorem dL_law_406 : decode cL_law 406 = .ok (.laload, 1) := by decide +kernel
theorem dL_law_407 : decode cL_law 407 = .ok (.iload 6, 2) := by decide +kernel
theorem dL_law_409 : decode cL_law 409 = .ok (.i2l, 1) := by decide +kernel
theorem dL_law_410 : decode cL_law 410 = .ok (.lcmp, 1) := by decide +kernel
theorem dL_law_411 : decode cL_law 411 = .ok (.ifCond .eq 5, 3) := by decide +kernel
theorem dL_law_414 : decode cL_law 414 = .ok (.iconst 0, 1) := by decide +kernel
theorem dL_law_415 : decode cL_law 415 = .ok (.ireturn, 1) := by decide +kernel
theorem dL_law_416 : decode cL_law 416 = .ok (.goto 777, 3) := by decide +kernel
theorem dL_law_419 : decode cL_law 419 = .ok (.aload_n 1, 1) := by decide +kernel
theorem dL_law_420 : decode cL_law 420 = .ok (.aload_n 0, 1) := by decide +kernel
theorem dL_law_421 : decode cL_law 421 = .ok (.iload 4, 2) := by decide +kernel
theorem dL_law_423 : decode cL_law 423 = .ok (.iconst 1, 1) := by decide +kernel
theorem dL_law_424 : decode cL_law 424 = .ok (.iadd, 1) := by decide +kernel
theorem dL_law_425 : decode cL_law 425 = .ok (.iaload, 1) := by decide +kernel
theorem dL_law_426 : decode cL_law 426 = .ok (.aload_n 0, 1) := by decide +kernel
theorem dL_law_427 : decode cL_law 427 = .ok (.iload 4, 2) := by decide +kernel
theorem dL_law_429 : decode cL_law 429 = .ok (.iconst 2, 1) := by decide +kernel
theorem dL_law_430 : decode cL_law 430 = .ok (.iadd, 1) := by decide +kernel
theorem dL_law_431 : decode cL_law 431 = .ok (.iaload, 1) := by decide +kernel
theorem dL_law_432 : decode cL_law 432 = .ok (.aload_n 0, 1) := by decide +kernel
theorem dL_law_433 : decode cL_law 433 = .ok (.iload 4, 2) := by decide +kernel
theorem dL_law_435 : decode cL_law 435 = .ok (.iconst 3, 1) := by decide +kernel
theorem dL_law_436 : decode cL_law 436 = .ok (.iadd, 1) := by decide +kernel
theorem dL_law_437 : decode cL_law 437 = .ok (.iaload, 1) := by decide +kernel
theorem dL_law_438 : decode cL_law 438 = .ok (.aload_n 3, 1) := by decide +kernel
theorem dL_law_439 : decode cL_law 439 = .ok (.invokestatic 101, 3) := by decide +kernel
theorem dL_law_442 : decode cL_law 442 = .ok (.istore 5, 2) := by decide +kernel
theorem dL_law_444 : decode cL_law 444 = .ok (.aload_n 2, 1) := by decide +kernel
theorem dL_law_445 : decode cL_law 445 = .ok (.aload_n 0, 1) := by decide +kernel
theorem dL_law_446 : decode cL_law 446 = .ok (.iload 4, 2) := by decide +kernel
theorem dL_law_448 : decode cL_law 448 = .ok (.iconst 1, 1) := by decide +kernel
theorem dL_law_449 : decode cL_law 449 = .ok (.iadd, 1) := by decide +kernel
theorem dL_law_450 : decode cL_law 450 = .ok (.iaload, 1) := by decide +kernel
theorem dL_law_451 : decode cL_law 451 = .ok (.aload_n 0, 1) := by decide +kernel
theorem dL_law_452 : decode cL_law 452 = .ok (.iload 4, 2) := by decide +kernel
theorem dL_law_454 : decode cL_law 454 = .ok (.iconst 2, 1) := by decide +kernel
theorem dL_law_455 : decode cL_law 455 = .ok (.iadd, 1) := by decide +kernel
theorem dL_law_456 : decode cL_law 456 = .ok (.iaload, 1) := by decide +kernel
theorem dL_law_457 : decode cL_law 457 = .ok (.aload_n 0, 1) := by decide +kernel
theorem dL_law_458 : decode cL_law 458 = .ok (.iload 4, 2) := by decide +kernel
theorem dL_law_460 : decode cL_law 460 = .ok (.iconst 3, 1) := by decide +kernel
theorem dL_law_461 : decode cL_law 461 = .ok (.iadd, 1) := by decide +kernel
theorem dL_law_462 : decode cL_law 462 = .ok (.iaload, 1) := by decide +kernel
theorem dL_law_463 : decode cL_law 463 = .ok (.invokevirtual 104, 3) := by decide +kernel
theorem dL_law_466 : decode cL_law 466 = .ok (.istore 6, 2) := by decide +kernel
theorem dL_law_468 : decode cL_law 468 = .ok (.aload_n 2, 1) := by decide +kernel
theorem dL_law_469 : decode cL_law 469 = .ok (.invokevirtual 83, 3) := by decide +kernel
theorem dL_law_472 : decode cL_law 472 = .ok (.iload 5, 2) := by decide +kernel
theorem dL_law_474 : decode cL_law 474 = .ok (.if_icmp .eq 5, 3) := by decide +kernel
theorem dL_law_477 : decode cL_law 477 = .ok (.iconst 0, 1) := by decide +kernel
theorem dL_law_478 : decode cL_law 478 = .ok (.ireturn, 1) := by decide +kernel
theorem dL_law_479 : decode cL_law 479 = .ok (.iload 5, 2) := by decide +kernel
theorem dL_law_481 : decode cL_law 481 = .ok (.ifCond .ne 15, 3) := by decide +kernel
theorem dL_law_484 : decode cL_law 484 = .ok (.aload_n 3, 1) := by decide +kernel
theorem dL_law_485 : decode cL_law 485 = .ok (.iconst 0, 1) := by decide +kernel
theorem dL_law_486 : decode cL_law 486 = .ok (.laload, 1) := by decide +kernel
theorem dL_law_487 : decode cL_law 487 = .ok (.iload 6, 2) := by decide +kernel
theorem dL_law_489 : decode cL_law 489 = .ok (.i2l, 1) := by decide +kernel
theorem dL_law_490 : decode cL_law 490 = .ok (.lcmp, 1) := by decide +kernel
theorem dL_law_491 : decode cL_law 491 = .ok (.ifCond .eq 5, 3) := by decide +kernel
theorem dL_law_494 : decode cL_law 494 = .ok (.iconst 0, 1) := by decide +kernel
theorem dL_law_495 : decode cL_law 495 = .ok (.ireturn, 1) := by decide +kernel
theorem dL_law_496 : decode cL_law 496 = .ok (.goto 697, 3) := by decide +kernel
theorem dL_law_499 : decode cL_law 499 = .ok (.aload_n 1, 1) := by decide +kernel
theorem dL_law_500 : decode cL_law 500 = .ok (.aload_n 3, 1) := by decide +kernel
theorem dL_law_501 : decode cL_law 501 = .ok (.invokestatic 105, 3) := by decide +kernel
theorem dL_law_504 : decode cL_law 504 = .ok (.istore 5, 2) := by decide +kernel
theorem dL_law_506 : decode cL_law 506 = .ok (.aload_n 2, 1) := by decide +kernel
theorem dL_law_507 : decode cL_law 507 = .ok (.invokevirtual 108, 3) := by decide +kernel
theorem dL_law_510 : decode cL_law 510 = .ok (.istore 6, 2) := by decide +kernel
theorem dL_law_512 : decode cL_law 512 = .ok (.aload_n 2, 1) := by decide +kernel
theorem dL_law_513 : decode cL_law 513 = .ok (.invokevirtual 83, 3) := by decide +kernel
theorem dL_law_516 : decode cL_law 516 = .ok (.iload 5, 2) := by decide +kernel
theorem dL_law_518 : decode cL_law 518 = .ok (.if_icmp .eq 5, 3) := by decide +kernel
theorem dL_law_521 : decode cL_law 521 = .ok (.iconst 0, 1) := by decide +kernel
theorem dL_law_522 : decode cL_law 522 = .ok (.ireturn, 1) := by decide +kernel
theorem dL_law_523 : decode cL_law 523 = .ok (.iload 5, 2) := by decide +kernel
theorem dL_law_525 : decode cL_law 525 = .ok (.ifCond .ne 15, 3) := by decide +kernel
theorem dL_law_528 : decode cL_law 528 = .ok (.aload_n 3, 1) := by decide +kernel
theorem dL_law_529 : decode cL_law 529 = .ok (.iconst 0, 1) := by decide +kernel
theorem dL_law_530 : decode cL_law 530 = .ok (.laload, 1) := by decide +kernel
theorem dL_law_531 : decode cL_law 531 = .ok (.iload 6, 2) := by decide +kernel
theorem dL_law_533 : decode cL_law 533 = .ok (.i2l, 1) := by decide +kernel
theorem dL_law_534 : decode cL_law 534 = .ok (.lcmp, 1) := by decide +kernel
theorem dL_law_535 : decode cL_law 535 = .ok (.ifCond .eq 5, 3) := by decide +kernel
theorem dL_law_538 : decode cL_law 538 = .ok (.iconst 0, 1) := by decide +kernel
theorem dL_law_539 : decode cL_law 539 = .ok (.ireturn, 1) := by decide +kernel
theorem dL_law_540 : decode cL_law 540 = .ok (.goto 653, 3) := by decide +kernel
theorem dL_law_543 : decode cL_law 543 = .ok (.aload_n 1, 1) := by decide +kernel
theorem dL_law_544 : decode cL_law 544 = .ok (.aload_n 0, 1) := by decide +kernel
theorem dL_law_545 : decode cL_law 545 = .ok (.iload 4, 2) := by decide +kernel
theorem dL_law_547 : decode cL_law 547 = .ok (.iconst 1, 1) := by decide +kernel
theorem dL_law_548 : decode cL_law 548 = .ok (.iadd, 1) := by decide +kernel
theorem dL_law_549 : decode cL_law 549 = .ok (.iaload, 1) := by decide +kernel
theorem dL_law_550 : decode cL_law 550 = .ok (.aload_n 3, 1) := by decide +kernel
theorem dL_law_551 : decode cL_law 551 = .ok (.invokestatic 109, 3) := by decide +kernel
theorem dL_law_554 : decode cL_law 554 = .ok (.istore 5, 2) := by decide +kernel
theorem dL_law_556 : decode cL_law 556 = .ok (.aload_n 2, 1) := by decide +kernel
theorem dL_law_557 : decode cL_law 557 = .ok (.aload_n 0, 1) := by decide +kernel
theorem dL_law_558 : decode cL_law 558 = .ok (.iload 4, 2) := by decide +kernel
theorem dL_law_560 : decode cL_law 560 = .ok (.iconst 1, 1) := by decide +kernel
theorem dL_law_561 : decode cL_law 561 = .ok (.iadd, 1) := by decide +kernel
theorem dL_law_562 : decode cL_law 562 = .ok (.iaload, 1) := by decide +kernel
theorem dL_law_563 : decode cL_law 563 = .ok (.invokevirtual 111, 3) := by decide +kernel
theorem dL_law_566 : decode cL_law 566 = .ok (.istore 6, 2) := by decide +kernel
theorem dL_law_568 : decode cL_law 568 = .ok (.aload_n 2, 1) := by decide +kernel
theorem dL_law_569 : decode cL_law 569 = .ok (.invokevirtual 83, 3) := by decide +kernel
theorem dL_law_572 : decode cL_law 572 = .ok (.iload 5, 2) := by decide +kernel
theorem dL_law_574 : decode cL_law 574 = .ok (.if_icmp .eq 5, 3) := by decide +kernel
theorem dL_law_577 : decode cL_law 577 = .ok (.iconst 0, 1) := by decide +kernel
theorem dL_law_578 : decode cL_law 578 = .ok (.ireturn, 1) := by decide +kernel
theorem dL_law_579 : decode cL_law 579 = .ok (.iload 5, 2) := by decide +kernel
theorem dL_law_581 : decode cL_law 581 = .ok (.ifCond .ne 15, 3) := by decide +kernel
theorem dL_law_584 : decode cL_law 584 = .ok (.aload_n 3, 1) := by decide +kernel
theorem dL_law_585 : decode cL_law 585 = .ok (.iconst 0, 1) := by decide +kernel
theorem dL_law_586 : decode cL_law 586 = .ok (.laload, 1) := by decide +kernel
theorem dL_law_587 : decode cL_law 587 = .ok (.iload 6, 2) := by decide +kernel
theorem dL_law_589 : decode cL_law 589 = .ok (.i2l, 1) := by decide +kernel
theorem dL_law_590 : decode cL_law 590 = .ok (.lcmp, 1) := by decide +kernel
theorem dL_law_591 : decode cL_law 591 = .ok (.ifCond .eq 5, 3) := by decide +kernel
theorem dL_law_594 : decode cL_law 594 = .ok (.iconst 0, 1) := by decide +kernel
theorem dL_law_595 : decode cL_law 595 = .ok (.ireturn, 1) := by decide +kernel
theorem dL_law_596 : decode cL_law 596 = .ok (.goto 597, 3) := by decide +kernel
theorem dL_law_599 : decode cL_law 599 = .ok (.aload_n 1, 1) := by decide +kernel
theorem dL_law_600 : decode cL_law 600 = .ok (.aload_n 0, 1) := by decide +kernel
theorem dL_law_601 : decode cL_law 601 = .ok (.iload 4, 2) := by decide +kernel
theorem dL_law_603 : decode cL_law 603 = .ok (.iconst 1, 1) := by decide +kernel
theorem dL_law_604 : decode cL_law 604 = .ok (.iadd, 1) := by decide +kernel
theorem dL_law_605 : decode cL_law 605 = .ok (.iaload, 1) := by decide +kernel
theorem dL_law_606 : decode cL_law 606 = .ok (.aload_n 0, 1) := by decide +kernel
theorem dL_law_607 : decode cL_law 607 = .ok (.iload 4, 2) := by decide +kernel
theorem dL_law_609 : decode cL_law 609 = .ok (.iconst 2, 1) := by decide +kernel
theorem dL_law_610 : decode cL_law 610 = .ok (.iadd, 1) := by decide +kernel
theorem dL_law_611 : decode cL_law 611 = .ok (.iaload, 1) := by decide +kernel
theorem dL_law_612 : decode cL_law 612 = .ok (.aload_n 3, 1) := by decide +kernel
theorem dL_law_613 : decode cL_law 613 = .ok (.invokestatic 112, 3) := by decide +kernel
theorem dL_law_616 : decode cL_law 616 = .ok (.istore 5, 2) := by decide +kernel
theorem dL_law_618 : decode cL_law 618 = .ok (.aload_n 2, 1) := by decide +kernel
theorem dL_law_619 : decode cL_law 619 = .ok (.aload_n 0, 1) := by decide +kernel
theorem dL_law_620 : decode cL_law 620 = .ok (.iload 4, 2) := by decide +kernel
theorem dL_law_622 : decode cL_law 622 = .ok (.iconst 1, 1) := by decide +kernel
theorem dL_law_623 : decode cL_law 623 = .ok (.iadd, 1) := by decide +kernel
theorem dL_law_624 : decode cL_law 624 = .ok (.iaload, 1) := by decide +kernel
theorem dL_law_625 : decode cL_law 625 = .ok (.aload_n 0, 1) := by decide +kernel
theorem dL_law_626 : decode cL_law 626 = .ok (.iload 4, 2) := by decide +kernel
theorem dL_law_628 : decode cL_law 628 = .ok (.iconst 2, 1) := by decide +kernel
theorem dL_law_629 : decode cL_law 629 = .ok (.iadd, 1) := by decide +kernel
theorem dL_law_630 : decode cL_law 630 = .ok (.iaload, 1) := by decide +kernel
theorem dL_law_631 : decode cL_law 631 = .ok (.invokevirtual 114, 3) := by decide +kernel
theorem dL_law_634 : decode cL_law 634 = .ok (.istore 6, 2) := by decide +kernel
theorem dL_law_636 : decode cL_law 636 = .ok (.aload_n 2, 1) := by decide +kernel
theorem dL_law_637 : decode cL_law 637 = .ok (.invokevirtual 83, 3) := by decide +kernel
theorem dL_law_640 : decode cL_law 640 = .ok (.iload 5, 2) := by decide +kernel
theorem dL_law_642 : decode cL_law 642 = .ok (.if_icmp .eq 5, 3) := by decide +kernel
theorem dL_law_645 : decode cL_law 645 = .ok (.iconst 0, 1) := by decide +kernel
theorem dL_law_646 : decode cL_law 646 = .ok (.ireturn, 1) := by decide +kernel
theorem dL_law_647 : decode cL_law 647 = .ok (.iload 5, 2) := by decide +kernel
theorem dL_law_649 : decode cL_law 649 = .ok (.ifCond .ne 15, 3) := by decide +kernel
theorem dL_law_652 : decode cL_law 652 = .ok (.aload_n 3, 1) := by decide +kernel
theorem dL_law_653 : decode cL_law 653 = .ok (.iconst 0, 1) := by decide +kernel
theorem dL_law_654 : decode cL_law 654 = .ok (.laload, 1) := by decide +kernel
theorem dL_law_655 : decode cL_law 655 = .ok (.iload 6, 2) := by decide +kernel
theorem dL_law_657 : decode cL_law 657 = .ok (.i2l, 1) := by decide +kernel
theorem dL_law_658 : decode cL_law 658 = .ok (.lcmp, 1) := by decide +kernel
theorem dL_law_659 : decode cL_law 659 = .ok (.ifCond .eq 5, 3) := by decide +kernel
theorem dL_law_662 : decode cL_law 662 = .ok (.iconst 0, 1) := by decide +kernel
theorem dL_law_663 : decode cL_law 663 = .ok (.ireturn, 1) := by decide +kernel
theorem dL_law_664 : decode cL_law 664 = .ok (.goto 529, 3) := by decide +kernel
theorem dL_law_667 : decode cL_law 667 = .ok (.aload_n 1, 1) := by decide +kernel
theorem dL_law_668 : decode cL_law 668 = .ok (.aload_n 0, 1) := by decide +kernel
theorem dL_law_669 : decode cL_law 669 = .ok (.iload 4, 2) := by decide +kernel
theorem dL_law_671 : decode cL_law 671 = .ok (.iconst 1, 1) := by decide +kernel
theorem dL_law_672 : decode cL_law 672 = .ok (.iadd, 1) := by decide +kernel
theorem dL_law_673 : decode cL_law 673 = .ok (.iaload, 1) := by decide +kernel
theorem dL_law_674 : decode cL_law 674 = .ok (.aload_n 0, 1) := by decide +kernel
theorem dL_law_675 : decode cL_law 675 = .ok (.iload 4, 2) := by decide +kernel
theorem dL_law_677 : decode cL_law 677 = .ok (.iconst 2, 1) := by decide +kernel
theorem dL_law_678 : decode cL_law 678 = .ok (.iadd, 1) := by decide +kernel
theorem dL_law_679 : decode cL_law 679 = .ok (.iaload, 1) := by decide +kernel
theorem dL_law_680 : decode cL_law 680 = .ok (.aload_n 3, 1) := by decide +kernel
theorem dL_law_681 : decode cL_law 681 = .ok (.invokestatic 115, 3) := by decide +kernel
theorem dL_law_684 : decode cL_law 684 = .ok (.istore 5, 2) := by decide +kernel
theorem dL_law_686 : decode cL_law 686 = .ok (.aload_n 2, 1) := by decide +kernel
theorem dL_law_687 : decode cL_law 687 = .ok (.aload_n 0, 1) := by decide +kernel
theorem dL_law_688 : decode cL_law 688 = .ok (.iload 4, 2) := by decide +kernel
theorem dL_law_690 : decode cL_law 690 = .ok (.iconst 1, 1) := by decide +kernel
theorem dL_law_691 : decode cL_law 691 = .ok (.iadd, 1) := by decide +kernel
theorem dL_law_692 : decode cL_law 692 = .ok (.iaload, 1) := by decide +kernel
theorem dL_law_693 : decode cL_law 693 = .ok (.aload_n 0, 1) := by decide +kernel
theorem dL_law_694 : decode cL_law 694 = .ok (.iload 4, 2) := by decide +kernel
theorem dL_law_696 : decode cL_law 696 = .ok (.iconst 2, 1) := by decide +kernel
theorem dL_law_697 : decode cL_law 697 = .ok (.iadd, 1) := by decide +kernel
theorem dL_law_698 : decode cL_law 698 = .ok (.iaload, 1) := by decide +kernel
theorem dL_law_699 : decode cL_law 699 = .ok (.invokevirtual 117, 3) := by decide +kernel
theorem dL_law_702 : decode cL_law 702 = .ok (.lstore 6, 2) := by decide +kernel
theorem dL_law_704 : decode cL_law 704 = .ok (.aload_n 2, 1) := by decide +kernel
theorem dL_law_705 : decode cL_law 705 = .ok (.invokevirtual 83, 3) := by decide +kernel
theorem dL_law_708 : decode cL_law 708 = .ok (.iload 5, 2) := by decide +kernel
theorem dL_law_710 : decode cL_law 710 = .ok (.if_icmp .eq 5, 3) := by decide +kernel
theorem dL_law_713 : decode cL_law 713 = .ok (.iconst 0, 1) := by decide +kernel
theorem dL_law_714 : decode cL_law 714 = .ok (.ireturn, 1) := by decide +kernel
theorem dL_law_715 : decode cL_law 715 = .ok (.iload 5, 2) := by decide +kernel
theorem dL_law_717 : decode cL_law 717 = .ok (.ifCond .ne 14, 3) := by decide +kernel
theorem dL_law_720 : decode cL_law 720 = .ok (.aload_n 3, 1) := by decide +kernel
theorem dL_law_721 : decode cL_law 721 = .ok (.iconst 0, 1) := by decide +kernel
theorem dL_law_722 : decode cL_law 722 = .ok (.laload, 1) := by decide +kernel
theorem dL_law_723 : decode cL_law 723 = .ok (.lload 6, 2) := by decide +kernel
theorem dL_law_725 : decode cL_law 725 = .ok (.lcmp, 1) := by decide +kernel
theorem dL_law_726 : decode cL_law 726 = .ok (.ifCond .eq 5, 3) := by decide +kernel
theorem dL_law_729 : decode cL_law 729 = .ok (.iconst 0, 1) := by decide +kernel
theorem dL_law_730 : decode cL_law 730 = .ok (.ireturn, 1) := by decide +kernel
theorem dL_law_731 : decode cL_law 731 = .ok (.goto 462, 3) := by decide +kernel
theorem dL_law_734 : decode cL_law 734 = .ok (.aload_n 1, 1) := by decide +kernel
theorem dL_law_735 : decode cL_law 735 = .ok (.aload_n 0, 1) := by decide +kernel
theorem dL_law_736 : decode cL_law 736 = .ok (.iload 4, 2) := by decide +kernel
theorem dL_law_738 : decode cL_law 738 = .ok (.iconst 1, 1) := by decide +kernel
theorem dL_law_739 : decode cL_law 739 = .ok (.iadd, 1) := by decide +kernel
theorem dL_law_740 : decode cL_law 740 = .ok (.iaload, 1) := by decide +kernel
theorem dL_law_741 : decode cL_law 741 = .ok (.aload_n 0, 1) := by decide +kernel
theorem dL_law_742 : decode cL_law 742 = .ok (.iload 4, 2) := by decide +kernel
theorem dL_law_744 : decode cL_law 744 = .ok (.iconst 2, 1) := by decide +kernel
theorem dL_law_745 : decode cL_law 745 = .ok (.iadd, 1) := by decide +kernel
theorem dL_law_746 : decode cL_law 746 = .ok (.iaload, 1) := by decide +kernel
theorem dL_law_747 : decode cL_law 747 = .ok (.aload_n 3, 1) := by decide +kernel
theorem dL_law_748 : decode cL_law 748 = .ok (.invokestatic 118, 3) := by decide +kernel
theorem dL_law_751 : decode cL_law 751 = .ok (.istore 5, 2) := by decide +kernel
theorem dL_law_753 : decode cL_law 753 = .ok (.aload_n 2, 1) := by decide +kernel
theorem dL_law_754 : decode cL_law 754 = .ok (.aload_n 0, 1) := by decide +kernel
theorem dL_law_755 : decode cL_law 755 = .ok (.iload 4, 2) := by decide +kernel
theorem dL_law_757 : decode cL_law 757 = .ok (.iconst 1, 1) := by decide +kernel
theorem dL_law_758 : decode cL_law 758 = .ok (.iadd, 1) := by decide +kernel
theorem dL_law_759 : decode cL_law 759 = .ok (.iaload, 1) := by decide +kernel
theorem dL_law_760 : decode cL_law 760 = .ok (.aload_n 0, 1) := by decide +kernel
theorem dL_law_761 : decode cL_law 761 = .ok (.iload 4, 2) := by decide +kernel
theorem dL_law_763 : decode cL_law 763 = .ok (.iconst 2, 1) := by decide +kernel
theorem dL_law_764 : decode cL_law 764 = .ok (.iadd, 1) := by decide +kernel
theorem dL_law_765 : decode cL_law 765 = .ok (.iaload, 1) := by decide +kernel
theorem dL_law_766 : decode cL_law 766 = .ok (.invokevirtual 120, 3) := by decide +kernel
theorem dL_law_769 : decode cL_law 769 = .ok (.lstore 6, 2) := by decide +kernel
theorem dL_law_771 : decode cL_law 771 = .ok (.aload_n 2, 1) := by decide +kernel
theorem dL_law_772 : decode cL_law 772 = .ok (.invokevirtual 83, 3) := by decide +kernel
theorem dL_law_775 : decode cL_law 775 = .ok (.iload 5, 2) := by decide +kernel
theorem dL_law_777 : decode cL_law 777 = .ok (.if_icmp .eq 5, 3) := by decide +kernel
theorem dL_law_780 : decode cL_law 780 = .ok (.iconst 0, 1) := by decide +kernel
theorem dL_law_781 : decode cL_law 781 = .ok (.ireturn, 1) := by decide +kernel
theorem dL_law_782 : decode cL_law 782 = .ok (.iload 5, 2) := by decide +kernel
theorem dL_law_784 : decode cL_law 784 = .ok (.ifCond .ne 14, 3) := by decide +kernel
theorem dL_law_787 : decode cL_law 787 = .ok (.aload_n 3, 1) := by decide +kernel
theorem dL_law_788 : decode cL_law 788 = .ok (.iconst 0, 1) := by decide +kernel
theorem dL_law_789 : decode cL_law 789 = .ok (.laload, 1) := by decide +kernel
theorem dL_law_790 : decode cL_law 790 = .ok (.lload 6, 2) := by decide +kernel
theorem dL_law_792 : decode cL_law 792 = .ok (.lcmp, 1) := by decide +kernel
theorem dL_law_793 : decode cL_law 793 = .ok (.ifCond .eq 5, 3) := by decide +kernel
theorem dL_law_796 : decode cL_law 796 = .ok (.iconst 0, 1) := by decide +kernel
theorem dL_law_797 : decode cL_law 797 = .ok (.ireturn, 1) := by decide +kernel
theorem dL_law_798 : decode cL_law 798 = .ok (.goto 395, 3) := by decide +kernel
theorem dL_law_801 : decode cL_law 801 = .ok (.aload_n 1, 1) := by decide +kernel
theorem dL_law_802 : decode cL_law 802 = .ok (.aload_n 0, 1) := by decide +kernel
theorem dL_law_803 : decode cL_law 803 = .ok (.iload 4, 2) := by decide +kernel
theorem dL_law_805 : decode cL_law 805 = .ok (.iconst 1, 1) := by decide +kernel
theorem dL_law_806 : decode cL_law 806 = .ok (.iadd, 1) := by decide +kernel
theorem dL_law_807 : decode cL_law 807 = .ok (.iaload, 1) := by decide +kernel
theorem dL_law_808 : decode cL_law 808 = .ok (.ifCond .eq 7, 3) := by decide +kernel
theorem dL_law_811 : decode cL_law 811 = .ok (.iconst 1, 1) := by decide +kernel
theorem dL_law_812 : decode cL_law 812 = .ok (.goto 4, 3) := by decide +kernel
theorem dL_law_815 : decode cL_law 815 = .ok (.iconst 0, 1) := by decide +kernel
theorem dL_law_816 : decode cL_law 816 = .ok (.aload_n 3, 1) := by decide +kernel
theorem dL_law_817 : decode cL_law 817 = .ok (.invokestatic 121, 3) := by decide +kernel
theorem dL_law_820 : decode cL_law 820 = .ok (.istore 5, 2) := by decide +kernel
theorem dL_law_822 : decode cL_law 822 = .ok (.aload_n 2, 1) := by decide +kernel
theorem dL_law_823 : decode cL_law 823 = .ok (.aload_n 0, 1) := by decide +kernel
theorem dL_law_824 : decode cL_law 824 = .ok (.iload 4, 2) := by decide +kernel
theorem dL_law_826 : decode cL_law 826 = .ok (.iconst 1, 1) := by decide +kernel
theorem dL_law_827 : decode cL_law 827 = .ok (.iadd, 1) := by decide +kernel
theorem dL_law_828 : decode cL_law 828 = .ok (.iaload, 1) := by decide +kernel
theorem dL_law_829 : decode cL_law 829 = .ok (.ifCond .eq 7, 3) := by decide +kernel
theorem dL_law_832 : decode cL_law 832 = .ok (.iconst 1, 1) := by decide +kernel
theorem dL_law_833 : decode cL_law 833 = .ok (.goto 4, 3) := by decide +kernel
theorem dL_law_836 : decode cL_law 836 = .ok (.iconst 0, 1) := by decide +kernel
theorem dL_law_837 : decode cL_law 837 = .ok (.invokevirtual 124, 3) := by decide +kernel
theorem dL_law_840 : decode cL_law 840 = .ok (.istore 6, 2) := by decide +kernel
theorem dL_law_842 : decode cL_law 842 = .ok (.aload_n 2, 1) := by decide +kernel
theorem dL_law_843 : decode cL_law 843 = .ok (.invokevirtual 83, 3) := by decide +kernel
theorem dL_law_846 : decode cL_law 846 = .ok (.iload 5, 2) := by decide +kernel
theorem dL_law_848 : decode cL_law 848 = .ok (.if_icmp .eq 5, 3) := by decide +kernel
theorem dL_law_851 : decode cL_law 851 = .ok (.iconst 0, 1) := by decide +kernel
theorem dL_law_852 : decode cL_law 852 = .ok (.ireturn, 1) := by decide +kernel
theorem dL_law_853 : decode cL_law 853 = .ok (.iload 5, 2) := by decide +kernel
theorem dL_law_855 : decode cL_law 855 = .ok (.ifCond .ne 15, 3) := by decide +kernel
theorem dL_law_858 : decode cL_law 858 = .ok (.aload_n 3, 1) := by decide +kernel
theorem dL_law_859 : decode cL_law 859 = .ok (.iconst 0, 1) := by decide +kernel
theorem dL_law_860 : decode cL_law 860 = .ok (.laload, 1) := by decide +kernel
theorem dL_law_861 : decode cL_law 861 = .ok (.iload 6, 2) := by decide +kernel
theorem dL_law_863 : decode cL_law 863 = .ok (.i2l, 1) := by decide +kernel
theorem dL_law_864 : decode cL_law 864 = .ok (.lcmp, 1) := by decide +kernel
theorem dL_law_865 : decode cL_law 865 = .ok (.ifCond .eq 5, 3) := by decide +kernel
theorem dL_law_868 : decode cL_law 868 = .ok (.iconst 0, 1) := by decide +kernel
theorem dL_law_869 : decode cL_law 869 = .ok (.ireturn, 1) := by decide +kernel
theorem dL_law_870 : decode cL_law 870 = .ok (.goto 323, 3) := by decide +kernel
theorem dL_law_873 : decode cL_law 873 = .ok (.aload_n 1, 1) := by decide +kernel
theorem dL_law_874 : decode cL_law 874 = .ok (.aload_n 0, 1) := by decide +kernel
theorem dL_law_875 : decode cL_law 875 = .ok (.iload 4, 2) := by decide +kernel
theorem dL_law_877 : decode cL_law 877 = .ok (.iconst 1, 1) := by decide +kernel
theorem dL_law_878 : decode cL_law 878 = .ok (.iadd, 1) := by decide +kernel
theorem dL_law_879 : decode cL_law 879 = .ok (.iaload, 1) := by decide +kernel
theorem dL_law_880 : decode cL_law 880 = .ok (.ifCond .eq 7, 3) := by decide +kernel
theorem dL_law_883 : decode cL_law 883 = .ok (.iconst 1, 1) := by decide +kernel
theorem dL_law_884 : decode cL_law 884 = .ok (.goto 4, 3) := by decide +kernel
theorem dL_law_887 : decode cL_law 887 = .ok (.iconst 0, 1) := by decide +kernel
theorem dL_law_888 : decode cL_law 888 = .ok (.aload_n 0, 1) := by decide +kernel
theorem dL_law_889 : decode cL_law 889 = .ok (.iload 4, 2) := by decide +kernel
theorem dL_law_891 : decode cL_law 891 = .ok (.iconst 2, 1) := by decide +kernel
theorem dL_law_892 : decode cL_law 892 = .ok (.iadd, 1) := by decide +kernel
theorem dL_law_893 : decode cL_law 893 = .ok (.iaload, 1) := by decide +kernel
theorem dL_law_894 : decode cL_law 894 = .ok (.ifCond .eq 7, 3) := by decide +kernel
theorem dL_law_897 : decode cL_law 897 = .ok (.iconst 1, 1) := by decide +kernel
theorem dL_law_898 : decode cL_law 898 = .ok (.goto 4, 3) := by decide +kernel
theorem dL_law_901 : decode cL_law 901 = .ok (.iconst 0, 1) := by decide +kernel
theorem dL_law_902 : decode cL_law 902 = .ok (.aload_n 3, 1) := by decide +kernel
theorem dL_law_903 : decode cL_law 903 = .ok (.invokestatic 125, 3) := by decide +kernel
theorem dL_law_906 : decode cL_law 906 = .ok (.istore 5, 2) := by decide +kernel
theorem dL_law_908 : decode cL_law 908 = .ok (.aload_n 2, 1) := by decide +kernel
theorem dL_law_909 : decode cL_law 909 = .ok (.aload_n 0, 1) := by decide +kernel
theorem dL_law_910 : decode cL_law 910 = .ok (.iload 4, 2) := by decide +kernel
theorem dL_law_912 : decode cL_law 912 = .ok (.iconst 1, 1) := by decide +kernel
theorem dL_law_913 : decode cL_law 913 = .ok (.iadd, 1) := by decide +kernel
theorem dL_law_914 : decode cL_law 914 = .ok (.iaload, 1) := by decide +kernel
theorem dL_law_915 : decode cL_law 915 = .ok (.ifCond .eq 7, 3) := by decide +kernel
theorem dL_law_918 : decode cL_law 918 = .ok (.iconst 1, 1) := by decide +kernel
theorem dL_law_919 : decode cL_law 919 = .ok (.goto 4, 3) := by decide +kernel
theorem dL_law_922 : decode cL_law 922 = .ok (.iconst 0, 1) := by decide +kernel
theorem dL_law_923 : decode cL_law 923 = .ok (.aload_n 0, 1) := by decide +kernel
theorem dL_law_924 : decode cL_law 924 = .ok (.iload 4, 2) := by decide +kernel
theorem dL_law_926 : decode cL_law 926 = .ok (.iconst 2, 1) := by decide +kernel
theorem dL_law_927 : decode cL_law 927 = .ok (.iadd, 1) := by decide +kernel
theorem dL_law_928 : decode cL_law 928 = .ok (.iaload, 1) := by decide +kernel
theorem dL_law_929 : decode cL_law 929 = .ok (.ifCond .eq 7, 3) := by decide +kernel
theorem dL_law_932 : decode cL_law 932 = .ok (.iconst 1, 1) := by decide +kernel
theorem dL_law_933 : decode cL_law 933 = .ok (.goto 4, 3) := by decide +kernel
theorem dL_law_936 : decode cL_law 936 = .ok (.iconst 0, 1) := by decide +kernel
theorem dL_law_937 : decode cL_law 937 = .ok (.invokevirtual 128, 3) := by decide +kernel
theorem dL_law_940 : decode cL_law 940 = .ok (.istore 6, 2) := by decide +kernel
theorem dL_law_942 : decode cL_law 942 = .ok (.aload_n 2, 1) := by decide +kernel
theorem dL_law_943 : decode cL_law 943 = .ok (.invokevirtual 83, 3) := by decide +kernel
theorem dL_law_946 : decode cL_law 946 = .ok (.iload 5, 2) := by decide +kernel
theorem dL_law_948 : decode cL_law 948 = .ok (.if_icmp .eq 5, 3) := by decide +kernel
theorem dL_law_951 : decode cL_law 951 = .ok (.iconst 0, 1) := by decide +kernel
theorem dL_law_952 : decode cL_law 952 = .ok (.ireturn, 1) := by decide +kernel
theorem dL_law_953 : decode cL_law 953 = .ok (.iload 5, 2) := by decide +kernel
theorem dL_law_955 : decode cL_law 955 = .ok (.ifCond .ne 15, 3) := by decide +kernel
theorem dL_law_958 : decode cL_law 958 = .ok (.aload_n 3, 1) := by decide +kernel
theorem dL_law_959 : decode cL_law 959 = .ok (.iconst 0, 1) := by decide +kernel
theorem dL_law_960 : decode cL_law 960 = .ok (.laload, 1) := by decide +kernel
theorem dL_law_961 : decode cL_law 961 = .ok (.iload 6, 2) := by decide +kernel
theorem dL_law_963 : decode cL_law 963 = .ok (.i2l, 1) := by decide +kernel
theorem dL_law_964 : decode cL_law 964 = .ok (.lcmp, 1) := by decide +kernel
theorem dL_law_965 : decode cL_law 965 = .ok (.ifCond .eq 5, 3) := by decide +kernel
theorem dL_law_968 : decode cL_law 968 = .ok (.iconst 0, 1) := by decide +kernel
theorem dL_law_969 : decode cL_law 969 = .ok (.ireturn, 1) := by decide +kernel
theorem dL_law_970 : decode cL_law 970 = .ok (.goto 223, 3) := by decide +kernel
theorem dL_law_973 : decode cL_law 973 = .ok (.aload_n 1, 1) := by decide +kernel
theorem dL_law_974 : decode cL_law 974 = .ok (.aload_n 0, 1) := by decide +kernel
theorem dL_law_975 : decode cL_law 975 = .ok (.iload 4, 2) := by decide +kernel
theorem dL_law_977 : decode cL_law 977 = .ok (.iconst 1, 1) := by decide +kernel
theorem dL_law_978 : decode cL_law 978 = .ok (.iadd, 1) := by decide +kernel
theorem dL_law_979 : decode cL_law 979 = .ok (.iaload, 1) := by decide +kernel
theorem dL_law_980 : decode cL_law 980 = .ok (.aload_n 0, 1) := by decide +kernel
theorem dL_law_981 : decode cL_law 981 = .ok (.iload 4, 2) := by decide +kernel
theorem dL_law_983 : decode cL_law 983 = .ok (.iconst 2, 1) := by decide +kernel
theorem dL_law_984 : decode cL_law 984 = .ok (.iadd, 1) := by decide +kernel
theorem dL_law_985 : decode cL_law 985 = .ok (.iaload, 1) := by decide +kernel
theorem dL_law_986 : decode cL_law 986 = .ok (.aload_n 0, 1) := by decide +kernel
theorem dL_law_987 : decode cL_law 987 = .ok (.iload 4, 2) := by decide +kernel
theorem dL_law_989 : decode cL_law 989 = .ok (.iconst 3, 1) := by decide +kernel
theorem dL_law_990 : decode cL_law 990 = .ok (.iadd, 1) := by decide +kernel
theorem dL_law_991 : decode cL_law 991 = .ok (.iaload, 1) := by decide +kernel
theorem dL_law_992 : decode cL_law 992 = .ok (.aload_n 0, 1) := by decide +kernel
theorem dL_law_993 : decode cL_law 993 = .ok (.iload 4, 2) := by decide +kernel
theorem dL_law_995 : decode cL_law 995 = .ok (.iconst 4, 1) := by decide +kernel
theorem dL_law_996 : decode cL_law 996 = .ok (.iadd, 1) := by decide +kernel
theorem dL_law_997 : decode cL_law 997 = .ok (.iaload, 1) := by decide +kernel
theorem dL_law_998 : decode cL_law 998 = .ok (.aload_n 0, 1) := by decide +kernel
theorem dL_law_999 : decode cL_law 999 = .ok (.iload 4, 2) := by decide +kernel
theorem dL_law_1001 : decode cL_law 1001 = .ok (.iconst 5, 1) := by decide +kernel
theorem dL_law_1002 : decode cL_law 1002 = .ok (.iadd, 1) := by decide +kernel
theorem dL_law_1003 : decode cL_law 1003 = .ok (.iaload, 1) := by decide +kernel
theorem dL_law_1004 : decode cL_law 1004 = .ok (.ifCond .eq 7, 3) := by decide +kernel
theorem dL_law_1007 : decode cL_law 1007 = .ok (.iconst 1, 1) := by decide +kernel
theorem dL_law_1008 : decode cL_law 1008 = .ok (.goto 4, 3) := by decide +kernel
theorem dL_law_1011 : decode cL_law 1011 = .ok (.iconst 0, 1) := by decide +kernel
theorem dL_law_1012 : decode cL_law 1012 = .ok (.aload_n 3, 1) := by decide +kernel
theorem dL_law_1013 : decode cL_law 1013 = .ok (.invokestatic 129, 3) := by decide +kernel
theorem dL_law_1016 : decode cL_law 1016 = .ok (.istore 5, 2) := by decide +kernel
theorem dL_law_1018 : decode cL_law 1018 = .ok (.aload_n 2, 1) := by decide +kernel
theorem dL_law_1019 : decode cL_law 1019 = .ok (.aload_n 0, 1) := by decide +kernel
theorem dL_law_1020 : decode cL_law 1020 = .ok (.iload 4, 2) := by decide +kernel
theorem dL_law_1022 : decode cL_law 1022 = .ok (.iconst 1, 1) := by decide +kernel
theorem dL_law_1023 : decode cL_law 1023 = .ok (.iadd, 1) := by decide +kernel
theorem dL_law_1024 : decode cL_law 1024 = .ok (.iaload, 1) := by decide +kernel
theorem dL_law_1025 : decode cL_law 1025 = .ok (.aload_n 0, 1) := by decide +kernel
theorem dL_law_1026 : decode cL_law 1026 = .ok (.iload 4, 2) := by decide +kernel
theorem dL_law_1028 : decode cL_law 1028 = .ok (.iconst 2, 1) := by decide +kernel
theorem dL_law_1029 : decode cL_law 1029 = .ok (.iadd, 1) := by decide +kernel
theorem dL_law_1030 : decode cL_law 1030 = .ok (.iaload, 1) := by decide +kernel
theorem dL_law_1031 : decode cL_law 1031 = .ok (.aload_n 0, 1) := by decide +kernel
theorem dL_law_1032 : decode cL_law 1032 = .ok (.iload 4, 2) := by decide +kernel
theorem dL_law_1034 : decode cL_law 1034 = .ok (.iconst 3, 1) := by decide +kernel
theorem dL_law_1035 : decode cL_law 1035 = .ok (.iadd, 1) := by decide +kernel
theorem dL_law_1036 : decode cL_law 1036 = .ok (.iaload, 1) := by decide +kernel
theorem dL_law_1037 : decode cL_law 1037 = .ok (.aload_n 0, 1) := by decide +kernel
theorem dL_law_1038 : decode cL_law 1038 = .ok (.iload 4, 2) := by decide +kernel
theorem dL_law_1040 : decode cL_law 1040 = .ok (.iconst 4, 1) := by decide +kernel
theorem dL_law_1041 : decode cL_law 1041 = .ok (.iadd, 1) := by decide +kernel
theorem dL_law_1042 : decode cL_law 1042 = .ok (.iaload, 1) := by decide +kernel
theorem dL_law_1043 : decode cL_law 1043 = .ok (.aload_n 0, 1) := by decide +kernel
theorem dL_law_1044 : decode cL_law 1044 = .ok (.iload 4, 2) := by decide +kernel
theorem dL_law_1046 : decode cL_law 1046 = .ok (.iconst 5, 1) := by decide +kernel
theorem dL_law_1047 : decode cL_law 1047 = .ok (.iadd, 1) := by decide +kernel
theorem dL_law_1048 : decode cL_law 1048 = .ok (.iaload, 1) := by decide +kernel
theorem dL_law_1049 : decode cL_law 1049 = .ok (.ifCond .eq 7, 3) := by decide +kernel
theorem dL_law_1052 : decode cL_law 1052 = .ok (.iconst 1, 1) := by decide +kernel
theorem dL_law_1053 : decode cL_law 1053 = .ok (.goto 4, 3) := by decide +kernel
theorem dL_law_1056 : decode cL_law 1056 = .ok (.iconst 0, 1) := by decide +kernel
theorem dL_law_1057 : decode cL_law 1057 = .ok (.invokevirtual 132, 3) := by decide +kernel
theorem dL_law_1060 : decode cL_law 1060 = .ok (.istore 6, 2) := by decide +kernel
theorem dL_law_1062 : decode cL_law 1062 = .ok (.aload_n 2, 1) := by decide +kernel
theorem dL_law_1063 : decode cL_law 1063 = .ok (.invokevirtual 83, 3) := by decide +kernel
theorem dL_law_1066 : decode cL_law 1066 = .ok (.iload 5, 2) := by decide +kernel
theorem dL_law_1068 : decode cL_law 1068 = .ok (.if_icmp .eq 5, 3) := by decide +kernel
theorem dL_law_1071 : decode cL_law 1071 = .ok (.iconst 0, 1) := by decide +kernel
theorem dL_law_1072 : decode cL_law 1072 = .ok (.ireturn, 1) := by decide +kernel
theorem dL_law_1073 : decode cL_law 1073 = .ok (.iload 5, 2) := by decide +kernel
theorem dL_law_1075 : decode cL_law 1075 = .ok (.ifCond .ne 15, 3) := by decide +kernel
theorem dL_law_1078 : decode cL_law 1078 = .ok (.aload_n 3, 1) := by decide +kernel
theorem dL_law_1079 : decode cL_law 1079 = .ok (.iconst 0, 1) := by decide +kernel
theorem dL_law_1080 : decode cL_law 1080 = .ok (.laload, 1) := by decide +kernel
theorem dL_law_1081 : decode cL_law 1081 = .ok (.iload 6, 2) := by decide +kernel
theorem dL_law_1083 : decode cL_law 1083 = .ok (.i2l, 1) := by decide +kernel
theorem dL_law_1084 : decode cL_law 1084 = .ok (.lcmp, 1) := by decide +kernel
theorem dL_law_1085 : decode cL_law 1085 = .ok (.ifCond .eq 5, 3) := by decide +kernel
theorem dL_law_1088 : decode cL_law 1088 = .ok (.iconst 0, 1) := by decide +kernel
theorem dL_law_1089 : decode cL_law 1089 = .ok (.ireturn, 1) := by decide +kernel
theorem dL_law_1090 : decode cL_law 1090 = .ok (.goto 103, 3) := by decide +kernel
theorem dL_law_1093 : decode cL_law 1093 = .ok (.aload_n 1, 1) := by decide +kernel
theorem dL_law_1094 : decode cL_law 1094 = .ok (.aload_n 0, 1) := by decide +kernel
theorem dL_law_1095 : decode cL_law 1095 = .ok (.iload 4, 2) := by decide +kernel
theorem dL_law_1097 : decode cL_law 1097 = .ok (.iconst 1, 1) := by decide +kernel
theorem dL_law_1098 : decode cL_law 1098 = .ok (.iadd, 1) := by decide +kernel
theorem dL_law_1099 : decode cL_law 1099 = .ok (.iaload, 1) := by decide +kernel
theorem dL_law_1100 : decode cL_law 1100 = .ok (.aload_n 3, 1) := by decide +kernel
theorem dL_law_1101 : decode cL_law 1101 = .ok (.invokestatic 133, 3) := by decide +kernel
theorem dL_law_1104 : decode cL_law 1104 = .ok (.istore 5, 2) := by decide +kernel
theorem dL_law_1106 : decode cL_law 1106 = .ok (.aload_n 2, 1) := by decide +kernel
theorem dL_law_1107 : decode cL_law 1107 = .ok (.aload_n 0, 1) := by decide +kernel
theorem dL_law_1108 : decode cL_law 1108 = .ok (.iload 4, 2) := by decide +kernel
theorem dL_law_1110 : decode cL_law 1110 = .ok (.iconst 1, 1) := by decide +kernel
theorem dL_law_1111 : decode cL_law 1111 = .ok (.iadd, 1) := by decide +kernel
theorem dL_law_1112 : decode cL_law 1112 = .ok (.iaload, 1) := by decide +kernel
theorem dL_law_1113 : decode cL_law 1113 = .ok (.invokevirtual 135, 3) := by decide +kernel
theorem dL_law_1116 : decode cL_law 1116 = .ok (.istore 6, 2) := by decide +kernel
theorem dL_law_1118 : decode cL_law 1118 = .ok (.aload_n 2, 1) := by decide +kernel
theorem dL_law_1119 : decode cL_law 1119 = .ok (.invokevirtual 83, 3) := by decide +kernel
theorem dL_law_1122 : decode cL_law 1122 = .ok (.iload 5, 2) := by decide +kernel
theorem dL_law_1124 : decode cL_law 1124 = .ok (.if_icmp .eq 5, 3) := by decide +kernel
theorem dL_law_1127 : decode cL_law 1127 = .ok (.iconst 0, 1) := by decide +kernel
theorem dL_law_1128 : decode cL_law 1128 = .ok (.ireturn, 1) := by decide +kernel
theorem dL_law_1129 : decode cL_law 1129 = .ok (.iload 5, 2) := by decide +kernel
theorem dL_law_1131 : decode cL_law 1131 = .ok (.ifCond .ne 15, 3) := by decide +kernel
theorem dL_law_1134 : decode cL_law 1134 = .ok (.aload_n 3, 1) := by decide +kernel
theorem dL_law_1135 : decode cL_law 1135 = .ok (.iconst 0, 1) := by decide +kernel
theorem dL_law_1136 : decode cL_law 1136 = .ok (.laload, 1) := by decide +kernel
theorem dL_law_1137 : decode cL_law 1137 = .ok (.iload 6, 2) := by decide +kernel
theorem dL_law_1139 : decode cL_law 1139 = .ok (.i2l, 1) := by decide +kernel
theorem dL_law_1140 : decode cL_law 1140 = .ok (.lcmp, 1) := by decide +kernel
theorem dL_law_1141 : decode cL_law 1141 = .ok (.ifCond .eq 5, 3) := by decide +kernel
theorem dL_law_1144 : decode cL_law 1144 = .ok (.iconst 0, 1) := by decide +kernel
theorem dL_law_1145 : decode cL_law 1145 = .ok (.ireturn, 1) := by decide +kernel
theorem dL_law_1146 : decode cL_law 1146 = .ok (.goto 47, 3) := by decide +kernel
theorem dL_law_1149 : decode cL_law 1149 = .ok (.aload_n 1, 1) := by decide +kernel
theorem dL_law_1150 : decode cL_law 1150 = .ok (.aload_n 3, 1) := by decide +kernel
theorem dL_law_1151 : decode cL_law 1151 = .ok (.invokestatic 136, 3) := by decide +kernel
theorem dL_law_1154 : decode cL_law 1154 = .ok (.istore 5, 2) := by decide +kernel
theorem dL_law_1156 : decode cL_law 1156 = .ok (.aload_n 2, 1) := by decide +kernel
theorem dL_law_1157 : decode cL_law 1157 = .ok (.invokevirtual 138, 3) := by decide +kernel
theorem dL_law_1160 : decode cL_law 1160 = .ok (.istore 6, 2) := by decide +kernel
theorem dL_law_1162 : decode cL_law 1162 = .ok (.aload_n 2, 1) := by decide +kernel
theorem dL_law_1163 : decode cL_law 1163 = .ok (.invokevirtual 83, 3) := by decide +kernel
theorem dL_law_1166 : decode cL_law 1166 = .ok (.iload 5, 2) := by decide +kernel
theorem dL_law_1168 : decode cL_law 1168 = .ok (.if_icmp .eq 5, 3) := by decide +kernel
theorem dL_law_1171 : decode cL_law 1171 = .ok (.iconst 0, 1) := by decide +kernel
theorem dL_law_1172 : decode cL_law 1172 = .ok (.ireturn, 1) := by decide +kernel
theorem dL_law_1173 : decode cL_law 1173 = .ok (.iload 5, 2) := by decide +kernel
theorem dL_law_1175 : decode cL_law 1175 = .ok (.ifCond .ne 15, 3) := by decide +kernel
theorem dL_law_1178 : decode cL_law 1178 = .ok (.aload_n 3, 1) := by decide +kernel
theorem dL_law_1179 : decode cL_law 1179 = .ok (.iconst 0, 1) := by decide +kernel
theorem dL_law_1180 : decode cL_law 1180 = .ok (.laload, 1) := by decide +kernel
theorem dL_law_1181 : decode cL_law 1181 = .ok (.iload 6, 2) := by decide +kernel
theorem dL_law_1183 : decode cL_law 1183 = .ok (.i2l, 1) := by decide +kernel
theorem dL_law_1184 : decode cL_law 1184 = .ok (.lcmp, 1) := by decide +kernel
theorem dL_law_1185 : decode cL_law 1185 = .ok (.ifCond .eq 5, 3) := by decide +kernel
theorem dL_law_1188 : decode cL_law 1188 = .ok (.iconst 0, 1) := by decide +kernel
theorem dL_law_1189 : decode cL_law 1189 = .ok (.ireturn, 1) := by decide +kernel
theorem dL_law_1190 : decode cL_law 1190 = .ok (.goto 3, 3) := by decide +kernel
theorem dL_law_1193 : decode cL_law 1193 = .ok (.iinc 4 6, 3) := by decide +kernel
theorem dL_law_1196 : decode cL_law 1196 = .ok (.goto (-1173), 3) := by decide +kernel
theorem dL_law_1199 : decode cL_law 1199 = .ok (.iconst 1, 1) := by decide +kernel
theorem dL_law_1200 : decode cL_law 1200 = .ok (.ireturn, 1) := by decide +kernel
abbrev vwCl : List vw_C := [(RX0, TX0, 3), (RX1, TX1, 1), (RX2, TX2, 1), (RX3, TX3, 3), (RX4, TX4, 11), (RX5, TX5, 9), (RX6, TX6, 15)]
end
section
section BASE
variable {p : Program} {l : Launch} {e : Env} {R : Room} {s : State} {m : MethodId} {args : Array Value} {below : List Frame} {meth : Method} {c : Code} {H : Heap} {locs : List Loc} {cells slots : Nat} {Q : State → Prop} {cc : ByteArray} {pc : Nat} {ls : Array Slot} {rest : List Value} {nL : Nat} {Ts : List Cond} {own : String} {D : va_G} {cl : List vw_C} {ws ws2 : va_W} {tys : List (ClassId × FieldType)} {A : Nat → Prop} {H0 : Heap} {a : Nat} {cA : ClassId} {n : Nat} {off : Int} {tgt : Nat}
/-- how numbers and truths lie in the cells -/
def bI (b : Bool) : Int32 := if b then 1 else 0
def aI (f : Nat → Nat) : Nat → Int32 := fun j => nI (f j)
def aL (f : Nat → Nat) : Nat → Int64 := fun j => lN (f j)
def aZ (f : Nat → Bool) : Nat → Int32 := fun j => bI (f j)
theorem aI_at (f : Nat → Nat) (i : Nat) : aI f i = nI (f i) := rfl
theorem aL_at (f : Nat → Nat) (i : Nat) : aL f i = lN (f i) := rfl
theorem aZ_at (f : Nat → Bool) (i : Nat) : aZ f i = bI (f i) := rfl
theorem upd_aI (f : Nat → Nat) (i x : Nat) : upd (aI f) i (nI x) = aI (va_up f i x) := by
  funext j
  by_cases h : j = i <;> simp [upd, aI, va_up, h]
theorem upd_aL (f : Nat → Nat) (i x : Nat) : vp_updL (aL f) i (lN x) = aL (va_up f i x) := by
  funext j
  by_cases h : j = i <;> simp [vp_updL, aL, va_up, h]
theorem nar_bI (b : Bool) : narrow .boolean (.int (bI b)) = .int (bI b) := by cases b <;> rfl
theorem vnar_bI (b : Bool) : vp_nar .boolean (bI b) = bI b := by cases b <;> rfl
theorem fit_bI (b : Bool) : fits .boolean (.int (bI b)) = true := by cases b <;> rfl
theorem upd_aZ (f : Nat → Bool) (i : Nat) (x : Bool) : upd (aZ f) i (vp_nar .boolean (bI x)) = aZ (va_up f i x) := by
  rw [vnar_bI]
  funext j
  by_cases h : j = i <;> simp [upd, aZ, va_up, h]
theorem nI_clp {i : Nat} (h : i < 2 ^ 31) : (nI i).toNatClampNeg = i := nI_clamp h
theorem bI_eq0 (b : Bool) : bI b = 0 ↔ b = false := by cases b <;> simp [bI]
theorem up_at {α : Type} (f : Nat → α) (i : Nat) (x : α) : va_up f i x i = x := by simp [va_up]
theorem up_ne {α : Type} (f : Nat → α) {i j : Nat} (x : α) (h : j ≠ i) : va_up f i x j = f j := by simp [va_up, h]
theorem iinc_1 (a : Nat) : nI a + Int32.ofInt 1 = nI (a + 1) := nI_1 a
theorem iinc_m1 {a : Nat} (h : 0 < a) : nI a + Int32.ofInt (-1) = nI (a - 1) := by
  obtain ⟨b, rfl⟩ : ∃ b, a = b + 1 := ⟨a - 1, by omega⟩
  exact pk_m1 b
theorem iinc_k (a k : Nat) : nI a + Int32.ofInt (k : Int) = nI (a + k) := nI_add a k
/-- a cell of an array says nothing of places behind its end -/
theorem arrV_cong {cI : ClassId} {N : Nat} {f g : Nat → Value} (h : ∀ j, j < N → f j = g j) : arrV cI N f = arrV cI N g := by
  have : (Array.ofFn (n := N) fun j => f j.val) = Array.ofFn (n := N) fun j => g j.val := by
    congr 1
    funext j
    exact h j.val j.isLt
  simp only [arrV, this]
theorem cell_aI {cI : ClassId} {N : Nat} {f g : Nat → Nat} (h : ∀ j, j < N → f j = g j) : vp_cell cI (N, .inl (aI f)) = vp_cell cI (N, .inl (aI g))   := by
  rw [vp_cell_i, vp_cell_i]
  exact arrV_cong (fun j hj => by show Value.int (nI (f j)) = .int (nI (g j)); rw [h j hj])
theorem cell_aL {cI : ClassId} {N : Nat} {f g : Nat → Nat} (h : ∀ j, j < N → f j = g j) : vp_cell cI (N, .inr (.inl (aL f))) = vp_cell cI (N, .inr (.inl (aL g)))   := by
  rw [vp_cell_l, vp_cell_l]
  exact arrV_cong (fun j hj => by show Value.long (lN (f j)) = .long (lN (g j)); rw [h j hj])
theorem cell_iI {cI : ClassId} {N : Nat} {f g : Nat → Int32} (h : ∀ j, j < N → f j = g j) : vp_cell cI (N, .inl f) = vp_cell cI (N, .inl g)   := by
  rw [vp_cell_i, vp_cell_i]
  exact arrV_cong (fun j hj => by show Value.int (f j) = .int (g j); rw [h j hj])
theorem cell_lL {cI : ClassId} {N : Nat} {f g : Nat → Int64} (h : ∀ j, j < N → f j = g j) : vp_cell cI (N, .inr (.inl f)) = vp_cell cI (N, .inr (.inl g))   := by
  rw [vp_cell_l, vp_cell_l]
  exact arrV_cong (fun j hj => by show Value.long (f j) = .long (g j); rw [h j hj])
/-- a cell of the world in another form -/
theorem P_re (hP : va_P D cl ws H) (hD : va_D A ws) (q0 : Nat) {cA cB : ClassId} {x y : vp_A} (hq : ws[q0]? = some (a, .inl (cA, x))) (hxy : vp_cell cA x = vp_cell cB y) (hw : ws.set q0 (a, .inl (cB, y)) = ws2) : va_P D cl ws2 H ∧ va_D A ws2 := by
  subst hw
  have hlt : q0 < ws.length := (List.getElem?_eq_some_iff.mp hq).1
  have key : ∀ (i : Nat) (pp : Nat × va_E), (ws.set q0 (a, .inl (cB, y)))[i]? = some pp → (i = q0 ∧ pp = (a, .inl (cB, y))) ∨ (i ≠ q0 ∧ ws[i]? = some pp) := by
    intro i pp h
    by_cases hi : i = q0
    · subst hi
      rw [List.getElem?_set_self hlt] at h
      exact Or.inl ⟨rfl, (Option.some.inj h).symm⟩
    · rw [List.getElem?_set_ne (fun g => hi g.symm)] at h
      exact Or.inr ⟨hi, h⟩
  have key2 : ∀ (i : Nat) (pp : Nat × va_E), (ws.set q0 (a, .inl (cB, y)))[i]? = some pp → ∃ pe, ws[i]? = some (pp.1, pe) := by
    intro i pp h
    rcases key i pp h with ⟨rfl, rfl⟩ | ⟨_, h2⟩
    · exact ⟨_, hq⟩
    · exact ⟨pp.2, h2⟩
  refine ⟨fun k q hk => ?_, ⟨fun i j pp qq h1 h2 h3 => ?_, fun k q hk => ?_⟩⟩
  · rcases key k q hk with ⟨_, rfl⟩ | ⟨_, h2⟩
    · have h3 := hP q0 _ hq
      show H[a]? = some (vp_cell cB y)
      rw [← hxy]
      exact h3
    · exact hP k q h2
  · obtain ⟨e1, g1⟩ := key2 i pp h1
    obtain ⟨e2, g2⟩ := key2 j qq h2
    exact hD.1 i j _ _ g1 g2 h3
  · obtain ⟨e1, g1⟩ := key2 k q hk
    exact hD.2 k (q.1, e1) g1

theorem kn_iadd (S : CallFix p m c cc nL s args Ts own) {x y : Nat} (d : decode cc pc = .ok (.iadd, 1)) (k : W p l e R s m args below meth c H locs cells slots Q (F0 m (pc + 1) ls (.int (nI (x + y)) :: rest))) : W p l e R s m args below meth c H locs cells slots Q (F0 m pc ls (.int (nI y) :: .int (nI x) :: rest)) := lv_iadd S.1 S.2.1 d (by rw [nI_add]; exact k)
theorem kn_isub (S : CallFix p m c cc nL s args Ts own) {x y : Nat} (h : y ≤ x) (d : decode cc pc = .ok (.isub, 1)) (k : W p l e R s m args below meth c H locs cells slots Q (F0 m (pc + 1) ls (.int (nI (x - y)) :: rest))) : W p l e R s m args below meth c H locs cells slots Q (F0 m pc ls (.int (nI y) :: .int (nI x) :: rest)) := lv_isub S.1 S.2.1 d (by rw [pk_sub h]; exact k)
theorem kn_imul (S : CallFix p m c cc nL s args Ts own) {x y : Nat} (d : decode cc pc = .ok (.imul, 1)) (k : W p l e R s m args below meth c H locs cells slots Q (F0 m (pc + 1) ls (.int (nI (x * y)) :: rest))) : W p l e R s m args below meth c H locs cells slots Q (F0 m pc ls (.int (nI y) :: .int (nI x) :: rest)) := lv_imul S.1 S.2.1 d (by rw [pk_mul]; exact k)
theorem kn_idiv (S : CallFix p m c cc nL s args Ts own) {x y : Nat} (hx : x < 2147483648) (h0 : 0 < y) (hy : y < 2147483648) (d : decode cc pc = .ok (.idiv, 1)) (k : W p l e R s m args below meth c H locs cells slots Q (F0 m (pc + 1) ls (.int (nI (x / y)) :: rest))) : W p l e R s m args below meth c H locs cells slots Q (F0 m pc ls (.int (nI y) :: .int (nI x) :: rest)) := lv_idiv S.1 S.2.1 d (nI_ne0 h0 hy) (by rw [pk_div hx h0 hy]; exact k)
theorem kn_irem (S : CallFix p m c cc nL s args Ts own) {x y : Nat} (hx : x < 2147483648) (h0 : 0 < y) (hy : y < 2147483648) (d : decode cc pc = .ok (.irem, 1)) (k : W p l e R s m args below meth c H locs cells slots Q (F0 m (pc + 1) ls (.int (nI (x % y)) :: rest))) : W p l e R s m args below meth c H locs cells slots Q (F0 m pc ls (.int (nI y) :: .int (nI x) :: rest)) := lv_irem S.1 S.2.1 d (nI_ne0 h0 hy) (by rw [pk_rem hx h0 hy]; exact k)
theorem kn_ladd (S : CallFix p m c cc nL s args Ts own) {x y : Nat} (d : decode cc pc = .ok (.ladd, 1)) (k : W p l e R s m args below meth c H locs cells slots Q (F0 m (pc + 1) ls (.long (lN (x + y)) :: rest))) : W p l e R s m args below meth c H locs cells slots Q (F0 m pc ls (.long (lN y) :: .long (lN x) :: rest)) := lv_ladd S.1 S.2.1 d (by rw [lN_add]; exact k)
theorem kn_lmul (S : CallFix p m c cc nL s args Ts own) {x y : Nat} (d : decode cc pc = .ok (.lmul, 1)) (k : W p l e R s m args below meth c H locs cells slots Q (F0 m (pc + 1) ls (.long (lN (x * y)) :: rest))) : W p l e R s m args below meth c H locs cells slots Q (F0 m pc ls (.long (lN y) :: .long (lN x) :: rest)) := lv_lmul S.1 S.2.1 d (by rw [lN_mul]; exact k)
theorem kn_ldiv (S : CallFix p m c cc nL s args Ts own) {x y : Nat} (hx : x < 9223372036854775808) (h0 : 0 < y) (hy : y < 9223372036854775808) (d : decode cc pc = .ok (.ldiv, 1)) (k : W p l e R s m args below meth c H locs cells slots Q (F0 m (pc + 1) ls (.long (lN (x / y)) :: rest))) : W p l e R s m args below meth c H locs cells slots Q (F0 m pc ls (.long (lN y) :: .long (lN x) :: rest)) := lv_ldiv S.1 S.2.1 d (fun h => by have h2 := (pk_lEQ hy (by decide : (0:Nat) < 2 ^ 63)).mp h; omega) (by rw [pk_lDiv hx h0 hy]; exact k)
theorem kn_i2l (S : CallFix p m c cc nL s args Ts own) {x : Nat} (hx : x < 2147483648) (d : decode cc pc = .ok (.i2l, 1)) (k : W p l e R s m args below meth c H locs cells slots Q (F0 m (pc + 1) ls (.long (lN x) :: rest))) : W p l e R s m args below meth c H locs cells slots Q (F0 m pc ls (.int (nI x) :: rest)) := lv_i2l S.1 S.2.1 d (nI_l hx) k
theorem kn_l2i (S : CallFix p m c cc nL s args Ts own) {x : Nat} (d : decode cc pc = .ok (.l2i, 1)) (k : W p l e R s m args below meth c H locs cells slots Q (F0 m (pc + 1) ls (.int (nI x) :: rest))) : W p l e R s m args below meth c H locs cells slots Q (F0 m pc ls (.long (lN x) :: rest)) := lv_l2i S.1 S.2.1 d (lN_i x) k
theorem kn_icmp_ge (S : CallFix p m c cc nL s args Ts own) {x y : Nat} (hx : x < 2147483648) (hy : y < 2147483648) (d : decode cc pc = .ok (.if_icmp .ge off, 3)) (ht : (pc : Int) + off = (tgt : Int)) (kt : y ≤ x → W p l e R s m args below meth c H locs cells slots Q (F0 m tgt ls rest)) (kf : x < y → W p l e R s m args below meth c H locs cells slots Q (F0 m (pc + 3) ls rest)) : W p l e R s m args below meth c H locs cells slots Q (F0 m pc ls (.int (nI y) :: .int (nI x) :: rest)) := lv_icmp_ge S.1 S.2.1 d ht (fun h => kt ((nI_leI hy hx).mp h)) (fun h => kf (Nat.lt_of_not_le (fun g => h ((nI_leI hy hx).mpr g))))
theorem kn_icmp_lt (S : CallFix p m c cc nL s args Ts own) {x y : Nat} (hx : x < 2147483648) (hy : y < 2147483648) (d : decode cc pc = .ok (.if_icmp .lt off, 3)) (ht : (pc : Int) + off = (tgt : Int)) (kt : x < y → W p l e R s m args below meth c H locs cells slots Q (F0 m tgt ls rest)) (kf : y ≤ x → W p l e R s m args below meth c H locs cells slots Q (F0 m (pc + 3) ls rest)) : W p l e R s m args below meth c H locs cells slots Q (F0 m pc ls (.int (nI y) :: .int (nI x) :: rest)) := lv_icmp_lt S.1 S.2.1 d ht (fun h => kt ((nI_ltI hx hy).mp h)) (fun h => kf (Nat.le_of_not_lt (fun g => h ((nI_ltI hx hy).mpr g))))
theorem kn_icmp_gt (S : CallFix p m c cc nL s args Ts own) {x y : Nat} (hx : x < 2147483648) (hy : y < 2147483648) (d : decode cc pc = .ok (.if_icmp .gt off, 3)) (ht : (pc : Int) + off = (tgt : Int)) (kt : y < x → W p l e R s m args below meth c H locs cells slots Q (F0 m tgt ls rest)) (kf : x ≤ y → W p l e R s m args below meth c H locs cells slots Q (F0 m (pc + 3) ls rest)) : W p l e R s m args below meth c H locs cells slots Q (F0 m pc ls (.int (nI y) :: .int (nI x) :: rest)) := lv_icmp_gt S.1 S.2.1 d ht (fun h => kt ((nI_ltI hy hx).mp h)) (fun h => kf (Nat.le_of_not_lt (fun g => h ((nI_ltI hy hx).mpr g))))
theorem kn_icmp_le (S : CallFix p m c cc nL s args Ts own) {x y : Nat} (hx : x < 2147483648) (hy : y < 2147483648) (d : decode cc pc = .ok (.if_icmp .le off, 3)) (ht : (pc : Int) + off = (tgt : Int)) (kt : x ≤ y → W p l e R s m args below meth c H locs cells slots Q (F0 m tgt ls rest)) (kf : y < x → W p l e R s m args below meth c H locs cells slots Q (F0 m (pc + 3) ls rest)) : W p l e R s m args below meth c H locs cells slots Q (F0 m pc ls (.int (nI y) :: .int (nI x) :: rest)) := lv_icmp_le S.1 S.2.1 d ht (fun h => kt ((nI_leI hx hy).mp h)) (fun h => kf (Nat.lt_of_not_le (fun g => h ((nI_leI hx hy).mpr g))))
theorem kn_icmp_eq (S : CallFix p m c cc nL s args Ts own) {x y : Nat} (hx : x < 2147483648) (hy : y < 2147483648) (d : decode cc pc = .ok (.if_icmp .eq off, 3)) (ht : (pc : Int) + off = (tgt : Int)) (kt : x = y → W p l e R s m args below meth c H locs cells slots Q (F0 m tgt ls rest)) (kf : ¬ x = y → W p l e R s m args below meth c H locs cells slots Q (F0 m (pc + 3) ls rest)) : W p l e R s m args below meth c H locs cells slots Q (F0 m pc ls (.int (nI y) :: .int (nI x) :: rest)) := lv_icmp_eq S.1 S.2.1 d ht (fun h => kt ((nI_eq hx hy).mp h)) (fun h => kf (fun g => h (by rw [g])))
theorem kn_icmp_ne (S : CallFix p m c cc nL s args Ts own) {x y : Nat} (hx : x < 2147483648) (hy : y < 2147483648) (d : decode cc pc = .ok (.if_icmp .ne off, 3)) (ht : (pc : Int) + off = (tgt : Int)) (kt : ¬ x = y → W p l e R s m args below meth c H locs cells slots Q (F0 m tgt ls rest)) (kf : x = y → W p l e R s m args below meth c H locs cells slots Q (F0 m (pc + 3) ls rest)) : W p l e R s m args below meth c H locs cells slots Q (F0 m pc ls (.int (nI y) :: .int (nI x) :: rest)) := lv_icmp_ne S.1 S.2.1 d ht (fun h => kt (fun g => h (by rw [g]))) (fun h => kf ((nI_eq hx hy).mp h))
theorem kn_if_eq (S : CallFix p m c cc nL s args Ts own) {x : Nat} (hx : x < 2147483648) (d : decode cc pc = .ok (.ifCond .eq off, 3)) (ht : (pc : Int) + off = (tgt : Int)) (kt : x = 0 → W p l e R s m args below meth c H locs cells slots Q (F0 m tgt ls rest)) (kf : 0 < x → W p l e R s m args below meth c H locs cells slots Q (F0 m (pc + 3) ls rest)) : W p l e R s m args below meth c H locs cells slots Q (F0 m pc ls (.int (nI x) :: rest)) := lv_if_eq S.1 S.2.1 d ht (fun h => kt ((nI_eq hx (by decide : (0:Nat) < 2 ^ 31)).mp h)) (fun h => kf (Nat.pos_of_ne_zero (fun g => h (by rw [g]; rfl))))
theorem kn_if_ne (S : CallFix p m c cc nL s args Ts own) {x : Nat} (hx : x < 2147483648) (d : decode cc pc = .ok (.ifCond .ne off, 3)) (ht : (pc : Int) + off = (tgt : Int)) (kt : 0 < x → W p l e R s m args below meth c H locs cells slots Q (F0 m tgt ls rest)) (kf : x = 0 → W p l e R s m args below meth c H locs cells slots Q (F0 m (pc + 3) ls rest)) : W p l e R s m args below meth c H locs cells slots Q (F0 m pc ls (.int (nI x) :: rest)) := lv_if_ne S.1 S.2.1 d ht (fun h => kt (Nat.pos_of_ne_zero (fun g => h (by rw [g]; rfl)))) (fun h => kf ((nI_eq hx (by decide : (0:Nat) < 2 ^ 31)).mp h))
theorem kn_if_le (S : CallFix p m c cc nL s args Ts own) {x : Nat} (hx : x < 2147483648) (d : decode cc pc = .ok (.ifCond .le off, 3)) (ht : (pc : Int) + off = (tgt : Int)) (kt : x = 0 → W p l e R s m args below meth c H locs cells slots Q (F0 m tgt ls rest)) (kf : 0 < x → W p l e R s m args below meth c H locs cells slots Q (F0 m (pc + 3) ls rest)) : W p l e R s m args below meth c H locs cells slots Q (F0 m pc ls (.int (nI x) :: rest)) := lv_if_le S.1 S.2.1 d ht (fun h => kt (Nat.eq_zero_of_not_pos (fun g => nI_nle g hx h))) (fun h => kf (Nat.pos_of_ne_zero (fun g => h (by rw [g]; decide))))
theorem kn_if_gt (S : CallFix p m c cc nL s args Ts own) {x : Nat} (hx : x < 2147483648) (d : decode cc pc = .ok (.ifCond .gt off, 3)) (ht : (pc : Int) + off = (tgt : Int)) (kt : 0 < x → W p l e R s m args below meth c H locs cells slots Q (F0 m tgt ls rest)) (kf : x = 0 → W p l e R s m args below meth c H locs cells slots Q (F0 m (pc + 3) ls rest)) : W p l e R s m args below meth c H locs cells slots Q (F0 m pc ls (.int (nI x) :: rest)) := lv_if_gt S.1 S.2.1 d ht (fun h => kt (Nat.pos_of_ne_zero (fun g => by rw [g] at h; exact absurd h (by decide)))) (fun h => kf (Nat.eq_zero_of_not_pos (fun g => h ((nI_ltI (by decide : (0:Nat) < 2 ^ 31) hx).mpr g))))
theorem kn_if_lt (S : CallFix p m c cc nL s args Ts own) {x : Nat} (hx : x < 2147483648) (d : decode cc pc = .ok (.ifCond .lt off, 3)) (ht : (pc : Int) + off = (tgt : Int)) (kf : W p l e R s m args below meth c H locs cells slots Q (F0 m (pc + 3) ls rest)) : W p l e R s m args below meth c H locs cells slots Q (F0 m pc ls (.int (nI x) :: rest)) := lv_if_lt S.1 S.2.1 d ht (fun h => absurd h (nI_pos hx)) (fun _ => kf)
theorem kn_if_ge (S : CallFix p m c cc nL s args Ts own) {x : Nat} (hx : x < 2147483648) (d : decode cc pc = .ok (.ifCond .ge off, 3)) (ht : (pc : Int) + off = (tgt : Int)) (kt : W p l e R s m args below meth c H locs cells slots Q (F0 m tgt ls rest)) : W p l e R s m args below meth c H locs cells slots Q (F0 m pc ls (.int (nI x) :: rest)) := lv_if_ge S.1 S.2.1 d ht (fun _ => kt) (fun h => absurd (nI_pos' hx) h)
theorem kb_if_eq (S : CallFix p m c cc nL s args Ts own) {x : Bool} (d : decode cc pc = .ok (.ifCond .eq off, 3)) (ht : (pc : Int) + off = (tgt : Int)) (kt : x = false → W p l e R s m args below meth c H locs cells slots Q (F0 m tgt ls rest)) (kf : x = true → W p l e R s m args below meth c H locs cells slots Q (F0 m (pc + 3) ls rest)) : W p l e R s m args below meth c H locs cells slots Q (F0 m pc ls (.int (bI x) :: rest)) := lv_if_eq S.1 S.2.1 d ht (fun h => kt ((bI_eq0 x).mp h)) (fun h => kf (by cases x with | true => rfl | false => exact absurd rfl h))
theorem kb_if_ne (S : CallFix p m c cc nL s args Ts own) {x : Bool} (d : decode cc pc = .ok (.ifCond .ne off, 3)) (ht : (pc : Int) + off = (tgt : Int)) (kt : x = true → W p l e R s m args below meth c H locs cells slots Q (F0 m tgt ls rest)) (kf : x = false → W p l e R s m args below meth c H locs cells slots Q (F0 m (pc + 3) ls rest)) : W p l e R s m args below meth c H locs cells slots Q (F0 m pc ls (.int (bI x) :: rest)) := lv_if_ne S.1 S.2.1 d ht (fun h => kt (by cases x with | true => rfl | false => exact absurd rfl h)) (fun h => kf ((bI_eq0 x).mp h))
theorem kn_lcmp_le (S : CallFix p m c cc nL s args Ts own) {x y : Nat} (hx : x < 9223372036854775808) (hy : y < 9223372036854775808) {pc2 : Nat} (d : decode cc pc = .ok (.lcmp, 1)) (hp2 : pc + 1 = pc2) (d2 : decode cc pc2 = .ok (.ifCond .le off, 3)) (ht : (pc2 : Int) + off = (tgt : Int)) (kt : x ≤ y → W p l e R s m args below meth c H locs cells slots Q (F0 m tgt ls rest)) (kf : y < x → W p l e R s m args below meth c H locs cells slots Q (F0 m (pc2 + 3) ls rest)) : W p l e R s m args below meth c H locs cells slots Q (F0 m pc ls (.long (lN y) :: .long (lN x) :: rest)) := by
  subst hp2
  exact W.lcmp S.1 S.2.1 d (lv_if_le S.1 S.2.1 d2 ht (fun h => kt ((pk_lLE hx hy).mp ((lg_cmp_le _ _).mp h))) (fun h => kf (Nat.lt_of_not_le (fun g => h ((lg_cmp_le _ _).mpr ((pk_lLE hx hy).mpr g))))))
theorem kn_lcmp_lt (S : CallFix p m c cc nL s args Ts own) {x y : Nat} (hx : x < 9223372036854775808) (hy : y < 9223372036854775808) {pc2 : Nat} (d : decode cc pc = .ok (.lcmp, 1)) (hp2 : pc + 1 = pc2) (d2 : decode cc pc2 = .ok (.ifCond .lt off, 3)) (ht : (pc2 : Int) + off = (tgt : Int)) (kt : x < y → W p l e R s m args below meth c H locs cells slots Q (F0 m tgt ls rest)) (kf : y ≤ x → W p l e R s m args below meth c H locs cells slots Q (F0 m (pc2 + 3) ls rest)) : W p l e R s m args below meth c H locs cells slots Q (F0 m pc ls (.long (lN y) :: .long (lN x) :: rest)) := by
  subst hp2
  exact W.lcmp S.1 S.2.1 d (lv_if_lt S.1 S.2.1 d2 ht (fun h => kt ((pk_lLT hx hy).mp ((lg_cmp_lt _ _).mp h))) (fun h => kf (Nat.le_of_not_lt (fun g => h ((lg_cmp_lt _ _).mpr ((pk_lLT hx hy).mpr g))))))
theorem kn_lcmp_gt (S : CallFix p m c cc nL s args Ts own) {x y : Nat} (hx : x < 9223372036854775808) (hy : y < 9223372036854775808) {pc2 : Nat} (d : decode cc pc = .ok (.lcmp, 1)) (hp2 : pc + 1 = pc2) (d2 : decode cc pc2 = .ok (.ifCond .gt off, 3)) (ht : (pc2 : Int) + off = (tgt : Int)) (kt : y < x → W p l e R s m args below meth c H locs cells slots Q (F0 m tgt ls rest)) (kf : x ≤ y → W p l e R s m args below meth c H locs cells slots Q (F0 m (pc2 + 3) ls rest)) : W p l e R s m args below meth c H locs cells slots Q (F0 m pc ls (.long (lN y) :: .long (lN x) :: rest)) := by
  subst hp2
  exact W.lcmp S.1 S.2.1 d (lv_if_gt S.1 S.2.1 d2 ht (fun h => kt ((pk_lLT hy hx).mp ((lg_cmp_gt _ _).mp h))) (fun h => kf (Nat.le_of_not_lt (fun g => h ((lg_cmp_gt _ _).mpr ((pk_lLT hy hx).mpr g))))))
theorem kn_lcmp_ge (S : CallFix p m c cc nL s args Ts own) {x y : Nat} (hx : x < 9223372036854775808) (hy : y < 9223372036854775808) {pc2 : Nat} (d : decode cc pc = .ok (.lcmp, 1)) (hp2 : pc + 1 = pc2) (d2 : decode cc pc2 = .ok (.ifCond .ge off, 3)) (ht : (pc2 : Int) + off = (tgt : Int)) (kt : y ≤ x → W p l e R s m args below meth c H locs cells slots Q (F0 m tgt ls rest)) (kf : x < y → W p l e R s m args below meth c H locs cells slots Q (F0 m (pc2 + 3) ls rest)) : W p l e R s m args below meth c H locs cells slots Q (F0 m pc ls (.long (lN y) :: .long (lN x) :: rest)) := by
  subst hp2
  exact W.lcmp S.1 S.2.1 d (lv_if_ge S.1 S.2.1 d2 ht (fun h => kt ((pk_lLE hy hx).mp ((lg_cmp_ge _ _).mp h))) (fun h => kf (Nat.lt_of_not_le (fun g => h ((lg_cmp_ge _ _).mpr ((pk_lLE hy hx).mpr g))))))
theorem kn_lcmp_eq (S : CallFix p m c cc nL s args Ts own) {x y : Nat} (hx : x < 9223372036854775808) (hy : y < 9223372036854775808) {pc2 : Nat} (d : decode cc pc = .ok (.lcmp, 1)) (hp2 : pc + 1 = pc2) (d2 : decode cc pc2 = .ok (.ifCond .eq off, 3)) (ht : (pc2 : Int) + off = (tgt : Int)) (kt : x = y → W p l e R s m args below meth c H locs cells slots Q (F0 m tgt ls rest)) (kf : ¬ x = y → W p l e R s m args below meth c H locs cells slots Q (F0 m (pc2 + 3) ls rest)) : W p l e R s m args below meth c H locs cells slots Q (F0 m pc ls (.long (lN y) :: .long (lN x) :: rest)) := by
  subst hp2
  exact W.lcmp S.1 S.2.1 d (lv_if_eq S.1 S.2.1 d2 ht (fun h => kt ((pk_lEQ hx hy).mp ((lg_cmp_eq _ _).mp h))) (fun h => kf (fun g => h ((lg_cmp_eq _ _).mpr (by rw [g])))))
theorem kn_lcmp_ne (S : CallFix p m c cc nL s args Ts own) {x y : Nat} (hx : x < 9223372036854775808) (hy : y < 9223372036854775808) {pc2 : Nat} (d : decode cc pc = .ok (.lcmp, 1)) (hp2 : pc + 1 = pc2) (d2 : decode cc pc2 = .ok (.ifCond .ne off, 3)) (ht : (pc2 : Int) + off = (tgt : Int)) (kt : ¬ x = y → W p l e R s m args below meth c H locs cells slots Q (F0 m tgt ls rest)) (kf : x = y → W p l e R s m args below meth c H locs cells slots Q (F0 m (pc2 + 3) ls rest)) : W p l e R s m args below meth c H locs cells slots Q (F0 m pc ls (.long (lN y) :: .long (lN x) :: rest)) := by
  subst hp2
  exact W.lcmp S.1 S.2.1 d (lv_if_ne S.1 S.2.1 d2 ht (fun h => kt (fun g => h ((lg_cmp_eq _ _).mpr (by rw [g])))) (fun h => kf ((pk_lEQ hx hy).mp ((lg_cmp_eq _ _).mp h))))
theorem k_topi {x y : Int32} (h : x = y) (k : W p l e R s m args below meth c H locs cells slots Q (F0 m pc ls (.int y :: rest))) : W p l e R s m args below meth c H locs cells slots Q (F0 m pc ls (.int x :: rest)) := h ▸ k
theorem k_topl {x y : Int64} (h : x = y) (k : W p l e R s m args below meth c H locs cells slots Q (F0 m pc ls (.long y :: rest))) : W p l e R s m args below meth c H locs cells slots Q (F0 m pc ls (.long x :: rest)) := h ▸ k
theorem kn_iald (S : CallFix p m c cc nL s args Ts own) (hK : va_K D cl tys s) (hP : va_P D cl ws H) (q0 t0 : Nat) {f : Nat → Nat} (ha : ws[q0]? = some (a, .inl (cA, n, .inl (aI f)))) (ht : tys[t0]? = some (cA, .int)) {i : Nat} (hi : i < n) (hn : n < 2147483648) (d : decode cc pc = .ok (.iaload, 1)) (k : W p l e R s m args below meth c H locs cells slots Q (F0 m (pc + 1) ls (.int (nI (f i)) :: rest))) : W p l e R s m args below meth c H locs cells slots Q (F0 m pc ls (.int (nI i) :: .ref a :: rest)) := va_iald S.1 S.2.1 hK hP q0 t0 ha ht (vp_in_nI hi hn) d (by rw [nI_clamp (Nat.lt_trans hi hn)]; exact k)
theorem kr_iald (S : CallFix p m c cc nL s args Ts own) (hK : va_K D cl tys s) (hP : va_P D cl ws H) (q0 t0 : Nat) {f : Nat → Int32} (ha : ws[q0]? = some (a, .inl (cA, n, .inl f))) (ht : tys[t0]? = some (cA, .int)) {i : Nat} (hi : i < n) (hn : n < 2147483648) (d : decode cc pc = .ok (.iaload, 1)) (k : W p l e R s m args below meth c H locs cells slots Q (F0 m (pc + 1) ls (.int (f i) :: rest))) : W p l e R s m args below meth c H locs cells slots Q (F0 m pc ls (.int (nI i) :: .ref a :: rest)) := va_iald S.1 S.2.1 hK hP q0 t0 ha ht (vp_in_nI hi hn) d (by rw [nI_clamp (Nat.lt_trans hi hn)]; exact k)
theorem kn_lald (S : CallFix p m c cc nL s args Ts own) (hK : va_K D cl tys s) (hP : va_P D cl ws H) (q0 t0 : Nat) {f : Nat → Nat} (ha : ws[q0]? = some (a, .inl (cA, n, .inr (.inl (aL f))))) (ht : tys[t0]? = some (cA, .long)) {i : Nat} (hi : i < n) (hn : n < 2147483648) (d : decode cc pc = .ok (.laload, 1)) (k : W p l e R s m args below meth c H locs cells slots Q (F0 m (pc + 1) ls (.long (lN (f i)) :: rest))) : W p l e R s m args below meth c H locs cells slots Q (F0 m pc ls (.int (nI i) :: .ref a :: rest)) := va_lald S.1 S.2.1 hK hP q0 t0 ha ht (vp_in_nI hi hn) d (by rw [nI_clamp (Nat.lt_trans hi hn)]; exact k)
theorem kr_lald (S : CallFix p m c cc nL s args Ts own) (hK : va_K D cl tys s) (hP : va_P D cl ws H) (q0 t0 : Nat) {f : Nat → Int64} (ha : ws[q0]? = some (a, .inl (cA, n, .inr (.inl f)))) (ht : tys[t0]? = some (cA, .long)) {i : Nat} (hi : i < n) (hn : n < 2147483648) (d : decode cc pc = .ok (.laload, 1)) (k : W p l e R s m args below meth c H locs cells slots Q (F0 m (pc + 1) ls (.long (f i) :: rest))) : W p l e R s m args below meth c H locs cells slots Q (F0 m pc ls (.int (nI i) :: .ref a :: rest)) := va_lald S.1 S.2.1 hK hP q0 t0 ha ht (vp_in_nI hi hn) d (by rw [nI_clamp (Nat.lt_trans hi hn)]; exact k)
theorem kn_zald (S : CallFix p m c cc nL s args Ts own) (hK : va_K D cl tys s) (hP : va_P D cl ws H) (q0 t0 : Nat) {f : Nat → Bool} (ha : ws[q0]? = some (a, .inl (cA, n, .inl (aZ f)))) (ht : tys[t0]? = some (cA, .boolean)) {i : Nat} (hi : i < n) (hn : n < 2147483648) (d : decode cc pc = .ok (.baload, 1)) (k : W p l e R s m args below meth c H locs cells slots Q (F0 m (pc + 1) ls (.int (bI (f i)) :: rest))) : W p l e R s m args below meth c H locs cells slots Q (F0 m pc ls (.int (nI i) :: .ref a :: rest)) := va_zald S.1 S.2.1 hK hP q0 t0 ha ht (vp_in_nI hi hn) d (by rw [nI_clamp (Nat.lt_trans hi hn)]; exact k)
theorem kn_iast (S : CallFix p m c cc nL s args Ts own) (hK : va_K D cl tys s) (hP : va_P D cl ws H) (hD : va_D A ws) (hS : va_S A H0 H locs) (q0 t0 : Nat) {f : Nat → Nat} (ha : ws[q0]? = some (a, .inl (cA, n, .inl (aI f)))) (ht : tys[t0]? = some (cA, .int)) {i : Nat} {x : Nat} (hi : i < n) (hn : n < 2147483648) (d : decode cc pc = .ok (.iastore, 1)) (hw : ws.set q0 (a, .inl (cA, n, .inl (aI (va_up f i x)))) = ws2) (k : ∀ (H1 : Heap) (locs1 : List Loc), va_P D cl ws2 H1 → va_D A ws2 → va_S A H0 H1 locs1 → W p l e R s m args below meth c H1 locs1 cells slots Q (F0 m (pc + 1) ls rest)) : W p l e R s m args below meth c H locs cells slots Q (F0 m pc ls (.int (nI x) :: .int (nI i) :: .ref a :: rest)) := by
  subst hw
  refine va_iast S.1 S.2.1 hK hP hD hS q0 t0 ha ht (vp_in_nI hi hn) d (fun H1 locs1 h1 h2 h3 => ?_)
  rw [nI_clamp (Nat.lt_trans hi hn), upd_aI] at h1 h2
  exact k H1 locs1 h1 h2 h3
theorem kr_iast (S : CallFix p m c cc nL s args Ts own) (hK : va_K D cl tys s) (hP : va_P D cl ws H) (hD : va_D A ws) (hS : va_S A H0 H locs) (q0 t0 : Nat) {f : Nat → Int32} (ha : ws[q0]? = some (a, .inl (cA, n, .inl f))) (ht : tys[t0]? = some (cA, .int)) {i : Nat} {x : Int32} (hi : i < n) (hn : n < 2147483648) (d : decode cc pc = .ok (.iastore, 1)) (hw : ws.set q0 (a, .inl (cA, n, .inl (upd f i x))) = ws2) (k : ∀ (H1 : Heap) (locs1 : List Loc), va_P D cl ws2 H1 → va_D A ws2 → va_S A H0 H1 locs1 → W p l e R s m args below meth c H1 locs1 cells slots Q (F0 m (pc + 1) ls rest)) : W p l e R s m args below meth c H locs cells slots Q (F0 m pc ls (.int x :: .int (nI i) :: .ref a :: rest)) := by
  subst hw
  refine va_iast S.1 S.2.1 hK hP hD hS q0 t0 ha ht (vp_in_nI hi hn) d (fun H1 locs1 h1 h2 h3 => ?_)
  rw [nI_clamp (Nat.lt_trans hi hn)] at h1 h2
  exact k H1 locs1 h1 h2 h3
theorem kn_last (S : CallFix p m c cc nL s args Ts own) (hK : va_K D cl tys s) (hP : va_P D cl ws H) (hD : va_D A ws) (hS : va_S A H0 H locs) (q0 t0 : Nat) {f : Nat → Nat} (ha : ws[q0]? = some (a, .inl (cA, n, .inr (.inl (aL f))))) (ht : tys[t0]? = some (cA, .long)) {i : Nat} {x : Nat} (hi : i < n) (hn : n < 2147483648) (d : decode cc pc = .ok (.lastore, 1)) (hw : ws.set q0 (a, .inl (cA, n, .inr (.inl (aL (va_up f i x))))) = ws2) (k : ∀ (H1 : Heap) (locs1 : List Loc), va_P D cl ws2 H1 → va_D A ws2 → va_S A H0 H1 locs1 → W p l e R s m args below meth c H1 locs1 cells slots Q (F0 m (pc + 1) ls rest)) : W p l e R s m args below meth c H locs cells slots Q (F0 m pc ls (.long (lN x) :: .int (nI i) :: .ref a :: rest)) := by
  subst hw
  refine va_last S.1 S.2.1 hK hP hD hS q0 t0 ha ht (vp_in_nI hi hn) d (fun H1 locs1 h1 h2 h3 => ?_)
  rw [nI_clamp (Nat.lt_trans hi hn), upd_aL] at h1 h2
  exact k H1 locs1 h1 h2 h3
theorem kr_last (S : CallFix p m c cc nL s args Ts own) (hK : va_K D cl tys s) (hP : va_P D cl ws H) (hD : va_D A ws) (hS : va_S A H0 H locs) (q0 t0 : Nat) {f : Nat → Int64} (ha : ws[q0]? = some (a, .inl (cA, n, .inr (.inl f)))) (ht : tys[t0]? = some (cA, .long)) {i : Nat} {x : Int64} (hi : i < n) (hn : n < 2147483648) (d : decode cc pc = .ok (.lastore, 1)) (hw : ws.set q0 (a, .inl (cA, n, .inr (.inl (vp_updL f i x)))) = ws2) (k : ∀ (H1 : Heap) (locs1 : List Loc), va_P D cl ws2 H1 → va_D A ws2 → va_S A H0 H1 locs1 → W p l e R s m args below meth c H1 locs1 cells slots Q (F0 m (pc + 1) ls rest)) : W p l e R s m args below meth c H locs cells slots Q (F0 m pc ls (.long x :: .int (nI i) :: .ref a :: rest)) := by
  subst hw
  refine va_last S.1 S.2.1 hK hP hD hS q0 t0 ha ht (vp_in_nI hi hn) d (fun H1 locs1 h1 h2 h3 => ?_)
  rw [nI_clamp (Nat.lt_trans hi hn)] at h1 h2
  exact k H1 locs1 h1 h2 h3
theorem kn_zast (S : CallFix p m c cc nL s args Ts own) (hK : va_K D cl tys s) (hP : va_P D cl ws H) (hD : va_D A ws) (hS : va_S A H0 H locs) (q0 t0 : Nat) {f : Nat → Bool} (ha : ws[q0]? = some (a, .inl (cA, n, .inl (aZ f)))) (ht : tys[t0]? = some (cA, .boolean)) {i : Nat} {x : Bool} (hi : i < n) (hn : n < 2147483648) (d : decode cc pc = .ok (.bastore, 1)) (hw : ws.set q0 (a, .inl (cA, n, .inl (aZ (va_up f i x)))) = ws2) (k : ∀ (H1 : Heap) (locs1 : List Loc), va_P D cl ws2 H1 → va_D A ws2 → va_S A H0 H1 locs1 → W p l e R s m args below meth c H1 locs1 cells slots Q (F0 m (pc + 1) ls rest)) : W p l e R s m args below meth c H locs cells slots Q (F0 m pc ls (.int (bI x) :: .int (nI i) :: .ref a :: rest)) := by
  subst hw
  refine va_zast S.1 S.2.1 hK hP hD hS q0 t0 ha ht (vp_in_nI hi hn) d (fun H1 locs1 h1 h2 h3 => ?_)
  rw [nI_clamp (Nat.lt_trans hi hn), upd_aZ] at h1 h2
  exact k H1 locs1 h1 h2 h3
theorem k_get (S : CallFix p m c cc nL s args Ts own) {ref C : String} {T : u_T} {N ci index : Nat} (hin : ∀ w ∈ u_ws C T N, w ∈ Ts) (hK : va_K D cl tys s) (hP : va_P D cl ws H) (q0 : Nat) {fs : List Value} (he : ws[q0]? = some (a, .inr (ci, fs))) (hc : cl[ci]? = some (C, T, N)) (k : Nat) (hk : k < N) (hlink : (Cond.fieldLink own index ref (T k).2.1 (T k).2.2.1).before args s = true) (hr : (T k).1 = ref) {v : Value} (hv : fs[k]? = some v) (d : decode cc pc = .ok (.getfield index, 3)) (kk : W p l e R s m args below meth c H locs cells slots Q (F0 m (pc + 3) ls (v :: rest))) : W p l e R s m args below meth c H locs cells slots Q (F0 m pc ls (.ref a :: rest)) := va_get S.1 S.2.1 S.2.2.2.2 hin S.2.2.2.1 hK hP q0 he hc k hk hlink (fun x h => by rw [← hr]; exact h) hv d kk
theorem k_put (S : CallFix p m c cc nL s args Ts own) {ref C : String} {T : u_T} {N ci index : Nat} (hin : ∀ w ∈ u_ws C T N, w ∈ Ts) (ty0 : Nat → FieldType) (hty : ∀ k, k < N → parseFieldDescriptor (T k).2.2.1 = some (ty0 k)) (hnm : ∀ a, a < N → ∀ b, b < N → a ≠ b → (T a).2.1 ≠ (T b).2.1) (hK : va_K D cl tys s) (hP : va_P D cl ws H) (hD : va_D A ws) (hS0 : va_S A H0 H locs) (q0 : Nat) {fs : List Value} (he : ws[q0]? = some (a, .inr (ci, fs))) (hc : cl[ci]? = some (C, T, N)) (k : Nat) (hk : k < N) (hlink : (Cond.fieldLink own index ref (T k).2.1 (T k).2.2.1).before args s = true) (hr : (T k).1 = ref) (hfin : (T k).2.2.2 = false) {v : Value} (hn : narrow (ty0 k) v = v) (hfit : fits (ty0 k) v = true) (hl : k < fs.length) (d : decode cc pc = .ok (.putfield index, 3)) (hw : ws.set q0 (a, .inr (ci, fs.set k v)) = ws2) (kk : ∀ (H1 : Heap) (locs1 : List Loc), va_P D cl ws2 H1 → va_D A ws2 → va_S A H0 H1 locs1 → W p l e R s m args below meth c H1 locs1 cells slots Q (F0 m (pc + 3) ls rest)) : W p l e R s m args below meth c H locs cells slots Q (F0 m pc ls (v :: .ref a :: rest)) := by
  subst hw
  exact va_put S.1 S.2.1 S.2.2.2.2 hin ty0 hty hnm S.2.2.2.1 hK hP hD hS0 q0 he hc k hk hlink (fun x h => by rw [← hr]; exact h) hfin (hty k hk) hn hfit hl d kk
theorem k_putF (S : CallFix p m c cc nL s args Ts own) {ref C : String} {T : u_T} {N ci index : Nat} (hin : ∀ w ∈ u_ws C T N, w ∈ Ts) (ty0 : Nat → FieldType) (hty : ∀ k, k < N → parseFieldDescriptor (T k).2.2.1 = some (ty0 k)) (hnm : ∀ a, a < N → ∀ b, b < N → a ≠ b → (T a).2.1 ≠ (T b).2.1) (hK : va_K D cl tys s) (hP : va_P D cl ws H) (hD : va_D A ws) (hS0 : va_S A H0 H locs) (q0 : Nat) {fs : List Value} (he : ws[q0]? = some (a, .inr (ci, fs))) (hc : cl[ci]? = some (C, T, N)) (k : Nat) (hk : k < N) (hlink : (Cond.fieldLink own index ref (T k).2.1 (T k).2.2.1).before args s = true) (hr : (T k).1 = ref) (hfin : (T k).2.2.2 = true) (hin2 : meth.name = "<init>") (hdecl : (T k).1 = own) {v : Value} (hn : narrow (ty0 k) v = v) (hfit : fits (ty0 k) v = true) (hl : k < fs.length) (d : decode cc pc = .ok (.putfield index, 3)) (hw : ws.set q0 (a, .inr (ci, fs.set k v)) = ws2) (kk : ∀ (H1 : Heap) (locs1 : List Loc), va_P D cl ws2 H1 → va_D A ws2 → va_S A H0 H1 locs1 → W p l e R s m args below meth c H1 locs1 cells slots Q (F0 m (pc + 3) ls rest)) : W p l e R s m args below meth c H locs cells slots Q (F0 m pc ls (v :: .ref a :: rest)) := by
  subst hw
  exact va_putF S.1 S.2.1 S.2.2.2.2 hin ty0 hty hnm S.2.2.2.1 hK hP hD hS0 q0 he hc k hk hlink (fun x h => by rw [← hr]; exact h) hfin hin2 hdecl (hty k hk) hn hfit hl d kk
/-- a loop: from any state of the head that holds the invariant the walk comes to its end, if it does so from each that comes back with a smaller measure -/
theorem wl {σ : Type} (world : σ → va_W) (lv : σ → List (Nat × Value)) (I : σ → Prop) (μ : σ → Nat) {st : List Value}
    (body : ∀ x, I x → (∀ x', I x' → μ x' < μ x → ∀ (H : Heap) (locs : List Loc) (ls : Array Slot), va_P D cl (world x') H → va_D A (world x') → va_S A H0 H locs → lv_has ls nL (lv x') → W p l e R s m args below meth c H locs cells slots Q (F0 m pc ls st)) →
      ∀ (H : Heap) (locs : List Loc) (ls : Array Slot), va_P D cl (world x) H → va_D A (world x) → va_S A H0 H locs → lv_has ls nL (lv x) → W p l e R s m args below meth c H locs cells slots Q (F0 m pc ls st))
    (x : σ) (h0 : I x) (hP : va_P D cl (world x) H) (hD : va_D A (world x)) (hS : va_S A H0 H locs) (hl : lv_has ls nL (lv x)) : W p l e R s m args below meth c H locs cells slots Q (F0 m pc ls st) := by
  have key : ∀ (k : Nat) (x : σ), μ x < k → I x → ∀ (H : Heap) (locs : List Loc) (ls : Array Slot), va_P D cl (world x) H → va_D A (world x) → va_S A H0 H locs → lv_has ls nL (lv x) → W p l e R s m args below meth c H locs cells slots Q (F0 m pc ls st) := by
    intro k
    induction k with
    | zero => intro x h; exact absurd h (Nat.not_lt_zero _)
    | succ k ih =>
      intro x hk hI
      exact body x hI (fun x' hI' hm => ih x' (by omega) hI')
  exact key (μ x + 1) x (Nat.lt_succ_self _) h0 H locs ls hP hD hS hl
/-- a join: what holds from a place on for every state of a kind, used once for each road that comes there -/
theorem wj {σ : Type} (world : σ → va_W) (lv : σ → List (Nat × Value)) (st : σ → List Value) (I : σ → Prop) {pc2 : Nat} {pc1 : Nat} {st1 : List Value}
    (body : ∀ x, I x → ∀ (H : Heap) (locs : List Loc) (ls : Array Slot), va_P D cl (world x) H → va_D A (world x) → va_S A H0 H locs → lv_has ls nL (lv x) → W p l e R s m args below meth c H locs cells slots Q (F0 m pc2 ls (st x)))
    (k : (∀ x, I x → ∀ (H : Heap) (locs : List Loc) (ls : Array Slot), va_P D cl (world x) H → va_D A (world x) → va_S A H0 H locs → lv_has ls nL (lv x) → W p l e R s m args below meth c H locs cells slots Q (F0 m pc2 ls (st x))) → W p l e R s m args below meth c H locs cells slots Q (F0 m pc1 ls st1)) : W p l e R s m args below meth c H locs cells slots Q (F0 m pc1 ls st1) := k body

/-- what the statics hold, outside of what may be written: the two rows of steps, and what a new Throwable reads -/
def stX (j : Nat) : Int32 := if j = 0 then 1 else if j = 2 then -1 else 0
def stY (j : Nat) : Int32 := if j = 1 then 1 else if j = 3 then -1 else 0
/-- the links to private members of a nest mate -/
def gN (U : State) : Prop := va_Nw (.methodLinkNest RX2 15 yX5_isCell RX5) U ∧ va_Nw (.methodLinkNest RX3 22 yX5_isCell RX5) U ∧ va_Nw (.methodLinkNest RX3 36 yX5_isDirection RX5) U ∧ va_Nw (.methodLinkNest RX3 61 yX5_isInField RX5) U ∧ va_Nw (.methodLinkNest RX3 65 yX5_numberOf RX5) U ∧ va_Nw (.methodLinkNest RX4 83 yX5_quotient RX5) U
theorem gN.warm {s U : State} (hW : s.WarmedH U.vm) (h : gN s) : gN U := by
  obtain ⟨h1, h2, h3, h4, h5, h6⟩ := h
  exact ⟨h1.warmM hW, h2.warmM hW, h3.warmM hW, h4.warmM hW, h5.warmM hW, h6.warmM hW⟩
theorem gN.same {s U : State} (hW : s.vm = U.vm) (h : gN s) : gN U := by
  obtain ⟨h1, h2, h3, h4, h5, h6⟩ := h
  exact ⟨h1.same rfl hW, h2.same rfl hW, h3.same rfl hW, h4.same rfl hW, h5.same rfl hW, h6.same rfl hW⟩
def gS0 (A : Nat → Prop) (U : State) (H : Heap) : Prop :=
  (∃ sx : Nat, va_Z "Particleway$Field" "STEP_X" "[I" (.ref sx) A U H ∧ va_T .int sx 4 (fun j => .int (stX j)) A U H) ∧
  (∃ sy : Nat, va_Z "Particleway$Field" "STEP_Y" "[I" (.ref sy) A U H ∧ va_T .int sy 4 (fun j => .int (stY j)) A U H) ∧
  vx_Zq Bundle.tN "UNASSIGNED_STACK" Bundle.steD A U H ∧ vx_Zq Bundle.tN "SUPPRESSED_SENTINEL" Bundle.listD A U H
theorem gS0.moved {A : Nat → Prop} {u U : State} {H : Heap} (hvm : u.vm.Alike U.vm) (h : gS0 A u H) : gS0 A U H := by
  obtain ⟨⟨sx, h1, h2⟩, ⟨sy, h3, h4⟩, h5, h6⟩ := h
  exact ⟨⟨sx, va_Z.moved hvm h1, va_T.moved hvm h2⟩, ⟨sy, va_Z.moved hvm h3, va_T.moved hvm h4⟩, vx_Zq.moved hvm h5, vx_Zq.moved hvm h6⟩
theorem gS0.kept {A : Nat → Prop} {U : State} {H H1 : Heap} (h : gS0 A U H) (hq : ∀ a : Nat, a < H.size → ¬ A a → H1[a]? = H[a]?) : gS0 A U H1 := by
  obtain ⟨⟨sx, h1, h2⟩, ⟨sy, h3, h4⟩, h5, h6⟩ := h
  exact ⟨⟨sx, h1.kept hq, h2.kept hq⟩, ⟨sy, h3.kept hq, h4.kept hq⟩, h5.kept hq, h6.kept hq⟩
theorem gS0.narrow {A B : Nat → Prop} {U : State} {H : Heap} (h : gS0 A U H) (hAB : ∀ q, B q → A q) : gS0 B U H := by
  obtain ⟨⟨sx, h1, h2⟩, ⟨sy, h3, h4⟩, h5, h6⟩ := h
  exact ⟨⟨sx, h1.narrow hAB, h2.narrow hAB⟩, ⟨sy, h3.narrow hAB, h4.narrow hAB⟩, h5.narrow hAB, h6.narrow hAB⟩
def gS (A : Nat → Prop) (U : State) (H : Heap) : Prop := gS0 A U H ∧ gN U
/-- a contract's start: the arguments, the world, its size, the tables, the statics -/
def mPc (D : va_G) (tys : List (ClassId × FieldType)) (ws : va_W) (sz : Nat) (av : List Value) : Array Value → State → Prop :=
  va_Pc av (fun U => U.heap.size = sz ∧ va_P D vwCl ws U.heap ∧ va_K D vwCl tys U ∧ va_D (fun _ => True) ws ∧ gS (va_A ws sz) U U.heap)
def mB (D : va_G) (tys : List (ClassId × FieldType)) (A : Nat → Prop) : va_W → State → Prop := fun w t => va_P D vwCl w t.heap ∧ va_K D vwCl tys t ∧ va_D A w
theorem mPc_blind {D : va_G} {tys : List (ClassId × FieldType)} {ws : va_W} {sz : Nat} {av : List Value} : FrameBlind (mPc D tys ws sz av) := by
  intro a U g mk q
  obtain ⟨h1, h2, h3, h4, h5, h6⟩ := q
  exact ⟨h1, h2, h3, va_K.moved (u := U) (U := U.calling g mk a) (Vm.Alike.refl U.vm) h4, h5, gS0.moved (u := U) (U := U.calling g mk a) (Vm.Alike.refl U.vm) h6.1, gN.same (s := U) (U := U.calling g mk a) rfl h6.2⟩
theorem mPc_of {wc : va_W} {av : List Value} (hK : va_K D vwCl tys s) (hP : va_P D vwCl ws H) (hD : va_D A ws) (hS : va_S A s.heap H locs) (hA : ∀ q, s.heap.size ≤ q → A q) (hG : gS A s s.heap) (isC : List Nat) (hC : isC.map (fun i => ws[i]?) = wc.map some) (hnC : va_nd isC = true) (U : State) (hU : U.heap = H) (hW : s.WarmedH U.vm) : mPc D tys wc H.size av av.toArray U := by
  have hF := va_free (wc := wc) hD hS hA isC hC
  refine ⟨rfl, by rw [hU], ?_, va_K.moved hW.alike hK, (hD.sub isC hnC hC).weaken (fun _ _ _ _ => trivial), ?_⟩
  · rw [hU]
    refine hP.sub isC ?_
    have h2 := congrArg (fun x : List (Option (Nat × va_E)) => x.filterMap id) hC
    simpa [List.filterMap_map, Function.comp_def] using h2
  · rw [hU]
    exact ⟨gS0.moved hW.alike (gS0.narrow (hG.1.kept hS.2.1) hF), hG.2.warm hW⟩

theorem st_i {y : MethodName} {wsy ws' : List Cond} {rm : Room} {WS W1 : va_W} {sz : Nat} {av : List Value} {lv0 : List (Nat × Value)} {mc ms maxL : Nat} {RV : Int32}
    {own : String} (hy : plainName y.cls = true) (hcl : y.cls = own) (hw : wsy = .code y cc maxL (some .int) :: ws') (hlen : (lg_sl av).length ≤ maxL) (hlv : lv_args 0 av = lv0)
    (body : ∀ (p : Program) (e : Env) (s : State) (m : MethodId) (below : List Frame) (meth : Method) (c : Code) (A : Nat → Prop) (Q : State → Prop), CallFix p m c cc maxL s av.toArray wsy own → meth.name = y.name → (∀ q, s.heap.size ≤ q → A q) → va_K D vwCl tys s → va_P D vwCl WS s.heap → va_D A WS → gS A s s.heap → va_S A s.heap s.heap [] →
      (∀ (H : Heap) (locs : List Loc) (ls : Array Slot) (pc : Nat), decode cc pc = .ok (.ireturn, 1) → va_P D vwCl W1 H → va_D A W1 → va_S A s.heap H locs → W p l e rm s m av.toArray below meth c H locs mc ms Q (F0 m pc ls [.int RV])) →
      ∀ ls : Array Slot, lv_has ls maxL lv0 → W p l e rm s m av.toArray below meth c s.heap [] 0 0 Q (F0 m 0 ls [])) :
    Met l y wsy rm (mPc D tys WS sz av) (va_Qi (fun (r : Int32) (u : va_W) => r = RV ∧ u = W1) (mB D tys (va_A WS sz)) (va_A WS sz)) mc ms (va_A WS sz) := by
  refine Met.ofW (cc := cc) (maxL := maxL) (ret := (some .int)) hy hw ?_
  intro p e s m args below meth c s₁ B hml hv
  obtain ⟨rfl, rfl, hP, hK, hD0, hG⟩ := hv
  have hts := atoms_spec (ws := wsy) B.pre
  have hown := findClass_of_methodNamed B.named
  rw [hcl] at hown
  have hl := lv_entry av (n := maxL) hlen
  rw [lg_entry_eq]
  rw [hlv] at hl
  refine body p e s m below meth c (va_A WS s.heap.size) _ ⟨B.exec, B.bytes, hml, hown, hts⟩ (name_of_methodNamed B.named B.method).1 (fun q h => Or.inr h) hK hP hD0.self hG va_S.rf ?_ _ hl
  intro H locs ls pc hd hP1 hD1 hS1
  exact W.iret B.exec B.bytes B.returns (fun t ht hW => ⟨⟨RV, W1, rfl, ⟨rfl, rfl⟩, by rw [ht]; exact hP1, va_K.moved hW.alike hK, hD1⟩, hS1.F ht⟩) hS1.2.2 hd B.notSynchronized
theorem st_z {y : MethodName} {wsy ws' : List Cond} {rm : Room} {WS W1 : va_W} {sz : Nat} {av : List Value} {lv0 : List (Nat × Value)} {mc ms maxL : Nat} {bv : Bool}
    {own : String} (hy : plainName y.cls = true) (hcl : y.cls = own) (hw : wsy = .code y cc maxL (some .boolean) :: ws') (hlen : (lg_sl av).length ≤ maxL) (hlv : lv_args 0 av = lv0)
    (body : ∀ (p : Program) (e : Env) (s : State) (m : MethodId) (below : List Frame) (meth : Method) (c : Code) (A : Nat → Prop) (Q : State → Prop), CallFix p m c cc maxL s av.toArray wsy own → meth.name = y.name → (∀ q, s.heap.size ≤ q → A q) → va_K D vwCl tys s → va_P D vwCl WS s.heap → va_D A WS → gS A s s.heap → va_S A s.heap s.heap [] →
      (∀ (H : Heap) (locs : List Loc) (ls : Array Slot) (pc : Nat), decode cc pc = .ok (.ireturn, 1) → va_P D vwCl W1 H → va_D A W1 → va_S A s.heap H locs → W p l e rm s m av.toArray below meth c H locs mc ms Q (F0 m pc ls [.int (bI bv)])) →
      ∀ ls : Array Slot, lv_has ls maxL lv0 → W p l e rm s m av.toArray below meth c s.heap [] 0 0 Q (F0 m 0 ls [])) :
    Met l y wsy rm (mPc D tys WS sz av) (va_Qi (fun (r : Int32) (u : va_W) => r = bI bv ∧ u = W1) (mB D tys (va_A WS sz)) (va_A WS sz)) mc ms (va_A WS sz) := by
  refine Met.ofW (cc := cc) (maxL := maxL) (ret := (some .boolean)) hy hw ?_
  intro p e s m args below meth c s₁ B hml hv
  obtain ⟨rfl, rfl, hP, hK, hD0, hG⟩ := hv
  have hts := atoms_spec (ws := wsy) B.pre
  have hown := findClass_of_methodNamed B.named
  rw [hcl] at hown
  have hl := lv_entry av (n := maxL) hlen
  rw [lg_entry_eq]
  rw [hlv] at hl
  refine body p e s m below meth c (va_A WS s.heap.size) _ ⟨B.exec, B.bytes, hml, hown, hts⟩ (name_of_methodNamed B.named B.method).1 (fun q h => Or.inr h) hK hP hD0.self hG va_S.rf ?_ _ hl
  intro H locs ls pc hd hP1 hD1 hS1
  exact W.zret B.exec B.bytes B.returns (nar_bI bv) (fun t ht hW => ⟨⟨bI bv, W1, rfl, ⟨rfl, rfl⟩, by rw [ht]; exact hP1, va_K.moved hW.alike hK, hD1⟩, hS1.F ht⟩) hS1.2.2 hd B.notSynchronized
theorem st_l {y : MethodName} {wsy ws' : List Cond} {rm : Room} {WS W1 : va_W} {sz : Nat} {av : List Value} {lv0 : List (Nat × Value)} {mc ms maxL : Nat} {RV : Int64}
    {own : String} (hy : plainName y.cls = true) (hcl : y.cls = own) (hw : wsy = .code y cc maxL (some .long) :: ws') (hlen : (lg_sl av).length ≤ maxL) (hlv : lv_args 0 av = lv0)
    (body : ∀ (p : Program) (e : Env) (s : State) (m : MethodId) (below : List Frame) (meth : Method) (c : Code) (A : Nat → Prop) (Q : State → Prop), CallFix p m c cc maxL s av.toArray wsy own → meth.name = y.name → (∀ q, s.heap.size ≤ q → A q) → va_K D vwCl tys s → va_P D vwCl WS s.heap → va_D A WS → gS A s s.heap → va_S A s.heap s.heap [] →
      (∀ (H : Heap) (locs : List Loc) (ls : Array Slot) (pc : Nat), decode cc pc = .ok (.lreturn, 1) → va_P D vwCl W1 H → va_D A W1 → va_S A s.heap H locs → W p l e rm s m av.toArray below meth c H locs mc ms Q (F0 m pc ls [.long RV])) →
      ∀ ls : Array Slot, lv_has ls maxL lv0 → W p l e rm s m av.toArray below meth c s.heap [] 0 0 Q (F0 m 0 ls [])) :
    Met l y wsy rm (mPc D tys WS sz av) (va_Ql (fun (r : Int64) (u : va_W) => r = RV ∧ u = W1) (mB D tys (va_A WS sz)) (va_A WS sz)) mc ms (va_A WS sz) := by
  refine Met.ofW (cc := cc) (maxL := maxL) (ret := (some .long)) hy hw ?_
  intro p e s m args below meth c s₁ B hml hv
  obtain ⟨rfl, rfl, hP, hK, hD0, hG⟩ := hv
  have hts := atoms_spec (ws := wsy) B.pre
  have hown := findClass_of_methodNamed B.named
  rw [hcl] at hown
  have hl := lv_entry av (n := maxL) hlen
  rw [lg_entry_eq]
  rw [hlv] at hl
  refine body p e s m below meth c (va_A WS s.heap.size) _ ⟨B.exec, B.bytes, hml, hown, hts⟩ (name_of_methodNamed B.named B.method).1 (fun q h => Or.inr h) hK hP hD0.self hG va_S.rf ?_ _ hl
  intro H locs ls pc hd hP1 hD1 hS1
  exact W.lret B.exec B.bytes B.returns (fun t ht hW => ⟨⟨RV, W1, rfl, ⟨rfl, rfl⟩, by rw [ht]; exact hP1, va_K.moved hW.alike hK, hD1⟩, hS1.F ht⟩) hS1.2.2 hd B.notSynchronized
theorem st_v {y : MethodName} {wsy ws' : List Cond} {rm : Room} {WS W1 : va_W} {sz : Nat} {av : List Value} {lv0 : List (Nat × Value)} {mc ms maxL : Nat} 
    {own : String} (hy : plainName y.cls = true) (hcl : y.cls = own) (hw : wsy = .code y cc maxL none :: ws') (hlen : (lg_sl av).length ≤ maxL) (hlv : lv_args 0 av = lv0)
    (body : ∀ (p : Program) (e : Env) (s : State) (m : MethodId) (below : List Frame) (meth : Method) (c : Code) (A : Nat → Prop) (Q : State → Prop), CallFix p m c cc maxL s av.toArray wsy own → meth.name = y.name → (∀ q, s.heap.size ≤ q → A q) → va_K D vwCl tys s → va_P D vwCl WS s.heap → va_D A WS → gS A s s.heap → va_S A s.heap s.heap [] →
      (∀ (H : Heap) (locs : List Loc) (ls : Array Slot) (pc : Nat), decode cc pc = .ok (.return_, 1) → va_P D vwCl W1 H → va_D A W1 → va_S A s.heap H locs → W p l e rm s m av.toArray below meth c H locs mc ms Q (F0 m pc ls [])) →
      ∀ ls : Array Slot, lv_has ls maxL lv0 → W p l e rm s m av.toArray below meth c s.heap [] 0 0 Q (F0 m 0 ls [])) :
    Met l y wsy rm (mPc D tys WS sz av) (va_Qv (fun (u : va_W) => u = W1) (mB D tys (va_A WS sz)) (va_A WS sz)) mc ms (va_A WS sz) := by
  refine Met.ofW (cc := cc) (maxL := maxL) (ret := none) hy hw ?_
  intro p e s m args below meth c s₁ B hml hv
  obtain ⟨rfl, rfl, hP, hK, hD0, hG⟩ := hv
  have hts := atoms_spec (ws := wsy) B.pre
  have hown := findClass_of_methodNamed B.named
  rw [hcl] at hown
  have hl := lv_entry av (n := maxL) hlen
  rw [lg_entry_eq]
  rw [hlv] at hl
  refine body p e s m below meth c (va_A WS s.heap.size) _ ⟨B.exec, B.bytes, hml, hown, hts⟩ (name_of_methodNamed B.named B.method).1 (fun q h => Or.inr h) hK hP hD0.self hG va_S.rf ?_ _ hl
  intro H locs ls pc hd hP1 hD1 hS1
  exact W.vret B.exec B.bytes B.returns (fun t ht hW => ⟨⟨W1, rfl, rfl, by rw [ht]; exact hP1, va_K.moved hW.alike hK, hD1⟩, hS1.F ht⟩) hS1.2.2 hd B.notSynchronized
theorem st_r {y : MethodName} {wsy ws' : List Cond} {rm : Room} {WS W1 : va_W} {sz : Nat} {av : List Value} {lv0 : List (Nat × Value)} {mc ms maxL : Nat} {RV : Nat} {cn : String}
    {own : String} (hy : plainName y.cls = true) (hcl : y.cls = own) (hw : wsy = .code y cc maxL (some (.object cn)) :: ws') (hlen : (lg_sl av).length ≤ maxL) (hlv : lv_args 0 av = lv0)
    (body : ∀ (p : Program) (e : Env) (s : State) (m : MethodId) (below : List Frame) (meth : Method) (c : Code) (A : Nat → Prop) (Q : State → Prop), CallFix p m c cc maxL s av.toArray wsy own → meth.name = y.name → (∀ q, s.heap.size ≤ q → A q) → va_K D vwCl tys s → va_P D vwCl WS s.heap → va_D A WS → gS A s s.heap → va_S A s.heap s.heap [] →
      (∀ (H : Heap) (locs : List Loc) (ls : Array Slot) (pc : Nat), decode cc pc = .ok (.areturn, 1) → va_P D vwCl W1 H → va_D A W1 → va_S A s.heap H locs → W p l e rm s m av.toArray below meth c H locs mc ms Q (F0 m pc ls [.ref RV])) →
      ∀ ls : Array Slot, lv_has ls maxL lv0 → W p l e rm s m av.toArray below meth c s.heap [] 0 0 Q (F0 m 0 ls [])) :
    Met l y wsy rm (mPc D tys WS sz av) (va_Qr (fun (u : va_W) => u = W1) (fun u a t => a = RV ∧ mB D tys (va_A WS sz) u t) (va_A WS sz)) mc ms (va_A WS sz) := by
  refine Met.ofW (cc := cc) (maxL := maxL) (ret := (some (.object cn))) hy hw ?_
  intro p e s m args below meth c s₁ B hml hv
  obtain ⟨rfl, rfl, hP, hK, hD0, hG⟩ := hv
  have hts := atoms_spec (ws := wsy) B.pre
  have hown := findClass_of_methodNamed B.named
  rw [hcl] at hown
  have hl := lv_entry av (n := maxL) hlen
  rw [lg_entry_eq]
  rw [hlv] at hl
  refine body p e s m below meth c (va_A WS s.heap.size) _ ⟨B.exec, B.bytes, hml, hown, hts⟩ (name_of_methodNamed B.named B.method).1 (fun q h => Or.inr h) hK hP hD0.self hG va_S.rf ?_ _ hl
  intro H locs ls pc hd hP1 hD1 hS1
  exact W.aret B.exec B.bytes B.returns (Or.inl ⟨cn, rfl⟩) (Or.inr ⟨RV, rfl⟩) (fun t ht hW => ⟨⟨W1, RV, rfl, rfl, rfl, by rw [ht]; exact hP1, va_K.moved hW.alike hK, hD1⟩, hS1.F ht⟩) hS1.2.2 hd B.notSynchronized
theorem kcV_i (S : CallFix p m c cc nL s args Ts own) {y : MethodName} {wsy : List Cond} {rm : Room} {index maxL mc ms : Nat} {ret : Option FieldType} {bytes : ByteArray} {wc wr W1 : va_W} {As st0 : List Value} {RV : Int32} {b ci q0 : Nat} {C : String} {T : u_T} {N : Nat} {fs : List Value} 
    (hM : Met l y wsy rm (mPc D tys wc H.size (.ref b :: As)) (va_Qi (fun (r : Int32) (u : va_W) => r = RV ∧ u = W1) (mB D tys (va_A wc H.size)) (va_A wc H.size)) mc ms (va_A wc H.size)) (cw : CallW R s args own C index y bytes maxL ret wsy rm mc ms n)
    (hK : va_K D vwCl tys s) (hP : va_P D vwCl ws H) (hD : va_D A ws) (hS : va_S A s.heap H locs) (hA : ∀ q, s.heap.size ≤ q → A q) (hG : gS A s s.heap)
    (isC isR pm : List Nat) (hC : isC.map (fun i => ws[i]?) = wc.map some) (hR : isR.map (fun i => ws[i]?) = wr.map some) (hnC : va_nd isC = true) (hnR : va_nd isR = true) (hdis : ∀ i ∈ isR, i ∉ isC) (hnp : va_nd pm = true) (hpm : pm.map (fun i => (wr ++ W1)[i]?) = ws2.map some)
    (hc : vwCl[ci]? = some (C, T, N)) (he : ws[q0]? = some (b, .inr (ci, fs))) (hn : As.length = n) (hsize : ls.size = nL) (hst : st0 = As.reverse ++ .ref b :: rest) (hW : (rest.map fun v => v.category).sum ≤ 8) (d : decode cc pc = .ok (.invokevirtual index, 3)) (hf : cells + mc ≤ R.cells ∧ slots + ms ≤ R.slots)
    (kk : ∀ (H1 : Heap) (locs1 : List Loc), va_P D vwCl ws2 H1 → va_D A ws2 → va_S A s.heap H1 locs1 → W p l e R s m args below meth c H1 locs1 (cells + mc) (slots + ms) Q (F0 m (pc + 3) ls (.int RV :: rest))) :
    W p l e R s m args below meth c H locs cells slots Q (F0 m pc ls st0) := by
  have hFc := va_free (wc := wc) hD hS hA isC hC
  refine va_calli (va_runV S hM cw ⟨mPc_blind, va_recv hK hP hc he, mPc_of hK hP hD hS hA hG isC hC hnC⟩ rfl hn hsize hst (lv_room hW) d hf) hS (fun q _ h => hFc q h) hFc (fun r u t H1 locs1 ht hvm hw hB hz1 hk1 hS1 => ?_)
  obtain ⟨rfl, rfl⟩ := hw
  obtain ⟨hP1, hK1, hD1⟩ := hB
  rw [ht] at hP1
  obtain ⟨hP2, hD2⟩ := va_join hP hD isC isR hC hR hnR hdis hk1 hFc hP1 hD1
  refine kk H1 locs1 (hP2.sub pm ?_) (hD2.sub pm hnp hpm) hS1
  have h2 := congrArg (fun x : List (Option (Nat × va_E)) => x.filterMap id) hpm
  simpa [List.filterMap_map, Function.comp_def] using h2
theorem kcV_l (S : CallFix p m c cc nL s args Ts own) {y : MethodName} {wsy : List Cond} {rm : Room} {index maxL mc ms : Nat} {ret : Option FieldType} {bytes : ByteArray} {wc wr W1 : va_W} {As st0 : List Value} {RV : Int64} {b ci q0 : Nat} {C : String} {T : u_T} {N : Nat} {fs : List Value} 
    (hM : Met l y wsy rm (mPc D tys wc H.size (.ref b :: As)) (va_Ql (fun (r : Int64) (u : va_W) => r = RV ∧ u = W1) (mB D tys (va_A wc H.size)) (va_A wc H.size)) mc ms (va_A wc H.size)) (cw : CallW R s args own C index y bytes maxL ret wsy rm mc ms n)
    (hK : va_K D vwCl tys s) (hP : va_P D vwCl ws H) (hD : va_D A ws) (hS : va_S A s.heap H locs) (hA : ∀ q, s.heap.size ≤ q → A q) (hG : gS A s s.heap)
    (isC isR pm : List Nat) (hC : isC.map (fun i => ws[i]?) = wc.map some) (hR : isR.map (fun i => ws[i]?) = wr.map some) (hnC : va_nd isC = true) (hnR : va_nd isR = true) (hdis : ∀ i ∈ isR, i ∉ isC) (hnp : va_nd pm = true) (hpm : pm.map (fun i => (wr ++ W1)[i]?) = ws2.map some)
    (hc : vwCl[ci]? = some (C, T, N)) (he : ws[q0]? = some (b, .inr (ci, fs))) (hn : As.length = n) (hsize : ls.size = nL) (hst : st0 = As.reverse ++ .ref b :: rest) (hW : (rest.map fun v => v.category).sum ≤ 8) (d : decode cc pc = .ok (.invokevirtual index, 3)) (hf : cells + mc ≤ R.cells ∧ slots + ms ≤ R.slots)
    (kk : ∀ (H1 : Heap) (locs1 : List Loc), va_P D vwCl ws2 H1 → va_D A ws2 → va_S A s.heap H1 locs1 → W p l e R s m args below meth c H1 locs1 (cells + mc) (slots + ms) Q (F0 m (pc + 3) ls (.long RV :: rest))) :
    W p l e R s m args below meth c H locs cells slots Q (F0 m pc ls st0) := by
  have hFc := va_free (wc := wc) hD hS hA isC hC
  refine va_calll (va_runV S hM cw ⟨mPc_blind, va_recv hK hP hc he, mPc_of hK hP hD hS hA hG isC hC hnC⟩ rfl hn hsize hst (lv_room hW) d hf) hS (fun q _ h => hFc q h) hFc (fun r u t H1 locs1 ht hvm hw hB hz1 hk1 hS1 => ?_)
  obtain ⟨rfl, rfl⟩ := hw
  obtain ⟨hP1, hK1, hD1⟩ := hB
  rw [ht] at hP1
  obtain ⟨hP2, hD2⟩ := va_join hP hD isC isR hC hR hnR hdis hk1 hFc hP1 hD1
  refine kk H1 locs1 (hP2.sub pm ?_) (hD2.sub pm hnp hpm) hS1
  have h2 := congrArg (fun x : List (Option (Nat × va_E)) => x.filterMap id) hpm
  simpa [List.filterMap_map, Function.comp_def] using h2
theorem kcV_v (S : CallFix p m c cc nL s args Ts own) {y : MethodName} {wsy : List Cond} {rm : Room} {index maxL mc ms : Nat} {ret : Option FieldType} {bytes : ByteArray} {wc wr W1 : va_W} {As st0 : List Value}  {b ci q0 : Nat} {C : String} {T : u_T} {N : Nat} {fs : List Value} 
    (hM : Met l y wsy rm (mPc D tys wc H.size (.ref b :: As)) (va_Qv (fun (u : va_W) => u = W1) (mB D tys (va_A wc H.size)) (va_A wc H.size)) mc ms (va_A wc H.size)) (cw : CallW R s args own C index y bytes maxL ret wsy rm mc ms n)
    (hK : va_K D vwCl tys s) (hP : va_P D vwCl ws H) (hD : va_D A ws) (hS : va_S A s.heap H locs) (hA : ∀ q, s.heap.size ≤ q → A q) (hG : gS A s s.heap)
    (isC isR pm : List Nat) (hC : isC.map (fun i => ws[i]?) = wc.map some) (hR : isR.map (fun i => ws[i]?) = wr.map some) (hnC : va_nd isC = true) (hnR : va_nd isR = true) (hdis : ∀ i ∈ isR, i ∉ isC) (hnp : va_nd pm = true) (hpm : pm.map (fun i => (wr ++ W1)[i]?) = ws2.map some)
    (hc : vwCl[ci]? = some (C, T, N)) (he : ws[q0]? = some (b, .inr (ci, fs))) (hn : As.length = n) (hsize : ls.size = nL) (hst : st0 = As.reverse ++ .ref b :: rest) (hW : (rest.map fun v => v.category).sum ≤ 8) (d : decode cc pc = .ok (.invokevirtual index, 3)) (hf : cells + mc ≤ R.cells ∧ slots + ms ≤ R.slots)
    (kk : ∀ (H1 : Heap) (locs1 : List Loc), va_P D vwCl ws2 H1 → va_D A ws2 → va_S A s.heap H1 locs1 → W p l e R s m args below meth c H1 locs1 (cells + mc) (slots + ms) Q (F0 m (pc + 3) ls rest)) :
    W p l e R s m args below meth c H locs cells slots Q (F0 m pc ls st0) := by
  have hFc := va_free (wc := wc) hD hS hA isC hC
  refine va_callv (va_runV S hM cw ⟨mPc_blind, va_recv hK hP hc he, mPc_of hK hP hD hS hA hG isC hC hnC⟩ rfl hn hsize hst (lv_room hW) d hf) hS (fun q _ h => hFc q h) hFc (fun u t H1 locs1 ht hvm hw hB hz1 hk1 hS1 => ?_)
  subst hw
  obtain ⟨hP1, hK1, hD1⟩ := hB
  rw [ht] at hP1
  obtain ⟨hP2, hD2⟩ := va_join hP hD isC isR hC hR hnR hdis hk1 hFc hP1 hD1
  refine kk H1 locs1 (hP2.sub pm ?_) (hD2.sub pm hnp hpm) hS1
  have h2 := congrArg (fun x : List (Option (Nat × va_E)) => x.filterMap id) hpm
  simpa [List.filterMap_map, Function.comp_def] using h2
theorem kcV_r (S : CallFix p m c cc nL s args Ts own) {y : MethodName} {wsy : List Cond} {rm : Room} {index maxL mc ms : Nat} {ret : Option FieldType} {bytes : ByteArray} {wc wr W1 : va_W} {As st0 : List Value} {RV : Nat} {b ci q0 : Nat} {C : String} {T : u_T} {N : Nat} {fs : List Value} 
    (hM : Met l y wsy rm (mPc D tys wc H.size (.ref b :: As)) (va_Qr (fun (u : va_W) => u = W1) (fun u a t => a = RV ∧ mB D tys (va_A wc H.size) u t) (va_A wc H.size)) mc ms (va_A wc H.size)) (cw : CallW R s args own C index y bytes maxL ret wsy rm mc ms n)
    (hK : va_K D vwCl tys s) (hP : va_P D vwCl ws H) (hD : va_D A ws) (hS : va_S A s.heap H locs) (hA : ∀ q, s.heap.size ≤ q → A q) (hG : gS A s s.heap)
    (isC isR pm : List Nat) (hC : isC.map (fun i => ws[i]?) = wc.map some) (hR : isR.map (fun i => ws[i]?) = wr.map some) (hnC : va_nd isC = true) (hnR : va_nd isR = true) (hdis : ∀ i ∈ isR, i ∉ isC) (hnp : va_nd pm = true) (hpm : pm.map (fun i => (wr ++ W1)[i]?) = ws2.map some)
    (hc : vwCl[ci]? = some (C, T, N)) (he : ws[q0]? = some (b, .inr (ci, fs))) (hn : As.length = n) (hsize : ls.size = nL) (hst : st0 = As.reverse ++ .ref b :: rest) (hW : (rest.map fun v => v.category).sum ≤ 8) (d : decode cc pc = .ok (.invokevirtual index, 3)) (hf : cells + mc ≤ R.cells ∧ slots + ms ≤ R.slots)
    (kk : ∀ (H1 : Heap) (locs1 : List Loc), va_P D vwCl ws2 H1 → va_D A ws2 → va_S A s.heap H1 locs1 → W p l e R s m args below meth c H1 locs1 (cells + mc) (slots + ms) Q (F0 m (pc + 3) ls (.ref RV :: rest))) :
    W p l e R s m args below meth c H locs cells slots Q (F0 m pc ls st0) := by
  have hFc := va_free (wc := wc) hD hS hA isC hC
  refine va_callr (va_runV S hM cw ⟨mPc_blind, va_recv hK hP hc he, mPc_of hK hP hD hS hA hG isC hC hnC⟩ rfl hn hsize hst (lv_room hW) d hf) hS (fun q _ h => hFc q h) hFc (fun u ra t H1 locs1 ht hvm hw hB hz1 hk1 hS1 => ?_)
  subst hw
  obtain ⟨rfl, hP1, hK1, hD1⟩ := hB
  rw [ht] at hP1
  obtain ⟨hP2, hD2⟩ := va_join hP hD isC isR hC hR hnR hdis hk1 hFc hP1 hD1
  refine kk H1 locs1 (hP2.sub pm ?_) (hD2.sub pm hnp hpm) hS1
  have h2 := congrArg (fun x : List (Option (Nat × va_E)) => x.filterMap id) hpm
  simpa [List.filterMap_map, Function.comp_def] using h2
theorem kcS_i (S : CallFix p m c cc nL s args Ts own) {y : MethodName} {wsy : List Cond} {rm : Room} {index maxL mc ms : Nat} {ret : Option FieldType} {bytes : ByteArray} {wc wr W1 : va_W} {As st0 : List Value} {RV : Int32} 
    (hM : Met l y wsy rm (mPc D tys wc H.size As) (va_Qi (fun (r : Int32) (u : va_W) => r = RV ∧ u = W1) (mB D tys (va_A wc H.size)) (va_A wc H.size)) mc ms (va_A wc H.size)) (cw : CallB R s args own index y bytes maxL ret wsy rm mc ms n ∧ (Cond.static y).before args s = true)
    (hK : va_K D vwCl tys s) (hP : va_P D vwCl ws H) (hD : va_D A ws) (hS : va_S A s.heap H locs) (hA : ∀ q, s.heap.size ≤ q → A q) (hG : gS A s s.heap)
    (isC isR pm : List Nat) (hC : isC.map (fun i => ws[i]?) = wc.map some) (hR : isR.map (fun i => ws[i]?) = wr.map some) (hnC : va_nd isC = true) (hnR : va_nd isR = true) (hdis : ∀ i ∈ isR, i ∉ isC) (hnp : va_nd pm = true) (hpm : pm.map (fun i => (wr ++ W1)[i]?) = ws2.map some)
    (hn : As.length = n) (hsize : ls.size = nL) (hst : st0 = As.reverse ++ rest) (hW : (rest.map fun v => v.category).sum ≤ 8) (d : decode cc pc = .ok (.invokestatic index, 3)) (hf : cells + mc ≤ R.cells ∧ slots + ms ≤ R.slots)
    (kk : ∀ (H1 : Heap) (locs1 : List Loc), va_P D vwCl ws2 H1 → va_D A ws2 → va_S A s.heap H1 locs1 → W p l e R s m args below meth c H1 locs1 (cells + mc) (slots + ms) Q (F0 m (pc + 3) ls (.int RV :: rest))) :
    W p l e R s m args below meth c H locs cells slots Q (F0 m pc ls st0) := by
  have hFc := va_free (wc := wc) hD hS hA isC hC
  refine va_calli (va_runS S hM cw ⟨mPc_blind, mPc_of hK hP hD hS hA hG isC hC hnC⟩ rfl hn hsize hst (lv_room hW) d hf) hS (fun q _ h => hFc q h) hFc (fun r u t H1 locs1 ht hvm hw hB hz1 hk1 hS1 => ?_)
  obtain ⟨rfl, rfl⟩ := hw
  obtain ⟨hP1, hK1, hD1⟩ := hB
  rw [ht] at hP1
  obtain ⟨hP2, hD2⟩ := va_join hP hD isC isR hC hR hnR hdis hk1 hFc hP1 hD1
  refine kk H1 locs1 (hP2.sub pm ?_) (hD2.sub pm hnp hpm) hS1
  have h2 := congrArg (fun x : List (Option (Nat × va_E)) => x.filterMap id) hpm
  simpa [List.filterMap_map, Function.comp_def] using h2
theorem kcS_l (S : CallFix p m c cc nL s args Ts own) {y : MethodName} {wsy : List Cond} {rm : Room} {index maxL mc ms : Nat} {ret : Option FieldType} {bytes : ByteArray} {wc wr W1 : va_W} {As st0 : List Value} {RV : Int64} 
    (hM : Met l y wsy rm (mPc D tys wc H.size As) (va_Ql (fun (r : Int64) (u : va_W) => r = RV ∧ u = W1) (mB D tys (va_A wc H.size)) (va_A wc H.size)) mc ms (va_A wc H.size)) (cw : CallB R s args own index y bytes maxL ret wsy rm mc ms n ∧ (Cond.static y).before args s = true)
    (hK : va_K D vwCl tys s) (hP : va_P D vwCl ws H) (hD : va_D A ws) (hS : va_S A s.heap H locs) (hA : ∀ q, s.heap.size ≤ q → A q) (hG : gS A s s.heap)
    (isC isR pm : List Nat) (hC : isC.map (fun i => ws[i]?) = wc.map some) (hR : isR.map (fun i => ws[i]?) = wr.map some) (hnC : va_nd isC = true) (hnR : va_nd isR = true) (hdis : ∀ i ∈ isR, i ∉ isC) (hnp : va_nd pm = true) (hpm : pm.map (fun i => (wr ++ W1)[i]?) = ws2.map some)
    (hn : As.length = n) (hsize : ls.size = nL) (hst : st0 = As.reverse ++ rest) (hW : (rest.map fun v => v.category).sum ≤ 8) (d : decode cc pc = .ok (.invokestatic index, 3)) (hf : cells + mc ≤ R.cells ∧ slots + ms ≤ R.slots)
    (kk : ∀ (H1 : Heap) (locs1 : List Loc), va_P D vwCl ws2 H1 → va_D A ws2 → va_S A s.heap H1 locs1 → W p l e R s m args below meth c H1 locs1 (cells + mc) (slots + ms) Q (F0 m (pc + 3) ls (.long RV :: rest))) :
    W p l e R s m args below meth c H locs cells slots Q (F0 m pc ls st0) := by
  have hFc := va_free (wc := wc) hD hS hA isC hC
  refine va_calll (va_runS S hM cw ⟨mPc_blind, mPc_of hK hP hD hS hA hG isC hC hnC⟩ rfl hn hsize hst (lv_room hW) d hf) hS (fun q _ h => hFc q h) hFc (fun r u t H1 locs1 ht hvm hw hB hz1 hk1 hS1 => ?_)
  obtain ⟨rfl, rfl⟩ := hw
  obtain ⟨hP1, hK1, hD1⟩ := hB
  rw [ht] at hP1
  obtain ⟨hP2, hD2⟩ := va_join hP hD isC isR hC hR hnR hdis hk1 hFc hP1 hD1
  refine kk H1 locs1 (hP2.sub pm ?_) (hD2.sub pm hnp hpm) hS1
  have h2 := congrArg (fun x : List (Option (Nat × va_E)) => x.filterMap id) hpm
  simpa [List.filterMap_map, Function.comp_def] using h2
theorem kcS_v (S : CallFix p m c cc nL s args Ts own) {y : MethodName} {wsy : List Cond} {rm : Room} {index maxL mc ms : Nat} {ret : Option FieldType} {bytes : ByteArray} {wc wr W1 : va_W} {As st0 : List Value}  
    (hM : Met l y wsy rm (mPc D tys wc H.size As) (va_Qv (fun (u : va_W) => u = W1) (mB D tys (va_A wc H.size)) (va_A wc H.size)) mc ms (va_A wc H.size)) (cw : CallB R s args own index y bytes maxL ret wsy rm mc ms n ∧ (Cond.static y).before args s = true)
    (hK : va_K D vwCl tys s) (hP : va_P D vwCl ws H) (hD : va_D A ws) (hS : va_S A s.heap H locs) (hA : ∀ q, s.heap.size ≤ q → A q) (hG : gS A s s.heap)
    (isC isR pm : List Nat) (hC : isC.map (fun i => ws[i]?) = wc.map some) (hR : isR.map (fun i => ws[i]?) = wr.map some) (hnC : va_nd isC = true) (hnR : va_nd isR = true) (hdis : ∀ i ∈ isR, i ∉ isC) (hnp : va_nd pm = true) (hpm : pm.map (fun i => (wr ++ W1)[i]?) = ws2.map some)
    (hn : As.length = n) (hsize : ls.size = nL) (hst : st0 = As.reverse ++ rest) (hW : (rest.map fun v => v.category).sum ≤ 8) (d : decode cc pc = .ok (.invokestatic index, 3)) (hf : cells + mc ≤ R.cells ∧ slots + ms ≤ R.slots)
    (kk : ∀ (H1 : Heap) (locs1 : List Loc), va_P D vwCl ws2 H1 → va_D A ws2 → va_S A s.heap H1 locs1 → W p l e R s m args below meth c H1 locs1 (cells + mc) (slots + ms) Q (F0 m (pc + 3) ls rest)) :
    W p l e R s m args below meth c H locs cells slots Q (F0 m pc ls st0) := by
  have hFc := va_free (wc := wc) hD hS hA isC hC
  refine va_callv (va_runS S hM cw ⟨mPc_blind, mPc_of hK hP hD hS hA hG isC hC hnC⟩ rfl hn hsize hst (lv_room hW) d hf) hS (fun q _ h => hFc q h) hFc (fun u t H1 locs1 ht hvm hw hB hz1 hk1 hS1 => ?_)
  subst hw
  obtain ⟨hP1, hK1, hD1⟩ := hB
  rw [ht] at hP1
  obtain ⟨hP2, hD2⟩ := va_join hP hD isC isR hC hR hnR hdis hk1 hFc hP1 hD1
  refine kk H1 locs1 (hP2.sub pm ?_) (hD2.sub pm hnp hpm) hS1
  have h2 := congrArg (fun x : List (Option (Nat × va_E)) => x.filterMap id) hpm
  simpa [List.filterMap_map, Function.comp_def] using h2
theorem kcSN_i (S : CallFix p m c cc nL s args Ts own) {y : MethodName} {wsy : List Cond} {rm : Room} {index maxL mc ms : Nat} {ret : Option FieldType} {bytes : ByteArray} {wc wr W1 : va_W} {As st0 : List Value} {RV : Int32} {host : String} 
    (hM : Met l y wsy rm (mPc D tys wc H.size As) (va_Qi (fun (r : Int32) (u : va_W) => r = RV ∧ u = W1) (mB D tys (va_A wc H.size)) (va_A wc H.size)) mc ms (va_A wc H.size)) (cw : va_CN R s args own index y host bytes maxL ret wsy rm mc ms n ∧ (Cond.static y).before args s = true ∧ True)
    (hK : va_K D vwCl tys s) (hP : va_P D vwCl ws H) (hD : va_D A ws) (hS : va_S A s.heap H locs) (hA : ∀ q, s.heap.size ≤ q → A q) (hG : gS A s s.heap)
    (isC isR pm : List Nat) (hC : isC.map (fun i => ws[i]?) = wc.map some) (hR : isR.map (fun i => ws[i]?) = wr.map some) (hnC : va_nd isC = true) (hnR : va_nd isR = true) (hdis : ∀ i ∈ isR, i ∉ isC) (hnp : va_nd pm = true) (hpm : pm.map (fun i => (wr ++ W1)[i]?) = ws2.map some)
    (hn : As.length = n) (hsize : ls.size = nL) (hst : st0 = As.reverse ++ rest) (hW : (rest.map fun v => v.category).sum ≤ 8) (d : decode cc pc = .ok (.invokestatic index, 3)) (hf : cells + mc ≤ R.cells ∧ slots + ms ≤ R.slots)
    (kk : ∀ (H1 : Heap) (locs1 : List Loc), va_P D vwCl ws2 H1 → va_D A ws2 → va_S A s.heap H1 locs1 → W p l e R s m args below meth c H1 locs1 (cells + mc) (slots + ms) Q (F0 m (pc + 3) ls (.int RV :: rest))) :
    W p l e R s m args below meth c H locs cells slots Q (F0 m pc ls st0) := by
  have hFc := va_free (wc := wc) hD hS hA isC hC
  refine va_calli (va_runSN S hM cw ⟨mPc_blind, mPc_of hK hP hD hS hA hG isC hC hnC⟩ rfl hn hsize hst (lv_room hW) d hf) hS (fun q _ h => hFc q h) hFc (fun r u t H1 locs1 ht hvm hw hB hz1 hk1 hS1 => ?_)
  obtain ⟨rfl, rfl⟩ := hw
  obtain ⟨hP1, hK1, hD1⟩ := hB
  rw [ht] at hP1
  obtain ⟨hP2, hD2⟩ := va_join hP hD isC isR hC hR hnR hdis hk1 hFc hP1 hD1
  refine kk H1 locs1 (hP2.sub pm ?_) (hD2.sub pm hnp hpm) hS1
  have h2 := congrArg (fun x : List (Option (Nat × va_E)) => x.filterMap id) hpm
  simpa [List.filterMap_map, Function.comp_def] using h2
theorem kcSN_l (S : CallFix p m c cc nL s args Ts own) {y : MethodName} {wsy : List Cond} {rm : Room} {index maxL mc ms : Nat} {ret : Option FieldType} {bytes : ByteArray} {wc wr W1 : va_W} {As st0 : List Value} {RV : Int64} {host : String} 
    (hM : Met l y wsy rm (mPc D tys wc H.size As) (va_Ql (fun (r : Int64) (u : va_W) => r = RV ∧ u = W1) (mB D tys (va_A wc H.size)) (va_A wc H.size)) mc ms (va_A wc H.size)) (cw : va_CN R s args own index y host bytes maxL ret wsy rm mc ms n ∧ (Cond.static y).before args s = true ∧ True)
    (hK : va_K D vwCl tys s) (hP : va_P D vwCl ws H) (hD : va_D A ws) (hS : va_S A s.heap H locs) (hA : ∀ q, s.heap.size ≤ q → A q) (hG : gS A s s.heap)
    (isC isR pm : List Nat) (hC : isC.map (fun i => ws[i]?) = wc.map some) (hR : isR.map (fun i => ws[i]?) = wr.map some) (hnC : va_nd isC = true) (hnR : va_nd isR = true) (hdis : ∀ i ∈ isR, i ∉ isC) (hnp : va_nd pm = true) (hpm : pm.map (fun i => (wr ++ W1)[i]?) = ws2.map some)
    (hn : As.length = n) (hsize : ls.size = nL) (hst : st0 = As.reverse ++ rest) (hW : (rest.map fun v => v.category).sum ≤ 8) (d : decode cc pc = .ok (.invokestatic index, 3)) (hf : cells + mc ≤ R.cells ∧ slots + ms ≤ R.slots)
    (kk : ∀ (H1 : Heap) (locs1 : List Loc), va_P D vwCl ws2 H1 → va_D A ws2 → va_S A s.heap H1 locs1 → W p l e R s m args below meth c H1 locs1 (cells + mc) (slots + ms) Q (F0 m (pc + 3) ls (.long RV :: rest))) :
    W p l e R s m args below meth c H locs cells slots Q (F0 m pc ls st0) := by
  have hFc := va_free (wc := wc) hD hS hA isC hC
  refine va_calll (va_runSN S hM cw ⟨mPc_blind, mPc_of hK hP hD hS hA hG isC hC hnC⟩ rfl hn hsize hst (lv_room hW) d hf) hS (fun q _ h => hFc q h) hFc (fun r u t H1 locs1 ht hvm hw hB hz1 hk1 hS1 => ?_)
  obtain ⟨rfl, rfl⟩ := hw
  obtain ⟨hP1, hK1, hD1⟩ := hB
  rw [ht] at hP1
  obtain ⟨hP2, hD2⟩ := va_join hP hD isC isR hC hR hnR hdis hk1 hFc hP1 hD1
  refine kk H1 locs1 (hP2.sub pm ?_) (hD2.sub pm hnp hpm) hS1
  have h2 := congrArg (fun x : List (Option (Nat × va_E)) => x.filterMap id) hpm
  simpa [List.filterMap_map, Function.comp_def] using h2
theorem kcSN_v (S : CallFix p m c cc nL s args Ts own) {y : MethodName} {wsy : List Cond} {rm : Room} {index maxL mc ms : Nat} {ret : Option FieldType} {bytes : ByteArray} {wc wr W1 : va_W} {As st0 : List Value}  {host : String} 
    (hM : Met l y wsy rm (mPc D tys wc H.size As) (va_Qv (fun (u : va_W) => u = W1) (mB D tys (va_A wc H.size)) (va_A wc H.size)) mc ms (va_A wc H.size)) (cw : va_CN R s args own index y host bytes maxL ret wsy rm mc ms n ∧ (Cond.static y).before args s = true ∧ True)
    (hK : va_K D vwCl tys s) (hP : va_P D vwCl ws H) (hD : va_D A ws) (hS : va_S A s.heap H locs) (hA : ∀ q, s.heap.size ≤ q → A q) (hG : gS A s s.heap)
    (isC isR pm : List Nat) (hC : isC.map (fun i => ws[i]?) = wc.map some) (hR : isR.map (fun i => ws[i]?) = wr.map some) (hnC : va_nd isC = true) (hnR : va_nd isR = true) (hdis : ∀ i ∈ isR, i ∉ isC) (hnp : va_nd pm = true) (hpm : pm.map (fun i => (wr ++ W1)[i]?) = ws2.map some)
    (hn : As.length = n) (hsize : ls.size = nL) (hst : st0 = As.reverse ++ rest) (hW : (rest.map fun v => v.category).sum ≤ 8) (d : decode cc pc = .ok (.invokestatic index, 3)) (hf : cells + mc ≤ R.cells ∧ slots + ms ≤ R.slots)
    (kk : ∀ (H1 : Heap) (locs1 : List Loc), va_P D vwCl ws2 H1 → va_D A ws2 → va_S A s.heap H1 locs1 → W p l e R s m args below meth c H1 locs1 (cells + mc) (slots + ms) Q (F0 m (pc + 3) ls rest)) :
    W p l e R s m args below meth c H locs cells slots Q (F0 m pc ls st0) := by
  have hFc := va_free (wc := wc) hD hS hA isC hC
  refine va_callv (va_runSN S hM cw ⟨mPc_blind, mPc_of hK hP hD hS hA hG isC hC hnC⟩ rfl hn hsize hst (lv_room hW) d hf) hS (fun q _ h => hFc q h) hFc (fun u t H1 locs1 ht hvm hw hB hz1 hk1 hS1 => ?_)
  subst hw
  obtain ⟨hP1, hK1, hD1⟩ := hB
  rw [ht] at hP1
  obtain ⟨hP2, hD2⟩ := va_join hP hD isC isR hC hR hnR hdis hk1 hFc hP1 hD1
  refine kk H1 locs1 (hP2.sub pm ?_) (hD2.sub pm hnp hpm) hS1
  have h2 := congrArg (fun x : List (Option (Nat × va_E)) => x.filterMap id) hpm
  simpa [List.filterMap_map, Function.comp_def] using h2
end BASE
end
section
section PURE
/-- the number from which it is drawn -/
def nx (x : Nat) : Nat := (75 * x + 74) % 65537
theorem nx_lt (x : Nat) : nx x < 65537 := Nat.mod_lt _ (by decide)
/-- an int lies in the field, is a cell, is a direction -/
def inF (x y : Int32) : Bool := decide (¬ x < 0 ∧ ¬ nI 8 ≤ x ∧ ¬ y < 0 ∧ ¬ nI 8 ≤ y)
def dirP (d : Int32) : Bool := decide (¬ d < 0 ∧ ¬ nI 4 ≤ d)
/-- the greatest of the first n, 0 at least -/
def mxF (f : Nat → Nat) : Nat → Nat
  | 0 => 0
  | n + 1 => max (mxF f n) (f n)
abbrev mx (f : Nat → Nat) : Nat := mxF f 64
theorem mxF_lt {f : Nat → Nat} {B : Nat} (h0 : 0 < B) : ∀ {n : Nat}, (∀ j, j < n → f j < B) → mxF f n < B
  | 0, _ => h0
  | n + 1, h => Nat.max_lt.mpr ⟨mxF_lt h0 (fun j hj => h j (by omega)), h n (by omega)⟩
theorem mxF_ge {f : Nat → Nat} : ∀ {n j : Nat}, j < n → f j ≤ mxF f n
  | n + 1, j, h => by
    rcases Nat.lt_or_ge j n with q | q
    · exact Nat.le_trans (mxF_ge q) (Nat.le_max_left _ _)
    · have : j = n := by omega
      subst this
      exact Nat.le_max_right _ _
theorem mxF_mem {f : Nat → Nat} : ∀ {n : Nat}, 0 < n → ∃ j, j < n ∧ f j = mxF f n ∨ mxF f n = 0
  | n + 1, _ => by
    rcases Nat.lt_or_ge 0 n with q | q
    · obtain ⟨j, h⟩ := mxF_mem (f := f) q
      by_cases hm : mxF f n ≤ f n
      · exact ⟨n, Or.inl ⟨by omega, by rw [mxF]; omega⟩⟩
      · rcases h with ⟨h1, h2⟩ | h
        · exact ⟨j, Or.inl ⟨by omega, by rw [mxF]; omega⟩⟩
        · omega
    · have : n = 0 := by omega
      subst this
      exact ⟨0, Or.inl ⟨by omega, by simp [mxF]⟩⟩
theorem mx_at (f : Nat → Nat) : ∃ j, j < 64 ∧ f j = mx f := by
  obtain ⟨j, h | h⟩ := mxF_mem (f := f) (n := 64) (by omega)
  · exact ⟨j, h⟩
  · have h0 := mxF_ge (f := f) (n := 64) (j := 0) (by omega)
    exact ⟨0, by omega, by show f 0 = mxF f 64; omega⟩
theorem mxF_cong {f g : Nat → Nat} : ∀ {n : Nat}, (∀ j, j < n → f j = g j) → mxF f n = mxF g n
  | 0, _ => rfl
  | n + 1, h => by rw [mxF, mxF, mxF_cong (fun j hj => h j (by omega)), h n (by omega)]
theorem mxF_stepL {f : Nat → Nat} {i : Nat} (h1 : mxF f i < 9223372036854775808) (h2 : f i < 9223372036854775808) : (if lN (f i) < lN (mxF f i) then lN (mxF f i) else lN (f i)) = lN (mxF f (i + 1)) := by
  rw [mxF]
  split
  · rename_i h
    have := (pk_lLT h2 h1).mp h
    rw [Nat.max_eq_left (by omega)]
  · rename_i h
    have : ¬ f i < mxF f i := fun g => h ((pk_lLT h2 h1).mpr g)
    rw [Nat.max_eq_right (by omega)]
/-- the first place from c on, among n, that holds v -/
def mdF (f : Nat → Nat) (v : Nat) : Nat → Nat → Nat
  | 0, c => c
  | n + 1, c => if f c = v then c else mdF f v n (c + 1)
abbrev md (f : Nat → Nat) : Nat := mdF f (mx f) 64 0
theorem mdF_step {f : Nat → Nat} {v i : Nat} (h : i < 64) (hne : ¬ f i = v) : mdF f v (64 - (i + 1)) (i + 1) = mdF f v (64 - i) i := by
  rw [show 64 - i = (64 - (i + 1)) + 1 by omega, mdF, if_neg hne]
theorem mdF_hit {f : Nat → Nat} {v i : Nat} (h : i < 64) (he : f i = v) : mdF f v (64 - i) i = i := by
  rw [show 64 - i = (64 - (i + 1)) + 1 by omega, mdF, if_pos he]
theorem mdF_lt {f : Nat → Nat} {v : Nat} : ∀ {n c : Nat}, (∃ j, c ≤ j ∧ j < c + n ∧ f j = v) → mdF f v n c < c + n ∧ f (mdF f v n c) = v
  | 0, c, ⟨j, h1, h2, _⟩ => by omega
  | n + 1, c, ⟨j, h1, h2, h3⟩ => by
    rw [mdF]
    split
    · rename_i h
      exact ⟨by omega, h⟩
    · rename_i h
      have hj : j ≠ c := fun g => h (by rw [← g]; exact h3)
      obtain ⟨a, b⟩ := mdF_lt (f := f) (v := v) (n := n) (c := c + 1) ⟨j, by omega, by omega, h3⟩
      exact ⟨by omega, b⟩
theorem md_lt (f : Nat → Nat) : md f < 64 ∧ f (md f) = mx f := by
  obtain ⟨j, h1, h2⟩ := mx_at f
  have := mdF_lt (f := f) (v := mx f) (n := 64) (c := 0) ⟨j, by omega, by omega, h2⟩
  exact ⟨by have := this.1; show mdF f (mx f) 64 0 < 64; omega, this.2⟩
/-- a number more at a place -/
def adF (f : Nat → Nat) (k v : Nat) : Nat → Nat := fun j => f j + (if j = k then v else 0)
theorem va_adF (f : Nat → Nat) (k v : Nat) : va_up f k (f k + v) = adF f k v := by
  funext j
  by_cases h : j = k
  · subst h; simp [va_up, adF]
  · simp [va_up, adF, h]
theorem cpy_in {α : Type} (f g : Nat → α) {n j : Nat} (hn : n < 2147483648) (h : j < n) : va_cpy f g (nI 0).toNatClampNeg (nI 0).toNatClampNeg (nI n).toNatClampNeg j = f j := by
  rw [nI_clamp (by decide), nI_clamp hn]
  simp [va_cpy, h]
/-- sums over cells -/
def boxF (f : Nat → Nat) (a b c d : Nat) : Nat → Nat
  | 0 => 0
  | n + 1 => boxF f a b c d n + (if a ≤ n % 8 ∧ n % 8 ≤ c ∧ b ≤ n / 8 ∧ n / 8 ≤ d then f n else 0)
def smF (f : Nat → Nat) : Nat → Nat
  | 0 => 0
  | n + 1 => smF f n + f n
def csF (f : Nat → Nat) (b : Bool) : Nat → Nat
  | 0 => 0
  | n + 1 => csF f b n + f n * (if b then n / 8 else n % 8)
theorem boxF_all (f : Nat → Nat) : ∀ {n : Nat}, n ≤ 64 → boxF f 0 0 7 7 n = smF f n
  | 0, _ => rfl
  | n + 1, h => by rw [boxF, smF, boxF_all f (by omega), if_pos (by omega)]
theorem smF_cong {f g : Nat → Nat} : ∀ {n : Nat}, (∀ j, j < n → f j = g j) → smF f n = smF g n
  | 0, _ => rfl
  | n + 1, h => by rw [smF, smF, smF_cong (fun j hj => h j (by omega)), h n (by omega)]
theorem smF_le {f : Nat → Nat} {B : Nat} : ∀ {n : Nat}, (∀ j, j < n → f j ≤ B) → smF f n ≤ n * B
  | 0, _ => by simp [smF]
  | n + 1, h => by
    have h1 := smF_le (f := f) (B := B) (n := n) (fun j hj => h j (by omega))
    have h2 := h n (by omega)
    rw [smF, Nat.succ_mul]; omega
theorem smF_pos {f : Nat → Nat} : ∀ {n j : Nat}, j < n → f j ≤ smF f n
  | n + 1, j, h => by
    rw [smF]
    rcases Nat.lt_or_ge j n with q | q
    · have := smF_pos (f := f) q
      omega
    · have : j = n := by omega
      subst this
      omega
/-- how many cells are ahead of one: greater, or as great and lower -/
def plF (f : Nat → Nat) (c : Nat) : Nat → Nat
  | 0 => 0
  | n + 1 => plF f c n + (if f c < f n ∨ (f n = f c ∧ n < c) then 1 else 0)
theorem plF_le (f : Nat → Nat) (c : Nat) : ∀ n, plF f c n ≤ n
  | 0 => Nat.le_refl _
  | n + 1 => by
    have := plF_le f c n
    rw [plF]
    split <;> omega
/-- the first cell with a number above 0 at a place; -1 for none -/
def bpF (f : Nat → Nat) (pl : Int32) : Nat → Nat → Int32
  | 0, _ => -1
  | n + 1, c => if 0 < f c ∧ nI (plF f c 64) = pl then nI c else bpF f pl n (c + 1)
theorem bpF_step {f : Nat → Nat} {pl : Int32} {i : Nat} (h : i < 64) (hne : ¬ (0 < f i ∧ nI (plF f i 64) = pl)) : bpF f pl (64 - (i + 1)) (i + 1) = bpF f pl (64 - i) i := by
  rw [show 64 - i = (64 - (i + 1)) + 1 by omega, bpF, if_neg hne]
theorem bpF_hit {f : Nat → Nat} {pl : Int32} {i : Nat} (h : i < 64) (he : 0 < f i ∧ nI (plF f i 64) = pl) : bpF f pl (64 - i) i = nI i := by
  rw [show 64 - i = (64 - (i + 1)) + 1 by omega, bpF, if_pos he]
end PURE
section GEO
/-- a cell that is in the field and free -/
def fre (w : Nat → Bool) (c : Nat) : Bool := decide (c < 64) && !w c
/-- the cell so many steps on, whatever walls there are; 64 for none -/
def sh (c d k : Nat) : Nat := if d = 0 then (if c % 8 + k < 8 then c + k else 64) else if d = 1 then (if c / 8 + k < 8 then c + 8 * k else 64) else if d = 2 then (if k ≤ c % 8 then c - k else 64) else (if k ≤ c / 8 then c - 8 * k else 64)
/-- the same, back -/
def bk (c d k : Nat) : Nat := if d = 0 then sh c 2 k else if d = 1 then sh c 3 k else if d = 2 then sh c 0 k else sh c 1 k
abbrev nb (c d : Nat) : Nat := sh c d 1
/-- a step -/
def stp (w : Nat → Bool) (c d : Nat) : Nat := if fre w (nb c d) then nb c d else c
def oc (r : Nat) : Int32 := if r < 64 then nI r else -1
/-- what shifted answers -/
def shR (c d : Nat) (st : Int32) : Int32 := if inF (nI (c % 8) + st * stX d) (nI (c / 8) + st * stY d) then nI 8 * (nI (c / 8) + st * stY d) + (nI (c % 8) + st * stX d) else -1
theorem shR_n : ∀ c, c < 64 → ∀ d, d < 4 → ∀ k, k < 10 → shR c d (nI k) = oc (sh c d k) := by decide +kernel
theorem shR_b : ∀ c, c < 64 → ∀ d, d < 4 → ∀ k, k < 3 → shR c d (-nI k) = oc (bk c d k) := by decide +kernel
theorem sh_0 : ∀ c, c < 64 → ∀ d, d < 4 → sh c d 0 = c := by decide +kernel
theorem sh_s : ∀ c, c < 64 → ∀ d, d < 4 → ∀ k, k < 9 → sh c d k < 64 → sh c d (k + 1) = nb (sh c d k) d := by decide +kernel
theorem sh_o : ∀ c, c < 64 → ∀ d, d < 4 → ∀ k, k < 9 → ¬ sh c d k < 64 → ¬ sh c d (k + 1) < 64 := by decide +kernel
theorem sh_8 : ∀ c, c < 64 → ∀ d, d < 4 → sh c d 8 = 64 := by decide +kernel
theorem nb_ne : ∀ c, c < 64 → ∀ d, d < 4 → nb c d ≠ c := by decide +kernel
theorem sh_le : ∀ c, c < 64 → ∀ d, d < 4 → ∀ k, k < 10 → sh c d k ≤ 64 := by decide +kernel
theorem fre_lt {w : Nat → Bool} {c : Nat} (h : fre w c = true) : c < 64 ∧ w c = false := by
  simpa [fre] using h
theorem fre_of {w : Nat → Bool} {c : Nat} (h : c < 64) (h2 : w c = false) : fre w c = true := by
  simp [fre, h, h2]
theorem fre_f {w : Nat → Bool} {c : Nat} (h : c < 64) (h2 : fre w c = false) : w c = true := by
  cases hw : w c
  · rw [fre_of h hw] at h2; cases h2
  · rfl
theorem fre_64 (w : Nat → Bool) : fre w 64 = false := by simp [fre]
/-- how many steps lead on -/
def rdF (w : Nat → Bool) (c d : Nat) : Nat → Nat → Nat
  | 0, s => s
  | n + 1, s => if fre w (sh c d (s + 1)) then rdF w c d n (s + 1) else s
def rd (w : Nat → Bool) (c d : Nat) : Nat := rdF w c d 8 0
theorem rdF_step {w : Nat → Bool} {c d s : Nat} (h : s < 8) (hf : fre w (sh c d (s + 1)) = true) : rdF w c d (8 - (s + 1)) (s + 1) = rdF w c d (8 - s) s := by
  rw [show 8 - s = (8 - (s + 1)) + 1 by omega, rdF, if_pos hf]
theorem rdF_stop {w : Nat → Bool} {c d s : Nat} (hf : fre w (sh c d (s + 1)) = false) : rdF w c d (8 - s) s = s := by
  rcases Nat.lt_or_ge s 8 with h | h
  · rw [show 8 - s = (8 - (s + 1)) + 1 by omega, rdF, if_neg (by rw [hf]; decide)]
  · rw [show 8 - s = 0 by omega, rdF]
theorem rdF_le (w : Nat → Bool) (c d : Nat) : ∀ n s, s + n ≤ 8 → rdF w c d n s ≤ 8
  | 0, s, h => by rw [rdF]; omega
  | n + 1, s, h => by
    rw [rdF]
    split
    · exact rdF_le w c d n (s + 1) (by omega)
    · omega
theorem rd_le (w : Nat → Bool) (c d : Nat) : rd w c d ≤ 8 := rdF_le w c d 8 0 (by omega)
/-- so many steps, 0 to 2 -/
def ld (w : Nat → Bool) (c d k : Nat) : Nat := if k = 0 then c else if k = 1 then stp w c d else stp w (stp w c d) d
theorem stp_free {w : Nat → Bool} {c d : Nat} (h : fre w c = true) : fre w (stp w c d) = true := by
  unfold stp
  split
  · assumption
  · exact h
theorem ld_free {w : Nat → Bool} {c d k : Nat} (h : fre w c = true) : fre w (ld w c d k) = true := by
  unfold ld
  split
  · exact h
  · split
    · exact stp_free h
    · exact stp_free (stp_free h)
theorem shR_ld {w : Nat → Bool} {c d k : Nat} (hc : c < 64) (hd : d < 4) (hk : k < 3) : shR c d (nI (min k (rd w c d))) = nI (ld w c d k) := by
  have h0 := sh_0 c hc d hd
  have e8 : rd w c d = rdF w c d 8 0 := rfl
  by_cases h1 : fre w (nb c d) = true
  · have hl1 := (fre_lt h1).1
    have s1 : stp w c d = nb c d := by rw [stp, if_pos h1]
    have h2 := sh_s c hc d hd 1 (by omega) hl1
    by_cases h3 : fre w (sh c d 2) = true
    · have hl2 := (fre_lt h3).1
      have s2 : stp w (stp w c d) d = sh c d 2 := by rw [s1, stp, ← h2, if_pos h3]
      have hr : 2 ≤ rd w c d := by
        rw [e8, rdF, if_pos h1, rdF, if_pos h3]
        have : ∀ n s, s ≤ rdF w c d n s := by
          intro n
          induction n with
          | zero => intro s; rw [rdF]; exact Nat.le_refl _
          | succ n ih => intro s; rw [rdF]; split; (· exact Nat.le_trans (Nat.le_succ s) (ih (s + 1))); (· exact Nat.le_refl _)
        exact this 6 2
      rw [show min k (rd w c d) = k by omega, shR_n c hc d hd k (by omega)]
      rcases (show k = 0 ∨ k = 1 ∨ k = 2 by omega) with rfl | rfl | rfl
      · rw [h0]; simp [ld, oc, hc]
      · simp [ld, oc, hl1, s1]
      · simp [ld, s2, oc, hl2]
    · have h3' : fre w (sh c d 2) = false := by simpa using h3
      have s2 : stp w (stp w c d) d = nb c d := by rw [s1, stp, ← h2, if_neg h3]
      have hr : rd w c d = 1 := by rw [e8, rdF, if_pos h1, rdF, if_neg h3]
      rw [hr]
      rcases (show k = 0 ∨ k = 1 ∨ k = 2 by omega) with rfl | rfl | rfl
      · rw [show min 0 1 = 0 from rfl, shR_n c hc d hd 0 (by omega), h0]; simp [ld, oc, hc]
      · rw [show min 1 1 = 1 from rfl, shR_n c hc d hd 1 (by omega)]; simp [ld, oc, hl1, s1]
      · rw [show min 2 1 = 1 from rfl, shR_n c hc d hd 1 (by omega)]; simp [ld, oc, hl1, s2]
  · have s1 : stp w c d = c := by rw [stp, if_neg h1]
    have hr : rd w c d = 0 := by rw [e8, rdF, if_neg h1]
    rw [hr, show min k 0 = 0 by omega, shR_n c hc d hd 0 (by omega), h0]
    have : ld w c d k = c := by
      unfold ld
      split
      · rfl
      · split
        · exact s1
        · rw [s1, s1]
    rw [this]; simp [oc, hc]
/-- the weight of a reading -/
def wv (n : Nat) : Nat := if n = 0 then 8 else if n = 1 then 3 else if n = 2 then 1 else 0
def dst (a r : Nat) : Nat := if a ≤ r then r - a else a - r
def wt (w : Nat → Bool) (c d r : Nat) : Nat := wv (dst (rd w c d) r)
def wtc (w : Nat → Bool) (c d r : Nat) : Nat := if w c then wv (r + 1) else wt w c d r
theorem wv_le (n : Nat) : wv n ≤ 8 := by
  unfold wv
  split
  · omega
  · split
    · omega
    · split <;> omega
theorem wt_le (w : Nat → Bool) (c d r : Nat) : wt w c d r ≤ 8 := wv_le _
theorem wtc_le (w : Nat → Bool) (c d r : Nat) : wtc w c d r ≤ 8 := by
  unfold wtc
  split
  · exact wv_le _
  · exact wt_le _ _ _ _
/-- what the table of steps ahead holds -/
def ahV (w : Nat → Bool) (k : Nat) : Int32 := if w (k % 64) then -1 else nI (rd w (k % 64) (k / 64))
theorem ahV_at (w : Nat → Bool) {c d : Nat} (hc : c < 64) : ahV w (64 * d + c) = if w c then -1 else nI (rd w c d) := by
  rw [ahV, show (64 * d + c) % 64 = c by omega, show (64 * d + c) / 64 = d by omega]
def dsc (w : Nat → Bool) (c d r : Nat) : Nat := if w c then r + 1 else dst (rd w c d) r
theorem abs_dsc (w : Nat → Bool) {c d r : Nat} (hc : c < 64) (hr : r < 8) : (if 0 ≤ nI r - ahV w (64 * d + c) then nI r - ahV w (64 * d + c) else 0 - (nI r - ahV w (64 * d + c))) = nI (dsc w c d r) := by
  rw [ahV_at w hc, dsc]
  cases hw : w c
  · have := rd_le w c d
    simp only [Bool.false_eq_true, if_false]
    generalize rd w c d = a at this
    have key : ∀ r, r < 8 → ∀ a, a < 9 → (if 0 ≤ nI r - nI a then nI r - nI a else 0 - (nI r - nI a)) = nI (dst a r) := by decide +kernel
    exact key r hr a (by omega)
  · simp only [if_true]
    have key : ∀ r, r < 8 → (if 0 ≤ nI r - (-1) then nI r - (-1) else 0 - (nI r - (-1))) = nI (r + 1) := by decide +kernel
    exact key r hr
theorem min_rd (w : Nat → Bool) {c d k : Nat} (hc : c < 64) (hk : k < 3) (hw : w c = false) : (if ahV w (64 * d + c) < nI k then ahV w (64 * d + c) else nI k) = nI (min k (rd w c d)) := by
  rw [ahV_at w hc, hw]
  have := rd_le w c d
  simp only [Bool.false_eq_true, if_false]
  generalize rd w c d = a at this
  have key : ∀ k, k < 3 → ∀ a, a < 9 → (if nI a < nI k then nI a else nI k) = nI (min k a) := by decide +kernel
  exact key k hk a (by omega)
theorem wtc_dsc (w : Nat → Bool) (c d r : Nat) : wtc w c d r = wv (dsc w c d r) := by
  unfold wtc dsc wt
  split <;> rfl
theorem dsc_le (w : Nat → Bool) (c d : Nat) {r : Nat} (hr : r < 8) : dsc w c d r ≤ 8 := by
  have := rd_le w c d
  unfold dsc dst
  split
  · omega
  · split <;> omega
/-- how many of the first n cells are free; the free cell of a rank -/
def cntF (w : Nat → Bool) : Nat → Nat
  | 0 => 0
  | n + 1 => cntF w n + (if w n then 0 else 1)
theorem cntF_le (w : Nat → Bool) : ∀ n, cntF w n ≤ n
  | 0 => Nat.le_refl _
  | n + 1 => by
    have := cntF_le w n
    rw [cntF]
    split <;> omega
def kthF (w : Nat → Bool) : Nat → Nat → Nat → Nat
  | 0, c, _ => c
  | n + 1, c, l => if w c then kthF w n (c + 1) l else if l = 0 then c else kthF w n (c + 1) (l - 1)
def kth (w : Nat → Bool) (k : Nat) : Nat := kthF w 64 0 k
theorem kthF_w {w : Nat → Bool} {i l : Nat} (h : i < 64) (hw : w i = true) : kthF w (64 - (i + 1)) (i + 1) l = kthF w (64 - i) i l := by
  rw [show 64 - i = (64 - (i + 1)) + 1 by omega, kthF, if_pos hw]
theorem kthF_s {w : Nat → Bool} {i l : Nat} (h : i < 64) (hw : w i = false) (hl : 0 < l) : kthF w (64 - (i + 1)) (i + 1) (l - 1) = kthF w (64 - i) i l := by
  rw [show 64 - i = (64 - (i + 1)) + 1 by omega, kthF, if_neg (by rw [hw]; decide), if_neg (by omega)]
theorem kthF_h {w : Nat → Bool} {i : Nat} (h : i < 64) (hw : w i = false) : kthF w (64 - i) i 0 = i := by
  rw [show 64 - i = (64 - (i + 1)) + 1 by omega, kthF, if_neg (by rw [hw]; decide), if_pos rfl]
theorem kthF_free {w : Nat → Bool} : ∀ (n c l : Nat), l < cntF w (c + n) - cntF w c → kthF w n c l < c + n ∧ w (kthF w n c l) = false
  | 0, c, l, h => by simp at h
  | n + 1, c, l, h => by
    have e : cntF w (c + 1) = cntF w c + (if w c then 0 else 1) := rfl
    rw [kthF]
    cases hw : w c
    · simp only [Bool.false_eq_true, if_false]
      rw [hw] at e
      simp only [Bool.false_eq_true, if_false] at e
      by_cases hl : l = 0
      · rw [if_pos hl]
        exact ⟨by omega, hw⟩
      · rw [if_neg hl]
        have := kthF_free (w := w) n (c + 1) (l - 1) (by rw [show c + 1 + n = c + (n + 1) by omega]; omega)
        exact ⟨by omega, this.2⟩
    · simp only [if_true]
      rw [hw] at e
      simp only [if_true] at e
      have := kthF_free (w := w) n (c + 1) l (by rw [show c + 1 + n = c + (n + 1) by omega]; omega)
      exact ⟨by omega, this.2⟩
theorem kth_free {w : Nat → Bool} {k : Nat} (h : k < cntF w 64) : kth w k < 64 ∧ w (kth w k) = false := by
  have := kthF_free (w := w) 64 0 k (by simpa [cntF] using h)
  exact ⟨by have h1 := this.1; rw [Nat.zero_add] at h1; exact h1, this.2⟩
end GEO
end
section
section CHART
set_option maxHeartbeats 4000000 in
set_option maxRecDepth 100000 in
theorem c_X1_remainder (l : Launch) (D : va_G) (cyI cyJ cyZ : ClassId) (sz : Nat) (h0 : Nat) (x : Nat) (k : Nat) (hx : x < 65537) (hk0 : 0 < k) (hk : k < 2147483648) : Met l yX1_remainder wsX1_remainder ({ frames := 2, cells := 0, slots := 0, locals := 60 } : Room) (mPc D [(cyI, .int), (cyJ, .long), (cyZ, .boolean)] [(h0, .inr (1, [.int (nI x)]))] sz [.ref h0, .int (nI k)]) (va_Qi (fun (r : Int32) (u : va_W) => r = nI (nx x % k) ∧ u = [(h0, .inr (1, [.int (nI (nx x))]))]) (mB D [(cyI, .int), (cyJ, .long), (cyZ, .boolean)] (va_A [(h0, .inr (1, [.int (nI x)]))] sz)) (va_A [(h0, .inr (1, [.int (nI x)]))] sz)) 0 0 (va_A [(h0, .inr (1, [.int (nI x)]))] sz) := by
  refine st_i (own := RX1) (lv0 := [(0, .ref h0), (1, .int (nI k))]) (by decide) rfl rfl (Nat.le_of_ble_eq_true rfl) rfl ?_
  intro p e s m below meth c A Q S hin hA hK hP hD hG hS hret ls hl
  have hw_X1 : ∀ w ∈ u_ws RX1 TX1 1, w ∈ wsX1_remainder := by decide +kernel
  have hf_7 := S.2.2.2.2 (.fieldLink RX1 7 "Particleway$Chance" "x" "I") (by decide +kernel)
  refine lv_aload_n S.1 S.2.1 dX1_remainder_0 rfl (lv_at hl 0 rfl) ?_
  refine lv_bipush (v := nI 75) S.1 S.2.1 dX1_remainder_1 (by decide) ?_
  refine lv_aload_n S.1 S.2.1 dX1_remainder_3 rfl (lv_at hl 0 rfl) ?_
  refine k_get S (C := RX1) (T := TX1) (N := 1) (ci := 1) hw_X1 hK hP 0 rfl rfl 0 (by decide) hf_7 rfl (v := .int (nI x)) rfl dX1_remainder_4 ?_
  refine kn_imul S dX1_remainder_7 ?_
  refine lv_bipush (v := nI 74) S.1 S.2.1 dX1_remainder_8 (by decide) ?_
  refine kn_iadd S dX1_remainder_10 ?_
  refine lv_ldc (v := 65537) S.1 S.2.1 S.2.2.2.1 (S.2.2.2.2 (.constant RX1 13 65537) (by decide +kernel)) dX1_remainder_11 ?_
  refine k_topi (y := nI 65537) (by decide) ?_
  refine kn_irem S (by omega) (by omega) (by omega) dX1_remainder_13 ?_
  refine k_put S (C := RX1) (T := TX1) (N := 1) (ci := 1) (ws2 := [(h0, .inr (1, [.int (nI (((75 * x) + 74) % 65537))]))]) hw_X1 tyX1 tyX1_ok nmX1 hK hP hD hS 0 rfl rfl 0 (by decide) hf_7 rfl rfl rfl rfl (Nat.le_of_ble_eq_true rfl) dX1_remainder_14 rfl (fun H locs hP hD hS => ?_)
  refine lv_iload_n S.1 S.2.1 dX1_remainder_17 rfl (lv_at hl 1 rfl) ?_
  refine kn_if_gt S (by omega) dX1_remainder_18 (tgt := 25) (by decide) (fun c18 => ?_) (fun c18 => ?_)
  · refine lv_aload_n S.1 S.2.1 dX1_remainder_25 rfl (lv_at hl 0 rfl) ?_
    refine k_get S (C := RX1) (T := TX1) (N := 1) (ci := 1) hw_X1 hK hP 0 rfl rfl 0 (by decide) hf_7 rfl (v := .int (nI (((75 * x) + 74) % 65537))) rfl dX1_remainder_26 ?_
    refine lv_iload_n S.1 S.2.1 dX1_remainder_29 rfl (lv_at hl 1 rfl) ?_
    refine kn_irem S (by omega) (by omega) (by omega) dX1_remainder_30 ?_
    refine k_topi (y := nI (nx x % k)) (by rfl) ?_
    exact hret _ _ _ _ dX1_remainder_31 hP hD hS
  · exact absurd c18 (by omega)

set_option maxHeartbeats 4000000 in
set_option maxRecDepth 100000 in
theorem c_X1_change (l : Launch) (D : va_G) (cyI cyJ cyZ : ClassId) (sz : Nat) (h0 : Nat) (x : Nat) (k : Nat) : Met l yX1_change wsX1_change ({ frames := 2, cells := 0, slots := 0, locals := 60 } : Room) (mPc D [(cyI, .int), (cyJ, .long), (cyZ, .boolean)] [(h0, .inr (1, [.int (nI x)]))] sz [.ref h0, .int (nI k)]) (va_Qi (fun (r : Int32) (u : va_W) => r = nI x ∧ u = [(h0, .inr (1, [.int (nI k)]))]) (mB D [(cyI, .int), (cyJ, .long), (cyZ, .boolean)] (va_A [(h0, .inr (1, [.int (nI x)]))] sz)) (va_A [(h0, .inr (1, [.int (nI x)]))] sz)) 0 0 (va_A [(h0, .inr (1, [.int (nI x)]))] sz) := by
  refine st_i (own := RX1) (lv0 := [(0, .ref h0), (1, .int (nI k))]) (by decide) rfl rfl (Nat.le_of_ble_eq_true rfl) rfl ?_
  intro p e s m below meth c A Q S hin hA hK hP hD hG hS hret ls hl
  have hw_X1 : ∀ w ∈ u_ws RX1 TX1 1, w ∈ wsX1_change := by decide +kernel
  have hf_7 := S.2.2.2.2 (.fieldLink RX1 7 "Particleway$Chance" "x" "I") (by decide +kernel)
  refine lv_aload_n S.1 S.2.1 dX1_change_0 rfl (lv_at hl 0 rfl) ?_
  refine k_get S (C := RX1) (T := TX1) (N := 1) (ci := 1) hw_X1 hK hP 0 rfl rfl 0 (by decide) hf_7 rfl (v := .int (nI x)) rfl dX1_change_1 ?_
  refine lv_istore_n (lv' := [(2, .int (nI x)), (0, .ref h0), (1, .int (nI k))]) S.1 S.2.1 dX1_change_4 rfl hl (by decide) rfl (fun ls hl => ?_)
  refine lv_aload_n S.1 S.2.1 dX1_change_5 rfl (lv_at hl 1 rfl) ?_
  refine lv_iload_n S.1 S.2.1 dX1_change_6 rfl (lv_at hl 2 rfl) ?_
  refine k_put S (C := RX1) (T := TX1) (N := 1) (ci := 1) (ws2 := [(h0, .inr (1, [.int (nI k)]))]) hw_X1 tyX1 tyX1_ok nmX1 hK hP hD hS 0 rfl rfl 0 (by decide) hf_7 rfl rfl rfl rfl (Nat.le_of_ble_eq_true rfl) dX1_change_7 rfl (fun H locs hP hD hS => ?_)
  refine lv_iload_n S.1 S.2.1 dX1_change_10 rfl (lv_at hl 0 rfl) ?_
  exact hret _ _ _ _ dX1_change_11 hP hD hS

set_option maxHeartbeats 4000000 in
set_option maxRecDepth 100000 in
theorem c_X5_isInField (l : Launch) (D : va_G) (cyI cyJ cyZ : ClassId) (sz : Nat) (x : Nat) (y : Nat) (hx : x < 8) (hy : y < 8) : Met l yX5_isInField wsX5_isInField ({ frames := 2, cells := 0, slots := 0, locals := 60 } : Room) (mPc D [(cyI, .int), (cyJ, .long), (cyZ, .boolean)] [] sz [.int (nI x), .int (nI y)]) (va_Qi (fun (r : Int32) (u : va_W) => r = bI true ∧ u = []) (mB D [(cyI, .int), (cyJ, .long), (cyZ, .boolean)] (va_A [] sz)) (va_A [] sz)) 0 0 (va_A [] sz) := by
  refine st_z (own := RX5) (lv0 := [(0, .int (nI x)), (1, .int (nI y))]) (by decide) rfl rfl (Nat.le_of_ble_eq_true rfl) rfl ?_
  intro p e s m below meth c A Q S hin hA hK hP hD hG hS hret ls hl
  refine lv_iload_n S.1 S.2.1 dX5_isInField_0 rfl (lv_at hl 0 rfl) ?_
  refine kn_if_lt S (by omega) dX5_isInField_1 (tgt := 24) (by decide) ?_
  refine lv_iload_n S.1 S.2.1 dX5_isInField_4 rfl (lv_at hl 0 rfl) ?_
  refine lv_bipush (v := nI 8) S.1 S.2.1 dX5_isInField_5 (by decide) ?_
  refine kn_icmp_ge S (by omega) (by omega) dX5_isInField_7 (tgt := 24) (by decide) (fun c7 => ?_) (fun c7 => ?_)
  · exact absurd c7 (by omega)
  · refine lv_iload_n S.1 S.2.1 dX5_isInField_10 rfl (lv_at hl 1 rfl) ?_
    refine kn_if_lt S (by omega) dX5_isInField_11 (tgt := 24) (by decide) ?_
    refine lv_iload_n S.1 S.2.1 dX5_isInField_14 rfl (lv_at hl 1 rfl) ?_
    refine lv_bipush (v := nI 8) S.1 S.2.1 dX5_isInField_15 (by decide) ?_
    refine kn_icmp_ge S (by omega) (by omega) dX5_isInField_17 (tgt := 24) (by decide) (fun c17 => ?_) (fun c17 => ?_)
    · exact absurd c17 (by omega)
    · refine lv_iconst (v := nI 1) S.1 S.2.1 dX5_isInField_20 (by decide) ?_
      refine lv_goto (tgt := 25) S.1 S.2.1 dX5_isInField_21 (by decide) ?_
      refine k_topi (y := bI true) (by rfl) ?_
      exact hret _ _ _ _ dX5_isInField_25 hP hD hS

set_option maxHeartbeats 4000000 in
set_option maxRecDepth 100000 in
theorem c_X5_isInField_r (l : Launch) (D : va_G) (cyI cyJ cyZ : ClassId) (sz : Nat) (x : Int32) (y : Int32) : Met l yX5_isInField wsX5_isInField ({ frames := 2, cells := 0, slots := 0, locals := 60 } : Room) (mPc D [(cyI, .int), (cyJ, .long), (cyZ, .boolean)] [] sz [.int x, .int y]) (va_Qi (fun (r : Int32) (u : va_W) => r = bI (inF x y) ∧ u = []) (mB D [(cyI, .int), (cyJ, .long), (cyZ, .boolean)] (va_A [] sz)) (va_A [] sz)) 0 0 (va_A [] sz) := by
  refine st_z (own := RX5) (lv0 := [(0, .int x), (1, .int y)]) (by decide) rfl rfl (Nat.le_of_ble_eq_true rfl) rfl ?_
  intro p e s m below meth c A Q S hin hA hK hP hD hG hS hret ls hl
  refine lv_iload_n S.1 S.2.1 dX5_isInField_0 rfl (lv_at hl 0 rfl) ?_
  refine lv_if_lt S.1 S.2.1 dX5_isInField_1 (tgt := 24) (by decide) (fun c1 => ?_) (fun c1 => ?_)
  · refine lv_iconst (v := nI 0) S.1 S.2.1 dX5_isInField_24 (by decide) ?_
    refine k_topi (y := bI (inF x y)) (by rw [inF, decide_eq_false (fun h => h.1 c1)]; rfl) ?_
    exact hret _ _ _ _ dX5_isInField_25 hP hD hS
  · refine lv_iload_n S.1 S.2.1 dX5_isInField_4 rfl (lv_at hl 0 rfl) ?_
    refine lv_bipush (v := nI 8) S.1 S.2.1 dX5_isInField_5 (by decide) ?_
    refine lv_icmp_ge S.1 S.2.1 dX5_isInField_7 (tgt := 24) (by decide) (fun c7 => ?_) (fun c7 => ?_)
    · refine lv_iconst (v := nI 0) S.1 S.2.1 dX5_isInField_24 (by decide) ?_
      refine k_topi (y := bI (inF x y)) (by rw [inF, decide_eq_false (fun h => h.2.1 c7)]; rfl) ?_
      exact hret _ _ _ _ dX5_isInField_25 hP hD hS
    · refine lv_iload_n S.1 S.2.1 dX5_isInField_10 rfl (lv_at hl 1 rfl) ?_
      refine lv_if_lt S.1 S.2.1 dX5_isInField_11 (tgt := 24) (by decide) (fun c11 => ?_) (fun c11 => ?_)
      · refine lv_iconst (v := nI 0) S.1 S.2.1 dX5_isInField_24 (by decide) ?_
        refine k_topi (y := bI (inF x y)) (by rw [inF, decide_eq_false (fun h => h.2.2.1 c11)]; rfl) ?_
        exact hret _ _ _ _ dX5_isInField_25 hP hD hS
      · refine lv_iload_n S.1 S.2.1 dX5_isInField_14 rfl (lv_at hl 1 rfl) ?_
        refine lv_bipush (v := nI 8) S.1 S.2.1 dX5_isInField_15 (by decide) ?_
        refine lv_icmp_ge S.1 S.2.1 dX5_isInField_17 (tgt := 24) (by decide) (fun c17 => ?_) (fun c17 => ?_)
        · refine lv_iconst (v := nI 0) S.1 S.2.1 dX5_isInField_24 (by decide) ?_
          refine k_topi (y := bI (inF x y)) (by rw [inF, decide_eq_false (fun h => h.2.2.2 c17)]; rfl) ?_
          exact hret _ _ _ _ dX5_isInField_25 hP hD hS
        · refine lv_iconst (v := nI 1) S.1 S.2.1 dX5_isInField_20 (by decide) ?_
          refine lv_goto (tgt := 25) S.1 S.2.1 dX5_isInField_21 (by decide) ?_
          refine k_topi (y := bI (inF x y)) (by rw [inF, decide_eq_true ⟨c1, c7, c11, c17⟩]; rfl) ?_
          exact hret _ _ _ _ dX5_isInField_25 hP hD hS

set_option maxHeartbeats 4000000 in
set_option maxRecDepth 100000 in
theorem c_X5_isCell (l : Launch) (D : va_G) (cyI cyJ cyZ : ClassId) (sz : Nat) (k : Nat) (hk : k < 64) : Met l yX5_isCell wsX5_isCell ({ frames := 2, cells := 0, slots := 0, locals := 60 } : Room) (mPc D [(cyI, .int), (cyJ, .long), (cyZ, .boolean)] [] sz [.int (nI k)]) (va_Qi (fun (r : Int32) (u : va_W) => r = bI true ∧ u = []) (mB D [(cyI, .int), (cyJ, .long), (cyZ, .boolean)] (va_A [] sz)) (va_A [] sz)) 0 0 (va_A [] sz) := by
  refine st_z (own := RX5) (lv0 := [(0, .int (nI k))]) (by decide) rfl rfl (Nat.le_of_ble_eq_true rfl) rfl ?_
  intro p e s m below meth c A Q S hin hA hK hP hD hG hS hret ls hl
  refine lv_iload_n S.1 S.2.1 dX5_isCell_0 rfl (lv_at hl 0 rfl) ?_
  refine kn_if_lt S (by omega) dX5_isCell_1 (tgt := 14) (by decide) ?_
  refine lv_iload_n S.1 S.2.1 dX5_isCell_4 rfl (lv_at hl 0 rfl) ?_
  refine lv_bipush (v := nI 64) S.1 S.2.1 dX5_isCell_5 (by decide) ?_
  refine kn_icmp_ge S (by omega) (by omega) dX5_isCell_7 (tgt := 14) (by decide) (fun c7 => ?_) (fun c7 => ?_)
  · exact absurd c7 (by omega)
  · refine lv_iconst (v := nI 1) S.1 S.2.1 dX5_isCell_10 (by decide) ?_
    refine lv_goto (tgt := 15) S.1 S.2.1 dX5_isCell_11 (by decide) ?_
    refine k_topi (y := bI true) (by rfl) ?_
    exact hret _ _ _ _ dX5_isCell_15 hP hD hS

set_option maxHeartbeats 4000000 in
set_option maxRecDepth 100000 in
theorem c_X5_isCell_no (l : Launch) (D : va_G) (cyI cyJ cyZ : ClassId) (sz : Nat)  : Met l yX5_isCell wsX5_isCell ({ frames := 2, cells := 0, slots := 0, locals := 60 } : Room) (mPc D [(cyI, .int), (cyJ, .long), (cyZ, .boolean)] [] sz [.int (-1)]) (va_Qi (fun (r : Int32) (u : va_W) => r = bI false ∧ u = []) (mB D [(cyI, .int), (cyJ, .long), (cyZ, .boolean)] (va_A [] sz)) (va_A [] sz)) 0 0 (va_A [] sz) := by
  refine st_z (own := RX5) (lv0 := [(0, .int (-1))]) (by decide) rfl rfl (Nat.le_of_ble_eq_true rfl) rfl ?_
  intro p e s m below meth c A Q S hin hA hK hP hD hG hS hret ls hl
  refine lv_iload_n S.1 S.2.1 dX5_isCell_0 rfl (lv_at hl 0 rfl) ?_
  refine lv_if_lt S.1 S.2.1 dX5_isCell_1 (tgt := 14) (by decide) (fun c1 => ?_) (fun c1 => ?_)
  · refine lv_iconst (v := nI 0) S.1 S.2.1 dX5_isCell_14 (by decide) ?_
    refine k_topi (y := bI false) (by rfl) ?_
    exact hret _ _ _ _ dX5_isCell_15 hP hD hS
  · exact absurd c1 (by decide)

set_option maxHeartbeats 4000000 in
set_option maxRecDepth 100000 in
theorem c_X5_isDirection (l : Launch) (D : va_G) (cyI cyJ cyZ : ClassId) (sz : Nat) (k : Nat) (hk : k < 4) : Met l yX5_isDirection wsX5_isDirection ({ frames := 2, cells := 0, slots := 0, locals := 60 } : Room) (mPc D [(cyI, .int), (cyJ, .long), (cyZ, .boolean)] [] sz [.int (nI k)]) (va_Qi (fun (r : Int32) (u : va_W) => r = bI true ∧ u = []) (mB D [(cyI, .int), (cyJ, .long), (cyZ, .boolean)] (va_A [] sz)) (va_A [] sz)) 0 0 (va_A [] sz) := by
  refine st_z (own := RX5) (lv0 := [(0, .int (nI k))]) (by decide) rfl rfl (Nat.le_of_ble_eq_true rfl) rfl ?_
  intro p e s m below meth c A Q S hin hA hK hP hD hG hS hret ls hl
  refine lv_iload_n S.1 S.2.1 dX5_isDirection_0 rfl (lv_at hl 0 rfl) ?_
  refine kn_if_lt S (by omega) dX5_isDirection_1 (tgt := 13) (by decide) ?_
  refine lv_iload_n S.1 S.2.1 dX5_isDirection_4 rfl (lv_at hl 0 rfl) ?_
  refine lv_iconst (v := nI 4) S.1 S.2.1 dX5_isDirection_5 (by decide) ?_
  refine kn_icmp_ge S (by omega) (by omega) dX5_isDirection_6 (tgt := 13) (by decide) (fun c6 => ?_) (fun c6 => ?_)
  · exact absurd c6 (by omega)
  · refine lv_iconst (v := nI 1) S.1 S.2.1 dX5_isDirection_9 (by decide) ?_
    refine lv_goto (tgt := 14) S.1 S.2.1 dX5_isDirection_10 (by decide) ?_
    refine k_topi (y := bI true) (by rfl) ?_
    exact hret _ _ _ _ dX5_isDirection_14 hP hD hS

set_option maxHeartbeats 4000000 in
set_option maxRecDepth 100000 in
theorem c_X5_isDirection_r (l : Launch) (D : va_G) (cyI cyJ cyZ : ClassId) (sz : Nat) (k : Int32) : Met l yX5_isDirection wsX5_isDirection ({ frames := 2, cells := 0, slots := 0, locals := 60 } : Room) (mPc D [(cyI, .int), (cyJ, .long), (cyZ, .boolean)] [] sz [.int k]) (va_Qi (fun (r : Int32) (u : va_W) => r = bI (dirP k) ∧ u = []) (mB D [(cyI, .int), (cyJ, .long), (cyZ, .boolean)] (va_A [] sz)) (va_A [] sz)) 0 0 (va_A [] sz) := by
  refine st_z (own := RX5) (lv0 := [(0, .int k)]) (by decide) rfl rfl (Nat.le_of_ble_eq_true rfl) rfl ?_
  intro p e s m below meth c A Q S hin hA hK hP hD hG hS hret ls hl
  refine lv_iload_n S.1 S.2.1 dX5_isDirection_0 rfl (lv_at hl 0 rfl) ?_
  refine lv_if_lt S.1 S.2.1 dX5_isDirection_1 (tgt := 13) (by decide) (fun c1 => ?_) (fun c1 => ?_)
  · refine lv_iconst (v := nI 0) S.1 S.2.1 dX5_isDirection_13 (by decide) ?_
    refine k_topi (y := bI (dirP k)) (by rw [dirP, decide_eq_false (fun h => h.1 c1)]; rfl) ?_
    exact hret _ _ _ _ dX5_isDirection_14 hP hD hS
  · refine lv_iload_n S.1 S.2.1 dX5_isDirection_4 rfl (lv_at hl 0 rfl) ?_
    refine lv_iconst (v := nI 4) S.1 S.2.1 dX5_isDirection_5 (by decide) ?_
    refine lv_icmp_ge S.1 S.2.1 dX5_isDirection_6 (tgt := 13) (by decide) (fun c6 => ?_) (fun c6 => ?_)
    · refine lv_iconst (v := nI 0) S.1 S.2.1 dX5_isDirection_13 (by decide) ?_
      refine k_topi (y := bI (dirP k)) (by rw [dirP, decide_eq_false (fun h => h.2 c6)]; rfl) ?_
      exact hret _ _ _ _ dX5_isDirection_14 hP hD hS
    · refine lv_iconst (v := nI 1) S.1 S.2.1 dX5_isDirection_9 (by decide) ?_
      refine lv_goto (tgt := 14) S.1 S.2.1 dX5_isDirection_10 (by decide) ?_
      refine k_topi (y := bI (dirP k)) (by rw [dirP, decide_eq_true ⟨c1, c6⟩]; rfl) ?_
      exact hret _ _ _ _ dX5_isDirection_14 hP hD hS

set_option maxHeartbeats 4000000 in
set_option maxRecDepth 100000 in
theorem c_X5_numberOf (l : Launch) (D : va_G) (cyI cyJ cyZ : ClassId) (sz : Nat) (x : Nat) (y : Nat) : Met l yX5_numberOf wsX5_numberOf ({ frames := 2, cells := 0, slots := 0, locals := 60 } : Room) (mPc D [(cyI, .int), (cyJ, .long), (cyZ, .boolean)] [] sz [.int (nI x), .int (nI y)]) (va_Qi (fun (r : Int32) (u : va_W) => r = nI (8 * y + x) ∧ u = []) (mB D [(cyI, .int), (cyJ, .long), (cyZ, .boolean)] (va_A [] sz)) (va_A [] sz)) 0 0 (va_A [] sz) := by
  refine st_i (own := RX5) (lv0 := [(0, .int (nI x)), (1, .int (nI y))]) (by decide) rfl rfl (Nat.le_of_ble_eq_true rfl) rfl ?_
  intro p e s m below meth c A Q S hin hA hK hP hD hG hS hret ls hl
  refine lv_bipush (v := nI 8) S.1 S.2.1 dX5_numberOf_0 (by decide) ?_
  refine lv_iload_n S.1 S.2.1 dX5_numberOf_2 rfl (lv_at hl 1 rfl) ?_
  refine kn_imul S dX5_numberOf_3 ?_
  refine lv_iload_n S.1 S.2.1 dX5_numberOf_4 rfl (lv_at hl 0 rfl) ?_
  refine kn_iadd S dX5_numberOf_5 ?_
  refine k_topi (y := nI (8 * y + x)) (by rfl) ?_
  exact hret _ _ _ _ dX5_numberOf_6 hP hD hS

set_option maxHeartbeats 4000000 in
set_option maxRecDepth 100000 in
theorem c_X5_numberOf_r (l : Launch) (D : va_G) (cyI cyJ cyZ : ClassId) (sz : Nat) (x : Int32) (y : Int32) : Met l yX5_numberOf wsX5_numberOf ({ frames := 2, cells := 0, slots := 0, locals := 60 } : Room) (mPc D [(cyI, .int), (cyJ, .long), (cyZ, .boolean)] [] sz [.int x, .int y]) (va_Qi (fun (r : Int32) (u : va_W) => r = nI 8 * y + x ∧ u = []) (mB D [(cyI, .int), (cyJ, .long), (cyZ, .boolean)] (va_A [] sz)) (va_A [] sz)) 0 0 (va_A [] sz) := by
  refine st_i (own := RX5) (lv0 := [(0, .int x), (1, .int y)]) (by decide) rfl rfl (Nat.le_of_ble_eq_true rfl) rfl ?_
  intro p e s m below meth c A Q S hin hA hK hP hD hG hS hret ls hl
  refine lv_bipush (v := nI 8) S.1 S.2.1 dX5_numberOf_0 (by decide) ?_
  refine lv_iload_n S.1 S.2.1 dX5_numberOf_2 rfl (lv_at hl 1 rfl) ?_
  refine lv_imul S.1 S.2.1 dX5_numberOf_3 ?_
  refine lv_iload_n S.1 S.2.1 dX5_numberOf_4 rfl (lv_at hl 0 rfl) ?_
  refine lv_iadd S.1 S.2.1 dX5_numberOf_5 ?_
  refine k_topi (y := nI 8 * y + x) (by rfl) ?_
  exact hret _ _ _ _ dX5_numberOf_6 hP hD hS

set_option maxHeartbeats 4000000 in
set_option maxRecDepth 100000 in
theorem c_X5_quotient (l : Launch) (D : va_G) (cyI cyJ cyZ : ClassId) (sz : Nat) (x : Nat) (y : Nat) (hx : x < 9223372036854775808) (hy0 : 0 < y) (hy : y < 9223372036854775808) : Met l yX5_quotient wsX5_quotient ({ frames := 2, cells := 0, slots := 0, locals := 60 } : Room) (mPc D [(cyI, .int), (cyJ, .long), (cyZ, .boolean)] [] sz [.long (lN x), .long (lN y)]) (va_Ql (fun (r : Int64) (u : va_W) => r = lN (x / y) ∧ u = []) (mB D [(cyI, .int), (cyJ, .long), (cyZ, .boolean)] (va_A [] sz)) (va_A [] sz)) 0 0 (va_A [] sz) := by
  refine st_l (own := RX5) (lv0 := [(0, .long (lN x)), (2, .long (lN y))]) (by decide) rfl rfl (Nat.le_of_ble_eq_true rfl) rfl ?_
  intro p e s m below meth c A Q S hin hA hK hP hD hG hS hret ls hl
  refine lv_lload_n S.1 S.2.1 dX5_quotient_0 rfl (lv_at hl 1 rfl) ?_
  refine lv_lconst (v := lN 0) S.1 S.2.1 dX5_quotient_1 (by decide) ?_
  refine kn_lcmp_ne S (by omega) (by omega) dX5_quotient_2 rfl dX5_quotient_3 (tgt := 10) (by decide) (fun c3 => ?_) (fun c3 => ?_)
  · refine lv_lload_n S.1 S.2.1 dX5_quotient_10 rfl (lv_at hl 0 rfl) ?_
    refine lv_lload_n S.1 S.2.1 dX5_quotient_11 rfl (lv_at hl 1 rfl) ?_
    refine kn_ldiv S (by omega) (by omega) (by omega) dX5_quotient_12 ?_
    exact hret _ _ _ _ dX5_quotient_13 hP hD hS
  · exact absurd c3 (by omega)

set_option maxHeartbeats 4000000 in
set_option maxRecDepth 100000 in
theorem c_X2_at (l : Launch) (D : va_G) (cyI cyJ cyZ : ClassId) (sz : Nat) (h0 : Nat) (h1 : Nat) (f : Nat → Nat) (k : Nat) (hk : k < 64) : Met l yX2_at wsX2_at ({ frames := 3, cells := 0, slots := 0, locals := 80 } : Room) (mPc D [(cyI, .int), (cyJ, .long), (cyZ, .boolean)] [(h0, .inr (2, [.ref h1])), (h1, .inl (cyJ, 64, .inr (.inl (aL f))))] sz [.ref h0, .int (nI k)]) (va_Ql (fun (r : Int64) (u : va_W) => r = lN (f k) ∧ u = [(h0, .inr (2, [.ref h1])), (h1, .inl (cyJ, 64, .inr (.inl (aL f))))]) (mB D [(cyI, .int), (cyJ, .long), (cyZ, .boolean)] (va_A [(h0, .inr (2, [.ref h1])), (h1, .inl (cyJ, 64, .inr (.inl (aL f))))] sz)) (va_A [(h0, .inr (2, [.ref h1])), (h1, .inl (cyJ, 64, .inr (.inl (aL f))))] sz)) 0 0 (va_A [(h0, .inr (2, [.ref h1])), (h1, .inl (cyJ, 64, .inr (.inl (aL f))))] sz) := by
  refine st_l (own := RX2) (lv0 := [(0, .ref h0), (1, .int (nI k))]) (by decide) rfl rfl (Nat.le_of_ble_eq_true rfl) rfl ?_
  intro p e s m below meth c A Q S hin hA hK hP hD hG hS hret ls hl
  have hw_X2 : ∀ w ∈ u_ws RX2 TX2 1, w ∈ wsX2_at := by decide +kernel
  have hf_9 := S.2.2.2.2 (.fieldLink RX2 9 "Particleway$Chart" "numbers" "[J") (by decide +kernel)
  refine lv_iload_n S.1 S.2.1 dX2_at_0 rfl (lv_at hl 1 rfl) ?_
  refine kcSN_i S (wc := []) (wr := [(h0, .inr (2, [.ref h1])), (h1, .inl (cyJ, 64, .inr (.inl (aL f))))]) (ws2 := [(h0, .inr (2, [.ref h1])), (h1, .inl (cyJ, 64, .inr (.inl (aL f))))]) (As := [.int (nI k)]) (rest := []) (c_X5_isCell l D cyI cyJ cyZ s.heap.size k (by first | assumption | omega)) ⟨va_cnB 1 S.2.2.2.2 gX2_at_X5_isCell_n15 rfl rfl rfl hG.2.1 (S.2.2.2.2 (.initialized RX5) (by decide +kernel)) (by decide +kernel) ⟨Nat.le_of_ble_eq_true rfl, Nat.le_of_ble_eq_true rfl⟩, S.2.2.2.2 (.static yX5_isCell) (by decide +kernel), trivial⟩ hK hP hD hS hA hG [] [0, 1] [0, 1] rfl rfl rfl rfl (by decide) rfl rfl rfl hl.1 rfl (Nat.le_of_ble_eq_true rfl) dX2_at_1 ⟨Nat.le_of_ble_eq_true rfl, Nat.le_of_ble_eq_true rfl⟩ (fun H locs hP hD hS => ?_)
  refine kb_if_eq S dX2_at_4 (tgt := 16) (by decide) (fun c4 => ?_) (fun c4 => ?_)
  · exact absurd c4 (by decide)
  · refine lv_aload_n S.1 S.2.1 dX2_at_7 rfl (lv_at hl 0 rfl) ?_
    refine k_get S (C := RX2) (T := TX2) (N := 1) (ci := 2) hw_X2 hK hP 0 rfl rfl 0 (by decide) hf_9 rfl (v := .ref h1) rfl dX2_at_8 ?_
    refine lv_iload_n S.1 S.2.1 dX2_at_11 rfl (lv_at hl 1 rfl) ?_
    refine kn_lald S hK hP 1 1 rfl rfl (by omega) (by decide) dX2_at_12 ?_
    refine lv_goto (tgt := 17) S.1 S.2.1 dX2_at_13 (by decide) ?_
    exact hret _ _ _ _ dX2_at_17 hP hD hS

set_option maxHeartbeats 4000000 in
set_option maxRecDepth 100000 in
theorem c_X2_put (l : Launch) (D : va_G) (cyI cyJ cyZ : ClassId) (sz : Nat) (h0 : Nat) (h1 : Nat) (f : Nat → Nat) (k : Nat) (v : Nat) (hk : k < 64) : Met l yX2_put wsX2_put ({ frames := 3, cells := 0, slots := 0, locals := 80 } : Room) (mPc D [(cyI, .int), (cyJ, .long), (cyZ, .boolean)] [(h0, .inr (2, [.ref h1])), (h1, .inl (cyJ, 64, .inr (.inl (aL f))))] sz [.ref h0, .int (nI k), .long (lN v)]) (va_Qv (fun (u : va_W) => u = [(h0, .inr (2, [.ref h1])), (h1, .inl (cyJ, 64, .inr (.inl (aL (va_up f k v)))))]) (mB D [(cyI, .int), (cyJ, .long), (cyZ, .boolean)] (va_A [(h0, .inr (2, [.ref h1])), (h1, .inl (cyJ, 64, .inr (.inl (aL f))))] sz)) (va_A [(h0, .inr (2, [.ref h1])), (h1, .inl (cyJ, 64, .inr (.inl (aL f))))] sz)) 0 0 (va_A [(h0, .inr (2, [.ref h1])), (h1, .inl (cyJ, 64, .inr (.inl (aL f))))] sz) := by
  refine st_v (own := RX2) (lv0 := [(0, .ref h0), (1, .int (nI k)), (2, .long (lN v))]) (by decide) rfl rfl (Nat.le_of_ble_eq_true rfl) rfl ?_
  intro p e s m below meth c A Q S hin hA hK hP hD hG hS hret ls hl
  have hw_X2 : ∀ w ∈ u_ws RX2 TX2 1, w ∈ wsX2_put := by decide +kernel
  have hf_9 := S.2.2.2.2 (.fieldLink RX2 9 "Particleway$Chart" "numbers" "[J") (by decide +kernel)
  refine lv_iload_n S.1 S.2.1 dX2_put_0 rfl (lv_at hl 1 rfl) ?_
  refine kcSN_i S (wc := []) (wr := [(h0, .inr (2, [.ref h1])), (h1, .inl (cyJ, 64, .inr (.inl (aL f))))]) (ws2 := [(h0, .inr (2, [.ref h1])), (h1, .inl (cyJ, 64, .inr (.inl (aL f))))]) (As := [.int (nI k)]) (rest := []) (c_X5_isCell l D cyI cyJ cyZ s.heap.size k (by first | assumption | omega)) ⟨va_cnB 1 S.2.2.2.2 gX2_put_X5_isCell_n15 rfl rfl rfl hG.2.1 (S.2.2.2.2 (.initialized RX5) (by decide +kernel)) (by decide +kernel) ⟨Nat.le_of_ble_eq_true rfl, Nat.le_of_ble_eq_true rfl⟩, S.2.2.2.2 (.static yX5_isCell) (by decide +kernel), trivial⟩ hK hP hD hS hA hG [] [0, 1] [0, 1] rfl rfl rfl rfl (by decide) rfl rfl rfl hl.1 rfl (Nat.le_of_ble_eq_true rfl) dX2_put_1 ⟨Nat.le_of_ble_eq_true rfl, Nat.le_of_ble_eq_true rfl⟩ (fun H locs hP hD hS => ?_)
  refine kb_if_eq S dX2_put_4 (tgt := 14) (by decide) (fun c4 => ?_) (fun c4 => ?_)
  · exact absurd c4 (by decide)
  · refine lv_aload_n S.1 S.2.1 dX2_put_7 rfl (lv_at hl 0 rfl) ?_
    refine k_get S (C := RX2) (T := TX2) (N := 1) (ci := 2) hw_X2 hK hP 0 rfl rfl 0 (by decide) hf_9 rfl (v := .ref h1) rfl dX2_put_8 ?_
    refine lv_iload_n S.1 S.2.1 dX2_put_11 rfl (lv_at hl 1 rfl) ?_
    refine lv_lload_n S.1 S.2.1 dX2_put_12 rfl (lv_at hl 2 rfl) ?_
    refine kn_last S hK hP hD hS (ws2 := [(h0, .inr (2, [.ref h1])), (h1, .inl (cyJ, 64, .inr (.inl (aL (va_up f k v)))))]) 1 1 rfl rfl (by omega) (by decide) dX2_put_13 rfl (fun H locs hP hD hS => ?_)
    exact hret _ _ _ _ dX2_put_14 hP hD hS

set_option maxHeartbeats 4000000 in
set_option maxRecDepth 100000 in
theorem c_X2_add (l : Launch) (D : va_G) (cyI cyJ cyZ : ClassId) (sz : Nat) (h0 : Nat) (h1 : Nat) (f : Nat → Nat) (k : Nat) (v : Nat) (hk : k < 64) : Met l yX2_add wsX2_add ({ frames := 3, cells := 0, slots := 0, locals := 80 } : Room) (mPc D [(cyI, .int), (cyJ, .long), (cyZ, .boolean)] [(h0, .inr (2, [.ref h1])), (h1, .inl (cyJ, 64, .inr (.inl (aL f))))] sz [.ref h0, .int (nI k), .long (lN v)]) (va_Qv (fun (u : va_W) => u = [(h0, .inr (2, [.ref h1])), (h1, .inl (cyJ, 64, .inr (.inl (aL (adF f k v)))))]) (mB D [(cyI, .int), (cyJ, .long), (cyZ, .boolean)] (va_A [(h0, .inr (2, [.ref h1])), (h1, .inl (cyJ, 64, .inr (.inl (aL f))))] sz)) (va_A [(h0, .inr (2, [.ref h1])), (h1, .inl (cyJ, 64, .inr (.inl (aL f))))] sz)) 0 0 (va_A [(h0, .inr (2, [.ref h1])), (h1, .inl (cyJ, 64, .inr (.inl (aL f))))] sz) := by
  refine st_v (own := RX2) (lv0 := [(0, .ref h0), (1, .int (nI k)), (2, .long (lN v))]) (by decide) rfl rfl (Nat.le_of_ble_eq_true rfl) rfl ?_
  intro p e s m below meth c A Q S hin hA hK hP hD hG hS hret ls hl
  have hw_X2 : ∀ w ∈ u_ws RX2 TX2 1, w ∈ wsX2_add := by decide +kernel
  have hf_9 := S.2.2.2.2 (.fieldLink RX2 9 "Particleway$Chart" "numbers" "[J") (by decide +kernel)
  refine lv_iload_n S.1 S.2.1 dX2_add_0 rfl (lv_at hl 1 rfl) ?_
  refine kcSN_i S (wc := []) (wr := [(h0, .inr (2, [.ref h1])), (h1, .inl (cyJ, 64, .inr (.inl (aL f))))]) (ws2 := [(h0, .inr (2, [.ref h1])), (h1, .inl (cyJ, 64, .inr (.inl (aL f))))]) (As := [.int (nI k)]) (rest := []) (c_X5_isCell l D cyI cyJ cyZ s.heap.size k (by first | assumption | omega)) ⟨va_cnB 1 S.2.2.2.2 gX2_add_X5_isCell_n15 rfl rfl rfl hG.2.1 (S.2.2.2.2 (.initialized RX5) (by decide +kernel)) (by decide +kernel) ⟨Nat.le_of_ble_eq_true rfl, Nat.le_of_ble_eq_true rfl⟩, S.2.2.2.2 (.static yX5_isCell) (by decide +kernel), trivial⟩ hK hP hD hS hA hG [] [0, 1] [0, 1] rfl rfl rfl rfl (by decide) rfl rfl rfl hl.1 rfl (Nat.le_of_ble_eq_true rfl) dX2_add_1 ⟨Nat.le_of_ble_eq_true rfl, Nat.le_of_ble_eq_true rfl⟩ (fun H locs hP hD hS => ?_)
  refine kb_if_eq S dX2_add_4 (tgt := 17) (by decide) (fun c4 => ?_) (fun c4 => ?_)
  · exact absurd c4 (by decide)
  · refine lv_aload_n S.1 S.2.1 dX2_add_7 rfl (lv_at hl 0 rfl) ?_
    refine k_get S (C := RX2) (T := TX2) (N := 1) (ci := 2) hw_X2 hK hP 0 rfl rfl 0 (by decide) hf_9 rfl (v := .ref h1) rfl dX2_add_8 ?_
    refine lv_iload_n S.1 S.2.1 dX2_add_11 rfl (lv_at hl 1 rfl) ?_
    refine lv_dup2_11 S.1 S.2.1 dX2_add_12 rfl rfl ?_
    refine kn_lald S hK hP 1 1 rfl rfl (by omega) (by decide) dX2_add_13 ?_
    refine lv_lload_n S.1 S.2.1 dX2_add_14 rfl (lv_at hl 2 rfl) ?_
    refine kn_ladd S dX2_add_15 ?_
    refine kn_last S hK hP hD hS (ws2 := [(h0, .inr (2, [.ref h1])), (h1, .inl (cyJ, 64, .inr (.inl (aL (va_up f k ((f k) + v))))))]) 1 1 rfl rfl (by omega) (by decide) dX2_add_16 rfl (fun H locs hP hD hS => ?_)
    obtain ⟨hP, hD⟩ := P_re (ws2 := [(h0, .inr (2, [.ref h1])), (h1, .inl (cyJ, 64, .inr (.inl (aL (adF f k v)))))]) hP hD 1 rfl (by rw [va_adF]) rfl
    exact hret _ _ _ _ dX2_add_17 hP hD hS

set_option maxHeartbeats 4000000 in
set_option maxRecDepth 100000 in
theorem c_X2_clear (l : Launch) (D : va_G) (cyI cyJ cyZ : ClassId) (sz : Nat) (h0 : Nat) (h1 : Nat) (f : Nat → Nat) : Met l yX2_clear wsX2_clear ({ frames := 2, cells := 0, slots := 0, locals := 60 } : Room) (mPc D [(cyI, .int), (cyJ, .long), (cyZ, .boolean)] [(h0, .inr (2, [.ref h1])), (h1, .inl (cyJ, 64, .inr (.inl (aL f))))] sz [.ref h0]) (va_Qv (fun (u : va_W) => u = [(h0, .inr (2, [.ref h1])), (h1, .inl (cyJ, 64, .inr (.inl (aL (fun _ => 0)))))]) (mB D [(cyI, .int), (cyJ, .long), (cyZ, .boolean)] (va_A [(h0, .inr (2, [.ref h1])), (h1, .inl (cyJ, 64, .inr (.inl (aL f))))] sz)) (va_A [(h0, .inr (2, [.ref h1])), (h1, .inl (cyJ, 64, .inr (.inl (aL f))))] sz)) 0 0 (va_A [(h0, .inr (2, [.ref h1])), (h1, .inl (cyJ, 64, .inr (.inl (aL f))))] sz) := by
  refine st_v (own := RX2) (lv0 := [(0, .ref h0)]) (by decide) rfl rfl (Nat.le_of_ble_eq_true rfl) rfl ?_
  intro p e s m below meth c A Q S hin hA hK hP hD hG hS hret ls hl
  have hw_X2 : ∀ w ∈ u_ws RX2 TX2 1, w ∈ wsX2_clear := by decide +kernel
  have hf_9 := S.2.2.2.2 (.fieldLink RX2 9 "Particleway$Chart" "numbers" "[J") (by decide +kernel)
  refine lv_iconst (v := nI 0) S.1 S.2.1 dX2_clear_0 (by decide) ?_
  refine lv_istore_n (lv' := [(1, .int (nI 0)), (0, .ref h0)]) S.1 S.2.1 dX2_clear_1 rfl hl (by decide) rfl (fun ls hl => ?_)
  refine wl (σ := Nat × (Nat → Nat)) (fun (i, g) => [(h0, .inr (2, [.ref h1])), (h1, .inl (cyJ, 64, .inr (.inl (aL g))))]) (fun (i, g) => [(1, .int (nI i)), (0, .ref h0)]) (fun (i, g) => (i ≤ 64) ∧ (∀ j, j < i → g j = 0)) (fun (i, g) => 64 - i) ?_ (0, f) ⟨by omega, fun j hj => by omega⟩ hP hD hS (lv_sub hl [0, 1] rfl)
  rintro ⟨i, g⟩ ⟨hi, hg⟩ ih2 H locs ls hP hD hS hl
  have hP : va_P D vwCl [(h0, .inr (2, [.ref h1])), (h1, .inl (cyJ, 64, .inr (.inl (aL g))))] H := hP
  have hD : va_D A [(h0, .inr (2, [.ref h1])), (h1, .inl (cyJ, 64, .inr (.inl (aL g))))] := hD
  have hl : lv_has ls 2 [(1, .int (nI i)), (0, .ref h0)] := hl
  refine lv_iload_n S.1 S.2.1 dX2_clear_2 rfl (lv_at hl 0 rfl) ?_
  refine lv_bipush (v := nI 64) S.1 S.2.1 dX2_clear_3 (by decide) ?_
  refine kn_icmp_ge S (by omega) (by omega) dX2_clear_5 (tgt := 21) (by decide) (fun c5 => ?_) (fun c5 => ?_)
  · obtain ⟨hP, hD⟩ := P_re (ws2 := [(h0, .inr (2, [.ref h1])), (h1, .inl (cyJ, 64, .inr (.inl (aL (fun _ => 0)))))]) hP hD 1 rfl (cell_aL (fun j hj => hg j (by omega))) rfl
    exact hret _ _ _ _ dX2_clear_21 hP hD hS
  · refine lv_aload_n S.1 S.2.1 dX2_clear_8 rfl (lv_at hl 1 rfl) ?_
    refine k_get S (C := RX2) (T := TX2) (N := 1) (ci := 2) hw_X2 hK hP 0 rfl rfl 0 (by decide) hf_9 rfl (v := .ref h1) rfl dX2_clear_9 ?_
    refine lv_iload_n S.1 S.2.1 dX2_clear_12 rfl (lv_at hl 0 rfl) ?_
    refine lv_lconst (v := lN 0) S.1 S.2.1 dX2_clear_13 (by decide) ?_
    refine kn_last S hK hP hD hS (ws2 := [(h0, .inr (2, [.ref h1])), (h1, .inl (cyJ, 64, .inr (.inl (aL (va_up g i 0)))))]) 1 1 rfl rfl (by omega) (by decide) dX2_clear_14 rfl (fun H locs hP hD hS => ?_)
    refine lv_iinc (v := nI (i + 1)) (lv' := [(1, .int (nI (i + 1))), (0, .ref h0)]) S.1 S.2.1 dX2_clear_15 hl (k := 0) rfl (iinc_1 _) (by decide) rfl (fun ls hl => ?_)
    refine lv_goto (tgt := 2) S.1 S.2.1 dX2_clear_18 (by decide) ?_
    exact ih2 (i + 1, va_up g i 0) ⟨by omega, fun j hj => by by_cases h : j = i; (· subst h; exact up_at _ _ _); (· rw [up_ne _ _ h]; exact hg j (by omega))⟩ (by show 64 - (i + 1) < 64 - i; omega) _ _ _ hP hD hS (lv_sub hl [0, 1] rfl)

set_option maxHeartbeats 4000000 in
set_option maxRecDepth 100000 in
theorem c_X2_halve (l : Launch) (D : va_G) (cyI cyJ cyZ : ClassId) (sz : Nat) (h0 : Nat) (h1 : Nat) (f : Nat → Nat) (hf : ∀ j, j < 64 → f j < 9223372036854775808) : Met l yX2_halve wsX2_halve ({ frames := 2, cells := 0, slots := 0, locals := 60 } : Room) (mPc D [(cyI, .int), (cyJ, .long), (cyZ, .boolean)] [(h0, .inr (2, [.ref h1])), (h1, .inl (cyJ, 64, .inr (.inl (aL f))))] sz [.ref h0]) (va_Qv (fun (u : va_W) => u = [(h0, .inr (2, [.ref h1])), (h1, .inl (cyJ, 64, .inr (.inl (aL (fun j => f j / 2)))))]) (mB D [(cyI, .int), (cyJ, .long), (cyZ, .boolean)] (va_A [(h0, .inr (2, [.ref h1])), (h1, .inl (cyJ, 64, .inr (.inl (aL f))))] sz)) (va_A [(h0, .inr (2, [.ref h1])), (h1, .inl (cyJ, 64, .inr (.inl (aL f))))] sz)) 0 0 (va_A [(h0, .inr (2, [.ref h1])), (h1, .inl (cyJ, 64, .inr (.inl (aL f))))] sz) := by
  refine st_v (own := RX2) (lv0 := [(0, .ref h0)]) (by decide) rfl rfl (Nat.le_of_ble_eq_true rfl) rfl ?_
  intro p e s m below meth c A Q S hin hA hK hP hD hG hS hret ls hl
  have hw_X2 : ∀ w ∈ u_ws RX2 TX2 1, w ∈ wsX2_halve := by decide +kernel
  have hf_9 := S.2.2.2.2 (.fieldLink RX2 9 "Particleway$Chart" "numbers" "[J") (by decide +kernel)
  refine lv_iconst (v := nI 0) S.1 S.2.1 dX2_halve_0 (by decide) ?_
  refine lv_istore_n (lv' := [(1, .int (nI 0)), (0, .ref h0)]) S.1 S.2.1 dX2_halve_1 rfl hl (by decide) rfl (fun ls hl => ?_)
  refine wl (σ := Nat × (Nat → Nat)) (fun (i, g) => [(h0, .inr (2, [.ref h1])), (h1, .inl (cyJ, 64, .inr (.inl (aL g))))]) (fun (i, g) => [(1, .int (nI i)), (0, .ref h0)]) (fun (i, g) => (i ≤ 64) ∧ (∀ j, j < i → g j = f j / 2) ∧ (∀ j, i ≤ j → g j = f j)) (fun (i, g) => 64 - i) ?_ (0, f) ⟨by omega, fun j hj => by omega, fun j hj => rfl⟩ hP hD hS (lv_sub hl [0, 1] rfl)
  rintro ⟨i, g⟩ ⟨hi, hg, hg2⟩ ih2 H locs ls hP hD hS hl
  have hP : va_P D vwCl [(h0, .inr (2, [.ref h1])), (h1, .inl (cyJ, 64, .inr (.inl (aL g))))] H := hP
  have hD : va_D A [(h0, .inr (2, [.ref h1])), (h1, .inl (cyJ, 64, .inr (.inl (aL g))))] := hD
  have hl : lv_has ls 2 [(1, .int (nI i)), (0, .ref h0)] := hl
  refine lv_iload_n S.1 S.2.1 dX2_halve_2 rfl (lv_at hl 0 rfl) ?_
  refine lv_bipush (v := nI 64) S.1 S.2.1 dX2_halve_3 (by decide) ?_
  refine kn_icmp_ge S (by omega) (by omega) dX2_halve_5 (tgt := 26) (by decide) (fun c5 => ?_) (fun c5 => ?_)
  · obtain ⟨hP, hD⟩ := P_re (ws2 := [(h0, .inr (2, [.ref h1])), (h1, .inl (cyJ, 64, .inr (.inl (aL (fun j => f j / 2)))))]) hP hD 1 rfl (cell_aL (fun j hj => hg j (by omega))) rfl
    exact hret _ _ _ _ dX2_halve_26 hP hD hS
  · have hgi := hg2 i (Nat.le_refl _)
    have hfi := hf i (by omega)
    refine lv_aload_n S.1 S.2.1 dX2_halve_8 rfl (lv_at hl 1 rfl) ?_
    refine k_get S (C := RX2) (T := TX2) (N := 1) (ci := 2) hw_X2 hK hP 0 rfl rfl 0 (by decide) hf_9 rfl (v := .ref h1) rfl dX2_halve_9 ?_
    refine lv_iload_n S.1 S.2.1 dX2_halve_12 rfl (lv_at hl 0 rfl) ?_
    refine lv_dup2_11 S.1 S.2.1 dX2_halve_13 rfl rfl ?_
    refine kn_lald S hK hP 1 1 rfl rfl (by omega) (by decide) dX2_halve_14 ?_
    refine lv_ldc2 (v := 2) S.1 S.2.1 S.2.2.2.1 (S.2.2.2.2 (.constantLong RX2 19 2) (by decide +kernel)) dX2_halve_15 ?_
    refine k_topl (y := lN 2) (by decide) ?_
    refine kn_ldiv S (by omega) (by omega) (by omega) dX2_halve_18 ?_
    refine kn_last S hK hP hD hS (ws2 := [(h0, .inr (2, [.ref h1])), (h1, .inl (cyJ, 64, .inr (.inl (aL (va_up g i ((g i) / 2))))))]) 1 1 rfl rfl (by omega) (by decide) dX2_halve_19 rfl (fun H locs hP hD hS => ?_)
    refine lv_iinc (v := nI (i + 1)) (lv' := [(1, .int (nI (i + 1))), (0, .ref h0)]) S.1 S.2.1 dX2_halve_20 hl (k := 0) rfl (iinc_1 _) (by decide) rfl (fun ls hl => ?_)
    refine lv_goto (tgt := 2) S.1 S.2.1 dX2_halve_23 (by decide) ?_
    exact ih2 (i + 1, va_up g i ((g i) / 2)) ⟨by omega, fun j hj => by by_cases h : j = i; (· subst h; rw [up_at, hg2 j (by omega)]); (· rw [up_ne _ _ h]; exact hg j (by omega)), fun j hj => by rw [up_ne _ _ (by omega)]; exact hg2 j (by omega)⟩ (by show 64 - (i + 1) < 64 - i; omega) _ _ _ hP hD hS (lv_sub hl [0, 1] rfl)

set_option maxHeartbeats 4000000 in
set_option maxRecDepth 100000 in
theorem c_X2_copy (l : Launch) (D : va_G) (cyI cyJ cyZ : ClassId) (sz : Nat) (h0 : Nat) (h1 : Nat) (f : Nat → Nat) (o0 : Nat) (o1 : Nat) (f2 : Nat → Nat) : Met l yX2_copy wsX2_copy ({ frames := 2, cells := 0, slots := 0, locals := 60 } : Room) (mPc D [(cyI, .int), (cyJ, .long), (cyZ, .boolean)] [(h0, .inr (2, [.ref h1])), (h1, .inl (cyJ, 64, .inr (.inl (aL f)))), (o0, .inr (2, [.ref o1])), (o1, .inl (cyJ, 64, .inr (.inl (aL f2))))] sz [.ref h0, .ref o0]) (va_Qv (fun (u : va_W) => u = [(h0, .inr (2, [.ref h1])), (h1, .inl (cyJ, 64, .inr (.inl (aL f2)))), (o0, .inr (2, [.ref o1])), (o1, .inl (cyJ, 64, .inr (.inl (aL f2))))]) (mB D [(cyI, .int), (cyJ, .long), (cyZ, .boolean)] (va_A [(h0, .inr (2, [.ref h1])), (h1, .inl (cyJ, 64, .inr (.inl (aL f)))), (o0, .inr (2, [.ref o1])), (o1, .inl (cyJ, 64, .inr (.inl (aL f2))))] sz)) (va_A [(h0, .inr (2, [.ref h1])), (h1, .inl (cyJ, 64, .inr (.inl (aL f)))), (o0, .inr (2, [.ref o1])), (o1, .inl (cyJ, 64, .inr (.inl (aL f2))))] sz)) 0 0 (va_A [(h0, .inr (2, [.ref h1])), (h1, .inl (cyJ, 64, .inr (.inl (aL f)))), (o0, .inr (2, [.ref o1])), (o1, .inl (cyJ, 64, .inr (.inl (aL f2))))] sz) := by
  refine st_v (own := RX2) (lv0 := [(0, .ref h0), (1, .ref o0)]) (by decide) rfl rfl (Nat.le_of_ble_eq_true rfl) rfl ?_
  intro p e s m below meth c A Q S hin hA hK hP hD hG hS hret ls hl
  have hw_X2 : ∀ w ∈ u_ws RX2 TX2 1, w ∈ wsX2_copy := by decide +kernel
  have hf_9 := S.2.2.2.2 (.fieldLink RX2 9 "Particleway$Chart" "numbers" "[J") (by decide +kernel)
  refine lv_aload_n S.1 S.2.1 dX2_copy_0 rfl (lv_at hl 1 rfl) ?_
  refine k_get S (C := RX2) (T := TX2) (N := 1) (ci := 2) hw_X2 hK hP 2 rfl rfl 0 (by decide) hf_9 rfl (v := .ref o1) rfl dX2_copy_1 ?_
  refine lv_iconst (v := nI 0) S.1 S.2.1 dX2_copy_4 (by decide) ?_
  refine lv_aload_n S.1 S.2.1 dX2_copy_5 rfl (lv_at hl 0 rfl) ?_
  refine k_get S (C := RX2) (T := TX2) (N := 1) (ci := 2) hw_X2 hK hP 0 rfl rfl 0 (by decide) hf_9 rfl (v := .ref h1) rfl dX2_copy_6 ?_
  refine lv_iconst (v := nI 0) S.1 S.2.1 dX2_copy_9 (by decide) ?_
  refine lv_bipush (v := nI 64) S.1 S.2.1 dX2_copy_10 (by decide) ?_
  refine va_copyl S.1 S.2.1 (S.2.2.1.trans hl.1.symm) S.2.2.2.1 (S.2.2.2.2 (.methodLink RX2 21 arraycopyName) (by decide +kernel)) (S.2.2.2.2 (.native arraycopyName) (by decide +kernel)) (S.2.2.2.2 (.static arraycopyName) (by decide +kernel)) (S.2.2.2.2 (.initialized "java/lang/System") (by decide +kernel)) hK hP hD hS 3 1 1 1 rfl rfl rfl rfl rfl (by decide) (by decide) (by decide) (by decide) (by decide) (fun _ _ => rfl) (Nat.le_of_ble_eq_true rfl) (Nat.le_of_ble_eq_true rfl) dX2_copy_12 (fun H locs hP hD hS => ?_)
  have hP : va_P D vwCl [(h0, .inr (2, [.ref h1])), (h1, .inl (cyJ, 64, .inr (.inl (va_cpy (aL f2) (aL f) (nI 0).toNatClampNeg (nI 0).toNatClampNeg (nI 64).toNatClampNeg)))), (o0, .inr (2, [.ref o1])), (o1, .inl (cyJ, 64, .inr (.inl (aL f2))))] H := hP
  have hD : va_D A [(h0, .inr (2, [.ref h1])), (h1, .inl (cyJ, 64, .inr (.inl (va_cpy (aL f2) (aL f) (nI 0).toNatClampNeg (nI 0).toNatClampNeg (nI 64).toNatClampNeg)))), (o0, .inr (2, [.ref o1])), (o1, .inl (cyJ, 64, .inr (.inl (aL f2))))] := hD
  obtain ⟨hP, hD⟩ := P_re (ws2 := [(h0, .inr (2, [.ref h1])), (h1, .inl (cyJ, 64, .inr (.inl (aL f2)))), (o0, .inr (2, [.ref o1])), (o1, .inl (cyJ, 64, .inr (.inl (aL f2))))]) hP hD 1 rfl (cell_lL (fun j hj => cpy_in _ _ (by decide) hj)) rfl
  exact hret _ _ _ _ dX2_copy_15 hP hD hS

set_option maxHeartbeats 4000000 in
set_option maxRecDepth 100000 in
theorem c_X2_greatest (l : Launch) (D : va_G) (cyI cyJ cyZ : ClassId) (sz : Nat) (h0 : Nat) (h1 : Nat) (f : Nat → Nat) (hf : ∀ j, j < 64 → f j < 9223372036854775808) : Met l yX2_greatest wsX2_greatest ({ frames := 2, cells := 0, slots := 0, locals := 60 } : Room) (mPc D [(cyI, .int), (cyJ, .long), (cyZ, .boolean)] [(h0, .inr (2, [.ref h1])), (h1, .inl (cyJ, 64, .inr (.inl (aL f))))] sz [.ref h0]) (va_Ql (fun (r : Int64) (u : va_W) => r = lN (mx f) ∧ u = [(h0, .inr (2, [.ref h1])), (h1, .inl (cyJ, 64, .inr (.inl (aL f))))]) (mB D [(cyI, .int), (cyJ, .long), (cyZ, .boolean)] (va_A [(h0, .inr (2, [.ref h1])), (h1, .inl (cyJ, 64, .inr (.inl (aL f))))] sz)) (va_A [(h0, .inr (2, [.ref h1])), (h1, .inl (cyJ, 64, .inr (.inl (aL f))))] sz)) 0 0 (va_A [(h0, .inr (2, [.ref h1])), (h1, .inl (cyJ, 64, .inr (.inl (aL f))))] sz) := by
  refine st_l (own := RX2) (lv0 := [(0, .ref h0)]) (by decide) rfl rfl (Nat.le_of_ble_eq_true rfl) rfl ?_
  intro p e s m below meth c A Q S hin hA hK hP hD hG hS hret ls hl
  have hw_X2 : ∀ w ∈ u_ws RX2 TX2 1, w ∈ wsX2_greatest := by decide +kernel
  have hf_9 := S.2.2.2.2 (.fieldLink RX2 9 "Particleway$Chart" "numbers" "[J") (by decide +kernel)
  refine lv_lconst (v := lN 0) S.1 S.2.1 dX2_greatest_0 (by decide) ?_
  refine lv_lstore_n (lv' := [(1, .long (lN 0)), (0, .ref h0)]) S.1 S.2.1 dX2_greatest_1 rfl hl (by decide) rfl (fun ls hl => ?_)
  refine lv_iconst (v := nI 0) S.1 S.2.1 dX2_greatest_2 (by decide) ?_
  refine lv_istore_n (lv' := [(3, .int (nI 0)), (1, .long (lN 0)), (0, .ref h0)]) S.1 S.2.1 dX2_greatest_3 rfl hl (by decide) rfl (fun ls hl => ?_)
  refine wl (σ := Nat × Nat) (fun (i, g) => [(h0, .inr (2, [.ref h1])), (h1, .inl (cyJ, 64, .inr (.inl (aL f))))]) (fun (i, g) => [(3, .int (nI i)), (1, .long (lN g)), (0, .ref h0)]) (fun (i, g) => (i ≤ 64) ∧ (g = mxF f i)) (fun (i, g) => 64 - i) ?_ (0, 0) ⟨by omega, rfl⟩ hP hD hS (lv_sub hl [0, 1, 2] rfl)
  rintro ⟨i, g⟩ ⟨hi, hg⟩ ih4 H locs ls hP hD hS hl
  have hP : va_P D vwCl [(h0, .inr (2, [.ref h1])), (h1, .inl (cyJ, 64, .inr (.inl (aL f))))] H := hP
  have hD : va_D A [(h0, .inr (2, [.ref h1])), (h1, .inl (cyJ, 64, .inr (.inl (aL f))))] := hD
  have hl : lv_has ls 4 [(3, .int (nI i)), (1, .long (lN g)), (0, .ref h0)] := hl
  subst hg
  refine lv_iload_n S.1 S.2.1 dX2_greatest_4 rfl (lv_at hl 0 rfl) ?_
  refine lv_bipush (v := nI 64) S.1 S.2.1 dX2_greatest_5 (by decide) ?_
  refine kn_icmp_ge S (by omega) (by omega) dX2_greatest_7 (tgt := 27) (by decide) (fun c7 => ?_) (fun c7 => ?_)
  · refine lv_lload_n S.1 S.2.1 dX2_greatest_27 rfl (lv_at hl 1 rfl) ?_
    refine k_topl (y := lN (mx f)) (by rw [show i = 64 by omega]) ?_
    exact hret _ _ _ _ dX2_greatest_28 hP hD hS
  · refine lv_lload_n S.1 S.2.1 dX2_greatest_10 rfl (lv_at hl 1 rfl) ?_
    refine lv_aload_n S.1 S.2.1 dX2_greatest_11 rfl (lv_at hl 2 rfl) ?_
    refine k_get S (C := RX2) (T := TX2) (N := 1) (ci := 2) hw_X2 hK hP 0 rfl rfl 0 (by decide) hf_9 rfl (v := .ref h1) rfl dX2_greatest_12 ?_
    refine lv_iload_n S.1 S.2.1 dX2_greatest_15 rfl (lv_at hl 0 rfl) ?_
    refine kn_lald S hK hP 1 1 rfl rfl (by omega) (by decide) dX2_greatest_16 ?_
    refine va_mmax_long S.1 S.2.1 (S.2.2.1.trans hl.1.symm) S.2.2.2.1 (S.2.2.2.2 (.methodLink RX2 27 Lib.MathLoose.max_long.x) (by decide +kernel)) (S.2.2.2.2 (.static Lib.MathLoose.max_long.x) (by decide +kernel)) (S.2.2.2.2 (.initialized "java/lang/Math") (by decide +kernel)) (S.2.2.2.2 (.code Lib.MathLoose.max_long.x Lib.MathLoose.max_long.code 4 (some .long)) (by decide +kernel)) (Nat.le_of_ble_eq_true rfl) (Nat.le_of_ble_eq_true rfl) (Nat.le_of_ble_eq_true rfl) (Nat.le_of_ble_eq_true rfl) dX2_greatest_17 ?_
    have hm := mxF_lt (f := f) (B := 9223372036854775808) (n := i) (by omega) (fun j hj => hf j (by omega))
    have hfi := hf i (by omega)
    refine k_topl (y := lN (mxF f (i + 1))) (mxF_stepL hm hfi) ?_
    refine lv_lstore_n (lv' := [(1, .long (lN (mxF f (i + 1)))), (3, .int (nI i)), (0, .ref h0)]) S.1 S.2.1 dX2_greatest_20 rfl hl (by decide) rfl (fun ls hl => ?_)
    refine lv_iinc (v := nI (i + 1)) (lv' := [(3, .int (nI (i + 1))), (1, .long (lN (mxF f (i + 1)))), (0, .ref h0)]) S.1 S.2.1 dX2_greatest_21 hl (k := 1) rfl (iinc_1 _) (by decide) rfl (fun ls hl => ?_)
    refine lv_goto (tgt := 4) S.1 S.2.1 dX2_greatest_24 (by decide) ?_
    exact ih4 (i + 1, mxF f (i + 1)) ⟨by omega, rfl⟩ (by show 64 - (i + 1) < 64 - i; omega) _ _ _ hP hD hS (lv_sub hl [0, 1, 2] rfl)

set_option maxHeartbeats 4000000 in
set_option maxRecDepth 100000 in
theorem c_X2_greatestCell (l : Launch) (D : va_G) (cyI cyJ cyZ : ClassId) (sz : Nat) (h0 : Nat) (h1 : Nat) (f : Nat → Nat) (hf : ∀ j, j < 64 → f j < 9223372036854775808) : Met l yX2_greatestCell wsX2_greatestCell ({ frames := 3, cells := 0, slots := 0, locals := 83 } : Room) (mPc D [(cyI, .int), (cyJ, .long), (cyZ, .boolean)] [(h0, .inr (2, [.ref h1])), (h1, .inl (cyJ, 64, .inr (.inl (aL f))))] sz [.ref h0]) (va_Qi (fun (r : Int32) (u : va_W) => r = nI (md f) ∧ u = [(h0, .inr (2, [.ref h1])), (h1, .inl (cyJ, 64, .inr (.inl (aL f))))]) (mB D [(cyI, .int), (cyJ, .long), (cyZ, .boolean)] (va_A [(h0, .inr (2, [.ref h1])), (h1, .inl (cyJ, 64, .inr (.inl (aL f))))] sz)) (va_A [(h0, .inr (2, [.ref h1])), (h1, .inl (cyJ, 64, .inr (.inl (aL f))))] sz)) 0 0 (va_A [(h0, .inr (2, [.ref h1])), (h1, .inl (cyJ, 64, .inr (.inl (aL f))))] sz) := by
  refine st_i (own := RX2) (lv0 := [(0, .ref h0)]) (by decide) rfl rfl (Nat.le_of_ble_eq_true rfl) rfl ?_
  intro p e s m below meth c A Q S hin hA hK hP hD hG hS hret ls hl
  have hw_X2 : ∀ w ∈ u_ws RX2 TX2 1, w ∈ wsX2_greatestCell := by decide +kernel
  have hf_9 := S.2.2.2.2 (.fieldLink RX2 9 "Particleway$Chart" "numbers" "[J") (by decide +kernel)
  have hm := mxF_lt (f := f) (B := 9223372036854775808) (n := 64) (by omega) hf
  refine lv_aload_n S.1 S.2.1 dX2_greatestCell_0 rfl (lv_at hl 0 rfl) ?_
  refine kcV_l S (wc := [(h0, .inr (2, [.ref h1])), (h1, .inl (cyJ, 64, .inr (.inl (aL f))))]) (wr := []) (ws2 := [(h0, .inr (2, [.ref h1])), (h1, .inl (cyJ, 64, .inr (.inl (aL f))))]) (As := []) (rest := []) (c_X2_greatest l D cyI cyJ cyZ s.heap.size h0 h1 f (by first | assumption | omega)) (cwV 0 S.2.2.2.2 gX2_greatestCell_X2_greatest rfl rfl rfl (by decide +kernel) ⟨Nat.le_of_ble_eq_true rfl, Nat.le_of_ble_eq_true rfl⟩) hK hP hD hS hA hG [0, 1] [] [0, 1] rfl rfl rfl rfl (by decide) rfl rfl (ci := 2) (q0 := 0) rfl rfl rfl hl.1 rfl (Nat.le_of_ble_eq_true rfl) dX2_greatestCell_1 ⟨Nat.le_of_ble_eq_true rfl, Nat.le_of_ble_eq_true rfl⟩ (fun H locs hP hD hS => ?_)
  refine lv_lstore_n (lv' := [(1, .long (lN (mx f))), (0, .ref h0)]) S.1 S.2.1 dX2_greatestCell_4 rfl hl (by decide) rfl (fun ls hl => ?_)
  refine lv_iconst (v := nI 0) S.1 S.2.1 dX2_greatestCell_5 (by decide) ?_
  refine lv_istore_n (lv' := [(3, .int (nI 0)), (1, .long (lN (mx f))), (0, .ref h0)]) S.1 S.2.1 dX2_greatestCell_6 rfl hl (by decide) rfl (fun ls hl => ?_)
  refine wl (σ := Nat) (fun i => [(h0, .inr (2, [.ref h1])), (h1, .inl (cyJ, 64, .inr (.inl (aL f))))]) (fun i => [(3, .int (nI i)), (1, .long (lN (mx f))), (0, .ref h0)]) (fun i => (i ≤ 64) ∧ (mdF f (mx f) (64 - i) i = md f)) (fun i => 64 - i) ?_ 0 ⟨by omega, rfl⟩ hP hD hS (lv_sub hl [0, 1, 2] rfl)
  rintro i ⟨hi, hg⟩ ih7 H locs ls hP hD hS hl
  have hP : va_P D vwCl [(h0, .inr (2, [.ref h1])), (h1, .inl (cyJ, 64, .inr (.inl (aL f))))] H := hP
  have hD : va_D A [(h0, .inr (2, [.ref h1])), (h1, .inl (cyJ, 64, .inr (.inl (aL f))))] := hD
  have hl : lv_has ls 4 [(3, .int (nI i)), (1, .long (lN (mx f))), (0, .ref h0)] := hl
  refine lv_iload_n S.1 S.2.1 dX2_greatestCell_7 rfl (lv_at hl 0 rfl) ?_
  refine lv_bipush (v := nI 64) S.1 S.2.1 dX2_greatestCell_8 (by decide) ?_
  refine kn_icmp_ge S (by omega) (by omega) dX2_greatestCell_10 (tgt := 32) (by decide) (fun c10 => ?_) (fun c10 => ?_)
  · exfalso; have h6 := (md_lt f).1; rw [← hg, show i = 64 by omega] at h6; exact Nat.lt_irrefl 64 h6
  · have hfi := hf i (by omega)
    refine lv_aload_n S.1 S.2.1 dX2_greatestCell_13 rfl (lv_at hl 2 rfl) ?_
    refine k_get S (C := RX2) (T := TX2) (N := 1) (ci := 2) hw_X2 hK hP 0 rfl rfl 0 (by decide) hf_9 rfl (v := .ref h1) rfl dX2_greatestCell_14 ?_
    refine lv_iload_n S.1 S.2.1 dX2_greatestCell_17 rfl (lv_at hl 0 rfl) ?_
    refine kn_lald S hK hP 1 1 rfl rfl (by omega) (by decide) dX2_greatestCell_18 ?_
    refine lv_lload_n S.1 S.2.1 dX2_greatestCell_19 rfl (lv_at hl 1 rfl) ?_
    refine kn_lcmp_ne S (by omega) (by omega) dX2_greatestCell_20 rfl dX2_greatestCell_21 (tgt := 26) (by decide) (fun c21 => ?_) (fun c21 => ?_)
    · refine lv_iinc (v := nI (i + 1)) (lv' := [(3, .int (nI (i + 1))), (1, .long (lN (mx f))), (0, .ref h0)]) S.1 S.2.1 dX2_greatestCell_26 hl (k := 0) rfl (iinc_1 _) (by decide) rfl (fun ls hl => ?_)
      refine lv_goto (tgt := 7) S.1 S.2.1 dX2_greatestCell_29 (by decide) ?_
      exact ih7 (i + 1) ⟨by omega, by rw [mdF_step (by omega) c21]; exact hg⟩ (by show 64 - (i + 1) < 64 - i; omega) _ _ _ hP hD hS (lv_sub hl [0, 1, 2] rfl)
    · refine lv_iload_n S.1 S.2.1 dX2_greatestCell_24 rfl (lv_at hl 0 rfl) ?_
      refine k_topi (y := nI (md f)) (by rw [← hg, mdF_hit (by omega) c21]) ?_
      exact hret _ _ _ _ dX2_greatestCell_25 hP hD hS

set_option maxHeartbeats 4000000 in
set_option maxRecDepth 100000 in
theorem c_X2_sumOf (l : Launch) (D : va_G) (cyI cyJ cyZ : ClassId) (sz : Nat) (h0 : Nat) (h1 : Nat) (f : Nat → Nat) (a : Nat) (b : Nat) (c0 : Nat) (d0 : Nat) (ha : a < 8) (hb : b < 8) (hc : c0 < 8) (hd : d0 < 8) : Met l yX2_sumOf wsX2_sumOf ({ frames := 2, cells := 0, slots := 0, locals := 60 } : Room) (mPc D [(cyI, .int), (cyJ, .long), (cyZ, .boolean)] [(h0, .inr (2, [.ref h1])), (h1, .inl (cyJ, 64, .inr (.inl (aL f))))] sz [.ref h0, .int (nI a), .int (nI b), .int (nI c0), .int (nI d0)]) (va_Ql (fun (r : Int64) (u : va_W) => r = lN (boxF f a b c0 d0 64) ∧ u = [(h0, .inr (2, [.ref h1])), (h1, .inl (cyJ, 64, .inr (.inl (aL f))))]) (mB D [(cyI, .int), (cyJ, .long), (cyZ, .boolean)] (va_A [(h0, .inr (2, [.ref h1])), (h1, .inl (cyJ, 64, .inr (.inl (aL f))))] sz)) (va_A [(h0, .inr (2, [.ref h1])), (h1, .inl (cyJ, 64, .inr (.inl (aL f))))] sz)) 0 0 (va_A [(h0, .inr (2, [.ref h1])), (h1, .inl (cyJ, 64, .inr (.inl (aL f))))] sz) := by
  refine st_l (own := RX2) (lv0 := [(0, .ref h0), (1, .int (nI a)), (2, .int (nI b)), (3, .int (nI c0)), (4, .int (nI d0))]) (by decide) rfl rfl (Nat.le_of_ble_eq_true rfl) rfl ?_
  intro p e s m below meth c A Q S hin hA hK hP hD hG hS hret ls hl
  have hw_X2 : ∀ w ∈ u_ws RX2 TX2 1, w ∈ wsX2_sumOf := by decide +kernel
  have hf_9 := S.2.2.2.2 (.fieldLink RX2 9 "Particleway$Chart" "numbers" "[J") (by decide +kernel)
  refine lv_lconst (v := lN 0) S.1 S.2.1 dX2_sumOf_0 (by decide) ?_
  refine lv_lstore (lv' := [(5, .long (lN 0)), (0, .ref h0), (1, .int (nI a)), (2, .int (nI b)), (3, .int (nI c0)), (4, .int (nI d0))]) S.1 S.2.1 dX2_sumOf_1 hl (by decide) rfl (fun ls hl => ?_)
  refine lv_iconst (v := nI 0) S.1 S.2.1 dX2_sumOf_3 (by decide) ?_
  refine lv_istore (lv' := [(7, .int (nI 0)), (5, .long (lN 0)), (0, .ref h0), (1, .int (nI a)), (2, .int (nI b)), (3, .int (nI c0)), (4, .int (nI d0))]) S.1 S.2.1 dX2_sumOf_4 hl (by decide) rfl (fun ls hl => ?_)
  refine wl (σ := Nat × Nat) (fun (i, g) => [(h0, .inr (2, [.ref h1])), (h1, .inl (cyJ, 64, .inr (.inl (aL f))))]) (fun (i, g) => [(7, .int (nI i)), (5, .long (lN g)), (0, .ref h0), (1, .int (nI a)), (2, .int (nI b)), (3, .int (nI c0)), (4, .int (nI d0))]) (fun (i, g) => (i ≤ 64) ∧ (g = boxF f a b c0 d0 i)) (fun (i, g) => 64 - i) ?_ (0, 0) ⟨by omega, rfl⟩ hP hD hS (lv_sub hl [0, 1, 2, 3, 4, 5, 6] rfl)
  rintro ⟨i, g⟩ ⟨hi, hg⟩ ih6 H locs ls hP hD hS hl
  have hP : va_P D vwCl [(h0, .inr (2, [.ref h1])), (h1, .inl (cyJ, 64, .inr (.inl (aL f))))] H := hP
  have hD : va_D A [(h0, .inr (2, [.ref h1])), (h1, .inl (cyJ, 64, .inr (.inl (aL f))))] := hD
  have hl : lv_has ls 10 [(7, .int (nI i)), (5, .long (lN g)), (0, .ref h0), (1, .int (nI a)), (2, .int (nI b)), (3, .int (nI c0)), (4, .int (nI d0))] := hl
  refine lv_iload S.1 S.2.1 dX2_sumOf_6 (lv_at hl 0 rfl) ?_
  refine lv_bipush (v := nI 64) S.1 S.2.1 dX2_sumOf_8 (by decide) ?_
  refine kn_icmp_ge S (by omega) (by omega) dX2_sumOf_10 (tgt := 70) (by decide) (fun c10 => ?_) (fun c10 => ?_)
  · refine lv_lload S.1 S.2.1 dX2_sumOf_70 (lv_at hl 1 rfl) ?_
    refine k_topl (y := lN (boxF f a b c0 d0 64)) (by rw [hg, show i = 64 by omega]) ?_
    exact hret _ _ _ _ dX2_sumOf_72 hP hD hS
  · refine lv_iload S.1 S.2.1 dX2_sumOf_13 (lv_at hl 0 rfl) ?_
    refine lv_bipush (v := nI 8) S.1 S.2.1 dX2_sumOf_15 (by decide) ?_
    refine kn_irem S (by omega) (by omega) (by omega) dX2_sumOf_17 ?_
    refine lv_istore (lv' := [(8, .int (nI (i % 8))), (7, .int (nI i)), (5, .long (lN g)), (0, .ref h0), (1, .int (nI a)), (2, .int (nI b)), (3, .int (nI c0)), (4, .int (nI d0))]) S.1 S.2.1 dX2_sumOf_18 hl (by decide) rfl (fun ls hl => ?_)
    refine lv_iload S.1 S.2.1 dX2_sumOf_20 (lv_at hl 1 rfl) ?_
    refine lv_bipush (v := nI 8) S.1 S.2.1 dX2_sumOf_22 (by decide) ?_
    refine kn_idiv S (by omega) (by omega) (by omega) dX2_sumOf_24 ?_
    refine lv_istore (lv' := [(9, .int (nI (i / 8))), (8, .int (nI (i % 8))), (7, .int (nI i)), (5, .long (lN g)), (0, .ref h0), (1, .int (nI a)), (2, .int (nI b)), (3, .int (nI c0)), (4, .int (nI d0))]) S.1 S.2.1 dX2_sumOf_25 hl (by decide) rfl (fun ls hl => ?_)
    refine lv_iload S.1 S.2.1 dX2_sumOf_27 (lv_at hl 1 rfl) ?_
    refine lv_iload_n S.1 S.2.1 dX2_sumOf_29 rfl (lv_at hl 5 rfl) ?_
    refine kn_icmp_lt S (by omega) (by omega) dX2_sumOf_30 (tgt := 64) (by decide) (fun c30 => ?_) (fun c30 => ?_)
    · refine lv_iinc (v := nI (i + 1)) (lv' := [(7, .int (nI (i + 1))), (9, .int (nI (i / 8))), (8, .int (nI (i % 8))), (5, .long (lN g)), (0, .ref h0), (1, .int (nI a)), (2, .int (nI b)), (3, .int (nI c0)), (4, .int (nI d0))]) S.1 S.2.1 dX2_sumOf_64 hl (k := 2) rfl (iinc_1 _) (by decide) rfl (fun ls hl => ?_)
      refine lv_goto (tgt := 6) S.1 S.2.1 dX2_sumOf_67 (by decide) ?_
      exact ih6 (i + 1, g) ⟨by omega, by first | (rw [boxF, if_pos (by omega), hg]) | (rw [boxF, if_neg (by omega), hg]; rfl)⟩ (by show 64 - (i + 1) < 64 - i; omega) _ _ _ hP hD hS (lv_sub hl [0, 3, 4, 5, 6, 7, 8] rfl)
    · refine lv_iload S.1 S.2.1 dX2_sumOf_33 (lv_at hl 1 rfl) ?_
      refine lv_iload_n S.1 S.2.1 dX2_sumOf_35 rfl (lv_at hl 7 rfl) ?_
      refine kn_icmp_gt S (by omega) (by omega) dX2_sumOf_36 (tgt := 64) (by decide) (fun c36 => ?_) (fun c36 => ?_)
      · refine lv_iinc (v := nI (i + 1)) (lv' := [(7, .int (nI (i + 1))), (9, .int (nI (i / 8))), (8, .int (nI (i % 8))), (5, .long (lN g)), (0, .ref h0), (1, .int (nI a)), (2, .int (nI b)), (3, .int (nI c0)), (4, .int (nI d0))]) S.1 S.2.1 dX2_sumOf_64 hl (k := 2) rfl (iinc_1 _) (by decide) rfl (fun ls hl => ?_)
        refine lv_goto (tgt := 6) S.1 S.2.1 dX2_sumOf_67 (by decide) ?_
        exact ih6 (i + 1, g) ⟨by omega, by first | (rw [boxF, if_pos (by omega), hg]) | (rw [boxF, if_neg (by omega), hg]; rfl)⟩ (by show 64 - (i + 1) < 64 - i; omega) _ _ _ hP hD hS (lv_sub hl [0, 3, 4, 5, 6, 7, 8] rfl)
      · refine lv_iload S.1 S.2.1 dX2_sumOf_39 (lv_at hl 0 rfl) ?_
        refine lv_iload_n S.1 S.2.1 dX2_sumOf_41 rfl (lv_at hl 6 rfl) ?_
        refine kn_icmp_lt S (by omega) (by omega) dX2_sumOf_42 (tgt := 64) (by decide) (fun c42 => ?_) (fun c42 => ?_)
        · refine lv_iinc (v := nI (i + 1)) (lv' := [(7, .int (nI (i + 1))), (9, .int (nI (i / 8))), (8, .int (nI (i % 8))), (5, .long (lN g)), (0, .ref h0), (1, .int (nI a)), (2, .int (nI b)), (3, .int (nI c0)), (4, .int (nI d0))]) S.1 S.2.1 dX2_sumOf_64 hl (k := 2) rfl (iinc_1 _) (by decide) rfl (fun ls hl => ?_)
          refine lv_goto (tgt := 6) S.1 S.2.1 dX2_sumOf_67 (by decide) ?_
          exact ih6 (i + 1, g) ⟨by omega, by first | (rw [boxF, if_pos (by omega), hg]) | (rw [boxF, if_neg (by omega), hg]; rfl)⟩ (by show 64 - (i + 1) < 64 - i; omega) _ _ _ hP hD hS (lv_sub hl [0, 3, 4, 5, 6, 7, 8] rfl)
        · refine lv_iload S.1 S.2.1 dX2_sumOf_45 (lv_at hl 0 rfl) ?_
          refine lv_iload S.1 S.2.1 dX2_sumOf_47 (lv_at hl 8 rfl) ?_
          refine kn_icmp_gt S (by omega) (by omega) dX2_sumOf_49 (tgt := 64) (by decide) (fun c49 => ?_) (fun c49 => ?_)
          · refine lv_iinc (v := nI (i + 1)) (lv' := [(7, .int (nI (i + 1))), (9, .int (nI (i / 8))), (8, .int (nI (i % 8))), (5, .long (lN g)), (0, .ref h0), (1, .int (nI a)), (2, .int (nI b)), (3, .int (nI c0)), (4, .int (nI d0))]) S.1 S.2.1 dX2_sumOf_64 hl (k := 2) rfl (iinc_1 _) (by decide) rfl (fun ls hl => ?_)
            refine lv_goto (tgt := 6) S.1 S.2.1 dX2_sumOf_67 (by decide) ?_
            exact ih6 (i + 1, g) ⟨by omega, by first | (rw [boxF, if_pos (by omega), hg]) | (rw [boxF, if_neg (by omega), hg]; rfl)⟩ (by show 64 - (i + 1) < 64 - i; omega) _ _ _ hP hD hS (lv_sub hl [0, 3, 4, 5, 6, 7, 8] rfl)
          · refine lv_lload S.1 S.2.1 dX2_sumOf_52 (lv_at hl 3 rfl) ?_
            refine lv_aload_n S.1 S.2.1 dX2_sumOf_54 rfl (lv_at hl 4 rfl) ?_
            refine k_get S (C := RX2) (T := TX2) (N := 1) (ci := 2) hw_X2 hK hP 0 rfl rfl 0 (by decide) hf_9 rfl (v := .ref h1) rfl dX2_sumOf_55 ?_
            refine lv_iload S.1 S.2.1 dX2_sumOf_58 (lv_at hl 2 rfl) ?_
            refine kn_lald S hK hP 1 1 rfl rfl (by omega) (by decide) dX2_sumOf_60 ?_
            refine kn_ladd S dX2_sumOf_61 ?_
            refine lv_lstore (lv' := [(5, .long (lN (g + (f i)))), (9, .int (nI (i / 8))), (8, .int (nI (i % 8))), (7, .int (nI i)), (0, .ref h0), (1, .int (nI a)), (2, .int (nI b)), (3, .int (nI c0)), (4, .int (nI d0))]) S.1 S.2.1 dX2_sumOf_62 hl (by decide) rfl (fun ls hl => ?_)
            refine lv_iinc (v := nI (i + 1)) (lv' := [(7, .int (nI (i + 1))), (5, .long (lN (g + (f i)))), (9, .int (nI (i / 8))), (8, .int (nI (i % 8))), (0, .ref h0), (1, .int (nI a)), (2, .int (nI b)), (3, .int (nI c0)), (4, .int (nI d0))]) S.1 S.2.1 dX2_sumOf_64 hl (k := 3) rfl (iinc_1 _) (by decide) rfl (fun ls hl => ?_)
            refine lv_goto (tgt := 6) S.1 S.2.1 dX2_sumOf_67 (by decide) ?_
            exact ih6 (i + 1, g + (f i)) ⟨by omega, by first | (rw [boxF, if_pos (by omega), hg]) | (rw [boxF, if_neg (by omega), hg]; rfl)⟩ (by show 64 - (i + 1) < 64 - i; omega) _ _ _ hP hD hS (lv_sub hl [0, 1, 4, 5, 6, 7, 8] rfl)

set_option maxHeartbeats 4000000 in
set_option maxRecDepth 100000 in
theorem c_X2_sum (l : Launch) (D : va_G) (cyI cyJ cyZ : ClassId) (sz : Nat) (h0 : Nat) (h1 : Nat) (f : Nat → Nat) : Met l yX2_sum wsX2_sum ({ frames := 3, cells := 0, slots := 0, locals := 89 } : Room) (mPc D [(cyI, .int), (cyJ, .long), (cyZ, .boolean)] [(h0, .inr (2, [.ref h1])), (h1, .inl (cyJ, 64, .inr (.inl (aL f))))] sz [.ref h0]) (va_Ql (fun (r : Int64) (u : va_W) => r = lN (smF f 64) ∧ u = [(h0, .inr (2, [.ref h1])), (h1, .inl (cyJ, 64, .inr (.inl (aL f))))]) (mB D [(cyI, .int), (cyJ, .long), (cyZ, .boolean)] (va_A [(h0, .inr (2, [.ref h1])), (h1, .inl (cyJ, 64, .inr (.inl (aL f))))] sz)) (va_A [(h0, .inr (2, [.ref h1])), (h1, .inl (cyJ, 64, .inr (.inl (aL f))))] sz)) 0 0 (va_A [(h0, .inr (2, [.ref h1])), (h1, .inl (cyJ, 64, .inr (.inl (aL f))))] sz) := by
  refine st_l (own := RX2) (lv0 := [(0, .ref h0)]) (by decide) rfl rfl (Nat.le_of_ble_eq_true rfl) rfl ?_
  intro p e s m below meth c A Q S hin hA hK hP hD hG hS hret ls hl
  refine lv_aload_n S.1 S.2.1 dX2_sum_0 rfl (lv_at hl 0 rfl) ?_
  refine lv_iconst (v := nI 0) S.1 S.2.1 dX2_sum_1 (by decide) ?_
  refine lv_iconst (v := nI 0) S.1 S.2.1 dX2_sum_2 (by decide) ?_
  refine lv_bipush (v := nI 7) S.1 S.2.1 dX2_sum_3 (by decide) ?_
  refine lv_bipush (v := nI 7) S.1 S.2.1 dX2_sum_5 (by decide) ?_
  refine kcV_l S (wc := [(h0, .inr (2, [.ref h1])), (h1, .inl (cyJ, 64, .inr (.inl (aL f))))]) (wr := []) (ws2 := [(h0, .inr (2, [.ref h1])), (h1, .inl (cyJ, 64, .inr (.inl (aL f))))]) (As := [.int (nI 0), .int (nI 0), .int (nI 7), .int (nI 7)]) (rest := []) (c_X2_sumOf l D cyI cyJ cyZ s.heap.size h0 h1 f 0 0 7 7 (by first | assumption | omega) (by first | assumption | omega) (by first | assumption | omega) (by first | assumption | omega)) (cwV 4 S.2.2.2.2 gX2_sum_X2_sumOf rfl rfl rfl (by decide +kernel) ⟨Nat.le_of_ble_eq_true rfl, Nat.le_of_ble_eq_true rfl⟩) hK hP hD hS hA hG [0, 1] [] [0, 1] rfl rfl rfl rfl (by decide) rfl rfl (ci := 2) (q0 := 0) rfl rfl rfl hl.1 rfl (Nat.le_of_ble_eq_true rfl) dX2_sum_7 ⟨Nat.le_of_ble_eq_true rfl, Nat.le_of_ble_eq_true rfl⟩ (fun H locs hP hD hS => ?_)
  refine k_topl (y := lN (smF f 64)) (by rw [boxF_all f (by omega)]) ?_
  exact hret _ _ _ _ dX2_sum_10 hP hD hS

set_option maxHeartbeats 4000000 in
set_option maxRecDepth 100000 in
theorem c_X2_coordinateSum (l : Launch) (D : va_G) (cyI cyJ cyZ : ClassId) (sz : Nat) (h0 : Nat) (h1 : Nat) (f : Nat → Nat) (b : Bool) : Met l yX2_coordinateSum wsX2_coordinateSum ({ frames := 2, cells := 0, slots := 0, locals := 60 } : Room) (mPc D [(cyI, .int), (cyJ, .long), (cyZ, .boolean)] [(h0, .inr (2, [.ref h1])), (h1, .inl (cyJ, 64, .inr (.inl (aL f))))] sz [.ref h0, .int (bI b)]) (va_Ql (fun (r : Int64) (u : va_W) => r = lN (csF f b 64) ∧ u = [(h0, .inr (2, [.ref h1])), (h1, .inl (cyJ, 64, .inr (.inl (aL f))))]) (mB D [(cyI, .int), (cyJ, .long), (cyZ, .boolean)] (va_A [(h0, .inr (2, [.ref h1])), (h1, .inl (cyJ, 64, .inr (.inl (aL f))))] sz)) (va_A [(h0, .inr (2, [.ref h1])), (h1, .inl (cyJ, 64, .inr (.inl (aL f))))] sz)) 0 0 (va_A [(h0, .inr (2, [.ref h1])), (h1, .inl (cyJ, 64, .inr (.inl (aL f))))] sz) := by
  refine st_l (own := RX2) (lv0 := [(0, .ref h0), (1, .int (bI b))]) (by decide) rfl rfl (Nat.le_of_ble_eq_true rfl) rfl ?_
  intro p e s m below meth c A Q S hin hA hK hP hD hG hS hret ls hl
  have hw_X2 : ∀ w ∈ u_ws RX2 TX2 1, w ∈ wsX2_coordinateSum := by decide +kernel
  have hf_9 := S.2.2.2.2 (.fieldLink RX2 9 "Particleway$Chart" "numbers" "[J") (by decide +kernel)
  refine lv_lconst (v := lN 0) S.1 S.2.1 dX2_coordinateSum_0 (by decide) ?_
  refine lv_lstore_n (lv' := [(2, .long (lN 0)), (0, .ref h0), (1, .int (bI b))]) S.1 S.2.1 dX2_coordinateSum_1 rfl hl (by decide) rfl (fun ls hl => ?_)
  refine lv_iconst (v := nI 0) S.1 S.2.1 dX2_coordinateSum_2 (by decide) ?_
  refine lv_istore (lv' := [(4, .int (nI 0)), (2, .long (lN 0)), (0, .ref h0), (1, .int (bI b))]) S.1 S.2.1 dX2_coordinateSum_3 hl (by decide) rfl (fun ls hl => ?_)
  refine wl (σ := Nat × Nat) (fun (i, g) => [(h0, .inr (2, [.ref h1])), (h1, .inl (cyJ, 64, .inr (.inl (aL f))))]) (fun (i, g) => [(4, .int (nI i)), (2, .long (lN g)), (0, .ref h0), (1, .int (bI b))]) (fun (i, g) => (i ≤ 64) ∧ (g = csF f b i)) (fun (i, g) => 64 - i) ?_ (0, 0) ⟨by omega, rfl⟩ hP hD hS (lv_sub hl [0, 1, 2, 3] rfl)
  rintro ⟨i, g⟩ ⟨hi, hg⟩ ih5 H locs ls hP hD hS hl
  have hP : va_P D vwCl [(h0, .inr (2, [.ref h1])), (h1, .inl (cyJ, 64, .inr (.inl (aL f))))] H := hP
  have hD : va_D A [(h0, .inr (2, [.ref h1])), (h1, .inl (cyJ, 64, .inr (.inl (aL f))))] := hD
  have hl : lv_has ls 5 [(4, .int (nI i)), (2, .long (lN g)), (0, .ref h0), (1, .int (bI b))] := hl
  refine lv_iload S.1 S.2.1 dX2_coordinateSum_5 (lv_at hl 0 rfl) ?_
  refine lv_bipush (v := nI 64) S.1 S.2.1 dX2_coordinateSum_7 (by decide) ?_
  refine kn_icmp_ge S (by omega) (by omega) dX2_coordinateSum_9 (tgt := 47) (by decide) (fun c9 => ?_) (fun c9 => ?_)
  · refine lv_lload_n S.1 S.2.1 dX2_coordinateSum_47 rfl (lv_at hl 1 rfl) ?_
    refine k_topl (y := lN (csF f b 64)) (by rw [hg, show i = 64 by omega]) ?_
    exact hret _ _ _ _ dX2_coordinateSum_48 hP hD hS
  · refine lv_lload_n S.1 S.2.1 dX2_coordinateSum_12 rfl (lv_at hl 1 rfl) ?_
    refine lv_aload_n S.1 S.2.1 dX2_coordinateSum_13 rfl (lv_at hl 2 rfl) ?_
    refine k_get S (C := RX2) (T := TX2) (N := 1) (ci := 2) hw_X2 hK hP 0 rfl rfl 0 (by decide) hf_9 rfl (v := .ref h1) rfl dX2_coordinateSum_14 ?_
    refine lv_iload S.1 S.2.1 dX2_coordinateSum_17 (lv_at hl 0 rfl) ?_
    refine kn_lald S hK hP 1 1 rfl rfl (by omega) (by decide) dX2_coordinateSum_19 ?_
    refine lv_iload_n S.1 S.2.1 dX2_coordinateSum_20 rfl (lv_at hl 3 rfl) ?_
    refine kb_if_eq S dX2_coordinateSum_21 (tgt := 32) (by decide) (fun c21 => ?_) (fun c21 => ?_)
    · refine lv_iload S.1 S.2.1 dX2_coordinateSum_32 (lv_at hl 0 rfl) ?_
      refine lv_bipush (v := nI 8) S.1 S.2.1 dX2_coordinateSum_34 (by decide) ?_
      refine kn_irem S (by omega) (by omega) (by omega) dX2_coordinateSum_36 ?_
      refine kn_i2l S (by omega) dX2_coordinateSum_37 ?_
      refine kn_lmul S dX2_coordinateSum_38 ?_
      refine kn_ladd S dX2_coordinateSum_39 ?_
      refine lv_lstore_n (lv' := [(2, .long (lN (g + ((f i) * (i % 8))))), (4, .int (nI i)), (0, .ref h0), (1, .int (bI b))]) S.1 S.2.1 dX2_coordinateSum_40 rfl hl (by decide) rfl (fun ls hl => ?_)
      refine lv_iinc (v := nI (i + 1)) (lv' := [(4, .int (nI (i + 1))), (2, .long (lN (g + ((f i) * (i % 8))))), (0, .ref h0), (1, .int (bI b))]) S.1 S.2.1 dX2_coordinateSum_41 hl (k := 1) rfl (iinc_1 _) (by decide) rfl (fun ls hl => ?_)
      refine lv_goto (tgt := 5) S.1 S.2.1 dX2_coordinateSum_44 (by decide) ?_
      exact ih5 (i + 1, g + ((f i) * (i % 8))) ⟨by omega, by rw [csF, hg]; simp [c21]⟩ (by show 64 - (i + 1) < 64 - i; omega) _ _ _ hP hD hS (lv_sub hl [0, 1, 2, 3] rfl)
    · refine lv_iload S.1 S.2.1 dX2_coordinateSum_24 (lv_at hl 0 rfl) ?_
      refine lv_bipush (v := nI 8) S.1 S.2.1 dX2_coordinateSum_26 (by decide) ?_
      refine kn_idiv S (by omega) (by omega) (by omega) dX2_coordinateSum_28 ?_
      refine lv_goto (tgt := 37) S.1 S.2.1 dX2_coordinateSum_29 (by decide) ?_
      refine kn_i2l S (by omega) dX2_coordinateSum_37 ?_
      refine kn_lmul S dX2_coordinateSum_38 ?_
      refine kn_ladd S dX2_coordinateSum_39 ?_
      refine lv_lstore_n (lv' := [(2, .long (lN (g + ((f i) * (i / 8))))), (4, .int (nI i)), (0, .ref h0), (1, .int (bI b))]) S.1 S.2.1 dX2_coordinateSum_40 rfl hl (by decide) rfl (fun ls hl => ?_)
      refine lv_iinc (v := nI (i + 1)) (lv' := [(4, .int (nI (i + 1))), (2, .long (lN (g + ((f i) * (i / 8))))), (0, .ref h0), (1, .int (bI b))]) S.1 S.2.1 dX2_coordinateSum_41 hl (k := 1) rfl (iinc_1 _) (by decide) rfl (fun ls hl => ?_)
      refine lv_goto (tgt := 5) S.1 S.2.1 dX2_coordinateSum_44 (by decide) ?_
      exact ih5 (i + 1, g + ((f i) * (i / 8))) ⟨by omega, by rw [csF, hg]; simp [c21]⟩ (by show 64 - (i + 1) < 64 - i; omega) _ _ _ hP hD hS (lv_sub hl [0, 1, 2, 3] rfl)

set_option maxHeartbeats 4000000 in
set_option maxRecDepth 100000 in
theorem c_X2_placeOf (l : Launch) (D : va_G) (cyI cyJ cyZ : ClassId) (sz : Nat) (h0 : Nat) (h1 : Nat) (f : Nat → Nat) (k : Nat) (hk : k < 64) (hf : ∀ j, j < 64 → f j < 9223372036854775808) : Met l yX2_placeOf wsX2_placeOf ({ frames := 4, cells := 0, slots := 0, locals := 101 } : Room) (mPc D [(cyI, .int), (cyJ, .long), (cyZ, .boolean)] [(h0, .inr (2, [.ref h1])), (h1, .inl (cyJ, 64, .inr (.inl (aL f))))] sz [.ref h0, .int (nI k)]) (va_Qi (fun (r : Int32) (u : va_W) => r = nI (plF f k 64) ∧ u = [(h0, .inr (2, [.ref h1])), (h1, .inl (cyJ, 64, .inr (.inl (aL f))))]) (mB D [(cyI, .int), (cyJ, .long), (cyZ, .boolean)] (va_A [(h0, .inr (2, [.ref h1])), (h1, .inl (cyJ, 64, .inr (.inl (aL f))))] sz)) (va_A [(h0, .inr (2, [.ref h1])), (h1, .inl (cyJ, 64, .inr (.inl (aL f))))] sz)) 0 0 (va_A [(h0, .inr (2, [.ref h1])), (h1, .inl (cyJ, 64, .inr (.inl (aL f))))] sz) := by
  refine st_i (own := RX2) (lv0 := [(0, .ref h0), (1, .int (nI k))]) (by decide) rfl rfl (Nat.le_of_ble_eq_true rfl) rfl ?_
  intro p e s m below meth c A Q S hin hA hK hP hD hG hS hret ls hl
  have hw_X2 : ∀ w ∈ u_ws RX2 TX2 1, w ∈ wsX2_placeOf := by decide +kernel
  have hf_9 := S.2.2.2.2 (.fieldLink RX2 9 "Particleway$Chart" "numbers" "[J") (by decide +kernel)
  have hfk := hf k hk
  refine lv_iconst (v := nI 0) S.1 S.2.1 dX2_placeOf_0 (by decide) ?_
  refine lv_istore_n (lv' := [(2, .int (nI 0)), (0, .ref h0), (1, .int (nI k))]) S.1 S.2.1 dX2_placeOf_1 rfl hl (by decide) rfl (fun ls hl => ?_)
  refine lv_iconst (v := nI 0) S.1 S.2.1 dX2_placeOf_2 (by decide) ?_
  refine lv_istore_n (lv' := [(3, .int (nI 0)), (2, .int (nI 0)), (0, .ref h0), (1, .int (nI k))]) S.1 S.2.1 dX2_placeOf_3 rfl hl (by decide) rfl (fun ls hl => ?_)
  refine wl (σ := Nat × Nat) (fun (i, g) => [(h0, .inr (2, [.ref h1])), (h1, .inl (cyJ, 64, .inr (.inl (aL f))))]) (fun (i, g) => [(3, .int (nI i)), (2, .int (nI g)), (0, .ref h0), (1, .int (nI k))]) (fun (i, g) => (i ≤ 64) ∧ (g = plF f k i)) (fun (i, g) => 64 - i) ?_ (0, 0) ⟨by omega, rfl⟩ hP hD hS (lv_sub hl [0, 1, 2, 3] rfl)
  rintro ⟨i, g⟩ ⟨hi, hg⟩ ih4 H locs ls hP hD hS hl
  have hP : va_P D vwCl [(h0, .inr (2, [.ref h1])), (h1, .inl (cyJ, 64, .inr (.inl (aL f))))] H := hP
  have hD : va_D A [(h0, .inr (2, [.ref h1])), (h1, .inl (cyJ, 64, .inr (.inl (aL f))))] := hD
  have hl : lv_has ls 5 [(3, .int (nI i)), (2, .int (nI g)), (0, .ref h0), (1, .int (nI k))] := hl
  refine lv_iload_n S.1 S.2.1 dX2_placeOf_4 rfl (lv_at hl 0 rfl) ?_
  refine lv_bipush (v := nI 64) S.1 S.2.1 dX2_placeOf_5 (by decide) ?_
  refine kn_icmp_ge S (by omega) (by omega) dX2_placeOf_7 (tgt := 66) (by decide) (fun c7 => ?_) (fun c7 => ?_)
  · refine lv_iload_n S.1 S.2.1 dX2_placeOf_66 rfl (lv_at hl 1 rfl) ?_
    refine k_topi (y := nI (plF f k 64)) (by rw [hg, show i = 64 by omega]) ?_
    exact hret _ _ _ _ dX2_placeOf_67 hP hD hS
  · have hfi := hf i (by omega)
    refine lv_aload_n S.1 S.2.1 dX2_placeOf_10 rfl (lv_at hl 2 rfl) ?_
    refine k_get S (C := RX2) (T := TX2) (N := 1) (ci := 2) hw_X2 hK hP 0 rfl rfl 0 (by decide) hf_9 rfl (v := .ref h1) rfl dX2_placeOf_11 ?_
    refine lv_iload_n S.1 S.2.1 dX2_placeOf_14 rfl (lv_at hl 0 rfl) ?_
    refine kn_lald S hK hP 1 1 rfl rfl (by omega) (by decide) dX2_placeOf_15 ?_
    refine lv_aload_n S.1 S.2.1 dX2_placeOf_16 rfl (lv_at hl 2 rfl) ?_
    refine lv_iload_n S.1 S.2.1 dX2_placeOf_17 rfl (lv_at hl 3 rfl) ?_
    refine kcV_l S (wc := [(h0, .inr (2, [.ref h1])), (h1, .inl (cyJ, 64, .inr (.inl (aL f))))]) (wr := []) (ws2 := [(h0, .inr (2, [.ref h1])), (h1, .inl (cyJ, 64, .inr (.inl (aL f))))]) (As := [.int (nI k)]) (rest := [.long (lN (f i))]) (c_X2_at l D cyI cyJ cyZ H.size h0 h1 f k (by first | assumption | omega)) (cwV 1 S.2.2.2.2 gX2_placeOf_X2_at rfl rfl rfl (by decide +kernel) ⟨Nat.le_of_ble_eq_true rfl, Nat.le_of_ble_eq_true rfl⟩) hK hP hD hS hA hG [0, 1] [] [0, 1] rfl rfl rfl rfl (by decide) rfl rfl (ci := 2) (q0 := 0) rfl rfl rfl hl.1 rfl (Nat.le_of_ble_eq_true rfl) dX2_placeOf_18 ⟨Nat.le_of_ble_eq_true rfl, Nat.le_of_ble_eq_true rfl⟩ (fun H locs hP hD hS => ?_)
    refine kn_lcmp_ne S (by omega) (by omega) dX2_placeOf_21 rfl dX2_placeOf_22 (tgt := 34) (by decide) (fun c22 => ?_) (fun c22 => ?_)
    · refine lv_iconst (v := nI 0) S.1 S.2.1 dX2_placeOf_34 (by decide) ?_
      refine lv_istore (lv' := [(4, .int (nI 0)), (3, .int (nI i)), (2, .int (nI g)), (0, .ref h0), (1, .int (nI k))]) S.1 S.2.1 dX2_placeOf_35 hl (by decide) rfl (fun ls hl => ?_)
      refine lv_aload_n S.1 S.2.1 dX2_placeOf_37 rfl (lv_at hl 3 rfl) ?_
      refine k_get S (C := RX2) (T := TX2) (N := 1) (ci := 2) hw_X2 hK hP 0 rfl rfl 0 (by decide) hf_9 rfl (v := .ref h1) rfl dX2_placeOf_38 ?_
      refine lv_iload_n S.1 S.2.1 dX2_placeOf_41 rfl (lv_at hl 1 rfl) ?_
      refine kn_lald S hK hP 1 1 rfl rfl (by omega) (by decide) dX2_placeOf_42 ?_
      refine lv_aload_n S.1 S.2.1 dX2_placeOf_43 rfl (lv_at hl 3 rfl) ?_
      refine lv_iload_n S.1 S.2.1 dX2_placeOf_44 rfl (lv_at hl 4 rfl) ?_
      refine kcV_l S (wc := [(h0, .inr (2, [.ref h1])), (h1, .inl (cyJ, 64, .inr (.inl (aL f))))]) (wr := []) (ws2 := [(h0, .inr (2, [.ref h1])), (h1, .inl (cyJ, 64, .inr (.inl (aL f))))]) (As := [.int (nI k)]) (rest := [.long (lN (f i))]) (c_X2_at l D cyI cyJ cyZ H.size h0 h1 f k (by first | assumption | omega)) (cwV 1 S.2.2.2.2 gX2_placeOf_X2_at rfl rfl rfl (by decide +kernel) ⟨Nat.le_of_ble_eq_true rfl, Nat.le_of_ble_eq_true rfl⟩) hK hP hD hS hA hG [0, 1] [] [0, 1] rfl rfl rfl rfl (by decide) rfl rfl (ci := 2) (q0 := 0) rfl rfl rfl hl.1 rfl (Nat.le_of_ble_eq_true rfl) dX2_placeOf_45 ⟨Nat.le_of_ble_eq_true rfl, Nat.le_of_ble_eq_true rfl⟩ (fun H locs hP hD hS => ?_)
      refine kn_lcmp_gt S (by omega) (by omega) dX2_placeOf_48 rfl dX2_placeOf_49 (tgt := 57) (by decide) (fun c49 => ?_) (fun c49 => ?_)
      · refine lv_iinc (v := nI (g + 1)) (lv' := [(2, .int (nI (g + 1))), (4, .int (nI 0)), (3, .int (nI i)), (0, .ref h0), (1, .int (nI k))]) S.1 S.2.1 dX2_placeOf_57 hl (k := 2) rfl (iinc_1 _) (by decide) rfl (fun ls hl => ?_)
        refine lv_iinc (v := nI (i + 1)) (lv' := [(3, .int (nI (i + 1))), (2, .int (nI (g + 1))), (4, .int (nI 0)), (0, .ref h0), (1, .int (nI k))]) S.1 S.2.1 dX2_placeOf_60 hl (k := 2) rfl (iinc_1 _) (by decide) rfl (fun ls hl => ?_)
        refine lv_goto (tgt := 4) S.1 S.2.1 dX2_placeOf_63 (by decide) ?_
        exact ih4 (i + 1, g + 1) ⟨by omega, by first | (rw [plF, if_pos (by omega), hg]) | (rw [plF, if_neg (by omega), hg]; rfl)⟩ (by show 64 - (i + 1) < 64 - i; omega) _ _ _ hP hD hS (lv_sub hl [0, 1, 3, 4] rfl)
      · refine lv_iload S.1 S.2.1 dX2_placeOf_52 (lv_at hl 0 rfl) ?_
        refine kn_if_eq S (by omega) dX2_placeOf_54 (tgt := 60) (by decide) (fun c54 => ?_) (fun c54 => ?_)
        · refine lv_iinc (v := nI (i + 1)) (lv' := [(3, .int (nI (i + 1))), (4, .int (nI 0)), (2, .int (nI g)), (0, .ref h0), (1, .int (nI k))]) S.1 S.2.1 dX2_placeOf_60 hl (k := 1) rfl (iinc_1 _) (by decide) rfl (fun ls hl => ?_)
          refine lv_goto (tgt := 4) S.1 S.2.1 dX2_placeOf_63 (by decide) ?_
          exact ih4 (i + 1, g) ⟨by omega, by first | (rw [plF, if_pos (by omega), hg]) | (rw [plF, if_neg (by omega), hg]; rfl)⟩ (by show 64 - (i + 1) < 64 - i; omega) _ _ _ hP hD hS (lv_sub hl [0, 2, 3, 4] rfl)
        · exact absurd c54 (by omega)
    · refine lv_iload_n S.1 S.2.1 dX2_placeOf_25 rfl (lv_at hl 0 rfl) ?_
      refine lv_iload_n S.1 S.2.1 dX2_placeOf_26 rfl (lv_at hl 3 rfl) ?_
      refine kn_icmp_ge S (by omega) (by omega) dX2_placeOf_27 (tgt := 34) (by decide) (fun c27 => ?_) (fun c27 => ?_)
      · refine lv_iconst (v := nI 0) S.1 S.2.1 dX2_placeOf_34 (by decide) ?_
        refine lv_istore (lv' := [(4, .int (nI 0)), (3, .int (nI i)), (2, .int (nI g)), (0, .ref h0), (1, .int (nI k))]) S.1 S.2.1 dX2_placeOf_35 hl (by decide) rfl (fun ls hl => ?_)
        refine lv_aload_n S.1 S.2.1 dX2_placeOf_37 rfl (lv_at hl 3 rfl) ?_
        refine k_get S (C := RX2) (T := TX2) (N := 1) (ci := 2) hw_X2 hK hP 0 rfl rfl 0 (by decide) hf_9 rfl (v := .ref h1) rfl dX2_placeOf_38 ?_
        refine lv_iload_n S.1 S.2.1 dX2_placeOf_41 rfl (lv_at hl 1 rfl) ?_
        refine kn_lald S hK hP 1 1 rfl rfl (by omega) (by decide) dX2_placeOf_42 ?_
        refine lv_aload_n S.1 S.2.1 dX2_placeOf_43 rfl (lv_at hl 3 rfl) ?_
        refine lv_iload_n S.1 S.2.1 dX2_placeOf_44 rfl (lv_at hl 4 rfl) ?_
        refine kcV_l S (wc := [(h0, .inr (2, [.ref h1])), (h1, .inl (cyJ, 64, .inr (.inl (aL f))))]) (wr := []) (ws2 := [(h0, .inr (2, [.ref h1])), (h1, .inl (cyJ, 64, .inr (.inl (aL f))))]) (As := [.int (nI k)]) (rest := [.long (lN (f i))]) (c_X2_at l D cyI cyJ cyZ H.size h0 h1 f k (by first | assumption | omega)) (cwV 1 S.2.2.2.2 gX2_placeOf_X2_at rfl rfl rfl (by decide +kernel) ⟨Nat.le_of_ble_eq_true rfl, Nat.le_of_ble_eq_true rfl⟩) hK hP hD hS hA hG [0, 1] [] [0, 1] rfl rfl rfl rfl (by decide) rfl rfl (ci := 2) (q0 := 0) rfl rfl rfl hl.1 rfl (Nat.le_of_ble_eq_true rfl) dX2_placeOf_45 ⟨Nat.le_of_ble_eq_true rfl, Nat.le_of_ble_eq_true rfl⟩ (fun H locs hP hD hS => ?_)
        refine kn_lcmp_gt S (by omega) (by omega) dX2_placeOf_48 rfl dX2_placeOf_49 (tgt := 57) (by decide) (fun c49 => ?_) (fun c49 => ?_)
        · refine lv_iinc (v := nI (g + 1)) (lv' := [(2, .int (nI (g + 1))), (4, .int (nI 0)), (3, .int (nI i)), (0, .ref h0), (1, .int (nI k))]) S.1 S.2.1 dX2_placeOf_57 hl (k := 2) rfl (iinc_1 _) (by decide) rfl (fun ls hl => ?_)
          refine lv_iinc (v := nI (i + 1)) (lv' := [(3, .int (nI (i + 1))), (2, .int (nI (g + 1))), (4, .int (nI 0)), (0, .ref h0), (1, .int (nI k))]) S.1 S.2.1 dX2_placeOf_60 hl (k := 2) rfl (iinc_1 _) (by decide) rfl (fun ls hl => ?_)
          refine lv_goto (tgt := 4) S.1 S.2.1 dX2_placeOf_63 (by decide) ?_
          exact ih4 (i + 1, g + 1) ⟨by omega, by first | (rw [plF, if_pos (by omega), hg]) | (rw [plF, if_neg (by omega), hg]; rfl)⟩ (by show 64 - (i + 1) < 64 - i; omega) _ _ _ hP hD hS (lv_sub hl [0, 1, 3, 4] rfl)
        · refine lv_iload S.1 S.2.1 dX2_placeOf_52 (lv_at hl 0 rfl) ?_
          refine kn_if_eq S (by omega) dX2_placeOf_54 (tgt := 60) (by decide) (fun c54 => ?_) (fun c54 => ?_)
          · refine lv_iinc (v := nI (i + 1)) (lv' := [(3, .int (nI (i + 1))), (4, .int (nI 0)), (2, .int (nI g)), (0, .ref h0), (1, .int (nI k))]) S.1 S.2.1 dX2_placeOf_60 hl (k := 1) rfl (iinc_1 _) (by decide) rfl (fun ls hl => ?_)
            refine lv_goto (tgt := 4) S.1 S.2.1 dX2_placeOf_63 (by decide) ?_
            exact ih4 (i + 1, g) ⟨by omega, by first | (rw [plF, if_pos (by omega), hg]) | (rw [plF, if_neg (by omega), hg]; rfl)⟩ (by show 64 - (i + 1) < 64 - i; omega) _ _ _ hP hD hS (lv_sub hl [0, 2, 3, 4] rfl)
          · exact absurd c54 (by omega)
      · refine lv_iconst (v := nI 1) S.1 S.2.1 dX2_placeOf_30 (by decide) ?_
        refine lv_goto (tgt := 35) S.1 S.2.1 dX2_placeOf_31 (by decide) ?_
        refine lv_istore (lv' := [(4, .int (nI 1)), (3, .int (nI i)), (2, .int (nI g)), (0, .ref h0), (1, .int (nI k))]) S.1 S.2.1 dX2_placeOf_35 hl (by decide) rfl (fun ls hl => ?_)
        refine lv_aload_n S.1 S.2.1 dX2_placeOf_37 rfl (lv_at hl 3 rfl) ?_
        refine k_get S (C := RX2) (T := TX2) (N := 1) (ci := 2) hw_X2 hK hP 0 rfl rfl 0 (by decide) hf_9 rfl (v := .ref h1) rfl dX2_placeOf_38 ?_
        refine lv_iload_n S.1 S.2.1 dX2_placeOf_41 rfl (lv_at hl 1 rfl) ?_
        refine kn_lald S hK hP 1 1 rfl rfl (by omega) (by decide) dX2_placeOf_42 ?_
        refine lv_aload_n S.1 S.2.1 dX2_placeOf_43 rfl (lv_at hl 3 rfl) ?_
        refine lv_iload_n S.1 S.2.1 dX2_placeOf_44 rfl (lv_at hl 4 rfl) ?_
        refine kcV_l S (wc := [(h0, .inr (2, [.ref h1])), (h1, .inl (cyJ, 64, .inr (.inl (aL f))))]) (wr := []) (ws2 := [(h0, .inr (2, [.ref h1])), (h1, .inl (cyJ, 64, .inr (.inl (aL f))))]) (As := [.int (nI k)]) (rest := [.long (lN (f i))]) (c_X2_at l D cyI cyJ cyZ H.size h0 h1 f k (by first | assumption | omega)) (cwV 1 S.2.2.2.2 gX2_placeOf_X2_at rfl rfl rfl (by decide +kernel) ⟨Nat.le_of_ble_eq_true rfl, Nat.le_of_ble_eq_true rfl⟩) hK hP hD hS hA hG [0, 1] [] [0, 1] rfl rfl rfl rfl (by decide) rfl rfl (ci := 2) (q0 := 0) rfl rfl rfl hl.1 rfl (Nat.le_of_ble_eq_true rfl) dX2_placeOf_45 ⟨Nat.le_of_ble_eq_true rfl, Nat.le_of_ble_eq_true rfl⟩ (fun H locs hP hD hS => ?_)
        refine kn_lcmp_gt S (by omega) (by omega) dX2_placeOf_48 rfl dX2_placeOf_49 (tgt := 57) (by decide) (fun c49 => ?_) (fun c49 => ?_)
        · refine lv_iinc (v := nI (g + 1)) (lv' := [(2, .int (nI (g + 1))), (4, .int (nI 1)), (3, .int (nI i)), (0, .ref h0), (1, .int (nI k))]) S.1 S.2.1 dX2_placeOf_57 hl (k := 2) rfl (iinc_1 _) (by decide) rfl (fun ls hl => ?_)
          refine lv_iinc (v := nI (i + 1)) (lv' := [(3, .int (nI (i + 1))), (2, .int (nI (g + 1))), (4, .int (nI 1)), (0, .ref h0), (1, .int (nI k))]) S.1 S.2.1 dX2_placeOf_60 hl (k := 2) rfl (iinc_1 _) (by decide) rfl (fun ls hl => ?_)
          refine lv_goto (tgt := 4) S.1 S.2.1 dX2_placeOf_63 (by decide) ?_
          exact ih4 (i + 1, g + 1) ⟨by omega, by first | (rw [plF, if_pos (by omega), hg]) | (rw [plF, if_neg (by omega), hg]; rfl)⟩ (by show 64 - (i + 1) < 64 - i; omega) _ _ _ hP hD hS (lv_sub hl [0, 1, 3, 4] rfl)
        · refine lv_iload S.1 S.2.1 dX2_placeOf_52 (lv_at hl 0 rfl) ?_
          refine kn_if_eq S (by omega) dX2_placeOf_54 (tgt := 60) (by decide) (fun c54 => ?_) (fun c54 => ?_)
          · exact absurd c54 (by omega)
          · refine lv_iinc (v := nI (g + 1)) (lv' := [(2, .int (nI (g + 1))), (4, .int (nI 1)), (3, .int (nI i)), (0, .ref h0), (1, .int (nI k))]) S.1 S.2.1 dX2_placeOf_57 hl (k := 2) rfl (iinc_1 _) (by decide) rfl (fun ls hl => ?_)
            refine lv_iinc (v := nI (i + 1)) (lv' := [(3, .int (nI (i + 1))), (2, .int (nI (g + 1))), (4, .int (nI 1)), (0, .ref h0), (1, .int (nI k))]) S.1 S.2.1 dX2_placeOf_60 hl (k := 2) rfl (iinc_1 _) (by decide) rfl (fun ls hl => ?_)
            refine lv_goto (tgt := 4) S.1 S.2.1 dX2_placeOf_63 (by decide) ?_
            exact ih4 (i + 1, g + 1) ⟨by omega, by first | (rw [plF, if_pos (by omega), hg]) | (rw [plF, if_neg (by omega), hg]; rfl)⟩ (by show 64 - (i + 1) < 64 - i; omega) _ _ _ hP hD hS (lv_sub hl [0, 1, 3, 4] rfl)

set_option maxHeartbeats 4000000 in
set_option maxRecDepth 100000 in
theorem c_X2_cellAtPlace (l : Launch) (D : va_G) (cyI cyJ cyZ : ClassId) (sz : Nat) (h0 : Nat) (h1 : Nat) (f : Nat → Nat) (pl : Int32) (hf : ∀ j, j < 64 → f j < 9223372036854775808) : Met l yX2_cellAtPlace wsX2_cellAtPlace ({ frames := 5, cells := 0, slots := 0, locals := 125 } : Room) (mPc D [(cyI, .int), (cyJ, .long), (cyZ, .boolean)] [(h0, .inr (2, [.ref h1])), (h1, .inl (cyJ, 64, .inr (.inl (aL f))))] sz [.ref h0, .int pl]) (va_Qi (fun (r : Int32) (u : va_W) => r = bpF f pl 64 0 ∧ u = [(h0, .inr (2, [.ref h1])), (h1, .inl (cyJ, 64, .inr (.inl (aL f))))]) (mB D [(cyI, .int), (cyJ, .long), (cyZ, .boolean)] (va_A [(h0, .inr (2, [.ref h1])), (h1, .inl (cyJ, 64, .inr (.inl (aL f))))] sz)) (va_A [(h0, .inr (2, [.ref h1])), (h1, .inl (cyJ, 64, .inr (.inl (aL f))))] sz)) 0 0 (va_A [(h0, .inr (2, [.ref h1])), (h1, .inl (cyJ, 64, .inr (.inl (aL f))))] sz) := by
  refine st_i (own := RX2) (lv0 := [(0, .ref h0), (1, .int pl)]) (by decide) rfl rfl (Nat.le_of_ble_eq_true rfl) rfl ?_
  intro p e s m below meth c A Q S hin hA hK hP hD hG hS hret ls hl
  have hw_X2 : ∀ w ∈ u_ws RX2 TX2 1, w ∈ wsX2_cellAtPlace := by decide +kernel
  have hf_9 := S.2.2.2.2 (.fieldLink RX2 9 "Particleway$Chart" "numbers" "[J") (by decide +kernel)
  refine lv_iconst (v := nI 0) S.1 S.2.1 dX2_cellAtPlace_0 (by decide) ?_
  refine lv_istore_n (lv' := [(2, .int (nI 0)), (0, .ref h0), (1, .int pl)]) S.1 S.2.1 dX2_cellAtPlace_1 rfl hl (by decide) rfl (fun ls hl => ?_)
  refine wl (σ := Nat) (fun i => [(h0, .inr (2, [.ref h1])), (h1, .inl (cyJ, 64, .inr (.inl (aL f))))]) (fun i => [(2, .int (nI i)), (0, .ref h0), (1, .int pl)]) (fun i => (i ≤ 64) ∧ (bpF f pl (64 - i) i = bpF f pl 64 0)) (fun i => 64 - i) ?_ 0 ⟨by omega, rfl⟩ hP hD hS (lv_sub hl [0, 1, 2] rfl)
  rintro i ⟨hi, hg⟩ ih2 H locs ls hP hD hS hl
  have hP : va_P D vwCl [(h0, .inr (2, [.ref h1])), (h1, .inl (cyJ, 64, .inr (.inl (aL f))))] H := hP
  have hD : va_D A [(h0, .inr (2, [.ref h1])), (h1, .inl (cyJ, 64, .inr (.inl (aL f))))] := hD
  have hl : lv_has ls 3 [(2, .int (nI i)), (0, .ref h0), (1, .int pl)] := hl
  refine lv_iload_n S.1 S.2.1 dX2_cellAtPlace_2 rfl (lv_at hl 0 rfl) ?_
  refine lv_bipush (v := nI 64) S.1 S.2.1 dX2_cellAtPlace_3 (by decide) ?_
  refine kn_icmp_ge S (by omega) (by omega) dX2_cellAtPlace_5 (tgt := 36) (by decide) (fun c5 => ?_) (fun c5 => ?_)
  · refine lv_iconst (v := (-1)) S.1 S.2.1 dX2_cellAtPlace_36 (by decide) ?_
    refine k_topi (y := bpF f pl 64 0) (by rw [← hg, show i = 64 by omega]; rfl) ?_
    exact hret _ _ _ _ dX2_cellAtPlace_37 hP hD hS
  · have hfi := hf i (by omega)
    refine lv_aload_n S.1 S.2.1 dX2_cellAtPlace_8 rfl (lv_at hl 1 rfl) ?_
    refine k_get S (C := RX2) (T := TX2) (N := 1) (ci := 2) hw_X2 hK hP 0 rfl rfl 0 (by decide) hf_9 rfl (v := .ref h1) rfl dX2_cellAtPlace_9 ?_
    refine lv_iload_n S.1 S.2.1 dX2_cellAtPlace_12 rfl (lv_at hl 0 rfl) ?_
    refine kn_lald S hK hP 1 1 rfl rfl (by omega) (by decide) dX2_cellAtPlace_13 ?_
    refine lv_lconst (v := lN 0) S.1 S.2.1 dX2_cellAtPlace_14 (by decide) ?_
    refine kn_lcmp_le S (by omega) (by omega) dX2_cellAtPlace_15 rfl dX2_cellAtPlace_16 (tgt := 30) (by decide) (fun c16 => ?_) (fun c16 => ?_)
    · refine lv_iinc (v := nI (i + 1)) (lv' := [(2, .int (nI (i + 1))), (0, .ref h0), (1, .int pl)]) S.1 S.2.1 dX2_cellAtPlace_30 hl (k := 0) rfl (iinc_1 _) (by decide) rfl (fun ls hl => ?_)
      refine lv_goto (tgt := 2) S.1 S.2.1 dX2_cellAtPlace_33 (by decide) ?_
      exact ih2 (i + 1) ⟨by omega, by rw [bpF_step (by omega) (fun h => by first | omega | exact c25 h.2)]; exact hg⟩ (by show 64 - (i + 1) < 64 - i; omega) _ _ _ hP hD hS (lv_sub hl [0, 1, 2] rfl)
    · refine lv_aload_n S.1 S.2.1 dX2_cellAtPlace_19 rfl (lv_at hl 1 rfl) ?_
      refine lv_iload_n S.1 S.2.1 dX2_cellAtPlace_20 rfl (lv_at hl 0 rfl) ?_
      refine kcV_i S (wc := [(h0, .inr (2, [.ref h1])), (h1, .inl (cyJ, 64, .inr (.inl (aL f))))]) (wr := []) (ws2 := [(h0, .inr (2, [.ref h1])), (h1, .inl (cyJ, 64, .inr (.inl (aL f))))]) (As := [.int (nI i)]) (rest := []) (c_X2_placeOf l D cyI cyJ cyZ H.size h0 h1 f i (by first | assumption | omega) (by first | assumption | omega)) (cwV 1 S.2.2.2.2 gX2_cellAtPlace_X2_placeOf rfl rfl rfl (by decide +kernel) ⟨Nat.le_of_ble_eq_true rfl, Nat.le_of_ble_eq_true rfl⟩) hK hP hD hS hA hG [0, 1] [] [0, 1] rfl rfl rfl rfl (by decide) rfl rfl (ci := 2) (q0 := 0) rfl rfl rfl hl.1 rfl (Nat.le_of_ble_eq_true rfl) dX2_cellAtPlace_21 ⟨Nat.le_of_ble_eq_true rfl, Nat.le_of_ble_eq_true rfl⟩ (fun H locs hP hD hS => ?_)
      refine lv_iload_n S.1 S.2.1 dX2_cellAtPlace_24 rfl (lv_at hl 2 rfl) ?_
      refine lv_icmp_ne S.1 S.2.1 dX2_cellAtPlace_25 (tgt := 30) (by decide) (fun c25 => ?_) (fun c25 => ?_)
      · refine lv_iinc (v := nI (i + 1)) (lv' := [(2, .int (nI (i + 1))), (0, .ref h0), (1, .int pl)]) S.1 S.2.1 dX2_cellAtPlace_30 hl (k := 0) rfl (iinc_1 _) (by decide) rfl (fun ls hl => ?_)
        refine lv_goto (tgt := 2) S.1 S.2.1 dX2_cellAtPlace_33 (by decide) ?_
        exact ih2 (i + 1) ⟨by omega, by rw [bpF_step (by omega) (fun h => by first | omega | exact c25 h.2)]; exact hg⟩ (by show 64 - (i + 1) < 64 - i; omega) _ _ _ hP hD hS (lv_sub hl [0, 1, 2] rfl)
      · refine lv_iload_n S.1 S.2.1 dX2_cellAtPlace_28 rfl (lv_at hl 0 rfl) ?_
        refine k_topi (y := bpF f pl 64 0) (by rw [← hg, bpF_hit (by omega) ⟨c16, c25⟩]) ?_
        exact hret _ _ _ _ dX2_cellAtPlace_29 hP hD hS
end CHART
end
