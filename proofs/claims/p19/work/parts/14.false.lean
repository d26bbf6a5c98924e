section FALSE19
/-- what has ended isn't under way -/
theorem ended_out {s : State} {below : List Frame} {o : Outcome} (h : Ended s below o) : ¬ Within s below := by
  rintro ⟨above, h1, h2, h3⟩
  have hlen : s.frames.length = above.length + below.length := by rw [h1, List.length_append]
  have hpos : 0 < above.length := List.length_pos_iff.mpr h2
  cases o with
  | threw a =>
    have h4 : s.frames = .throwing a :: below := h
    have h5 : above ++ below = [.throwing a] ++ below := by rw [← h1, h4]; rfl
    exact h3 a (List.append_cancel_right h5)
  | returned v =>
    have key : s.frames.length = below.length := by
      cases below with
      | nil =>
        have h6 : v = none ∧ s.frames = [] := h
        rw [h6.2]
      | cons f r =>
        cases f with
        | java g =>
          obtain ⟨c, i, len, h4, h5, h6⟩ := h
          rw [h6]; rfl
        | native g =>
          have h6 : s.frames = _ := h
          rw [h6]; rfl
        | proc g =>
          have h6 : s.frames = _ := h
          rw [h6]; rfl
        | _ =>
          have h6 : v = none ∧ s.frames = _ := h
          rw [h6.2]
    omega
/-- the script of eighty 22, in the witness's own start -/
def cells22 : Array Value := ⟨List.replicate 80 (.int 22)⟩
def s22 : State := start1.aboutOf cells22
theorem code_vm {z : MethodName} {bytes : ByteArray} {maxL : Nat} {rt : Option FieldType} {a : Array Value} {s t : State} (h : s.vm = t.vm) (hc : (Cond.code z bytes maxL rt).before a s = true) : (Cond.code z bytes maxL rt).before a t = true := by
  simp only [Cond.before, Cond.holds, Cond.value, State.methodNamed?, h] at hc ⊢
  exact hc
theorem codes22 {c : Cond} (hc : su_isCode c = true) (h : c.before start1.args0 start1.about = true) : c.before start1.args0 s22 = true := by
  cases c <;> first | exact code_vm rfl h | (exact absurd hc (by simp [su_isCode]))
theorem words22 {L : List Cond} (h1 : ∀ c ∈ L, c.before start1.args0 start1.about = true) (h2 : L.all (fun c => su_isCode c || c.before start1.args0 s22) = true) : ∀ c ∈ L, c.before start1.args0 s22 = true := by
  intro c hc
  have h := List.all_eq_true.mp h2 c hc
  cases hq : su_isCode c with
  | false => simpa [hq] using h
  | true => exact codes22 hq (h1 c hc)
set_option maxRecDepth 16384 in
theorem oth22_1_0 : (tables_1_1.take 40).all (fun c => su_isCode c || c.before start1.args0 s22) = true := by decide +kernel
set_option maxRecDepth 16384 in
theorem oth22_1_1 : ((tables_1_1.drop 40).take 40).all (fun c => su_isCode c || c.before start1.args0 s22) = true := by decide +kernel
set_option maxRecDepth 16384 in
theorem oth22_1_2 : (((tables_1_1.drop 40).drop 40).take 40).all (fun c => su_isCode c || c.before start1.args0 s22) = true := by decide +kernel
set_option maxRecDepth 16384 in
theorem oth22_1_3 : ((((tables_1_1.drop 40).drop 40).drop 40).take 40).all (fun c => su_isCode c || c.before start1.args0 s22) = true := by decide +kernel
set_option maxRecDepth 16384 in
theorem oth22_1_4 : (((((tables_1_1.drop 40).drop 40).drop 40).drop 40).take 40).all (fun c => su_isCode c || c.before start1.args0 s22) = true := by decide +kernel
set_option maxRecDepth 16384 in
theorem oth22_1_5 : (((((tables_1_1.drop 40).drop 40).drop 40).drop 40).drop 40).all (fun c => su_isCode c || c.before start1.args0 s22) = true := by decide +kernel
theorem oth22_1 : tables_1_1.all (fun c => su_isCode c || c.before start1.args0 s22) = true := (start1.su_all_split _ 40 tables_1_1 oth22_1_0 (start1.su_all_split _ 40 (tables_1_1.drop 40) oth22_1_1 (start1.su_all_split _ 40 ((tables_1_1.drop 40).drop 40) oth22_1_2 (start1.su_all_split _ 40 (((tables_1_1.drop 40).drop 40).drop 40) oth22_1_3 (start1.su_all_split _ 40 ((((tables_1_1.drop 40).drop 40).drop 40).drop 40) oth22_1_4 oth22_1_5)))))
set_option maxRecDepth 16384 in
theorem oth22_2_0 : (tables_1_2.take 40).all (fun c => su_isCode c || c.before start1.args0 s22) = true := by decide +kernel
set_option maxRecDepth 16384 in
theorem oth22_2_1 : ((tables_1_2.drop 40).take 40).all (fun c => su_isCode c || c.before start1.args0 s22) = true := by decide +kernel
set_option maxRecDepth 16384 in
theorem oth22_2_2 : (((tables_1_2.drop 40).drop 40).take 40).all (fun c => su_isCode c || c.before start1.args0 s22) = true := by decide +kernel
set_option maxRecDepth 16384 in
theorem oth22_2_3 : ((((tables_1_2.drop 40).drop 40).drop 40).take 40).all (fun c => su_isCode c || c.before start1.args0 s22) = true := by decide +kernel
set_option maxRecDepth 16384 in
theorem oth22_2_4 : (((((tables_1_2.drop 40).drop 40).drop 40).drop 40).take 40).all (fun c => su_isCode c || c.before start1.args0 s22) = true := by decide +kernel
set_option maxRecDepth 16384 in
theorem oth22_2_5 : (((((tables_1_2.drop 40).drop 40).drop 40).drop 40).drop 40).all (fun c => su_isCode c || c.before start1.args0 s22) = true := by decide +kernel
theorem oth22_2 : tables_1_2.all (fun c => su_isCode c || c.before start1.args0 s22) = true := (start1.su_all_split _ 40 tables_1_2 oth22_2_0 (start1.su_all_split _ 40 (tables_1_2.drop 40) oth22_2_1 (start1.su_all_split _ 40 ((tables_1_2.drop 40).drop 40) oth22_2_2 (start1.su_all_split _ 40 (((tables_1_2.drop 40).drop 40).drop 40) oth22_2_3 (start1.su_all_split _ 40 ((((tables_1_2.drop 40).drop 40).drop 40).drop 40) oth22_2_4 oth22_2_5)))))
set_option maxRecDepth 16384 in
theorem oth22_3_0 : (tables_1_3.take 40).all (fun c => su_isCode c || c.before start1.args0 s22) = true := by decide +kernel
set_option maxRecDepth 16384 in
theorem oth22_3_1 : ((tables_1_3.drop 40).take 40).all (fun c => su_isCode c || c.before start1.args0 s22) = true := by decide +kernel
set_option maxRecDepth 16384 in
theorem oth22_3_2 : (((tables_1_3.drop 40).drop 40).take 40).all (fun c => su_isCode c || c.before start1.args0 s22) = true := by decide +kernel
set_option maxRecDepth 16384 in
theorem oth22_3_3 : (((tables_1_3.drop 40).drop 40).drop 40).all (fun c => su_isCode c || c.before start1.args0 s22) = true := by decide +kernel
theorem oth22_3 : tables_1_3.all (fun c => su_isCode c || c.before start1.args0 s22) = true := (start1.su_all_split _ 40 tables_1_3 oth22_3_0 (start1.su_all_split _ 40 (tables_1_3.drop 40) oth22_3_1 (start1.su_all_split _ 40 ((tables_1_3.drop 40).drop 40) oth22_3_2 oth22_3_3)))
theorem words22_all : ∀ c ∈ (Cond.code x code maxLocals ret :: tables_1), c.before start1.args0 s22 = true := by
  intro c hc
  rcases List.mem_cons.mp hc with h | h
  · rw [h]; exact code_vm rfl start1.word_code
  · have h1 : c ∈ tables_1_1 ++ (tables_1_2 ++ tables_1_3) := h
    rcases List.mem_append.mp h1 with h2 | h1
    · exact words22 start1.words_1 oth22_1 c h2
    rcases List.mem_append.mp h1 with h2 | h1
    · exact words22 start1.words_2 oth22_2 c h2
    exact words22 start1.words_3 oth22_3 c h1
set_option maxRecDepth 16384 in
theorem app22 (rm : Room) (h : s22.hasRoom start1.e0.platform rm = true) : (headSpec (Cond.code x code maxLocals ret :: tables_1) rm).applies x start1.e0.platform s22 = true :=
  (Spec.applies_iff rfl).mpr ⟨rfl, rfl, rfl, by decide +kernel, by decide +kernel, by decide +kernel, h, atoms_intro words22_all⟩
theorem room22_1 : s22.hasRoom start1.e0.platform room_1 = true := launch0.hasRoom_least _ room_1 (by decide +kernel) (by decide +kernel) (by decide +kernel) (by decide +kernel) (by decide +kernel) (by decide +kernel)
theorem room22_9 : s22.hasRoom start1.e0.platform R9 = true := launch0.hasRoom_least _ R9 (by decide +kernel) (by decide +kernel) (by decide +kernel) (by decide +kernel) (by decide +kernel) (by decide +kernel)
set_option maxRecDepth 16384 in
theorem pre22 : (Jvm.Cond.and given_1 narrow_1).before start1.args0 s22 = true := by decide +kernel
set_option maxRecDepth 16384 in
theorem rest22 : rest_1_c.before start1.args0 s22 = true := by decide +kernel
theorem X22 : va_X 0 80 (fun _ => nI 22) s22 s22.heap := by
  have hs := flat_of_before _ pre22
  have hq := flat_of_before _ rest22
  have harr : (Cond.arrayOf (.arg 0) .int).before start1.args0 s22 = true := hs _ (by decide +kernel)
  have hlen : (Cond.isInt (.length (.arg 0))).before start1.args0 s22 = true := hq _ (by decide +kernel)
  have hall : (Cond.all (.arg 0) (.isInt (.elem (.arg 0) (.index 0)))).before start1.args0 s22 = true := hq _ (by decide +kernel)
  obtain ⟨b, xs, hb, hx⟩ := State.ints_of_pre rfl harr hlen hall
  obtain ⟨scr, harrAt, hlist, hof, hsmall⟩ := hx
  obtain ⟨hcb, hkn, -, -⟩ := State.arrayAt?_spec harrAt
  have hb0 : b = 0 := by
    have h1 : (some (Value.ref 0) : Option Value) = some (.ref b) := hb
    injection h1 with h2
    injection h2 with h3
    exact h3.symm
  subst hb0
  have hscr : scr.slots = cells22 := by
    have h1 : s22.heap[0]? = some ({ cls := 17, slots := cells22, vm := .none } : Cell) := rfl
    rw [h1] at hcb
    injection hcb with h2
    rw [← h2]
  refine ⟨scr, hcb, hof, hkn, by rw [hscr]; rfl, fun j hj => ?_⟩
  rw [hscr]
  show (List.replicate 80 (Value.int 22)).toArray[j]? = _
  rw [List.getElem?_toArray, List.getElem?_replicate, if_pos hj]
  rfl
/-- THE CLAIM IS FALSE: on the script of eighty 22 the law makes more cells than the claim grants -/
theorem p19_false : ¬ Claimed_1_1 := by
  intro h
  have hf : s22.frames = Frame.invoking ⟨0, 0⟩ start1.args0 :: Lib.HandBits.below0 := rfl
  have C := h launch0 rfl lists_1 trivial start1.p0 start1.e0 (launch0.admits_env _ _ _) fairChoices_fair.cas fairChoices_fair.clock s22 ⟨0, 0⟩ start1.args0 Lib.HandBits.below0 hf (by decide +kernel) (by decide +kernel) (app22 room_1 room22_1) ⟨trivial, rest22, pre22⟩
  obtain ⟨n, o, hw, hrun, hend, hpost⟩ := C
  have M := law_grows launch0 rfl start1.p0 start1.e0 (launch0.admits_env _ _ _) fairChoices_fair.cas fairChoices_fair.clock s22 ⟨0, 0⟩ start1.args0 Lib.HandBits.below0 hf ((Spec.applies_iff_loose hf).mp (app22 R9 room22_9)).1 ⟨0, rfl, X22, by decide +kernel, pre22⟩ trivial
  obtain ⟨n2, o2, hw2, hrun2, hend2, hQ, -⟩ := M
  have hnn : n = n2 := by
    rcases Nat.lt_trichotomy n n2 with g | g | g
    · exact absurd (hw2 n g) (ended_out hend)
    · exact g
    · exact absurd (hw n2 g) (ended_out hend2)
  subst hnn
  obtain ⟨-, -, hsame⟩ := hpost.2
  have h1 : (stepsAlone start1.p0.tables start1.e0 n s22).heap.size ≤ s22.heap.size + 143 := hsame.2.2.1
  have h2 : s22.heap.size + 144 ≤ (stepsAlone start1.p0.tables start1.e0 n s22).heap.size := hQ
  omega
theorem p19_not : ¬ (Claimed_1_1 ∧ Claimed_1_2) := fun h => p19_false h.1
end FALSE19
