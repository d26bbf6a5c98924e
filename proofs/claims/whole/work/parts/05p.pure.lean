section BEL
/-- beliefs when samples are spread -/
def bal (w : Nat → Bool) : Nat → Nat := fun c => if w c then 0 else 1
/-- beliefs that are driven: what the first n cells give -/
def pshF (w : Nat → Bool) (b : Nat → Nat) (d : Nat) : Nat → Nat → Nat
  | 0, _ => 0
  | n + 1, j => pshF w b d n j + (if w n then 0 else (if j = n then 3 * b n else 0) + (if j = ld w n d 1 then 12 * b n else 0) + (if j = ld w n d 2 then b n else 0))
theorem pshF_le {w : Nat → Bool} {b : Nat → Nat} {d B : Nat} : ∀ {n : Nat}, (∀ j, j < n → b j ≤ B) → ∀ j, pshF w b d n j ≤ 16 * B * n
  | 0, _, j => Nat.zero_le _
  | n + 1, h, j => by
    have h1 := pshF_le (w := w) (d := d) (n := n) (fun j hj => h j (by omega)) j
    have h2 := h n (by omega)
    rw [pshF, Nat.mul_succ]
    have e1 : (if j = n then 3 * b n else 0) ≤ 3 * B := by split <;> omega
    have e2 : (if j = ld w n d 1 then 12 * b n else 0) ≤ 12 * B := by split <;> omega
    have e3 : (if j = ld w n d 2 then b n else 0) ≤ B := by split <;> omega
    have e4 : (if w n = true then 0 else (if j = n then 3 * b n else 0) + (if j = ld w n d 1 then 12 * b n else 0) + (if j = ld w n d 2 then b n else 0)) ≤ 16 * B := by
      split
      · omega
      · omega
    omega
/-- halved, as long as the greatest is above the bound -/
def hlF : Nat → (Nat → Nat) → Nat → Nat
  | 0, b => b
  | n + 1, b => if mx b ≤ 1099511627776 then b else hlF n (fun j => b j / 2)
def hvG (b : Nat → Nat) : Nat → Nat := hlF 64 b
theorem hlF_stop {b : Nat → Nat} (h : mx b ≤ 1099511627776) : ∀ n, hlF n b = b
  | 0 => rfl
  | n + 1 => by rw [hlF, if_pos h]
theorem hlF_go {b : Nat → Nat} {i : Nat} (hi : i < 64) (h : 1099511627776 < mx b) : hlF (64 - (i + 1)) (fun j => b j / 2) = hlF (64 - i) b := by
  rw [show 64 - i = (64 - (i + 1)) + 1 by omega, hlF, if_neg (by omega)]
def drv (w : Nat → Bool) (b : Nat → Nat) (d : Nat) : Nat → Nat   := hvG (pshF w b d 64)
/-- what a cell fetches -/
def ftT (w : Nat → Bool) (b : Nat → Nat) (d c k : Nat) : Nat := if fre w (bk c d k) then (if ld w (bk c d k) d 1 = c then 12 * b (bk c d k) else 0) + (if ld w (bk c d k) d 2 = c then b (bk c d k) else 0) else 0
def ftF (w : Nat → Bool) (b : Nat → Nat) (d c : Nat) : Nat → Nat
  | 0 => 3 * b c
  | k + 1 => ftF w b d c k + ftT w b d c k
/-- weighed by a reading -/
def wgt (w : Nat → Bool) (b : Nat → Nat) (d r : Nat) : Nat → Nat := fun c => b c * wtc w c d r
def rdg (w : Nat → Bool) (b : Nat → Nat) (d r : Nat) : Nat → Nat := hvG (if mx (wgt w b d r) = 0 then bal w else wgt w b d r)
theorem bal_le (w : Nat → Bool) (c : Nat) : bal w c ≤ 1 := by
  unfold bal
  split <;> omega
theorem wgt_le {w : Nat → Bool} {b : Nat → Nat} {d r c B : Nat} (h : b c ≤ B) : wgt w b d r c ≤ 8 * B := by
  have h2 := wtc_le w c d r
  have h3 : b c * wtc w c d r ≤ B * 8 := Nat.mul_le_mul h h2
  show b c * wtc w c d r ≤ 8 * B
  omega
theorem oc_lt {r : Nat} (h : r < 64) : oc r = nI r := by rw [oc, if_pos h]
theorem oc_ge {r : Nat} (h : ¬ r < 64) : oc r = -1 := by rw [oc, if_neg h]
theorem fre_no {w : Nat → Bool} {r : Nat} (h : ¬ r < 64) : fre w r = false := by simp [fre, h]
/-- the geometry of two steps back -/
theorem bk_sh : ∀ c, c < 64 → ∀ d, d < 4 → ∀ k, k < 3 → bk c d k < 64 → sh (bk c d k) d k = c := by decide +kernel
theorem sh_bk : ∀ c, c < 64 → ∀ d, d < 4 → ∀ k, k < 3 → sh c d k < 64 → bk (sh c d k) d k = c := by decide +kernel
theorem bk_0 : ∀ c, c < 64 → ∀ d, d < 4 → bk c d 0 = c := by decide +kernel
theorem bk_a01 : ∀ c, c < 64 → ∀ d, d < 4 → ¬ (bk c d 0 < 64 ∧ bk c d 0 = bk c d 1) := by decide +kernel
theorem bk_a02 : ∀ c, c < 64 → ∀ d, d < 4 → ¬ (bk c d 0 < 64 ∧ bk c d 0 = bk c d 2) := by decide +kernel
theorem bk_a12 : ∀ c, c < 64 → ∀ d, d < 4 → ¬ (bk c d 1 < 64 ∧ bk c d 1 = bk c d 2) := by decide +kernel
theorem stp_cases (w : Nat → Bool) (c d : Nat) : stp w c d = c ∨ (stp w c d = nb c d ∧ fre w (nb c d) = true) := by
  unfold stp
  split
  · rename_i h; exact Or.inr ⟨rfl, h⟩
  · exact Or.inl rfl
/-- where two steps lead: so many places on -/
theorem ld_sh {w : Nat → Bool} {c d k : Nat} (hc : c < 64) (hd : d < 4) (hk : k < 3) : ∃ q, q ≤ k ∧ ld w c d k = sh c d q := by
  have h0 := sh_0 c hc d hd
  rcases (show k = 0 ∨ k = 1 ∨ k = 2 by omega) with rfl | rfl | rfl
  · exact ⟨0, by omega, by simp [ld, h0]⟩
  · rcases stp_cases w c d with h | ⟨h, _⟩
    · exact ⟨0, by omega, by simp [ld, h, h0]⟩
    · exact ⟨1, by omega, by simp [ld, h]⟩
  · rcases stp_cases w c d with h | ⟨h, hf⟩
    · have h2 : ld w c d 2 = c := by simp [ld, h]
      exact ⟨0, by omega, by rw [h2, h0]⟩
    · have h2 : ld w c d 2 = stp w (nb c d) d := by simp [ld, h]
      rcases stp_cases w (nb c d) d with g | ⟨g, _⟩
      · exact ⟨1, by omega, by rw [h2, g]⟩
      · exact ⟨2, by omega, by rw [h2, g, sh_s c hc d hd 1 (by omega) (fre_lt hf).1]⟩
/-- a sum over cells of what only few of them hold -/
theorem pshF_sum (w : Nat → Bool) (b : Nat → Nat) (d j : Nat) : ∀ n, pshF w b d n j = smF (fun i => if w i then 0 else (if j = i then 3 * b i else 0) + (if j = ld w i d 1 then 12 * b i else 0) + (if j = ld w i d 2 then b i else 0)) n
  | 0 => rfl
  | n + 1 => by rw [pshF, smF, pshF_sum w b d j n]
theorem smF_add (f g : Nat → Nat) : ∀ n, smF (fun i => f i + g i) n = smF f n + smF g n
  | 0 => rfl
  | n + 1 => by rw [smF, smF, smF, smF_add f g n]; omega
theorem smF_zero {f : Nat → Nat} : ∀ {n : Nat}, (∀ i, i < n → f i = 0) → smF f n = 0
  | 0, _ => rfl
  | n + 1, h => by rw [smF, smF_zero (fun i hi => h i (by omega)), h n (by omega)]
theorem smF_one {f : Nat → Nat} {a : Nat} : ∀ {n : Nat}, a < n → (∀ i, i < n → i ≠ a → f i = 0) → smF f n = f a
  | n + 1, ha, h => by
    rw [smF]
    by_cases e : a = n
    · subst e
      rw [smF_zero (fun i hi => h i (by omega) (by omega))]; omega
    · rw [smF_one (by omega) (fun i hi hn => h i (by omega) hn), h n (by omega) (fun g => e g.symm)]; omega
/-- fetched as pushed -/
theorem ft_psh {w : Nat → Bool} {b : Nat → Nat} {d c : Nat} (hc : c < 64) (hd : d < 4) (hb : ∀ j, j < 64 → w j = true → b j = 0) : ftF w b d c 3 = pshF w b d 64 c := by
  -- what a cell i gives to c
  have e : pshF w b d 64 c = smF (fun i => if c = i then 3 * b i else 0) 64 + smF (fun i => if fre w i then (if ld w i d 1 = c then 12 * b i else 0) + (if ld w i d 2 = c then b i else 0) else 0) 64 := by
    rw [pshF_sum, ← smF_add]
    apply smF_cong
    intro i hi
    cases hw : w i
    · rw [fre_of hi hw]
      simp only [Bool.false_eq_true, if_false, if_true]
      simp only [eq_comm (a := c)]
      omega
    · have h0 := hb i hi hw
      have hf : fre w i = false := by simp [fre, hw]
      rw [hf, h0]
      simp
  have e1 : smF (fun i => if c = i then 3 * b i else 0) 64 = 3 * b c := by
    rw [smF_one hc (fun i hi hn => by show (if c = i then 3 * b i else 0) = 0; rw [if_neg (fun g => hn g.symm)])]
    simp
  -- the cells that give to c: up to two places back
  let t : Nat → Nat := fun i => if fre w i then (if ld w i d 1 = c then 12 * b i else 0) + (if ld w i d 2 = c then b i else 0) else 0
  have far : ∀ i, i < 64 → i ≠ bk c d 0 → i ≠ bk c d 1 → i ≠ bk c d 2 → t i = 0 := by
    intro i hi n0 n1 n2
    have key : ∀ k, k < 3 → ld w i d k ≠ c := by
      intro k hk g
      obtain ⟨q, hq, hs⟩ := ld_sh (w := w) hi hd hk
      have hq3 : q < 3 := by omega
      have h3 := sh_bk i hi d hd q hq3 (by rw [← hs, g]; exact hc)
      rw [← hs, g] at h3
      rcases (show q = 0 ∨ q = 1 ∨ q = 2 by omega) with rfl | rfl | rfl
      · exact n0 h3.symm
      · exact n1 h3.symm
      · exact n2 h3.symm
    show (if fre w i then _ else 0) = 0
    rw [if_neg (key 1 (by omega)), if_neg (key 2 (by omega))]
    simp
  have one : ∀ k, k < 3 → (if bk c d k < 64 then t (bk c d k) else 0) = ftT w b d c k := by
    intro k hk
    by_cases h : bk c d k < 64
    · rw [if_pos h]; rfl
    · rw [if_neg h, ftT, fre_no h]; simp
  have split3 : smF t 64 = (if bk c d 0 < 64 then t (bk c d 0) else 0) + (if bk c d 1 < 64 then t (bk c d 1) else 0) + (if bk c d 2 < 64 then t (bk c d 2) else 0) := by
    have s1 : smF t 64 = smF (fun i => (if i = bk c d 0 then t i else 0) + ((if i = bk c d 1 then t i else 0) + (if i = bk c d 2 then t i else 0))) 64 := by
      apply smF_cong
      intro i hi
      have a01 := bk_a01 c hc d hd
      have a02 := bk_a02 c hc d hd
      have a12 := bk_a12 c hc d hd
      by_cases g0 : i = bk c d 0
      · have n1 : i ≠ bk c d 1 := fun g => a01 ⟨g0 ▸ hi, g0 ▸ g⟩
        have n2 : i ≠ bk c d 2 := fun g => a02 ⟨g0 ▸ hi, g0 ▸ g⟩
        rw [if_pos g0, if_neg n1, if_neg n2]; omega
      · by_cases g1 : i = bk c d 1
        · have n2 : i ≠ bk c d 2 := fun g => a12 ⟨g1 ▸ hi, g1 ▸ g⟩
          rw [if_neg g0, if_pos g1, if_neg n2]; omega
        · by_cases g2 : i = bk c d 2
          · rw [if_neg g0, if_neg g1, if_pos g2]; omega
          · rw [if_neg g0, if_neg g1, if_neg g2, far i hi g0 g1 g2]
    have s2 : ∀ a, smF (fun i => if i = a then t i else 0) 64 = (if a < 64 then t a else 0) := by
      intro a
      by_cases h : a < 64
      · rw [if_pos h, smF_one h (fun i hi hn => by simp [hn])]
        simp
      · rw [if_neg h]
        exact smF_zero (fun i hi => by rw [if_neg (fun g : i = a => h (g ▸ hi))])
    rw [s1, smF_add, smF_add, s2, s2, s2]
    omega
  rw [e, e1]
  show ftF w b d c 3 = 3 * b c + smF t 64
  rw [split3, one 0 (by omega), one 1 (by omega), one 2 (by omega)]
  simp only [ftF]
  omega
end BEL
