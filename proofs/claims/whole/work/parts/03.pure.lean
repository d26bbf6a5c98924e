section PURE
/-- the number from which it is drawn -/
def nx (x : Nat) : Nat := (75 * x + 74) % 65537
theorem nx_lt (x : Nat) : nx x < 65537 := Nat.mod_lt _ (by decide)
/-- an int lies in the field, is a cell, is a direction -/
def inF (x y : Int32) : Bool := decide (¬ x < 0 ∧ ¬ nI 8 ≤ x ∧ ¬ y < 0 ∧ ¬ nI 8 ≤ y)
def dirP (d : Int32) : Bool := decide (¬ d < 0 ∧ ¬ nI 4 ≤ d)
/-- the greatest of the first n, 0 at least -/
def mxF (f : Nat → Nat) : Nat → Nat
  | 0 => 0
  | n + 1 => max (mxF f n) (f n)
abbrev mx (f : Nat → Nat) : Nat := mxF f 64
theorem mxF_lt {f : Nat → Nat} {B : Nat} (h0 : 0 < B) : ∀ {n : Nat}, (∀ j, j < n → f j < B) → mxF f n < B
  | 0, _ => h0
  | n + 1, h => Nat.max_lt.mpr ⟨mxF_lt h0 (fun j hj => h j (by omega)), h n (by omega)⟩
theorem mxF_ge {f : Nat → Nat} : ∀ {n j : Nat}, j < n → f j ≤ mxF f n
  | n + 1, j, h => by
    rcases Nat.lt_or_ge j n with q | q
    · exact Nat.le_trans (mxF_ge q) (Nat.le_max_left _ _)
    · have : j = n := by omega
      subst this
      exact Nat.le_max_right _ _
theorem mxF_mem {f : Nat → Nat} : ∀ {n : Nat}, 0 < n → ∃ j, j < n ∧ f j = mxF f n ∨ mxF f n = 0
  | n + 1, _ => by
    rcases Nat.lt_or_ge 0 n with q | q
    · obtain ⟨j, h⟩ := mxF_mem (f := f) q
      by_cases hm : mxF f n ≤ f n
      · exact ⟨n, Or.inl ⟨by omega, by rw [mxF]; omega⟩⟩
      · rcases h with ⟨h1, h2⟩ | h
        · exact ⟨j, Or.inl ⟨by omega, by rw [mxF]; omega⟩⟩
        · omega
    · have : n = 0 := by omega
      subst this
      exact ⟨0, Or.inl ⟨by omega, by simp [mxF]⟩⟩
theorem mx_at (f : Nat → Nat) : ∃ j, j < 64 ∧ f j = mx f := by
  obtain ⟨j, h | h⟩ := mxF_mem (f := f) (n := 64) (by omega)
  · exact ⟨j, h⟩
  · have h0 := mxF_ge (f := f) (n := 64) (j := 0) (by omega)
    exact ⟨0, by omega, by show f 0 = mxF f 64; omega⟩
theorem mxF_cong {f g : Nat → Nat} : ∀ {n : Nat}, (∀ j, j < n → f j = g j) → mxF f n = mxF g n
  | 0, _ => rfl
  | n + 1, h => by rw [mxF, mxF, mxF_cong (fun j hj => h j (by omega)), h n (by omega)]
theorem mxF_stepL {f : Nat → Nat} {i : Nat} (h1 : mxF f i < 9223372036854775808) (h2 : f i < 9223372036854775808) : (if lN (f i) < lN (mxF f i) then lN (mxF f i) else lN (f i)) = lN (mxF f (i + 1)) := by
  rw [mxF]
  split
  · rename_i h
    have := (pk_lLT h2 h1).mp h
    rw [Nat.max_eq_left (by omega)]
  · rename_i h
    have : ¬ f i < mxF f i := fun g => h ((pk_lLT h2 h1).mpr g)
    rw [Nat.max_eq_right (by omega)]
/-- the first place from c on, among n, that holds v -/
def mdF (f : Nat → Nat) (v : Nat) : Nat → Nat → Nat
  | 0, c => c
  | n + 1, c => if f c = v then c else mdF f v n (c + 1)
abbrev md (f : Nat → Nat) : Nat := mdF f (mx f) 64 0
theorem mdF_step {f : Nat → Nat} {v i : Nat} (h : i < 64) (hne : ¬ f i = v) : mdF f v (64 - (i + 1)) (i + 1) = mdF f v (64 - i) i := by
  rw [show 64 - i = (64 - (i + 1)) + 1 by omega, mdF, if_neg hne]
theorem mdF_hit {f : Nat → Nat} {v i : Nat} (h : i < 64) (he : f i = v) : mdF f v (64 - i) i = i := by
  rw [show 64 - i = (64 - (i + 1)) + 1 by omega, mdF, if_pos he]
theorem mdF_lt {f : Nat → Nat} {v : Nat} : ∀ {n c : Nat}, (∃ j, c ≤ j ∧ j < c + n ∧ f j = v) → mdF f v n c < c + n ∧ f (mdF f v n c) = v
  | 0, c, ⟨j, h1, h2, _⟩ => by omega
  | n + 1, c, ⟨j, h1, h2, h3⟩ => by
    rw [mdF]
    split
    · rename_i h
      exact ⟨by omega, h⟩
    · rename_i h
      have hj : j ≠ c := fun g => h (by rw [← g]; exact h3)
      obtain ⟨a, b⟩ := mdF_lt (f := f) (v := v) (n := n) (c := c + 1) ⟨j, by omega, by omega, h3⟩
      exact ⟨by omega, b⟩
theorem md_lt (f : Nat → Nat) : md f < 64 ∧ f (md f) = mx f := by
  obtain ⟨j, h1, h2⟩ := mx_at f
  have := mdF_lt (f := f) (v := mx f) (n := 64) (c := 0) ⟨j, by omega, by omega, h2⟩
  exact ⟨by have := this.1; show mdF f (mx f) 64 0 < 64; omega, this.2⟩
/-- sums over cells -/
def boxF (f : Nat → Nat) (a b c d : Nat) : Nat → Nat
  | 0 => 0
  | n + 1 => boxF f a b c d n + (if a ≤ n % 8 ∧ n % 8 ≤ c ∧ b ≤ n / 8 ∧ n / 8 ≤ d then f n else 0)
def smF (f : Nat → Nat) : Nat → Nat
  | 0 => 0
  | n + 1 => smF f n + f n
def csF (f : Nat → Nat) (b : Bool) : Nat → Nat
  | 0 => 0
  | n + 1 => csF f b n + f n * (if b then n / 8 else n % 8)
theorem boxF_all (f : Nat → Nat) : ∀ {n : Nat}, n ≤ 64 → boxF f 0 0 7 7 n = smF f n
  | 0, _ => rfl
  | n + 1, h => by rw [boxF, smF, boxF_all f (by omega), if_pos (by omega)]
theorem smF_cong {f g : Nat → Nat} : ∀ {n : Nat}, (∀ j, j < n → f j = g j) → smF f n = smF g n
  | 0, _ => rfl
  | n + 1, h => by rw [smF, smF, smF_cong (fun j hj => h j (by omega)), h n (by omega)]
theorem smF_le {f : Nat → Nat} {B : Nat} : ∀ {n : Nat}, (∀ j, j < n → f j ≤ B) → smF f n ≤ n * B
  | 0, _ => by simp [smF]
  | n + 1, h => by
    have h1 := smF_le (f := f) (B := B) (n := n) (fun j hj => h j (by omega))
    have h2 := h n (by omega)
    rw [smF, Nat.succ_mul]; omega
theorem smF_pos {f : Nat → Nat} : ∀ {n j : Nat}, j < n → f j ≤ smF f n
  | n + 1, j, h => by
    rw [smF]
    rcases Nat.lt_or_ge j n with q | q
    · have := smF_pos (f := f) q
      omega
    · have : j = n := by omega
      subst this
      omega
/-- how many cells are ahead of one: greater, or as great and lower -/
def plF (f : Nat → Nat) (c : Nat) : Nat → Nat
  | 0 => 0
  | n + 1 => plF f c n + (if f c < f n ∨ (f n = f c ∧ n < c) then 1 else 0)
theorem plF_le (f : Nat → Nat) (c : Nat) : ∀ n, plF f c n ≤ n
  | 0 => Nat.le_refl _
  | n + 1 => by
    have := plF_le f c n
    rw [plF]
    split <;> omega
/-- the first cell with a number above 0 at a place; -1 for none -/
def bpF (f : Nat → Nat) (pl : Int32) : Nat → Nat → Int32
  | 0, _ => -1
  | n + 1, c => if 0 < f c ∧ nI (plF f c 64) = pl then nI c else bpF f pl n (c + 1)
theorem bpF_step {f : Nat → Nat} {pl : Int32} {i : Nat} (h : i < 64) (hne : ¬ (0 < f i ∧ nI (plF f i 64) = pl)) : bpF f pl (64 - (i + 1)) (i + 1) = bpF f pl (64 - i) i := by
  rw [show 64 - i = (64 - (i + 1)) + 1 by omega, bpF, if_neg hne]
theorem bpF_hit {f : Nat → Nat} {pl : Int32} {i : Nat} (h : i < 64) (he : 0 < f i ∧ nI (plF f i 64) = pl) : bpF f pl (64 - i) i = nI i := by
  rw [show 64 - i = (64 - (i + 1)) + 1 by omega, bpF, if_pos he]
end PURE
