section PURE
/-- an int lies in the field, is a cell, is a direction -/
def inF (x y : Int32) : Bool := decide (¬ x < 0 ∧ ¬ nI 8 ≤ x ∧ ¬ y < 0 ∧ ¬ nI 8 ≤ y)
end PURE
section GEO
/-- a cell that is in the field and free -/
def fre (w : Nat → Bool) (c : Nat) : Bool := decide (c < 64) && !w c
/-- the cell so many steps on, whatever walls there are; 64 for none -/
def sh (c d k : Nat) : Nat := if d = 0 then (if c % 8 + k < 8 then c + k else 64) else if d = 1 then (if c / 8 + k < 8 then c + 8 * k else 64) else if d = 2 then (if k ≤ c % 8 then c - k else 64) else (if k ≤ c / 8 then c - 8 * k else 64)
def oc (r : Nat) : Int32 := if r < 64 then nI r else -1
/-- what shifted answers -/
def shR (c d : Nat) (st : Int32) : Int32 := if inF (nI (c % 8) + st * stX d) (nI (c / 8) + st * stY d) then nI 8 * (nI (c / 8) + st * stY d) + (nI (c % 8) + st * stX d) else -1
theorem shR_n : ∀ c, c < 64 → ∀ d, d < 4 → ∀ k, k < 10 → shR c d (nI k) = oc (sh c d k) := by decide +kernel
/-- how many steps lead on -/
def rdF (w : Nat → Bool) (c d : Nat) : Nat → Nat → Nat
  | 0, s => s
  | n + 1, s => if fre w (sh c d (s + 1)) then rdF w c d n (s + 1) else s
def rd (w : Nat → Bool) (c d : Nat) : Nat := rdF w c d 8 0
theorem rdF_step {w : Nat → Bool} {c d s : Nat} (h : s < 8) (hf : fre w (sh c d (s + 1)) = true) : rdF w c d (8 - (s + 1)) (s + 1) = rdF w c d (8 - s) s := by
  rw [show 8 - s = (8 - (s + 1)) + 1 by omega, rdF, if_pos hf]
theorem rdF_stop {w : Nat → Bool} {c d s : Nat} (hf : fre w (sh c d (s + 1)) = false) : rdF w c d (8 - s) s = s := by
  rcases Nat.lt_or_ge s 8 with h | h
  · rw [show 8 - s = (8 - (s + 1)) + 1 by omega, rdF, if_neg (by rw [hf]; decide)]
  · rw [show 8 - s = 0 by omega, rdF]
/-- what the table of steps ahead holds -/
def ahV (w : Nat → Bool) (k : Nat) : Int32 := if w (k % 64) then -1 else nI (rd w (k % 64) (k / 64))
theorem ahV_at (w : Nat → Bool) {c d : Nat} (hc : c < 64) : ahV w (64 * d + c) = if w c then -1 else nI (rd w c d) := by
  rw [ahV, show (64 * d + c) % 64 = c by omega, show (64 * d + c) / 64 = d by omega]
/-- how many of the first n cells are free; the free cell of a rank -/
def cntF (w : Nat → Bool) : Nat → Nat
  | 0 => 0
  | n + 1 => cntF w n + (if w n then 0 else 1)
theorem cntF_le (w : Nat → Bool) : ∀ n, cntF w n ≤ n
  | 0 => Nat.le_refl _
  | n + 1 => by
    have := cntF_le w n
    rw [cntF]
    split <;> omega
end GEO
