section SAM
/-- drawn so many times -/
def nxn (x : Nat) : Nat → Nat
  | 0 => x
  | n + 1 => nx (nxn x n)
theorem nxn_lt {x : Nat} (h : x < 65537) : ∀ n, nxn x n < 65537
  | 0 => h
  | n + 1 => nx_lt _
/-- cells that are drawn for n samples -/
def spC (w : Nat → Bool) (x : Nat) (cs : Nat → Nat) (n : Nat) : Nat → Nat := fun j => if j < n then kth w (nxn x (j + 1) % cntF w 64) else cs j
/-- how many steps a drawn number tells -/
def sto (r : Nat) : Nat := if r < 12 then 1 else if r < 15 then 0 else 2
def mvC (w : Nat → Bool) (x : Nat) (cs : Nat → Nat) (d n : Nat) : Nat → Nat := fun j => if j < n then ld w (cs j) d (sto (nxn x (j + 1) % 16)) else cs j
/-- how many of n samples are in a cell -/
def ctF (cs : Nat → Nat) : Nat → Nat → Nat
  | 0, _ => 0
  | n + 1, c => ctF cs n c + (if c = cs n then 1 else 0)
theorem ctF_le (cs : Nat → Nat) (c : Nat) : ∀ n, ctF cs n c ≤ n
  | 0 => Nat.le_refl _
  | n + 1 => by
    have := ctF_le cs c n
    rw [ctF]
    split <;> omega
def wsC (w : Nat → Bool) (cs : Nat → Nat) (d r : Nat) (ws : Nat → Nat) (n : Nat) : Nat → Nat := fun j => if j < n then wtc w (cs j) d r else ws j
def WF (w : Nat → Bool) (cs : Nat → Nat) (d r n : Nat) : Nat := smF (fun j => wtc w (cs j) d r) n
theorem WF_le (w : Nat → Bool) (cs : Nat → Nat) (d r n : Nat) : WF w cs d r n ≤ n * 8 := smF_le (fun j _ => wtc_le _ _ _ _)
theorem WF_s (w : Nat → Bool) (cs : Nat → Nat) (d r n : Nat) : WF w cs d r (n + 1) = WF w cs d r n + wtc w (cs n) d r := rfl
/-- how many cells with samples weigh something -/
def fitF (w : Nat → Bool) (cs : Nat → Nat) (n d r : Nat) : Nat → Nat
  | 0 => 0
  | c + 1 => fitF w cs n d r c + (if 0 < ctF cs n c ∧ 0 < wtc w c d r then 1 else 0)
theorem fitF_le (w : Nat → Bool) (cs : Nat → Nat) (n d r : Nat) : ∀ c, fitF w cs n d r c ≤ c
  | 0 => Nat.le_refl _
  | c + 1 => by
    have := fitF_le w cs n d r c
    rw [fitF]
    split <;> omega
def mAn (w : Nat → Bool) (cs : Nat → Nat) (n d r : Nat) : Nat := min 64 (4 * fitF w cs n d r 64 + 8)
theorem mAn_in (w : Nat → Bool) (cs : Nat → Nat) (n d r : Nat) : 8 ≤ mAn w cs n d r ∧ mAn w cs n d r ≤ 64 := by
  unfold mAn
  omega
theorem min_64 {a : Nat} (h : a < 2147483648) : (if nI a < nI 64 then nI a else nI 64) = nI (min 64 a) := by
  split
  · rename_i g
    have := (nI_ltI h (by decide)).mp g
    rw [Nat.min_eq_right (by omega)]
  · rename_i g
    have : ¬ a < 64 := fun k => g ((nI_ltI h (by decide)).mpr k)
    rw [Nat.min_eq_left (by omega)]
/-- the averages and the doubt -/
def slN (rd : Bool) (sl ft : Int32) : Int32 := if rd = true then sl + (ft - sl) / nI 8 else ft
def faN (rd : Bool) (fa ft : Int32) : Int32 := if rd = true then fa + (ft - fa) / nI 2 else ft
def dbN (s f : Int32) : Int32 := if s = 0 then nI 256 else if nI 0 < nI 256 - nI 256 * f / s then nI 256 - nI 256 * f / s else nI 0
/-- the first old sample with which the sum of weights is above a mark -/
def oaF (cs us : Nat → Nat) (mk : Nat) : Nat → Nat → Nat → Nat
  | 0, _, _ => cs 0
  | n + 1, i, s => if mk < s + us i then cs i else oaF cs us mk n (i + 1) (s + us i)
theorem oaF_mem (cs us : Nat → Nat) (mk : Nat) : ∀ n i s, ∃ j, (j = 0 ∨ (i ≤ j ∧ j < i + n)) ∧ oaF cs us mk n i s = cs j
  | 0, i, s => ⟨0, Or.inl rfl, rfl⟩
  | n + 1, i, s => by
    rw [oaF]
    split
    · exact ⟨i, Or.inr ⟨by omega, by omega⟩, rfl⟩
    · obtain ⟨j, h1, h2⟩ := oaF_mem cs us mk n (i + 1) (s + us i)
      exact ⟨j, by omega, h2⟩
/-- is a sample drawn anywhere -/
def gdB (W : Nat) (db : Int32) (y : Nat) : Bool := decide (W = 0) || !decide (db ≤ nI (y % 256))
def stR (W x : Nat) : Nat := if W = 0 then 0 else nx x % W
def stX0 (W x : Nat) : Nat := if W = 0 then x else nx x
theorem stX0_lt {W x : Nat} (h : x < 65537) : stX0 W x < 65537 := by
  unfold stX0
  split
  · exact h
  · exact nx_lt _
theorem stR_le {W x : Nat} : stR W x ≤ W := by
  unfold stR
  split
  · omega
  · exact Nat.le_of_lt (Nat.mod_lt _ (by omega))
def daX (W : Nat) (db : Int32) (x : Nat) : Nat → Nat
  | 0 => x
  | k + 1 => if gdB W db (nx (daX W db x k)) = true then nx (nx (daX W db x k)) else nx (daX W db x k)
theorem daX_lt {W : Nat} {db : Int32} {x : Nat} (h : x < 65537) : ∀ k, daX W db x k < 65537
  | 0 => h
  | k + 1 => by
    rw [daX]
    split
    · exact nx_lt _
    · exact nx_lt _
def daC (w : Nat → Bool) (cs us : Nat → Nat) (n W M r : Nat) (db : Int32) (x k : Nat) : Nat := if gdB W db (nx (daX W db x k)) = true then kth w (nx (nx (daX W db x k)) % cntF w 64) else oaF cs us ((r + k * W) / M) n 0 0
def daK (w : Nat → Bool) (cs us : Nat → Nat) (n W M r : Nat) (db : Int32) (x m : Nat) : Nat → Nat := fun j => if j < m then daC w cs us n W M r db x j else cs j
end SAM
