section PURE
/-- the number from which it is drawn -/
def nx (x : Nat) : Nat := (75 * x + 74) % 65537
theorem nx_lt (x : Nat) : nx x < 65537 := Nat.mod_lt _ (by decide)
/-- an int lies in the field, is a cell, is a direction -/
def inF (x y : Int32) : Bool := decide (¬ x < 0 ∧ ¬ nI 8 ≤ x ∧ ¬ y < 0 ∧ ¬ nI 8 ≤ y)
def dirP (d : Int32) : Bool := decide (¬ d < 0 ∧ ¬ nI 4 ≤ d)
/-- the greatest of the first n, 0 at least -/
def mxF (f : Nat → Nat) : Nat → Nat
  | 0 => 0
  | n + 1 => max (mxF f n) (f n)
abbrev mx (f : Nat → Nat) : Nat := mxF f 64
theorem mxF_lt {f : Nat → Nat} {B : Nat} (h0 : 0 < B) : ∀ {n : Nat}, (∀ j, j < n → f j < B) → mxF f n < B
  | 0, _ => h0
  | n + 1, h => Nat.max_lt.mpr ⟨mxF_lt h0 (fun j hj => h j (by omega)), h n (by omega)⟩
theorem mxF_ge {f : Nat → Nat} : ∀ {n j : Nat}, j < n → f j ≤ mxF f n
  | n + 1, j, h => by
    rcases Nat.lt_or_ge j n with q | q
    · exact Nat.le_trans (mxF_ge q) (Nat.le_max_left _ _)
    · have : j = n := by omega
      subst this
      exact Nat.le_max_right _ _
theorem mxF_mem {f : Nat → Nat} : ∀ {n : Nat}, 0 < n → ∃ j, j < n ∧ f j = mxF f n ∨ mxF f n = 0
  | n + 1, _ => by
    rcases Nat.lt_or_ge 0 n with q | q
    · obtain ⟨j, h⟩ := mxF_mem (f := f) q
      by_cases hm : mxF f n ≤ f n
      · exact ⟨n, Or.inl ⟨by omega, by rw [mxF]; omega⟩⟩
      · rcases h with ⟨h1, h2⟩ | h
        · exact ⟨j, Or.inl ⟨by omega, by rw [mxF]; omega⟩⟩
        · omega
    · have : n = 0 := by omega
      subst this
      exact ⟨0, Or.inl ⟨by omega, by simp [mxF]⟩⟩
theorem mx_at (f : Nat → Nat) : ∃ j, j < 64 ∧ f j = mx f := by
  obtain ⟨j, h | h⟩ := mxF_mem (f := f) (n := 64) (by omega)
  · exact ⟨j, h⟩
  · have h0 := mxF_ge (f := f) (n := 64) (j := 0) (by omega)
    exact ⟨0, by omega, by show f 0 = mxF f 64; omega⟩
theorem mxF_cong {f g : Nat → Nat} : ∀ {n : Nat}, (∀ j, j < n → f j = g j) → mxF f n = mxF g n
  | 0, _ => rfl
  | n + 1, h => by rw [mxF, mxF, mxF_cong (fun j hj => h j (by omega)), h n (by omega)]
theorem mxF_stepL {f : Nat → Nat} {i : Nat} (h1 : mxF f i < 9223372036854775808) (h2 : f i < 9223372036854775808) : (if lN (f i) < lN (mxF f i) then lN (mxF f i) else lN (f i)) = lN (mxF f (i + 1)) := by
  rw [mxF]
  split
  · rename_i h
    have := (pk_lLT h2 h1).mp h
    rw [Nat.max_eq_left (by omega)]
  · rename_i h
    have : ¬ f i < mxF f i := fun g => h ((pk_lLT h2 h1).mpr g)
    rw [Nat.max_eq_right (by omega)]
/-- the first place from c on, among n, that holds v -/
def mdF (f : Nat → Nat) (v : Nat) : Nat → Nat → Nat
  | 0, c => c
  | n + 1, c => if f c = v then c else mdF f v n (c + 1)
abbrev md (f : Nat → Nat) : Nat := mdF f (mx f) 64 0
theorem mdF_step {f : Nat → Nat} {v i : Nat} (h : i < 64) (hne : ¬ f i = v) : mdF f v (64 - (i + 1)) (i + 1) = mdF f v (64 - i) i := by
  rw [show 64 - i = (64 - (i + 1)) + 1 by omega, mdF, if_neg hne]
theorem mdF_hit {f : Nat → Nat} {v i : Nat} (h : i < 64) (he : f i = v) : mdF f v (64 - i) i = i := by
  rw [show 64 - i = (64 - (i + 1)) + 1 by omega, mdF, if_pos he]
theorem mdF_lt {f : Nat → Nat} {v : Nat} : ∀ {n c : Nat}, (∃ j, c ≤ j ∧ j < c + n ∧ f j = v) → mdF f v n c < c + n ∧ f (mdF f v n c) = v
  | 0, c, ⟨j, h1, h2, _⟩ => by omega
  | n + 1, c, ⟨j, h1, h2, h3⟩ => by
    rw [mdF]
    split
    · rename_i h
      exact ⟨by omega, h⟩
    · rename_i h
      have hj : j ≠ c := fun g => h (by rw [← g]; exact h3)
      obtain ⟨a, b⟩ := mdF_lt (f := f) (v := v) (n := n) (c := c + 1) ⟨j, by omega, by omega, h3⟩
      exact ⟨by omega, b⟩
theorem md_lt (f : Nat → Nat) : md f < 64 ∧ f (md f) = mx f := by
  obtain ⟨j, h1, h2⟩ := mx_at f
  have := mdF_lt (f := f) (v := mx f) (n := 64) (c := 0) ⟨j, by omega, by omega, h2⟩
  exact ⟨by have := this.1; show mdF f (mx f) 64 0 < 64; omega, this.2⟩
/-- a number more at a place -/
def adF (f : Nat → Nat) (k v : Nat) : Nat → Nat := fun j => f j + (if j = k then v else 0)
theorem va_adF (f : Nat → Nat) (k v : Nat) : va_up f k (f k + v) = adF f k v := by
  funext j
  by_cases h : j = k
  · subst h; simp [va_up, adF]
  · simp [va_up, adF, h]
theorem cpy_in {α : Type} (f g : Nat → α) {n j : Nat} (hn : n < 2147483648) (h : j < n) : va_cpy f g (nI 0).toNatClampNeg (nI 0).toNatClampNeg (nI n).toNatClampNeg j = f j := by
  rw [nI_clamp (by decide), nI_clamp hn]
  simp [va_cpy, h]
/-- sums over cells -/
def boxF (f : Nat → Nat) (a b c d : Nat) : Nat → Nat
  | 0 => 0
  | n + 1 => boxF f a b c d n + (if a ≤ n % 8 ∧ n % 8 ≤ c ∧ b ≤ n / 8 ∧ n / 8 ≤ d then f n else 0)
def smF (f : Nat → Nat) : Nat → Nat
  | 0 => 0
  | n + 1 => smF f n + f n
def csF (f : Nat → Nat) (b : Bool) : Nat → Nat
  | 0 => 0
  | n + 1 => csF f b n + f n * (if b then n / 8 else n % 8)
theorem boxF_all (f : Nat → Nat) : ∀ {n : Nat}, n ≤ 64 → boxF f 0 0 7 7 n = smF f n
  | 0, _ => rfl
  | n + 1, h => by rw [boxF, smF, boxF_all f (by omega), if_pos (by omega)]
theorem smF_cong {f g : Nat → Nat} : ∀ {n : Nat}, (∀ j, j < n → f j = g j) → smF f n = smF g n
  | 0, _ => rfl
  | n + 1, h => by rw [smF, smF, smF_cong (fun j hj => h j (by omega)), h n (by omega)]
theorem smF_le {f : Nat → Nat} {B : Nat} : ∀ {n : Nat}, (∀ j, j < n → f j ≤ B) → smF f n ≤ n * B
  | 0, _ => by simp [smF]
  | n + 1, h => by
    have h1 := smF_le (f := f) (B := B) (n := n) (fun j hj => h j (by omega))
    have h2 := h n (by omega)
    rw [smF, Nat.succ_mul]; omega
theorem smF_pos {f : Nat → Nat} : ∀ {n j : Nat}, j < n → f j ≤ smF f n
  | n + 1, j, h => by
    rw [smF]
    rcases Nat.lt_or_ge j n with q | q
    · have := smF_pos (f := f) q
      omega
    · have : j = n := by omega
      subst this
      omega
/-- how many cells are ahead of one: greater, or as great and lower -/
def plF (f : Nat → Nat) (c : Nat) : Nat → Nat
  | 0 => 0
  | n + 1 => plF f c n + (if f c < f n ∨ (f n = f c ∧ n < c) then 1 else 0)
theorem plF_le (f : Nat → Nat) (c : Nat) : ∀ n, plF f c n ≤ n
  | 0 => Nat.le_refl _
  | n + 1 => by
    have := plF_le f c n
    rw [plF]
    split <;> omega
/-- the first cell with a number above 0 at a place; -1 for none -/
def bpF (f : Nat → Nat) (pl : Int32) : Nat → Nat → Int32
  | 0, _ => -1
  | n + 1, c => if 0 < f c ∧ nI (plF f c 64) = pl then nI c else bpF f pl n (c + 1)
theorem bpF_step {f : Nat → Nat} {pl : Int32} {i : Nat} (h : i < 64) (hne : ¬ (0 < f i ∧ nI (plF f i 64) = pl)) : bpF f pl (64 - (i + 1)) (i + 1) = bpF f pl (64 - i) i := by
  rw [show 64 - i = (64 - (i + 1)) + 1 by omega, bpF, if_neg hne]
theorem bpF_hit {f : Nat → Nat} {pl : Int32} {i : Nat} (h : i < 64) (he : 0 < f i ∧ nI (plF f i 64) = pl) : bpF f pl (64 - i) i = nI i := by
  rw [show 64 - i = (64 - (i + 1)) + 1 by omega, bpF, if_pos he]
end PURE
section GEO
/-- a cell that is in the field and free -/
def fre (w : Nat → Bool) (c : Nat) : Bool := decide (c < 64) && !w c
/-- the cell so many steps on, whatever walls there are; 64 for none -/
def sh (c d k : Nat) : Nat := if d = 0 then (if c % 8 + k < 8 then c + k else 64) else if d = 1 then (if c / 8 + k < 8 then c + 8 * k else 64) else if d = 2 then (if k ≤ c % 8 then c - k else 64) else (if k ≤ c / 8 then c - 8 * k else 64)
/-- the same, back -/
def bk (c d k : Nat) : Nat := if d = 0 then sh c 2 k else if d = 1 then sh c 3 k else if d = 2 then sh c 0 k else sh c 1 k
abbrev nb (c d : Nat) : Nat := sh c d 1
/-- a step -/
def stp (w : Nat → Bool) (c d : Nat) : Nat := if fre w (nb c d) then nb c d else c
def oc (r : Nat) : Int32 := if r < 64 then nI r else -1
/-- what shifted answers -/
def shR (c d : Nat) (st : Int32) : Int32 := if inF (nI (c % 8) + st * stX d) (nI (c / 8) + st * stY d) then nI 8 * (nI (c / 8) + st * stY d) + (nI (c % 8) + st * stX d) else -1
theorem shR_n : ∀ c, c < 64 → ∀ d, d < 4 → ∀ k, k < 10 → shR c d (nI k) = oc (sh c d k) := by decide +kernel
theorem shR_b : ∀ c, c < 64 → ∀ d, d < 4 → ∀ k, k < 3 → shR c d (-nI k) = oc (bk c d k) := by decide +kernel
theorem sh_0 : ∀ c, c < 64 → ∀ d, d < 4 → sh c d 0 = c := by decide +kernel
theorem sh_s : ∀ c, c < 64 → ∀ d, d < 4 → ∀ k, k < 9 → sh c d k < 64 → sh c d (k + 1) = nb (sh c d k) d := by decide +kernel
theorem sh_o : ∀ c, c < 64 → ∀ d, d < 4 → ∀ k, k < 9 → ¬ sh c d k < 64 → ¬ sh c d (k + 1) < 64 := by decide +kernel
theorem sh_8 : ∀ c, c < 64 → ∀ d, d < 4 → sh c d 8 = 64 := by decide +kernel
theorem nb_ne : ∀ c, c < 64 → ∀ d, d < 4 → nb c d ≠ c := by decide +kernel
theorem sh_le : ∀ c, c < 64 → ∀ d, d < 4 → ∀ k, k < 10 → sh c d k ≤ 64 := by decide +kernel
theorem fre_lt {w : Nat → Bool} {c : Nat} (h : fre w c = true) : c < 64 ∧ w c = false := by
  simpa [fre] using h
theorem fre_of {w : Nat → Bool} {c : Nat} (h : c < 64) (h2 : w c = false) : fre w c = true := by
  simp [fre, h, h2]
theorem fre_f {w : Nat → Bool} {c : Nat} (h : c < 64) (h2 : fre w c = false) : w c = true := by
  cases hw : w c
  · rw [fre_of h hw] at h2; cases h2
  · rfl
theorem fre_64 (w : Nat → Bool) : fre w 64 = false := by simp [fre]
/-- how many steps lead on -/
def rdF (w : Nat → Bool) (c d : Nat) : Nat → Nat → Nat
  | 0, s => s
  | n + 1, s => if fre w (sh c d (s + 1)) then rdF w c d n (s + 1) else s
def rd (w : Nat → Bool) (c d : Nat) : Nat := rdF w c d 8 0
theorem rdF_step {w : Nat → Bool} {c d s : Nat} (h : s < 8) (hf : fre w (sh c d (s + 1)) = true) : rdF w c d (8 - (s + 1)) (s + 1) = rdF w c d (8 - s) s := by
  rw [show 8 - s = (8 - (s + 1)) + 1 by omega, rdF, if_pos hf]
theorem rdF_stop {w : Nat → Bool} {c d s : Nat} (hf : fre w (sh c d (s + 1)) = false) : rdF w c d (8 - s) s = s := by
  rcases Nat.lt_or_ge s 8 with h | h
  · rw [show 8 - s = (8 - (s + 1)) + 1 by omega, rdF, if_neg (by rw [hf]; decide)]
  · rw [show 8 - s = 0 by omega, rdF]
theorem rdF_le (w : Nat → Bool) (c d : Nat) : ∀ n s, s + n ≤ 8 → rdF w c d n s ≤ 8
  | 0, s, h => by rw [rdF]; omega
  | n + 1, s, h => by
    rw [rdF]
    split
    · exact rdF_le w c d n (s + 1) (by omega)
    · omega
theorem rd_le (w : Nat → Bool) (c d : Nat) : rd w c d ≤ 8 := rdF_le w c d 8 0 (by omega)
/-- so many steps, 0 to 2 -/
def ld (w : Nat → Bool) (c d k : Nat) : Nat := if k = 0 then c else if k = 1 then stp w c d else stp w (stp w c d) d
theorem stp_free {w : Nat → Bool} {c d : Nat} (h : fre w c = true) : fre w (stp w c d) = true := by
  unfold stp
  split
  · assumption
  · exact h
theorem ld_free {w : Nat → Bool} {c d k : Nat} (h : fre w c = true) : fre w (ld w c d k) = true := by
  unfold ld
  split
  · exact h
  · split
    · exact stp_free h
    · exact stp_free (stp_free h)
theorem shR_ld {w : Nat → Bool} {c d k : Nat} (hc : c < 64) (hd : d < 4) (hk : k < 3) : shR c d (nI (min k (rd w c d))) = nI (ld w c d k) := by
  have h0 := sh_0 c hc d hd
  have e8 : rd w c d = rdF w c d 8 0 := rfl
  by_cases h1 : fre w (nb c d) = true
  · have hl1 := (fre_lt h1).1
    have s1 : stp w c d = nb c d := by rw [stp, if_pos h1]
    have h2 := sh_s c hc d hd 1 (by omega) hl1
    by_cases h3 : fre w (sh c d 2) = true
    · have hl2 := (fre_lt h3).1
      have s2 : stp w (stp w c d) d = sh c d 2 := by rw [s1, stp, ← h2, if_pos h3]
      have hr : 2 ≤ rd w c d := by
        rw [e8, rdF, if_pos h1, rdF, if_pos h3]
        have : ∀ n s, s ≤ rdF w c d n s := by
          intro n
          induction n with
          | zero => intro s; rw [rdF]; exact Nat.le_refl _
          | succ n ih => intro s; rw [rdF]; split; (· exact Nat.le_trans (Nat.le_succ s) (ih (s + 1))); (· exact Nat.le_refl _)
        exact this 6 2
      rw [show min k (rd w c d) = k by omega, shR_n c hc d hd k (by omega)]
      rcases (show k = 0 ∨ k = 1 ∨ k = 2 by omega) with rfl | rfl | rfl
      · rw [h0]; simp [ld, oc, hc]
      · simp [ld, oc, hl1, s1]
      · simp [ld, s2, oc, hl2]
    · have h3' : fre w (sh c d 2) = false := by simpa using h3
      have s2 : stp w (stp w c d) d = nb c d := by rw [s1, stp, ← h2, if_neg h3]
      have hr : rd w c d = 1 := by rw [e8, rdF, if_pos h1, rdF, if_neg h3]
      rw [hr]
      rcases (show k = 0 ∨ k = 1 ∨ k = 2 by omega) with rfl | rfl | rfl
      · rw [show min 0 1 = 0 from rfl, shR_n c hc d hd 0 (by omega), h0]; simp [ld, oc, hc]
      · rw [show min 1 1 = 1 from rfl, shR_n c hc d hd 1 (by omega)]; simp [ld, oc, hl1, s1]
      · rw [show min 2 1 = 1 from rfl, shR_n c hc d hd 1 (by omega)]; simp [ld, oc, hl1, s2]
  · have s1 : stp w c d = c := by rw [stp, if_neg h1]
    have hr : rd w c d = 0 := by rw [e8, rdF, if_neg h1]
    rw [hr, show min k 0 = 0 by omega, shR_n c hc d hd 0 (by omega), h0]
    have : ld w c d k = c := by
      unfold ld
      split
      · rfl
      · split
        · exact s1
        · rw [s1, s1]
    rw [this]; simp [oc, hc]
/-- the weight of a reading -/
def wv (n : Nat) : Nat := if n = 0 then 8 else if n = 1 then 3 else if n = 2 then 1 else 0
def dst (a r : Nat) : Nat := if a ≤ r then r - a else a - r
def wt (w : Nat → Bool) (c d r : Nat) : Nat := wv (dst (rd w c d) r)
def wtc (w : Nat → Bool) (c d r : Nat) : Nat := if w c then wv (r + 1) else wt w c d r
theorem wv_le (n : Nat) : wv n ≤ 8 := by
  unfold wv
  split
  · omega
  · split
    · omega
    · split <;> omega
theorem wt_le (w : Nat → Bool) (c d r : Nat) : wt w c d r ≤ 8 := wv_le _
theorem wtc_le (w : Nat → Bool) (c d r : Nat) : wtc w c d r ≤ 8 := by
  unfold wtc
  split
  · exact wv_le _
  · exact wt_le _ _ _ _
/-- what the table of steps ahead holds -/
def ahV (w : Nat → Bool) (k : Nat) : Int32 := if w (k % 64) then -1 else nI (rd w (k % 64) (k / 64))
theorem ahV_at (w : Nat → Bool) {c d : Nat} (hc : c < 64) : ahV w (64 * d + c) = if w c then -1 else nI (rd w c d) := by
  rw [ahV, show (64 * d + c) % 64 = c by omega, show (64 * d + c) / 64 = d by omega]
def dsc (w : Nat → Bool) (c d r : Nat) : Nat := if w c then r + 1 else dst (rd w c d) r
theorem abs_dsc (w : Nat → Bool) {c d r : Nat} (hc : c < 64) (hr : r < 8) : (if 0 ≤ nI r - ahV w (64 * d + c) then nI r - ahV w (64 * d + c) else 0 - (nI r - ahV w (64 * d + c))) = nI (dsc w c d r) := by
  rw [ahV_at w hc, dsc]
  cases hw : w c
  · have := rd_le w c d
    simp only [Bool.false_eq_true, if_false]
    generalize rd w c d = a at this
    have key : ∀ r, r < 8 → ∀ a, a < 9 → (if 0 ≤ nI r - nI a then nI r - nI a else 0 - (nI r - nI a)) = nI (dst a r) := by decide +kernel
    exact key r hr a (by omega)
  · simp only [if_true]
    have key : ∀ r, r < 8 → (if 0 ≤ nI r - (-1) then nI r - (-1) else 0 - (nI r - (-1))) = nI (r + 1) := by decide +kernel
    exact key r hr
theorem min_rd (w : Nat → Bool) {c d k : Nat} (hc : c < 64) (hk : k < 3) (hw : w c = false) : (if ahV w (64 * d + c) < nI k then ahV w (64 * d + c) else nI k) = nI (min k (rd w c d)) := by
  rw [ahV_at w hc, hw]
  have := rd_le w c d
  simp only [Bool.false_eq_true, if_false]
  generalize rd w c d = a at this
  have key : ∀ k, k < 3 → ∀ a, a < 9 → (if nI a < nI k then nI a else nI k) = nI (min k a) := by decide +kernel
  exact key k hk a (by omega)
theorem wtc_dsc (w : Nat → Bool) (c d r : Nat) : wtc w c d r = wv (dsc w c d r) := by
  unfold wtc dsc wt
  split <;> rfl
theorem dsc_le (w : Nat → Bool) (c d : Nat) {r : Nat} (hr : r < 8) : dsc w c d r ≤ 8 := by
  have := rd_le w c d
  unfold dsc dst
  split
  · omega
  · split <;> omega
/-- how many of the first n cells are free; the free cell of a rank -/
def cntF (w : Nat → Bool) : Nat → Nat
  | 0 => 0
  | n + 1 => cntF w n + (if w n then 0 else 1)
theorem cntF_le (w : Nat → Bool) : ∀ n, cntF w n ≤ n
  | 0 => Nat.le_refl _
  | n + 1 => by
    have := cntF_le w n
    rw [cntF]
    split <;> omega
def kthF (w : Nat → Bool) : Nat → Nat → Nat → Nat
  | 0, c, _ => c
  | n + 1, c, l => if w c then kthF w n (c + 1) l else if l = 0 then c else kthF w n (c + 1) (l - 1)
def kth (w : Nat → Bool) (k : Nat) : Nat := kthF w 64 0 k
theorem kthF_w {w : Nat → Bool} {i l : Nat} (h : i < 64) (hw : w i = true) : kthF w (64 - (i + 1)) (i + 1) l = kthF w (64 - i) i l := by
  rw [show 64 - i = (64 - (i + 1)) + 1 by omega, kthF, if_pos hw]
theorem kthF_s {w : Nat → Bool} {i l : Nat} (h : i < 64) (hw : w i = false) (hl : 0 < l) : kthF w (64 - (i + 1)) (i + 1) (l - 1) = kthF w (64 - i) i l := by
  rw [show 64 - i = (64 - (i + 1)) + 1 by omega, kthF, if_neg (by rw [hw]; decide), if_neg (by omega)]
theorem kthF_h {w : Nat → Bool} {i : Nat} (h : i < 64) (hw : w i = false) : kthF w (64 - i) i 0 = i := by
  rw [show 64 - i = (64 - (i + 1)) + 1 by omega, kthF, if_neg (by rw [hw]; decide), if_pos rfl]
theorem kthF_free {w : Nat → Bool} : ∀ (n c l : Nat), l < cntF w (c + n) - cntF w c → kthF w n c l < c + n ∧ w (kthF w n c l) = false
  | 0, c, l, h => by simp at h
  | n + 1, c, l, h => by
    have e : cntF w (c + 1) = cntF w c + (if w c then 0 else 1) := rfl
    rw [kthF]
    cases hw : w c
    · simp only [Bool.false_eq_true, if_false]
      rw [hw] at e
      simp only [Bool.false_eq_true, if_false] at e
      by_cases hl : l = 0
      · rw [if_pos hl]
        exact ⟨by omega, hw⟩
      · rw [if_neg hl]
        have := kthF_free (w := w) n (c + 1) (l - 1) (by rw [show c + 1 + n = c + (n + 1) by omega]; omega)
        exact ⟨by omega, this.2⟩
    · simp only [if_true]
      rw [hw] at e
      simp only [if_true] at e
      have := kthF_free (w := w) n (c + 1) l (by rw [show c + 1 + n = c + (n + 1) by omega]; omega)
      exact ⟨by omega, this.2⟩
theorem kth_free {w : Nat → Bool} {k : Nat} (h : k < cntF w 64) : kth w k < 64 ∧ w (kth w k) = false := by
  have := kthF_free (w := w) 64 0 k (by simpa [cntF] using h)
  exact ⟨by have h1 := this.1; rw [Nat.zero_add] at h1; exact h1, this.2⟩
end GEO
