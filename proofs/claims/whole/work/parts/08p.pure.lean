section MOD
theorem wb_tb (n : Nat) : (lN n).toBitVec = BitVec.ofNat 64 n := rfl
theorem wb_inj {a b : Int64} (h : a.toBitVec = b.toBitVec) : a = b := Int64.toBitVec_inj.mp h
theorem wb_tn {n : Nat} (h : n < 2 ^ 64) : (lN n).toBitVec.toNat = n := by rw [wb_tb, BitVec.toNat_ofNat, Nat.mod_eq_of_lt h]
theorem wb_of (x : Int64) : ∃ n, n < 2 ^ 64 ∧ x = lN n := ⟨x.toBitVec.toNat, x.toBitVec.isLt, wb_inj (by rw [wb_tb]; simp)⟩
theorem wb_of32 (x : Int32) : ∃ n, n < 2 ^ 32 ∧ x = nI n := ⟨x.toBitVec.toNat, x.toBitVec.isLt, Int32.toBitVec_inj.mp (by show _ = BitVec.ofNat 32 _; simp)⟩
theorem wb_c : ∀ k, k < 64 → ((nI k).toInt64 &&& 63) = lN k := by decide +kernel
theorem wb_cu : ∀ k, k < 64 → ((nI k).toInt64.toUInt64 &&& Int64.toUInt64 63) = UInt64.ofNat k := by decide +kernel
theorem wb_sm : ∀ k, k < 64 → (BitVec.ofNat 64 k).smod 64 = BitVec.ofNat 64 k := by decide +kernel
theorem wb_pw {a b : Nat} (h : a ≤ b) : 2 ^ b = 2 ^ a * 2 ^ (b - a) := by rw [← Nat.pow_add]; congr 1; omega
theorem wb_lt2 {a b : Nat} (h : a < b) : 2 ^ a < 2 ^ b := Nat.pow_lt_pow_right (by decide) h
theorem wb_mod (n : Nat) : lN n = lN (n % 2 ^ 64) := wb_inj (by rw [wb_tb, wb_tb]; apply BitVec.eq_of_toNat_eq; rw [BitVec.toNat_ofNat, BitVec.toNat_ofNat, Nat.mod_mod])
theorem wb_shr {n k : Nat} (hn : n < 2 ^ 64) (hk : k < 64) : ((lN n).toUInt64 >>> ((nI k).toInt64.toUInt64 &&& Int64.toUInt64 63)).toInt64 = lN (n / 2 ^ k) := by
  rw [wb_cu k hk]
  apply wb_inj
  apply BitVec.eq_of_toNat_eq
  show ((lN n).toUInt64 >>> UInt64.ofNat k).toNat = (BitVec.ofNat 64 _).toNat
  have h1 : (UInt64.ofNat k).toNat = k := by
    show (BitVec.ofNat 64 k).toNat = k
    rw [BitVec.toNat_ofNat, Nat.mod_eq_of_lt (by omega)]
  have h2 : (lN n).toUInt64.toNat = n := wb_tn hn
  rw [UInt64.toNat_shiftRight, h1, h2, Nat.mod_eq_of_lt hk, Nat.shiftRight_eq_div_pow, BitVec.toNat_ofNat, Nat.mod_eq_of_lt (Nat.lt_of_le_of_lt (Nat.div_le_self _ _) hn)]
theorem wb_shl (n : Nat) {k : Nat} (hk : k < 64) : lN n <<< ((nI k).toInt64 &&& 63) = lN (n * 2 ^ k) := by
  rw [wb_c k hk]
  apply wb_inj
  rw [Int64.toBitVec_shiftLeft, wb_tb, wb_tb, wb_tb, wb_sm k hk]
  apply BitVec.eq_of_toNat_eq
  rw [BitVec.shiftLeft_eq', BitVec.toNat_shiftLeft, BitVec.toNat_ofNat, BitVec.toNat_ofNat, BitVec.toNat_ofNat, Nat.mod_eq_of_lt (show k < 2 ^ 64 by omega), Nat.shiftLeft_eq, Nat.mul_mod, Nat.mod_mod, ← Nat.mul_mod]
theorem wb_and {a b : Nat} (ha : a < 2 ^ 64) (hb : b < 2 ^ 64) : lN a &&& lN b = lN (a &&& b) := by
  apply wb_inj
  rw [Int64.toBitVec_and, wb_tb, wb_tb, wb_tb]
  apply BitVec.eq_of_toNat_eq
  rw [BitVec.toNat_and, BitVec.toNat_ofNat, BitVec.toNat_ofNat, BitVec.toNat_ofNat, Nat.mod_eq_of_lt ha, Nat.mod_eq_of_lt hb, Nat.mod_eq_of_lt (Nat.and_lt_two_pow _ hb)]
theorem wb_or {a b : Nat} (ha : a < 2 ^ 64) (hb : b < 2 ^ 64) : lN a ||| lN b = lN (a ||| b) := by
  apply wb_inj
  rw [Int64.toBitVec_or, wb_tb, wb_tb, wb_tb]
  apply BitVec.eq_of_toNat_eq
  rw [BitVec.toNat_or, BitVec.toNat_ofNat, BitVec.toNat_ofNat, BitVec.toNat_ofNat, Nat.mod_eq_of_lt ha, Nat.mod_eq_of_lt hb, Nat.mod_eq_of_lt (Nat.or_lt_two_pow ha hb)]
theorem wb_mask {n k : Nat} (hn : n < 2 ^ 64) (hk : k < 64) : lN n &&& lN (2 ^ k - 1) = lN (n % 2 ^ k) := by
  rw [wb_and hn (by have := wb_lt2 hk; omega), Nat.and_two_pow_sub_one_eq_mod]
theorem wb_a1 {n : Nat} (hn : n < 2 ^ 64) : lN n &&& 1 = lN (n % 2) := wb_mask (k := 1) hn (by decide)
theorem fb_orL (a b : Nat) : lN a ||| lN b = lN (a ||| b) := by
  apply Int64.toBitVec_inj.1
  show BitVec.ofNat 64 a ||| BitVec.ofNat 64 b = BitVec.ofNat 64 (a ||| b)
  apply BitVec.eq_of_getLsbD_eq
  intro i hi
  simp [hi]
theorem wb_one {n : Nat} (hn : n < 18446744073709551616) : lN n &&& lN 1 = lN (n % 2) := wb_a1 hn
/-- ints in a range -/
def inB (v a b : Int32) : Bool := decide (¬ v < a ∧ ¬ b < v)
theorem i32_lt {a b : Int32} : a < b ↔ a.toInt < b.toInt := Int32.lt_iff_toInt_lt
theorem i32_le {a b : Int32} : a ≤ b ↔ a.toInt ≤ b.toInt := Int32.le_iff_toInt_le
theorem i32_nlt {a b : Int32} (h : ¬ a < b) : b ≤ a := by rw [i32_lt] at h; rw [i32_le]; omega
theorem i32_nle {a b : Int32} (h : ¬ a ≤ b) : b < a := by rw [i32_le] at h; rw [i32_lt]; omega
theorem i32_lle {a b : Int32} (h : a < b) : ¬ b ≤ a := by rw [i32_lt] at h; rw [i32_le]; omega
theorem i32_len {a b : Int32} (h : a ≤ b) : ¬ b < a := by rw [i32_le] at h; rw [i32_lt]; omega
theorem inB_n {v a b : Nat} (hv : v < 2147483648) (ha : a < 2147483648) (hb : b < 2147483648) : inB (nI v) (nI a) (nI b) = decide (a ≤ v ∧ v ≤ b) := by
  unfold inB
  simp only [nI_ltI hv ha, nI_ltI hb hv, Nat.not_lt]
theorem inB_dir (d : Int32) : inB d (nI 0) (nI 3) = dirP d := by
  unfold inB dirP
  simp only [i32_lt, i32_le, show (nI 0).toInt = 0 from rfl, show (nI 3).toInt = 3 from rfl, show (nI 4).toInt = 4 from rfl, show (0 : Int32).toInt = 0 from rfl]
  congr 1
theorem inB_fld (x y : Int32) : (inB x (nI 0) (nI 7) && inB y (nI 0) (nI 7)) = inF x y := by
  unfold inB inF
  simp only [i32_lt, i32_le, show (nI 0).toInt = 0 from rfl, show (nI 7).toInt = 7 from rfl, show (nI 8).toInt = 8 from rfl, show (0 : Int32).toInt = 0 from rfl]
  rw [← Bool.decide_and]
  congr 1
  apply propext
  omega
theorem inB_ex {v : Int32} {a b : Nat} (hb : b < 2147483648) (h : inB v (nI a) (nI b) = true) (ha : a < 2147483648) : ∃ k, a ≤ k ∧ k ≤ b ∧ v = nI k := by
  have h := of_decide_eq_true h
  rw [i32_lt, i32_lt, nI_toInt ha, nI_toInt hb] at h
  obtain ⟨k, hk, rfl⟩ := nI_of (x := v) (by rw [i32_lt]; show ¬ v.toInt < 0; omega)
  rw [nI_toInt hk] at h
  exact ⟨k, by omega, by omega, rfl⟩
theorem inF_n {a b : Nat} (ha : a < 2147483648) (hb : b < 2147483648) : inF (nI a) (nI b) = decide (a < 8 ∧ b < 8) := by
  unfold inF
  simp only [i32_lt, i32_le, nI_toInt ha, nI_toInt hb, show (nI 8).toInt = 8 from rfl, show (0 : Int32).toInt = 0 from rfl]
  congr 1
  apply propext
  omega
theorem inF_ex {x y : Int32} (h : inF x y = true) : ∃ a b, a < 8 ∧ b < 8 ∧ x = nI a ∧ y = nI b := by
  have h := of_decide_eq_true h
  simp only [i32_lt, i32_le, show (nI 8).toInt = 8 from rfl, show (0 : Int32).toInt = 0 from rfl] at h
  obtain ⟨a, ha, rfl⟩ := nI_of (x := x) (by rw [i32_lt]; show ¬ x.toInt < 0; omega)
  obtain ⟨b, hb, rfl⟩ := nI_of (x := y) (by rw [i32_lt]; show ¬ y.toInt < 0; omega)
  rw [nI_toInt ha, nI_toInt hb] at h
  exact ⟨a, b, by omega, by omega, rfl, rfl⟩
theorem dirP_ex {d : Int32} (h : dirP d = true) : ∃ k, k < 4 ∧ d = nI k := by
  have h := of_decide_eq_true h
  simp only [i32_lt, i32_le, show (nI 4).toInt = 4 from rfl, show (0 : Int32).toInt = 0 from rfl] at h
  obtain ⟨k, hk, rfl⟩ := nI_of (x := d) (by rw [i32_lt]; show ¬ d.toInt < 0; omega)
  rw [nI_toInt hk] at h
  exact ⟨k, by omega, rfl⟩
theorem dirP_n {k : Nat} (h : k < 4) : dirP (nI k) = true := by
  rw [← inB_dir, inB_n (by omega) (by decide) (by decide)]
  exact decide_eq_true ⟨by omega, by omega⟩
theorem inF_m1 (y : Int32) : inF (nI 0 + (-1)) y = false := decide_eq_false (fun h => h.1 (by decide))
theorem inF_m2 (x : Int32) : inF x (nI 0 + (-1)) = false := decide_eq_false (fun h => h.2.2.1 (by decide))
theorem stp_lt {w : Nat → Bool} {c d : Nat} (h : c < 64) : stp w c d < 64 := by
  rcases stp_cases w c d with h9 | ⟨h9, h8⟩
  · rw [h9]; exact h
  · rw [h9]; exact (fre_lt h8).1
theorem ld_1 (w : Nat → Bool) (c d : Nat) : ld w c d 1 = stp w c d := rfl
theorem ld_2 (w : Nat → Bool) (c d : Nat) : ld w c d 2 = stp w (stp w c d) d := rfl
theorem csF_le {f : Nat → Nat} {B : Nat} {b : Bool} : ∀ {n : Nat}, (∀ j, j < 64 → f j ≤ B) → n ≤ 64 → csF f b n ≤ n * (B * 7)
  | 0, _, _ => by simp [csF]
  | n + 1, h, hn => by
    have h1 := csF_le (f := f) (B := B) (b := b) (n := n) h (by omega)
    have h2 : f n * (if b = true then n / 8 else n % 8) ≤ B * 7 := Nat.mul_le_mul (h n (by omega)) (by split <;> omega)
    rw [csF, Nat.succ_mul]; omega
theorem boxF_le (f : Nat → Nat) (a b c d : Nat) : ∀ n, boxF f a b c d n ≤ smF f n
  | 0 => Nat.le_refl _
  | n + 1 => by
    have h1 := boxF_le f a b c d n
    rw [boxF, smF]
    split <;> omega
/-- a step, by its direction -/
theorem nb_0t : ∀ c, c < 64 → (c % 8 + 1 < 8 → nb c 0 = c + 1) := by decide +kernel
theorem nb_0f : ∀ c, c < 64 → (¬ c % 8 + 1 < 8 → nb c 0 = 64) := by decide +kernel
theorem nb_1t : ∀ c, c < 64 → (c / 8 + 1 < 8 → nb c 1 = c + 8) := by decide +kernel
theorem nb_1f : ∀ c, c < 64 → (¬ c / 8 + 1 < 8 → nb c 1 = 64) := by decide +kernel
theorem nb_2t : ∀ c, c < 64 → (0 < c % 8 → nb c 2 = c - 1) := by decide +kernel
theorem nb_2f : ∀ c, c < 64 → (c % 8 = 0 → nb c 2 = 64) := by decide +kernel
theorem nb_3t : ∀ c, c < 64 → (0 < c / 8 → nb c 3 = c - 8) := by decide +kernel
theorem nb_3f : ∀ c, c < 64 → (c / 8 = 0 → nb c 3 = 64) := by decide +kernel
theorem stp_go {w : Nat → Bool} {c d k : Nat} (e : nb c d = k) (hk : k < 64) (hw : w k = false) : k = stp w c d := by rw [stp, e, if_pos (fre_of hk hw)]
theorem stp_w {w : Nat → Bool} {c d k : Nat} (e : nb c d = k) (hw : w k = true) : c = stp w c d := by rw [stp, e, if_neg (by simp [fre, hw])]
theorem stp_64 {w : Nat → Bool} {c d : Nat} (e : nb c d = 64) : c = stp w c d := by rw [stp, e, fre_64, if_neg (by decide)]
theorem i32_m1 {a : Nat} (h : 0 < a) : nI a + (-1) = nI (a - 1) := by
  obtain ⟨b, rfl⟩ : ∃ b, a = b + 1 := ⟨a - 1, by omega⟩
  exact pk_m1 b
theorem i32_neg {a b : Nat} (h : a < b) : nI a - nI b = -nI (b - a) := by
  rw [← pk_sub (Nat.le_of_lt h)]
  have key : ∀ x y : Int32, x - y = -(y - x) := fun x y => (Int32.neg_sub).symm
  exact key _ _
theorem i32_nn (a : Nat) : -(-nI a) = nI a := Int32.neg_neg
theorem i32_neg_lt {a : Nat} (h0 : 0 < a) (h : a < 2147483648) : ¬ 0 ≤ -nI a := by
  rw [i32_le, sb_negT h]
  show ¬ (0 : Int) ≤ -(a : Int)
  omega
theorem dst_lt {a r : Nat} (h : a < r) : r - a = dst a r := by rw [dst, if_pos (by omega)]
theorem dst_ge {a r : Nat} (h : r ≤ a) : a - r = dst a r := by
  unfold dst
  split
  · omega
  · rfl
theorem dst_le {w : Nat → Bool} {c d r : Nat} (h : r < 8) : dst (rd w c d) r ≤ 8 := by
  have := rd_le w c d
  unfold dst
  split <;> omega
/-- is one of n samples that weigh something in a cell -/
def anyB (cs us : Nat → Nat) : Nat → Nat → Bool
  | 0, _ => false
  | n + 1, c => anyB cs us n c || (decide (0 < us n) && decide (cs n = c))
def btF (S : Nat) : Nat → Nat
  | 0 => 0
  | n + 1 => btF S n + S / 2 ^ n % 2
theorem btF_le (S : Nat) : ∀ n, btF S n ≤ n
  | 0 => Nat.le_refl _
  | n + 1 => by
    have h1 := btF_le S n
    have h2 := Nat.mod_lt (S / 2 ^ n) (show 0 < 2 by decide)
    rw [btF]
    omega
theorem bit_or {S c j : Nat} : (S ||| 1 * 2 ^ c).testBit j = (S.testBit j || decide (c = j)) := by
  rw [Nat.testBit_or, Nat.one_mul, Nat.testBit_two_pow]
theorem or_lt {S c : Nat} (hS : S < 18446744073709551616) (hc : c < 64) : S ||| 1 * 2 ^ c < 18446744073709551616 := by
  rw [Nat.one_mul]
  exact Nat.or_lt_two_pow (n := 64) hS (Nat.pow_lt_pow_right (by decide) hc)
theorem bit_dm (S n : Nat) : S / 2 ^ n % 2 = if S.testBit n then 1 else 0 := by
  rw [Nat.testBit_eq_decide_div_mod_eq]
  have := Nat.mod_lt (S / 2 ^ n) (show 0 < 2 by decide)
  by_cases h : S / 2 ^ n % 2 = 1
  · simp [h]
  · simp [h]; omega
/-- how many there will be, by the model -/
def mnw (cs us : Nat → Nat) (n : Nat) : Nat := min 64 (8 + 4 * smF (fun c => if anyB cs us n c then 1 else 0) 64)
theorem btF_any {cs us : Nat → Nat} {S n : Nat} (h : ∀ c, c < 64 → S.testBit c = anyB cs us n c) : ∀ {m : Nat}, m ≤ 64 → btF S m = smF (fun c => if anyB cs us n c then 1 else 0) m
  | 0, _ => rfl
  | m + 1, hm => by rw [btF, smF, btF_any h (by omega), bit_dm, h m (by omega)]
theorem anyB_ct {w : Nat → Bool} {cs us : Nat → Nat} {d r c : Nat} : ∀ {n : Nat}, (∀ k, k < n → us k = wtc w (cs k) d r) → (anyB cs us n c = true ↔ (0 < ctF cs n c ∧ 0 < wtc w c d r))
  | 0, _ => by simp [anyB, ctF]
  | n + 1, h => by
    have ih := anyB_ct (c := c) (n := n) (fun k hk => h k (by omega))
    have hn := h n (by omega)
    rw [anyB, ctF, Bool.or_eq_true, ih, hn]
    by_cases e : c = cs n
    · subst e
      simp
    · have e2 : ¬ cs n = c := fun g => e g.symm
      simp [e, e2]
theorem mnw_mAn {w : Nat → Bool} {cs us : Nat → Nat} {d r n : Nat} (h : ∀ k, k < n → us k = wtc w (cs k) d r) : mnw cs us n = mAn w cs n d r := by
  have key : ∀ m, smF (fun c => if anyB cs us n c then 1 else 0) m = fitF w cs n d r m := by
    intro m
    induction m with
    | zero => rfl
    | succ m ih =>
      rw [smF, fitF, ih]
      congr 1
      by_cases g : anyB cs us n m = true
      · rw [if_pos g, if_pos ((anyB_ct h).mp g)]
      · rw [if_neg g, if_neg (fun k => g ((anyB_ct h).mpr k))]
  rw [mnw, mAn, key]
  congr 1
  omega
theorem mnw_in (cs us : Nat → Nat) (n : Nat) : 8 ≤ mnw cs us n ∧ mnw cs us n ≤ 64 := by
  unfold mnw
  omega
/-- a copy of the first n places -/
def cpN (cs os : Nat → Nat) (n : Nat) : Nat → Nat := fun j => if j < n then cs j else os j
theorem oaF_cong {cs ds us vs : Nat → Nat} {mk n : Nat} (h0 : cs 0 = ds 0) : ∀ {m i s : Nat}, i + m = n → (∀ j, j < n → cs j = ds j) → (∀ j, j < n → us j = vs j) → oaF cs us mk m i s = oaF ds vs mk m i s
  | 0, _, _, _, _, _ => h0
  | m + 1, i, s, h, hc, hu => by rw [oaF, oaF, hc i (by omega), hu i (by omega), oaF_cong h0 (by omega) hc hu]
/-- the first place of the greatest is only one -/
theorem md_uniq {f : Nat → Nat} {k : Nat} (hk : k < 64) (h1 : f k = mx f) (h2 : ∀ j, j < k → f j < f k) : k = md f := by
  obtain ⟨a, b⟩ := md_lt f
  have first : ∀ n c, (∀ j, c ≤ j → j < mdF f (mx f) n c → f j ≠ mx f) := by
    intro n
    induction n with
    | zero => intro c j hc hj; rw [mdF] at hj; omega
    | succ n ih =>
      intro c j hc hj
      rw [mdF] at hj
      split at hj
      · omega
      · rename_i g
        by_cases e : j = c
        · rw [e]; exact g
        · exact ih (c + 1) j (by omega) hj
  rcases Nat.lt_trichotomy k (md f) with g | g | g
  · exact absurd h1 (first 64 0 k (by omega) g)
  · exact g
  · have := h2 _ g
    omega
/-- samples' counts, or beliefs -/
def ptF (bs : Bool) (cs : Nat → Nat) (n : Nat) (b : Nat → Nat) : Nat → Nat := if bs = true then ctF cs n else b
theorem ptF_le {bs : Bool} {cs b : Nat → Nat} {n : Nat} (hn : n ≤ 64) (hb : ∀ j, j < 64 → b j ≤ 1099511627776) : ∀ j, j < 64 → ptF bs cs n b j ≤ 1099511627776 := by
  intro j hj
  unfold ptF
  split
  · have := ctF_le cs j n
    omega
  · exact hb j hj
/-- the last cell at a place, as the model finds it -/
def mbF (f : Nat → Nat) (pl : Int32) : Nat → Int32
  | 0 => -1
  | n + 1 => if 0 < f n ∧ nI (plF f n 64) = pl then nI n else mbF f pl n
theorem plF_mono {f : Nat → Nat} {a b : Nat} (h : f b < f a ∨ (f a = f b ∧ a < b)) : ∀ n : Nat, plF f a n ≤ plF f b n ∧ (a < n → plF f a n < plF f b n)
  | 0 => ⟨Nat.le_refl _, fun g => absurd g (Nat.not_lt_zero _)⟩
  | n + 1 => by
    obtain ⟨ih1, ih2⟩ := plF_mono h n
    have hpq : (if f a < f n ∨ (f n = f a ∧ n < a) then 1 else 0) ≤ (if f b < f n ∨ (f n = f b ∧ n < b) then 1 else 0) := by
      by_cases g : f a < f n ∨ (f n = f a ∧ n < a)
      · have g2 : f b < f n ∨ (f n = f b ∧ n < b) := by omega
        rw [if_pos g, if_pos g2]
        exact Nat.le_refl 1
      · rw [if_neg g]
        exact Nat.zero_le _
    have hs : a = n → (if f a < f n ∨ (f n = f a ∧ n < a) then 1 else 0) = 0 ∧ (if f b < f n ∨ (f n = f b ∧ n < b) then 1 else 0) = 1 := by
      intro e
      subst e
      have g1 : ¬ (f a < f a ∨ (f a = f a ∧ a < a)) := by omega
      exact ⟨if_neg g1, if_pos h⟩
    rw [plF, plF]
    generalize (if f a < f n ∨ (f n = f a ∧ n < a) then 1 else 0) = p at hpq hs ⊢
    generalize (if f b < f n ∨ (f n = f b ∧ n < b) then 1 else 0) = q at hpq hs ⊢
    refine ⟨by omega, fun g => ?_⟩
    by_cases e : a = n
    · have := hs e
      omega
    · have := ih2 (by omega)
      omega
theorem plF_lt {f : Nat → Nat} {a b : Nat} (ha : a < 64) (h : f b < f a ∨ (f a = f b ∧ a < b)) : plF f a 64 < plF f b 64 := (plF_mono h 64).2 ha
theorem plF_inj {f : Nat → Nat} {a b : Nat} (ha : a < 64) (hb : b < 64) (h : plF f a 64 = plF f b 64) : a = b := by
  rcases Nat.lt_trichotomy (f a) (f b) with g | g | g
  · have := plF_lt (f := f) (a := b) (b := a) hb (Or.inl g)
    omega
  · rcases Nat.lt_trichotomy a b with k | k | k
    · have := plF_lt (f := f) (a := a) (b := b) ha (Or.inr ⟨g, k⟩)
      omega
    · exact k
    · have := plF_lt (f := f) (a := b) (b := a) hb (Or.inr ⟨g.symm, k⟩)
      omega
  · have := plF_lt (f := f) (a := a) (b := b) ha (Or.inl g)
    omega
theorem mbF_bpF (f : Nat → Nat) (pl : Int32) : mbF f pl 64 = bpF f pl 64 0 := by
  by_cases h : ∃ c, c < 64 ∧ 0 < f c ∧ nI (plF f c 64) = pl
  · obtain ⟨c, hc, h1, h2⟩ := h
    have uniq : ∀ j, j < 64 → (0 < f j ∧ nI (plF f j 64) = pl) → j = c := by
      intro j hj ⟨_, g⟩
      refine plF_inj (f := f) hj hc ?_
      have a1 := plF_le f j 64
      have a2 := plF_le f c 64
      exact (nI_eq (by omega) (by omega)).mp (g.trans h2.symm)
    have m1 : ∀ n, c < n → n ≤ 64 → mbF f pl n = nI c := by
      intro n
      induction n with
      | zero => intro g; omega
      | succ n ih =>
        intro g g2
        rw [mbF]
        by_cases e : 0 < f n ∧ nI (plF f n 64) = pl
        · rw [if_pos e, uniq n (by omega) e]
        · rw [if_neg e]
          have : c ≠ n := fun k => e (k ▸ ⟨h1, h2⟩)
          exact ih (by omega) (by omega)
    have m2 : ∀ n i, i ≤ c → c < i + n → i + n ≤ 64 → bpF f pl n i = nI c := by
      intro n
      induction n with
      | zero => intro i g g2; omega
      | succ n ih =>
        intro i g g2 g3
        rw [bpF]
        by_cases e : 0 < f i ∧ nI (plF f i 64) = pl
        · rw [if_pos e, uniq i (by omega) e]
        · rw [if_neg e]
          have : c ≠ i := fun k => e (k ▸ ⟨h1, h2⟩)
          exact ih (i + 1) (by omega) (by omega) (by omega)
    rw [m1 64 hc (by omega), m2 64 0 (by omega) (by omega) (by omega)]
  · have m1 : ∀ n, n ≤ 64 → mbF f pl n = -1 := by
      intro n
      induction n with
      | zero => intro _; rfl
      | succ n ih =>
        intro g
        rw [mbF, if_neg (fun k => h ⟨n, by omega, k⟩)]
        exact ih (by omega)
    have m2 : ∀ n i, i + n ≤ 64 → bpF f pl n i = -1 := by
      intro n
      induction n with
      | zero => intro i _; rfl
      | succ n ih =>
        intro i g
        rw [bpF, if_neg (fun k => h ⟨i, by omega, k⟩)]
        exact ih (i + 1) (by omega)
    rw [m1 64 (by omega), m2 64 0 (by omega)]
theorem mx_half {b : Nat → Nat} : mx (fun j => b j / 2) ≤ mx b / 2 := by
  have key : ∀ n, mxF (fun j => b j / 2) n ≤ mxF b n / 2 := by
    intro n
    induction n with
    | zero => simp [mxF]
    | succ n ih =>
      rw [mxF, mxF]
      omega
  exact key 64
theorem max_0 (v : Int32) : (if 0 ≤ v then v else nI 0) = (if nI 0 < v then v else nI 0) := by
  by_cases h : 0 ≤ v
  · rw [if_pos h]
    by_cases g : nI 0 < v
    · rw [if_pos g]
    · rw [if_neg g]
      apply Int32.toInt_inj.mp
      rw [i32_le] at h
      rw [i32_lt] at g
      have h0 : (0 : Int32).toInt = 0 := rfl
      have h1 : (nI 0).toInt = 0 := rfl
      omega
  · rw [if_neg h, if_neg]
    intro g
    rw [i32_le] at h
    rw [i32_lt] at g
    have h0 : (0 : Int32).toInt = 0 := rfl
    have h1 : (nI 0).toInt = 0 := rfl
    omega
theorem mark_lt {W M r k : Nat} (hr : r < W) (hk : k < M) : (r + k * W) / M < W := by
  rw [Nat.div_lt_iff_lt_mul (by omega)]
  have h1 : (k + 1) * W ≤ M * W := Nat.mul_le_mul_right W hk
  rw [Nat.succ_mul] at h1
  rw [Nat.mul_comm W M]
  omega
end MOD
