section CLS
theorem i32_7 {v : Int32} (h : v < nI 8) : ¬ nI 7 < v := by
  rw [i32_lt] at h ⊢
  rw [nI_toInt (by decide)] at h ⊢
  omega
theorem i32_pr {v : Int32} {n : Nat} (h0 : 0 < n) (hn : n < 2147483648) (h : v < nI n) : ¬ nI (n - 1) < v := by
  rw [i32_lt] at h ⊢
  rw [nI_toInt hn] at h
  rw [nI_toInt (by omega)]
  omega
/-- what was told, as it lies in the cells: 8 where it was driven -/
def oc8 (r : Nat) : Int32 := if r < 8 then nI r else -1
def tQ (rc : Nat → Nat) : Nat → Int32 := fun j => oc8 (rc j)
theorem upd_tQ (rc : Nat → Nat) (k r : Nat) : upd (tQ rc) k (oc8 r) = tQ (va_up rc k r) := by
  funext j
  by_cases h : j = k <;> simp [upd, tQ, va_up, h]
theorem tQ_m1 {rc : Nat → Nat} {i : Nat} (h : rc i ≤ 8) (g : tQ rc i = -1) : rc i = 8 := by
  rcases Nat.lt_or_ge (rc i) 8 with q | q
  · exfalso
    rw [tQ, oc8, if_pos q] at g
    generalize rc i = r at q g
    have key : ∀ r, r < 8 → ¬ nI r = -1 := by decide +kernel
    exact key r q g
  · omega
theorem tQ_n1 {rc : Nat → Nat} {i : Nat} (h : rc i ≤ 8) (g : ¬ tQ rc i = -1) : rc i < 8 := by
  rcases Nat.lt_or_ge (rc i) 8 with q | q
  · exact q
  · exfalso
    exact g (by rw [tQ, oc8, if_neg (by omega)])
theorem tQ_n {rc : Nat → Nat} {i : Nat} (h : rc i < 8) : tQ rc i = nI (rc i) := by rw [tQ, oc8, if_pos h]
/-- beliefs out of all that was told -/
def bhF (w : Nat → Bool) (td rc : Nat → Nat) : Nat → Nat → Nat
  | 0 => bal w
  | k + 1 => if rc k = 8 then drv w (bhF w td rc k) (td k) else rdg w (bhF w td rc k) (td k) (rc k)
def bqF (w : Nat → Bool) (td rc : Nat → Nat) (g : Nat → Nat) : Nat → Nat → Nat
  | 0 => g
  | k + 1 => if rc k = 8 then bhF w td rc k else bqF w td rc g k
theorem bhF_cong {w : Nat → Bool} {td rc td2 rc2 : Nat → Nat} : ∀ {n : Nat}, (∀ k, k < n → td k = td2 k ∧ rc k = rc2 k) → bhF w td rc n = bhF w td2 rc2 n
  | 0, _ => rfl
  | n + 1, h => by rw [bhF, bhF, bhF_cong (fun k hk => h k (by omega)), (h n (by omega)).1, (h n (by omega)).2]
/-- what always holds of beliefs -/
def okB (w : Nat → Bool) (b : Nat → Nat) : Prop := (∀ j, j < 64 → b j ≤ 1099511627776) ∧ (∀ j, j < 64 → w j = true → b j = 0) ∧ 0 < mx b
theorem hlF_zero {j : Nat} : ∀ (n : Nat) (b : Nat → Nat), b j = 0 → hlF n b j = 0
  | 0, b, h => h
  | n + 1, b, h => by
    rw [hlF]
    split
    · exact h
    · exact hlF_zero n _ (by show b j / 2 = 0; omega)
theorem mxF_half (b : Nat → Nat) : ∀ n, mxF (fun j => b j / 2) n = mxF b n / 2
  | 0 => by simp [mxF]
  | n + 1 => by
    rw [mxF, mxF, mxF_half b n]
    omega
theorem mx_hv (b : Nat → Nat) : mx (fun j => b j / 2) = mx b / 2 := mxF_half b 64
theorem hlF_pos (n : Nat) : ∀ (b : Nat → Nat), 0 < mx b → 0 < mx (hlF n b) := by
  induction n with
  | zero => intro b h; exact h
  | succ n ih =>
    intro b h
    by_cases g : mx b ≤ 1099511627776
    · rw [hlF_stop g]
      exact h
    · rw [hlF, if_neg g]
      refine ih _ ?_
      rw [mx_hv]
      omega
theorem hlF_le (n : Nat) : ∀ (b : Nat → Nat), mx b < 2 ^ (40 + n) → mx (hlF n b) ≤ 1099511627776 := by
  induction n with
  | zero =>
    intro b h
    rw [hlF]
    have h2 : mx b < 1099511627776 := h
    exact Nat.le_of_lt h2
  | succ n ih =>
    intro b h
    by_cases g : mx b ≤ 1099511627776
    · rw [hlF_stop g]
      exact g
    · rw [hlF, if_neg g]
      refine ih _ ?_
      rw [mx_hv]
      rw [show 40 + (n + 1) = (40 + n) + 1 by omega, Nat.pow_succ] at h
      omega
theorem okB_hv {w : Nat → Bool} {b : Nat → Nat} (h1 : ∀ j, j < 64 → b j < 9223372036854775808) (h2 : ∀ j, j < 64 → w j = true → b j = 0) (h3 : 0 < mx b) : okB w (hvG b) := by
  have hm : mx b < 9223372036854775808 := mxF_lt (by omega) h1
  have hl2 := hlF_le 64 b (Nat.lt_of_lt_of_le hm (by decide))
  refine ⟨fun j hj => Nat.le_trans (mxF_ge hj) hl2, fun j hj hw => hlF_zero 64 b (h2 j hj hw), hlF_pos 64 b h3⟩
theorem okB_bal {w : Nat → Bool} (h : 0 < cntF w 64) : okB w (bal w) := by
  refine ⟨fun j _ => Nat.le_trans (bal_le w j) (by decide), fun j _ hw => by rw [bal, hw]; rfl, ?_⟩
  obtain ⟨h1, h2⟩ := kth_free (w := w) (k := 0) h
  have h3 := mxF_ge (f := bal w) h1
  have h4 : bal w (kth w 0) = 1 := by rw [bal, h2]; rfl
  show 0 < mxF (bal w) 64
  omega
theorem psh_wall {w : Nat → Bool} {b : Nat → Nat} {d j : Nat} (hd : d < 4) (hw : w j = true) : ∀ n, n ≤ 64 → pshF w b d n j = 0
  | 0, _ => rfl
  | n + 1, hn => by
    rw [pshF, psh_wall hd hw n (by omega)]
    cases hwn : w n
    · have hf := fre_of (w := w) (c := n) (by omega) hwn
      have e0 : ¬ j = n := fun g => by rw [g, hwn] at hw; cases hw
      have e1 : ¬ j = ld w n d 1 := fun g => by have := (fre_lt (ld_free (d := d) (k := 1) hf)).2; rw [← g, hw] at this; cases this
      have e2 : ¬ j = ld w n d 2 := fun g => by have := (fre_lt (ld_free (d := d) (k := 2) hf)).2; rw [← g, hw] at this; cases this
      rw [if_neg e0, if_neg e1, if_neg e2]
      rfl
    · rfl
theorem psh_own {w : Nat → Bool} {b : Nat → Nat} {d j : Nat} (hw : w j = false) : ∀ n, j < n → 3 * b j ≤ pshF w b d n j
  | n + 1, h => by
    rw [pshF]
    by_cases e : j = n
    · subst e
      rw [hw]
      simp only [Bool.false_eq_true, if_false, if_true]
      omega
    · have := psh_own (b := b) (d := d) hw n (by omega)
      omega
theorem okB_drv {w : Nat → Bool} {b : Nat → Nat} {d : Nat} (hd : d < 4) (h : okB w b) : okB w (drv w b d) := by
  obtain ⟨h1, h2, h3⟩ := h
  refine okB_hv (fun j hj => ?_) (fun j hj hw => psh_wall hd hw 64 (Nat.le_refl _)) ?_
  · have := pshF_le (w := w) (d := d) (n := 64) h1 j
    omega
  · obtain ⟨j, hj, e⟩ := mx_at b
    have hw : w j = false := by
      cases hw : w j
      · rfl
      · have := h2 j hj hw
        omega
    have h4 := psh_own (b := b) (d := d) hw 64 hj
    have h5 := mxF_ge (f := pshF w b d 64) hj
    show 0 < mxF (pshF w b d 64) 64
    omega
theorem okB_rdg {w : Nat → Bool} {b : Nat → Nat} {d r : Nat} (hf : 0 < cntF w 64) (h : okB w b) : okB w (rdg w b d r) := by
  obtain ⟨h1, h2, h3⟩ := h
  obtain ⟨g1, g2, g3⟩ := okB_bal hf
  by_cases e : mx (wgt w b d r) = 0
  · rw [rdg, if_pos e]
    exact okB_hv (fun j hj => by have := g1 j hj; omega) g2 g3
  · rw [rdg, if_neg e]
    refine okB_hv (fun j hj => by have := wgt_le (w := w) (d := d) (r := r) (h1 j hj); omega) (fun j hj hw => by rw [wgt, h2 j hj hw, Nat.zero_mul]) (by omega)
theorem okB_bh {w : Nat → Bool} {td rc : Nat → Nat} (hf : 0 < cntF w 64) : ∀ {n : Nat}, (∀ k, k < n → td k < 4) → okB w (bhF w td rc n)
  | 0, _ => okB_bal hf
  | n + 1, h => by
    have ih := okB_bh (rc := rc) hf (n := n) (fun k hk => h k (by omega))
    rw [bhF]
    split
    · exact okB_drv (h n (by omega)) ih
    · exact okB_rdg hf ih
theorem sm_pos {b : Nat → Nat} (h : 0 < mx b) : 0 < smF b 64 := by
  obtain ⟨j, hj, e⟩ := mx_at b
  have := smF_pos (f := b) hj
  omega
/-- samples that are drawn lie in free cells -/
theorem daC_ok {w : Nat → Bool} {cs us : Nat → Nat} {n W M r : Nat} {db : Int32} {x k : Nat} (hf : 0 < cntF w 64) (hn : 0 < n) (hc : ∀ j, j < n → cs j < 64 ∧ w (cs j) = false) : daC w cs us n W M r db x k < 64 ∧ w (daC w cs us n W M r db x k) = false := by
  rw [daC]
  split
  · exact kth_free (Nat.mod_lt _ hf)
  · obtain ⟨j, hj, e⟩ := oaF_mem cs us ((r + k * W) / M) n 0 0
    rw [e]
    exact hc j (by omega)
theorem ct_sum {cs : Nat → Nat} : ∀ {n : Nat}, (∀ j, j < n → cs j < 64) → smF (ctF cs n) 64 = n
  | 0, _ => smF_zero (fun i _ => rfl)
  | n + 1, h => by
    have ih := ct_sum (cs := cs) (n := n) (fun j hj => h j (by omega))
    have e : smF (ctF cs (n + 1)) 64 = smF (fun c => ctF cs n c + (if c = cs n then 1 else 0)) 64 := rfl
    rw [e, smF_add, ih, smF_one (h n (by omega)) (fun i _ hn => if_neg hn), if_pos rfl]
end CLS
