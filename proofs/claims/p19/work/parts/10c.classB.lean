section I32
theorem i32_lt {a b : Int32} : a < b ↔ a.toInt < b.toInt := Int32.lt_iff_toInt_lt
theorem i32_le {a b : Int32} : a ≤ b ↔ a.toInt ≤ b.toInt := Int32.le_iff_toInt_le
theorem i32_nlt {a b : Int32} (h : ¬ a < b) : b ≤ a := by rw [i32_lt] at h; rw [i32_le]; omega
end I32
