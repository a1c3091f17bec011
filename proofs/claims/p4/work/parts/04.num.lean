/-! numbers -/
theorem i_nle {a b : Int32} (h : a < b) (z : b ≤ a) : False := by
  rw [Int32.lt_iff_toInt_lt] at h
  rw [Int32.le_iff_toInt_le] at z
  omega
theorem pk_nle {a b : Int32} (h : a < b) (z : b ≤ a) : False := i_nle h z
theorem pk_le_of {a b : Int32} (h : ¬ a < b) : b ≤ a := by
  rw [Int32.lt_iff_toInt_lt] at h
  rw [Int32.le_iff_toInt_le]
  omega
theorem pk_lt_of {a b : Int32} (h : ¬ a ≤ b) : b < a := by
  rw [Int32.le_iff_toInt_le] at h
  rw [Int32.lt_iff_toInt_lt]
  omega
theorem pk_at_in {i : Int32} {j n : Nat} (h1 : ¬ i < 0) (h2 : i < nI j) (hj : j ≤ n) (hn : n < 2147483648) : vp_in i n := by
  rw [vp_in_iff]
  rw [Int32.lt_iff_toInt_lt, nI_toInt (by omega)] at h2
  rw [Int32.lt_iff_toInt_lt] at h1
  have h0 : (0 : Int32).toInt = 0 := by decide
  omega
