/-! Numbers: Int32 and Int64 by their integers -/
theorem ti_lit (n : Nat) (h : n < 2147483648) : (OfNat.ofNat n : Int32).toInt = (n : Int) := Int32.toInt_ofNat_of_lt h
theorem ti_bound (x : Int32) : -2147483648 ≤ x.toInt ∧ x.toInt ≤ 2147483647 := by
  have h1 := Int32.le_toInt x
  have h2 := Int32.toInt_lt x
  omega
theorem tl_bound (x : Int64) : -9223372036854775808 ≤ x.toInt ∧ x.toInt ≤ 9223372036854775807 := by
  have h1 := Int64.le_toInt x
  have h2 := Int64.toInt_lt x
  omega
theorem ti_bmod {z : Int} (h1 : -2147483648 ≤ z) (h2 : z ≤ 2147483647) : Int.bmod z (2 ^ 32) = z := by
  rw [Int.bmod_eq_of_le] <;> omega
theorem tl_bmod {z : Int} (h1 : -9223372036854775808 ≤ z) (h2 : z ≤ 9223372036854775807) : Int.bmod z (2 ^ 64) = z := by
  rw [Int.bmod_eq_of_le] <;> omega
theorem ti_add {x y : Int32} (h1 : -2147483648 ≤ x.toInt + y.toInt) (h2 : x.toInt + y.toInt ≤ 2147483647) : (x + y).toInt = x.toInt + y.toInt := by
  rw [Int32.toInt_add, ti_bmod h1 h2]
theorem ti_sub {x y : Int32} (h1 : -2147483648 ≤ x.toInt - y.toInt) (h2 : x.toInt - y.toInt ≤ 2147483647) : (x - y).toInt = x.toInt - y.toInt := by
  rw [Int32.toInt_sub, ti_bmod h1 h2]
theorem ti_mul {x y : Int32} (h1 : -2147483648 ≤ x.toInt * y.toInt) (h2 : x.toInt * y.toInt ≤ 2147483647) : (x * y).toInt = x.toInt * y.toInt := by
  rw [Int32.toInt_mul, ti_bmod h1 h2]
theorem ti_neg {x : Int32} (h : -2147483647 ≤ x.toInt) : (-x).toInt = -x.toInt := by
  have := ti_bound x
  rw [Int32.toInt_neg, ti_bmod (by omega) (by omega)]
theorem ti_div {x y : Int32} (h : 0 ≤ x.toInt) (h0 : 0 < y.toInt) : (x / y).toInt = x.toInt / y.toInt := by
  have hx := ti_bound x
  rw [Int32.toInt_div, Int.tdiv_eq_ediv_of_nonneg h]
  have h1 : 0 ≤ x.toInt / y.toInt := Int.ediv_nonneg h (by omega)
  have h2 : x.toInt / y.toInt ≤ x.toInt := Int.ediv_le_self _ h
  exact ti_bmod (by omega) (by omega)
theorem ti_inj {x y : Int32} (h : x.toInt = y.toInt) : x = y := Int32.toInt_inj.mp h
theorem ti_eq {x y : Int32} : x = y ↔ x.toInt = y.toInt := Int32.toInt_inj.symm
theorem ti_lt {x y : Int32} : x < y ↔ x.toInt < y.toInt := Int32.lt_iff_toInt_lt
theorem ti_le {x y : Int32} : x ≤ y ↔ x.toInt ≤ y.toInt := Int32.le_iff_toInt_le
theorem tl_add {x y : Int64} (h1 : -9223372036854775808 ≤ x.toInt + y.toInt) (h2 : x.toInt + y.toInt ≤ 9223372036854775807) : (x + y).toInt = x.toInt + y.toInt := by
  rw [Int64.toInt_add, tl_bmod h1 h2]
theorem tl_sub {x y : Int64} (h1 : -9223372036854775808 ≤ x.toInt - y.toInt) (h2 : x.toInt - y.toInt ≤ 9223372036854775807) : (x - y).toInt = x.toInt - y.toInt := by
  rw [Int64.toInt_sub, tl_bmod h1 h2]
theorem tl_mul {x y : Int64} (h1 : -9223372036854775808 ≤ x.toInt * y.toInt) (h2 : x.toInt * y.toInt ≤ 9223372036854775807) : (x * y).toInt = x.toInt * y.toInt := by
  rw [Int64.toInt_mul, tl_bmod h1 h2]
theorem tl_eq {x y : Int64} : x = y ↔ x.toInt = y.toInt := Int64.toInt_inj.symm
theorem tl_lt {x y : Int64} : x < y ↔ x.toInt < y.toInt := Int64.lt_iff_toInt_lt
theorem tl_le {x y : Int64} : x ≤ y ↔ x.toInt ≤ y.toInt := Int64.le_iff_toInt_le
theorem ti_l (x : Int32) : x.toInt64.toInt = x.toInt := Int32.toInt_toInt64 x
theorem tl_i {x : Int64} (h1 : -2147483648 ≤ x.toInt) (h2 : x.toInt ≤ 2147483647) : x.toInt32.toInt = x.toInt := by
  rw [Int64.toInt_toInt32, ti_bmod h1 h2]
theorem tl_div {x y : Int64} (h0 : 0 < y.toInt) : (x / y).toInt = x.toInt.tdiv y.toInt := by
  have hx := tl_bound x
  rw [Int64.toInt_div]
  refine tl_bmod ?_ ?_
  · by_cases h : 0 ≤ x.toInt
    · have := Int.tdiv_nonneg h (Int.le_of_lt h0); omega
    · have h1 : (-x.toInt).tdiv y.toInt ≤ -x.toInt := by
        rw [Int.tdiv_eq_ediv_of_nonneg (by omega)]; exact Int.ediv_le_self _ (by omega)
      rw [Int.neg_tdiv] at h1
      omega
  · by_cases h : 0 ≤ x.toInt
    · have h1 : x.toInt.tdiv y.toInt ≤ x.toInt := by
        rw [Int.tdiv_eq_ediv_of_nonneg h]; exact Int.ediv_le_self _ h
      omega
    · have h1 := Int.tdiv_nonneg (a := -x.toInt) (b := y.toInt) (by omega) (by omega)
      rw [Int.neg_tdiv] at h1
      omega
/-- Java's division towards zero, then down: the floor -/
theorem fl_tdiv (a b : Int) (hb : 0 < b) : (if a - a.tdiv b * b < 0 then a.tdiv b - 1 else a.tdiv b) = a / b := by
  have h1 : a - a.tdiv b * b = a.tmod b := by rw [Int.tmod_def, Int.mul_comm]
  rw [h1]
  by_cases h : 0 ≤ a
  · have h2 := Int.tmod_nonneg b h
    rw [if_neg (by omega), Int.tdiv_eq_ediv_of_nonneg h]
  · have h3 := Int.tdiv_eq_ediv (a := a) (b := b)
    have h4 := Int.tmod_eq_emod (a := a) (b := b)
    have h5 := Int.emod_nonneg a (show b ≠ 0 by omega)
    have h6 := Int.emod_lt_of_pos a hb
    by_cases h7 : b ∣ a
    · have h8 : a % b = 0 := Int.emod_eq_zero_of_dvd h7
      rw [if_pos (Or.inr h7)] at h3 h4
      rw [if_neg (by omega)]
      omega
    · rw [if_neg (by simp [h, h7])] at h3 h4
      rw [Int.sign_eq_one_of_pos hb] at h3
      have hnb : (b.natAbs : Int) = b := by omega
      rw [if_pos (by omega)]
      omega
theorem nI_of_toInt {x : Int32} (h : 0 ≤ x.toInt) : x = nI x.toInt.toNat := by
  have hb := ti_bound x
  apply ti_inj
  rw [nI_toInt (by omega)]
  omega
theorem tn_eq {x : Int32} (j : Nat) (h : x.toInt = (j : Int)) : Int32.toNatClampNeg x = j := by
  have hb := ti_bound x
  have e : x = nI j := ti_inj (by rw [h, nI_toInt (by omega)])
  rw [e, nI_clamp (by omega)]
theorem vp_of {x : Int32} {N : Nat} (h1 : 0 ≤ x.toInt) (h2 : x.toInt < (N : Int)) : vp_in x N := by
  rw [vp_in_iff]
  exact ⟨h1, h2⟩
