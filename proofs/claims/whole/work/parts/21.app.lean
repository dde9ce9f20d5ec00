/-! The arithmetic leaves of both sides: floor division, gains -/
theorem mw_is_le {n n' k t : Nat} (h : mw_is n k t) (hn : n ≤ n') : mw_is n' k t := ⟨h.1, h.2.1, Nat.lt_of_lt_of_le h.2.2 hn⟩
def iI (z : Int) : Int32 := Int32.ofInt z
theorem iI_toInt {z : Int} (h1 : -2147483648 ≤ z) (h2 : z ≤ 2147483647) : (iI z).toInt = z := by
  unfold iI
  rw [Int32.toInt_ofInt, ti_bmod h1 h2]
theorem iI_of (x : Int32) : iI x.toInt = x := by
  unfold iI
  exact Int32.ofInt_toInt x
theorem iI_eq {x : Int32} {z : Int} (h : x.toInt = z) : x = iI z := by rw [← h, iI_of]
theorem nI_iI (n : Nat) : nI n = iI (n : Int) := rfl
theorem li (n : Nat) : (OfNat.ofNat n : Int32) = nI n := rfl
/-- a gain in thousandths -/
def ap (v g : Int32) : Int32 := iI (v.toInt * g.toInt / 1000)
theorem mul_bd {v g B D : Int} (h1 : -B ≤ v) (h2 : v ≤ B) (h3 : 0 ≤ g) (h4 : g ≤ D) : -(B * D) ≤ v * g ∧ v * g ≤ B * D := by
  have hB : 0 ≤ B := by omega
  have a1 : v * g ≤ B * g := Int.mul_le_mul_of_nonneg_right h2 h3
  have a2 : (-B) * g ≤ v * g := Int.mul_le_mul_of_nonneg_right h1 h3
  have a3 : B * g ≤ B * D := Int.mul_le_mul_of_nonneg_left h4 hB
  rw [Int.neg_mul] at a2
  omega
theorem ap_toInt {v g : Int32} {B D : Int} (h1 : -B ≤ v.toInt) (h2 : v.toInt ≤ B) (h3 : 0 ≤ g.toInt) (h4 : g.toInt ≤ D) (hBD : B * D ≤ 2147483647000) : (ap v g).toInt = v.toInt * g.toInt / 1000 := by
  have := mul_bd h1 h2 h3 h4
  exact iI_toInt (by omega) (by omega)
theorem ap_bd {v g : Int32} {B D : Int} (h1 : -B ≤ v.toInt) (h2 : v.toInt ≤ B) (h3 : 0 ≤ g.toInt) (h4 : g.toInt ≤ D) (hBD : B * D ≤ 2147483647000) : -(B * D) / 1000 ≤ (ap v g).toInt ∧ (ap v g).toInt ≤ B * D / 1000 := by
  have h5 := mul_bd h1 h2 h3 h4
  rw [ap_toInt h1 h2 h3 h4 hBD]
  omega
theorem ap_1000 (v : Int32) : ap v 1000 = v := by
  unfold ap
  have h1 : (1000 : Int32).toInt = 1000 := ti_lit 1000 (by decide)
  rw [h1, Int.mul_ediv_cancel _ (by decide), iI_of]
theorem xor_sign (x y : Int32) : 0 ≤ (x ^^^ y) ↔ (0 ≤ x.toInt ↔ 0 ≤ y.toInt) := by
  rw [ti_le, Int32.toInt_zero]
  have h : ∀ z : Int32, 0 ≤ z.toInt ↔ z.toBitVec.msb = false := by
    intro z
    rw [Int32.toInt.eq_1, BitVec.msb_eq_toInt, decide_eq_false_iff_not]
    omega
  rw [h, h, h, Int32.toBitVec_xor, BitVec.msb_xor]
  cases x.toBitVec.msb <;> cases y.toBitVec.msb <;> simp
/-- Math.floorDiv by a positive number -/
theorem s_floorDiv {n : Nat} {M : mw_M} {x y : Int32} {Q : Int32 → Prop} (hy : 0 < y.toInt) (hq : Q (iI (x.toInt / y.toInt))) : w_J9_floorDiv_7cf53 n M x y Q := by
  have hbx := ti_bound x
  have hby := ti_bound y
  unfold w_J9_floorDiv_7cf53 w_J9_floorDiv_7cf53_b21
  refine ⟨fun e => by rw [e, Int32.toInt_zero] at hy; omega, ?_⟩
  rintro _ rfl
  rw [xor_sign]
  have hT : (x / y).toInt = x.toInt.tdiv y.toInt := by
    rw [Int32.toInt_div]
    refine ti_bmod ?_ ?_
    · by_cases h : 0 ≤ x.toInt
      · have := Int.tdiv_nonneg h (Int.le_of_lt hy); omega
      · have h1 : (-x.toInt).tdiv y.toInt ≤ -x.toInt := by
          rw [Int.tdiv_eq_ediv_of_nonneg (by omega)]; exact Int.ediv_le_self _ (by omega)
        rw [Int.neg_tdiv] at h1
        omega
    · by_cases h : 0 ≤ x.toInt
      · have h1 : x.toInt.tdiv y.toInt ≤ x.toInt := by
          rw [Int.tdiv_eq_ediv_of_nonneg h]; exact Int.ediv_le_self _ h
        omega
      · have h1 := Int.tdiv_nonneg (a := -x.toInt) (b := y.toInt) (by omega) (by omega)
        rw [Int.neg_tdiv] at h1
        omega
  have hF := fl_tdiv x.toInt y.toInt hy
  have hm : x.toInt - x.toInt.tdiv y.toInt * y.toInt = x.toInt.tmod y.toInt := by rw [Int.tmod_def, Int.mul_comm]
  have hpr : (x / y * y).toInt = x.toInt.tdiv y.toInt * y.toInt := by
    have h1 := Int.tmod_lt_of_pos x.toInt hy
    by_cases h : 0 ≤ x.toInt
    · have h2 := Int.tmod_nonneg y.toInt h
      have h3 := Int.tdiv_nonneg h (Int.le_of_lt hy)
      have h4 : 0 ≤ x.toInt.tdiv y.toInt * y.toInt := Int.mul_nonneg h3 (by omega)
      rw [ti_mul (by rw [hT]; omega) (by rw [hT]; omega), hT]
    · have h2 := Int.tmod_nonneg y.toInt (show 0 ≤ -x.toInt by omega)
      rw [Int.neg_tmod] at h2
      have h3 := Int.tdiv_nonneg (a := -x.toInt) (b := y.toInt) (by omega) (by omega)
      rw [Int.neg_tdiv] at h3
      have h4 : 0 ≤ (-x.toInt.tdiv y.toInt) * y.toInt := Int.mul_nonneg h3 (by omega)
      rw [Int.neg_mul] at h4
      rw [ti_mul (by rw [hT]; omega) (by rw [hT]; omega), hT]
  refine ⟨fun h => ?_, fun h => ⟨fun h2 => ?_, fun h2 => ?_⟩⟩
  · have hx0 : 0 ≤ x.toInt := h.mpr (by omega)
    have h2 := Int.tmod_nonneg y.toInt hx0
    rw [if_neg (by omega)] at hF
    rw [← hF, ← hT, iI_of] at hq
    exact hq
  · rw [ti_eq, hpr] at h2
    rw [if_neg (by omega)] at hF
    rw [← hF, ← hT, iI_of] at hq
    exact hq
  · have hx0 : ¬ 0 ≤ x.toInt := fun q => h ⟨fun _ => by omega, fun _ => q⟩
    rw [ti_eq, hpr] at h2
    have h3 := Int.tmod_nonneg y.toInt (show 0 ≤ -x.toInt by omega)
    rw [Int.neg_tmod] at h3
    rw [if_pos (by omega)] at hF
    have h1 : (1 : Int32).toInt = 1 := ti_lit 1 (by decide)
    have h5 : x.toInt ≤ x.toInt.tdiv y.toInt := by
      have h6 : (-x.toInt).tdiv y.toInt ≤ -x.toInt := by
        rw [Int.tdiv_eq_ediv_of_nonneg (by omega)]; exact Int.ediv_le_self _ (by omega)
      rw [Int.neg_tdiv] at h6
      omega
    have h7 : x.toInt ≤ x.toInt / y.toInt := by
      have h8 : x.toInt * y.toInt ≤ x.toInt * 1 := by
        have := Int.mul_le_mul_of_nonneg_left (show 1 ≤ y.toInt by omega) (show 0 ≤ -x.toInt by omega)
        rw [Int.neg_mul, Int.neg_mul] at this
        omega
      exact (Int.le_ediv_iff_mul_le hy).mpr (by omega)
    have h9 := Int.tdiv_nonneg (a := -x.toInt) (b := y.toInt) (by omega) (by omega)
    rw [Int.neg_tdiv] at h9
    have e : x / y - 1 = iI (x.toInt / y.toInt) := by
      apply iI_eq
      rw [ti_sub (by rw [hT, h1]; omega) (by rw [hT, h1]; omega), hT, h1, hF]
    rw [e]
    exact hq
theorem s_X7_applied {n : Nat} {M : mw_M} {x y : Int32} {Q : Int32 → Prop} {B D : Int} (h1 : -B ≤ x.toInt) (h2 : x.toInt ≤ B) (h3 : 0 ≤ y.toInt) (h4 : y.toInt ≤ D) (hBD : B * D ≤ 2147483647) (hq : Q (ap x y)) : w_X7_applied n M x y Q := by
  unfold w_X7_applied
  have hb := mul_bd h1 h2 h3 h4
  refine s_floorDiv (by rw [ti_lit 1000 (by decide)]; decide) ?_
  rw [ti_mul (by omega) (by omega), ti_lit 1000 (by decide)]
  exact hq
theorem s_X8_floor {n : Nat} {M : mw_M} {x y : Int64} {Q : Int64 → Prop} (hy : 0 < y.toInt) (hx : -9223372036854775807 ≤ x.toInt) (hq : ∀ r : Int64, r.toInt = x.toInt / y.toInt → Q r) : w_X8_floor n M x y Q := by
  unfold w_X8_floor w_X8_floor_b22
  have hbx := tl_bound x
  have hT := tl_div (x := x) hy
  have hF := fl_tdiv x.toInt y.toInt hy
  have hm : x.toInt - x.toInt.tdiv y.toInt * y.toInt = x.toInt.tmod y.toInt := by rw [Int.tmod_def, Int.mul_comm]
  have h0 : (0 : Int64).toInt = 0 := rfl
  have h1 : (1 : Int64).toInt = 1 := rfl
  refine ⟨fun e => by rw [e, h0] at hy; omega, ?_⟩
  rintro _ rfl
  have hpr : (x - x / y * y).toInt = x.toInt.tmod y.toInt := by
    have a1 := Int.tmod_lt_of_pos x.toInt hy
    by_cases h : 0 ≤ x.toInt
    · have h2 := Int.tmod_nonneg y.toInt h
      have h3 := Int.tdiv_nonneg h (Int.le_of_lt hy)
      have h4 : 0 ≤ x.toInt.tdiv y.toInt * y.toInt := Int.mul_nonneg h3 (by omega)
      have e1 : (x / y * y).toInt = x.toInt.tdiv y.toInt * y.toInt := by rw [tl_mul (by rw [hT]; omega) (by rw [hT]; omega), hT]
      rw [tl_sub (by rw [e1]; omega) (by rw [e1]; omega), e1, hm]
    · have h2 := Int.tmod_nonneg y.toInt (show 0 ≤ -x.toInt by omega)
      rw [Int.neg_tmod] at h2
      have h3 := Int.tdiv_nonneg (a := -x.toInt) (b := y.toInt) (by omega) (by omega)
      rw [Int.neg_tdiv] at h3
      have h4 : 0 ≤ (-x.toInt.tdiv y.toInt) * y.toInt := Int.mul_nonneg h3 (by omega)
      rw [Int.neg_mul] at h4
      have e1 : (x / y * y).toInt = x.toInt.tdiv y.toInt * y.toInt := by rw [tl_mul (by rw [hT]; omega) (by rw [hT]; omega), hT]
      rw [tl_sub (by rw [e1]; omega) (by rw [e1]; omega), e1, hm]
  rw [tl_le, hpr, h0]
  refine ⟨fun h => hq _ ?_, fun h => hq _ ?_⟩
  · rw [hT]
    rw [if_neg (by omega)] at hF
    exact hF
  · rw [if_pos (by omega)] at hF
    have h7 : x.toInt ≤ x.toInt / y.toInt := by
      have hx0 : x.toInt < 0 := by
        by_cases h9 : 0 ≤ x.toInt
        · exact absurd (Int.tmod_nonneg y.toInt h9) h
        · omega
      have h8 := Int.mul_le_mul_of_nonneg_left (show 1 ≤ y.toInt by omega) (show 0 ≤ -x.toInt by omega)
      rw [Int.neg_mul, Int.neg_mul] at h8
      exact (Int.le_ediv_iff_mul_le hy).mpr (by omega)
    have hq2 := tl_bound (x / y)
    rw [hT] at hq2
    rw [tl_sub (by rw [hT, h1]; omega) (by rw [hT, h1]; omega), hT, h1]
    exact hF
theorem s_X8_applied {n : Nat} {M : mw_M} {l : Int64} {v y : Int32} {Q : Int32 → Prop} {B D : Int} (hl : l.toInt = v.toInt) (h1 : -B ≤ v.toInt) (h2 : v.toInt ≤ B) (h3 : 0 ≤ y.toInt) (h4 : y.toInt ≤ D) (hBD : B * D ≤ 2147483647000) (hq : Q (ap v y)) : w_X8_applied n M l y Q := by
  unfold w_X8_applied
  have hb := mul_bd h1 h2 h3 h4
  have e1 : (l * y.toInt64).toInt = v.toInt * y.toInt := by rw [tl_mul (by rw [hl, ti_l]; omega) (by rw [hl, ti_l]; omega), hl, ti_l]
  have e2 : (1000 : Int64).toInt = 1000 := rfl
  refine s_X8_floor (by rw [e2]; decide) (by rw [e1]; omega) (fun r hr => ?_)
  rw [e1, e2] at hr
  have e3 : r.toInt32 = ap v y := iI_eq (by rw [tl_i (by omega) (by omega)]; exact hr)
  rw [e3]
  exact hq
