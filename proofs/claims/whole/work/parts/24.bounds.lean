/-! How large the values of clips and tracks are -/
theorem src_lt {R : Row} {c : Nat} (h : VC1 R c) : (rC R c 1).toInt.toNat < 6 ∧ rC R c 1 = nI (rC R c 1).toInt.toNat := by
  obtain ⟨-, ⟨h1, h2⟩, -⟩ := h
  exact ⟨by omega, nI_of_toInt h1⟩
theorem end_i {R : Row} {c : Nat} (h : VC1 R c) : (rC R c 2 + rC R c 4).toInt = (rC R c 2).toInt + (rC R c 4).toInt := by
  obtain ⟨-, -, ⟨h1, -⟩, ⟨h2, h3⟩, -⟩ := h
  exact ti_add (by omega) (by omega)
theorem cov_i {R : Row} {c : Nat} {n : Int32} (h : VC1 R c) (hc : cov R c n) : (n - rC R c 2).toInt = n.toInt - (rC R c 2).toInt ∧ 0 ≤ (n - rC R c 2).toInt ∧ (n - rC R c 2).toInt < (rC R c 4).toInt := by
  obtain ⟨h1, h2⟩ := hc
  have he := end_i h
  obtain ⟨-, -, ⟨h3, -⟩, ⟨h4, h5⟩, -⟩ := h
  rw [ti_le] at h1
  rw [ti_lt, he] at h2
  have e : (n - rC R c 2).toInt = n.toInt - (rC R c 2).toInt := ti_sub (by omega) (by omega)
  rw [e]
  exact ⟨rfl, by omega, by omega⟩
theorem at_i {R : Row} {c : Nat} {n : Int32} (h : VC1 R c) (hc : cov R c n) : (rC R c 3 + (n - rC R c 2)).toInt = (rC R c 3).toInt + (n - rC R c 2).toInt ∧ 0 ≤ (rC R c 3 + (n - rC R c 2)).toInt ∧ (rC R c 3 + (n - rC R c 2)).toInt ≤ 7999 := by
  obtain ⟨-, h1, h2⟩ := cov_i h hc
  obtain ⟨-, -, ⟨h3, h6, h7⟩, ⟨h4, h5⟩, -⟩ := h
  have e : (rC R c 3 + (n - rC R c 2)).toInt = (rC R c 3).toInt + (n - rC R c 2).toInt := ti_add (by omega) (by omega)
  rw [e]
  exact ⟨rfl, by omega, by omega⟩
theorem back_i {R : Row} {c : Nat} {n : Int32} (h : VC1 R c) (hc : cov R c n) : (rC R c 4 - 1).toInt = (rC R c 4).toInt - 1 ∧ (rC R c 4 - 1 - (n - rC R c 2)).toInt = (rC R c 4).toInt - 1 - (n - rC R c 2).toInt ∧ 0 ≤ (rC R c 4 - 1 - (n - rC R c 2)).toInt := by
  obtain ⟨-, h1, h2⟩ := cov_i h hc
  obtain ⟨-, -, ⟨h3, h6, h7⟩, ⟨h4, h5⟩, -⟩ := h
  have o1 : (1 : Int32).toInt = 1 := rfl
  have e : (rC R c 4 - 1).toInt = (rC R c 4).toInt - 1 := by rw [ti_sub (by omega) (by omega), o1]
  have e2 : (rC R c 4 - 1 - (n - rC R c 2)).toInt = (rC R c 4).toInt - 1 - (n - rC R c 2).toInt := by rw [ti_sub (by omega) (by omega), e]
  rw [e2]
  exact ⟨e, rfl, by omega⟩
/-- the sample under a clip -/
def sv (R : Row) (c : Nat) (n : Int32) : Int32 := if rC R c 3 + (n - rC R c 2) < rS R (rC R c 1).toInt.toNat 3 then smpR R (rC R c 1).toInt.toNat (rC R c 3 + (n - rC R c 2)) else 0
theorem sv_bd {R : Row} {c : Nat} {n : Int32} (hs : VS R) (h : VC1 R c) (hc : cov R c n) : -10000 ≤ (sv R c n).toInt ∧ (sv R c n).toInt ≤ 10000 := by
  unfold sv
  split
  · rename_i hlt
    exact smpR_bd hs (src_lt h).1 (at_i h hc).2.1 hlt
  · rw [Int32.toInt_zero]; omega
theorem rawR_eq (R : Row) (c : Nat) (n : Int32) : rawR R c n = fd (fd (ap (sv R c n) (rC R c 5)) (n - rC R c 2) (rC R c 6) (rC R c 8)) (rC R c 4 - 1 - (n - rC R c 2)) (rC R c 7) (rC R c 8) := rfl
theorem gv_bd {R : Row} {c : Nat} {n : Int32} (hs : VS R) (h : VC1 R c) (hc : cov R c n) : -20000 ≤ (ap (sv R c n) (rC R c 5)).toInt ∧ (ap (sv R c n) (rC R c 5)).toInt ≤ 20000 := by
  obtain ⟨h1, h2⟩ := sv_bd hs h hc
  obtain ⟨-, -, -, -, ⟨g1, g2⟩, -⟩ := h
  have := ap_bd (B := 10000) (D := 2000) h1 h2 g1 g2 (by omega)
  omega
theorem fv_bd {R : Row} {c : Nat} {n : Int32} (hs : VS R) (h : VC1 R c) (hc : cov R c n) : -20000 ≤ (fd (ap (sv R c n) (rC R c 5)) (n - rC R c 2) (rC R c 6) (rC R c 8)).toInt ∧ (fd (ap (sv R c n) (rC R c 5)) (n - rC R c 2) (rC R c 6) (rC R c 8)).toInt ≤ 20000 := by
  obtain ⟨h1, h2⟩ := gv_bd hs h hc
  obtain ⟨-, h3, -⟩ := cov_i h hc
  obtain ⟨-, -, -, -, -, ⟨-, g2⟩, -⟩ := h
  exact fd_bd h1 h2 (by omega) h3 g2
theorem rawR_bd {R : Row} {c : Nat} {n : Int32} (hs : VS R) (h : VC1 R c) (hc : cov R c n) : -20000 ≤ (rawR R c n).toInt ∧ (rawR R c n).toInt ≤ 20000 := by
  obtain ⟨h1, h2⟩ := fv_bd hs h hc
  obtain ⟨-, -, h3⟩ := back_i h hc
  obtain ⟨-, -, -, -, -, -, ⟨-, g2⟩, -⟩ := h
  rw [rawR_eq]
  exact fd_bd h1 h2 (by omega) h3 g2
/-- points of a lane -/
theorem pa_s {R : Row} {t : Nat} {n : Int32} : pa R t n ≤ pn R t ∧ (∀ j, j < pa R t n → rT R t (5 + 3 * j) < n) ∧ (pa R t n < pn R t → ¬ rT R t (5 + 3 * pa R t n) < n) := lead_ex _ _
theorem pa_is {R : Row} {t k : Nat} {n : Int32} (h : k ≤ pn R t) (h1 : ∀ j, j < k → rT R t (5 + 3 * j) < n) (h2 : k < pn R t → ¬ rT R t (5 + 3 * k) < n) : pa R t n = k := lead_is h h1 h2
theorem ti_1 {x : Int32} (h : x.toInt < 2147483647) : (x + 1).toInt = x.toInt + 1 := by
  have o1 : (1 : Int32).toInt = 1 := rfl
  have := ti_bound x
  rw [ti_add (by rw [o1]; omega) (by rw [o1]; omega), o1]
/-- the two neighbours of a position strictly inside a lane -/
theorem lane_nb {R : Row} (hp : VP R) {t : Nat} (ht : t < 4) {n : Int32} (hn : 0 ≤ n.toInt) (hn2 : n.toInt ≤ 3999) {k : Nat} (hk : pa R t (n + 1) = k + 1) (hk2 : k + 1 < pn R t) :
    (0 ≤ (rT R t (5 + 3 * k)).toInt ∧ (rT R t (5 + 3 * k)).toInt ≤ n.toInt) ∧ n.toInt < (rT R t (5 + 3 * (k + 1))).toInt ∧ (rT R t (5 + 3 * (k + 1))).toInt ≤ 3999 ∧ (0 ≤ (rT R t (5 + 3 * k + 1)).toInt ∧ (rT R t (5 + 3 * k + 1)).toInt ≤ 2000) ∧ 0 ≤ (rT R t (5 + 3 * (k + 1) + 1)).toInt ∧ (rT R t (5 + 3 * (k + 1) + 1)).toInt ≤ 2000 := by
  obtain ⟨h1, h2, h3⟩ := pa_s (R := R) (t := t) (n := n + 1)
  have a1 := h2 k (by omega)
  have a2 := h3 (by omega)
  rw [hk] at a2
  rw [ti_lt, ti_1 (by omega)] at a1 a2
  obtain ⟨p1, p2, -⟩ := (hp t ht).1 k (by omega)
  obtain ⟨q1, q2, -⟩ := (hp t ht).1 (k + 1) hk2
  omega
theorem mid_bd {u v a b : Int} (ha : 0 ≤ a) (hab : a < b) (hu : 0 ≤ u) (hu2 : u ≤ 2000) (hv : 0 ≤ v) (hv2 : v ≤ 2000) : 0 ≤ u + (v - u) * a / b ∧ u + (v - u) * a / b ≤ 2000 := by
  by_cases h : 0 ≤ v - u
  · have h1 : 0 ≤ (v - u) * a := Int.mul_nonneg h ha
    have h2 : 0 ≤ (v - u) * a / b := Int.ediv_nonneg h1 (by omega)
    have h3 : (v - u) * a / b ≤ v - u := Int.ediv_le_of_le_mul (by omega) (Int.mul_le_mul_of_nonneg_left (by omega) h)
    omega
  · have h1 : 0 ≤ (u - v) * a := Int.mul_nonneg (by omega) ha
    have e : (v - u) * a = -((u - v) * a) := by rw [← Int.neg_mul]; congr 1; omega
    have h3 : (u - v) * a ≤ (u - v) * b := Int.mul_le_mul_of_nonneg_left (by omega) (by omega)
    have h4 : -(u - v) ≤ (v - u) * a / b := by
      apply (Int.le_ediv_iff_mul_le (by omega)).mpr
      rw [e, Int.neg_mul]
      omega
    have h5 : (v - u) * a / b ≤ 0 := by
      have : (v - u) * a / b ≤ 0 / b := Int.ediv_le_ediv (by omega) (by omega)
      rw [Int.zero_ediv] at this
      exact this
    omega
theorem laneR_bd {R : Row} (hp : VP R) {t : Nat} (ht : t < 4) {n : Int32} (hn : 0 ≤ n.toInt) (hn2 : n.toInt ≤ 3999) : 0 ≤ (laneR R t n).toInt ∧ (laneR R t n).toInt ≤ 2000 := by
  obtain ⟨h1, -, -⟩ := pa_s (R := R) (t := t) (n := n + 1)
  unfold laneR
  split
  · decide
  · rename_i h0
    split
    · obtain ⟨-, p, -⟩ := (hp t ht).1 0 (by omega)
      exact p
    · rename_i hk0
      obtain ⟨k, hk⟩ : ∃ k, pa R t (n + 1) = k + 1 := ⟨pa R t (n + 1) - 1, by omega⟩
      rw [hk, Nat.add_sub_cancel]
      split
      · obtain ⟨-, p, -⟩ := (hp t ht).1 k (by omega)
        exact p
      · rename_i hh
        have hlt : k + 1 < pn R t := by
          rw [not_or] at hh
          omega
        obtain ⟨a1, a2, a3, a4, a5, a6⟩ := lane_nb hp ht hn hn2 hk hlt
        have hm := mid_bd (u := (rT R t (5 + 3 * k + 1)).toInt) (v := (rT R t (5 + 3 * (k + 1) + 1)).toInt) (a := n.toInt - (rT R t (5 + 3 * k)).toInt) (b := (rT R t (5 + 3 * (k + 1))).toInt - (rT R t (5 + 3 * k)).toInt) (by omega) (by omega) a4.1 a4.2 a5 a6
        generalize ((rT R t (5 + 3 * (k + 1) + 1)).toInt - (rT R t (5 + 3 * k + 1)).toInt) * (n.toInt - (rT R t (5 + 3 * k)).toInt) / ((rT R t (5 + 3 * (k + 1))).toInt - (rT R t (5 + 3 * k)).toInt) = z at hm ⊢
        have e := iI_toInt (z := z) (by omega) (by omega)
        rw [ti_add (by rw [e]; omega) (by rw [e]; omega), e]
        exact hm
/-- clips over a position -/
theorem fc_s {R : Row} {t : Nat} {n : Int32} : fc R t n ≤ cn R ∧ (∀ j, j < fc R t n → ¬ on R t n j) ∧ (fc R t n < cn R → on R t n (fc R t n)) := by
  obtain ⟨h1, h2, h3⟩ := lead_ex (fun c => ¬ on R t n c) (cn R)
  exact ⟨h1, h2, fun h => Classical.byContradiction (h3 h)⟩
theorem fc_is {R : Row} {t k : Nat} {n : Int32} (h : k ≤ cn R) (h1 : ∀ j, j < k → ¬ on R t n j) (h2 : k < cn R → on R t n k) : fc R t n = k := lead_is h h1 (fun q r => r (h2 q))
theorem wxf_bd {R : Row} (hC : VC R) (hL : VL R) {t a : Nat} {n : Int32} (hb : a + 1 < cn R) (h1 : on R t n a) (h2 : on R t n (a + 1)) :
    (rC R a 2 + rC R a 4 - rC R (a + 1) 2).toInt = (rC R a 2).toInt + (rC R a 4).toInt - (rC R (a + 1) 2).toInt ∧ 1 ≤ (rC R a 2).toInt + (rC R a 4).toInt - (rC R (a + 1) 2).toInt ∧ 0 ≤ (wxf R a n).toInt ∧ (wxf R a n).toInt ≤ 1000 ∧ (1000 - wxf R a n).toInt = 1000 - (wxf R a n).toInt := by
  have va := hC.2 a (by omega)
  have vb := hC.2 (a + 1) hb
  obtain ⟨c1, c2, c3⟩ := cov_i va h1.2
  obtain ⟨d1, d2, d3⟩ := cov_i vb h2.2
  have ea := end_i va
  have l1 : (1000 : Int32).toInt = 1000 := rfl
  obtain ⟨-, -, ⟨s1, -⟩, ⟨s2, s3⟩, -⟩ := va
  obtain ⟨-, -, ⟨u1, -⟩, ⟨u2, u3⟩, -⟩ := vb
  have e1 : (rC R a 2 + rC R a 4 - rC R (a + 1) 2).toInt = (rC R a 2).toInt + (rC R a 4).toInt - (rC R (a + 1) 2).toInt := by rw [ti_sub (by rw [ea]; omega) (by rw [ea]; omega), ea]
  refine ⟨e1, by omega, ?_⟩
  unfold wxf
  have e2 : (1000 * (n - rC R (a + 1) 2)).toInt = 1000 * (n - rC R (a + 1) 2).toInt := by rw [ti_mul (by rw [l1]; omega) (by rw [l1]; omega), l1]
  have e3 : (1000 * (n - rC R (a + 1) 2) / (rC R a 2 + rC R a 4 - rC R (a + 1) 2)).toInt = 1000 * (n - rC R (a + 1) 2).toInt / ((rC R a 2).toInt + (rC R a 4).toInt - (rC R (a + 1) 2).toInt) := by rw [ti_div (by rw [e2]; omega) (by rw [e1]; omega), e2, e1]
  have h5 : 0 ≤ 1000 * (n - rC R (a + 1) 2).toInt / ((rC R a 2).toInt + (rC R a 4).toInt - (rC R (a + 1) 2).toInt) := Int.ediv_nonneg (by omega) (by omega)
  have h6 : 1000 * (n - rC R (a + 1) 2).toInt / ((rC R a 2).toInt + (rC R a 4).toInt - (rC R (a + 1) 2).toInt) ≤ 1000 := Int.ediv_le_of_le_mul (by omega) (by omega)
  rw [← e3] at h5 h6
  exact ⟨h5, h6, by rw [ti_sub (by rw [l1]; omega) (by rw [l1]; omega), l1]⟩
theorem sumR_bd {R : Row} (hS : VS R) (hC : VC R) (hL : VL R) (t : Nat) (n : Int32) : -40000 ≤ (sumR R t n).toInt ∧ (sumR R t n).toInt ≤ 40000 := by
  obtain ⟨f1, f2, f3⟩ := fc_s (R := R) (t := t) (n := n)
  unfold sumR
  split
  · rw [Int32.toInt_zero]; omega
  · rename_i hne
    have ho := f3 (by omega)
    have r1 := rawR_bd hS (hC.2 _ (by omega)) ho.2
    by_cases h : two R t n
    · rw [ifp_t h]
      obtain ⟨h1, h2⟩ := h
      have r2 := rawR_bd hS (hC.2 _ h1) h2.2
      obtain ⟨-, -, w1, w2, w3⟩ := wxf_bd hC hL h1 ho h2
      have b1 := ap_bd (D := 1000) r1.1 r1.2 (g := 1000 - wxf R (fc R t n) n) (by rw [w3]; omega) (by rw [w3]; omega) (by omega)
      have b2 := ap_bd (D := 1000) r2.1 r2.2 w1 w2 (by omega)
      rw [ti_add (by omega) (by omega)]
      omega
    · rw [ifp_f h]
      omega
theorem dryR_bd {R : Row} (hS : VS R) (hC : VC R) (hT : VT R) (hP : VP R) (hL : VL R) {t : Nat} (ht : t < 4) {n : Int32} (hn : 0 ≤ n.toInt) (hn2 : n.toInt ≤ 3999) : (-80000 ≤ (ap (sumR R t n) (rT R t 0)).toInt ∧ (ap (sumR R t n) (rT R t 0)).toInt ≤ 80000) ∧ -160000 ≤ (dryR R t n).toInt ∧ (dryR R t n).toInt ≤ 160000 := by
  obtain ⟨s1, s2⟩ := sumR_bd hS hC hL t n
  obtain ⟨⟨g1, g2⟩, -⟩ := hT t ht
  obtain ⟨l1, l2⟩ := laneR_bd hP ht hn hn2
  have b1 := ap_bd (D := 2000) s1 s2 g1 g2 (by omega)
  have b2 := ap_bd (B := 80000) (D := 2000) (v := ap (sumR R t n) (rT R t 0)) (by omega) (by omega) l1 l2 (by omega)
  unfold dryR
  omega
