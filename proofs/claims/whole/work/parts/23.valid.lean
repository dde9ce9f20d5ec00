/-! What a state always keeps, and how large its values are -/
theorem ti_rem {x y : Int32} (h : 0 ≤ x.toInt) (h0 : 0 < y.toInt) : (x - x / y * y).toInt = x.toInt % y.toInt := by
  have hd := ti_div h h0
  have h1 : 0 ≤ x.toInt / y.toInt := Int.ediv_nonneg h (by omega)
  have h2 := Int.mul_ediv_add_emod x.toInt y.toInt
  have h3 := Int.emod_nonneg x.toInt (show y.toInt ≠ 0 by omega)
  have h4 : 0 ≤ y.toInt * (x.toInt / y.toInt) := Int.mul_nonneg (by omega) h1
  have hb := ti_bound x
  have e1 : (x / y * y).toInt = y.toInt * (x.toInt / y.toInt) := by
    rw [ti_mul (by rw [hd, Int.mul_comm]; omega) (by rw [hd, Int.mul_comm]; omega), hd, Int.mul_comm]
  rw [ti_sub (by rw [e1]; omega) (by rw [e1]; omega), e1]
  omega
theorem tl_divN {x y : Int64} (h : 0 ≤ x.toInt) (h0 : 0 < y.toInt) : (x / y).toInt = x.toInt / y.toInt := by rw [tl_div h0, Int.tdiv_eq_ediv_of_nonneg h]
theorem tl_rem {x y : Int64} (h : 0 ≤ x.toInt) (h0 : 0 < y.toInt) : (x - x / y * y).toInt = x.toInt % y.toInt := by
  have hd := tl_divN h h0
  have h1 : 0 ≤ x.toInt / y.toInt := Int.ediv_nonneg h (by omega)
  have h2 := Int.mul_ediv_add_emod x.toInt y.toInt
  have h3 := Int.emod_nonneg x.toInt (show y.toInt ≠ 0 by omega)
  have h4 : 0 ≤ y.toInt * (x.toInt / y.toInt) := Int.mul_nonneg (by omega) h1
  have hb := tl_bound x
  have e1 : (x / y * y).toInt = y.toInt * (x.toInt / y.toInt) := by
    rw [tl_mul (by rw [hd, Int.mul_comm]; omega) (by rw [hd, Int.mul_comm]; omega), hd, Int.mul_comm]
  rw [tl_sub (by rw [e1]; omega) (by rw [e1]; omega), e1]
  omega
def VS (R : Row) : Prop := ∀ s, s < 6 → (0 ≤ (rS R s 0).toInt ∧ (rS R s 0).toInt ≤ 3) ∧ (0 ≤ (rS R s 1).toInt ∧ (rS R s 1).toInt ≤ 10000) ∧ (1 ≤ (rS R s 2).toInt ∧ (rS R s 2).toInt ≤ 1000) ∧ 1 ≤ (rS R s 3).toInt ∧ (rS R s 3).toInt ≤ 4000
def VC1 (R : Row) (c : Nat) : Prop := (0 ≤ (rC R c 0).toInt ∧ (rC R c 0).toInt ≤ 3) ∧ (0 ≤ (rC R c 1).toInt ∧ (rC R c 1).toInt ≤ 5) ∧ (0 ≤ (rC R c 2).toInt ∧ 0 ≤ (rC R c 3).toInt ∧ (rC R c 3).toInt ≤ 3999) ∧ (1 ≤ (rC R c 4).toInt ∧ (rC R c 2).toInt + (rC R c 4).toInt ≤ 4000) ∧ (0 ≤ (rC R c 5).toInt ∧ (rC R c 5).toInt ≤ 2000) ∧ (0 ≤ (rC R c 6).toInt ∧ (rC R c 6).toInt ≤ 4000) ∧ (0 ≤ (rC R c 7).toInt ∧ (rC R c 7).toInt ≤ 4000) ∧ 0 ≤ (rC R c 8).toInt ∧ (rC R c 8).toInt ≤ 1
def VC (R : Row) : Prop := (0 ≤ (R 8).toInt ∧ (R 8).toInt ≤ 12) ∧ ∀ c, c < cn R → VC1 R c
def VT (R : Row) : Prop := ∀ t, t < 4 → (0 ≤ (rT R t 0).toInt ∧ (rT R t 0).toInt ≤ 2000) ∧ (-100 ≤ (rT R t 1).toInt ∧ (rT R t 1).toInt ≤ 100) ∧ (0 ≤ (rT R t 2).toInt ∧ (rT R t 2).toInt ≤ 1) ∧ (0 ≤ (rT R t 3).toInt ∧ (rT R t 3).toInt ≤ 1) ∧ (0 ≤ (rT R t 4).toInt ∧ (rT R t 4).toInt ≤ 8) ∧ (-1 ≤ (rT R t 29).toInt ∧ (rT R t 29).toInt ≤ 3) ∧ (0 ≤ (rT R t 30).toInt ∧ (rT R t 30).toInt ≤ 100000) ∧ (0 ≤ (rT R t 31).toInt ∧ (rT R t 31).toInt ≤ 1000) ∧ (0 ≤ (rT R t 32).toInt ∧ (rT R t 32).toInt ≤ 1000) ∧ 0 ≤ (rT R t 33).toInt ∧ (rT R t 33).toInt ≤ 1000
def VP (R : Row) : Prop := ∀ t, t < 4 → (∀ k, k < pn R t → (0 ≤ (rT R t (5 + 3 * k)).toInt ∧ (rT R t (5 + 3 * k)).toInt ≤ 3999) ∧ (0 ≤ (rT R t (5 + 3 * k + 1)).toInt ∧ (rT R t (5 + 3 * k + 1)).toInt ≤ 2000) ∧ 0 ≤ (rT R t (5 + 3 * k + 2)).toInt ∧ (rT R t (5 + 3 * k + 2)).toInt ≤ 1) ∧ ∀ k, k + 1 < pn R t → (rT R t (5 + 3 * k)).toInt < (rT R t (5 + 3 * (k + 1))).toInt
def VX (R : Row) : Prop := (0 ≤ (R 0).toInt ∧ (R 0).toInt ≤ 3999) ∧ (0 ≤ (R 1).toInt ∧ (R 1).toInt < (R 2).toInt ∧ (R 2).toInt ≤ 4000) ∧ 0 ≤ (R 3).toInt ∧ (R 3).toInt ≤ 2000
def VL (R : Row) : Prop := (∀ c, c + 1 < cn R → (rC R c 0).toInt < (rC R (c + 1) 0).toInt ∨ (rC R c 0 = rC R (c + 1) 0 ∧ (rC R c 2).toInt < (rC R (c + 1) 2).toInt ∧ (rC R c 2).toInt + (rC R c 4).toInt < (rC R (c + 1) 2).toInt + (rC R (c + 1) 4).toInt)) ∧ ∀ c, c + 2 < cn R → rC R c 0 = rC R (c + 2) 0 → (rC R c 2).toInt + (rC R c 4).toInt ≤ (rC R (c + 2) 2).toInt
def VAL (R : Row) : Prop := VS R ∧ VC R ∧ VT R ∧ VP R ∧ VX R ∧ VL R
theorem VC.cn {R : Row} (h : VC R) : R 8 = nI (cn R) ∧ cn R ≤ 12 := by
  obtain ⟨⟨h1, h2⟩, -⟩ := h
  exact ⟨nI_of_toInt h1, by unfold _root_.Jvm.Pilot.@@N@@.cn; omega⟩
theorem VT.pn {R : Row} (h : VT R) {t : Nat} (ht : t < 4) : rT R t 4 = nI (pn R t) ∧ pn R t ≤ 8 := by
  obtain ⟨-, -, -, -, ⟨h1, h2⟩, -⟩ := h t ht
  exact ⟨nI_of_toInt h1, by unfold _root_.Jvm.Pilot.@@N@@.pn; omega⟩
theorem mod_lt {a b : Int} (h : 0 < b) : 0 ≤ a % b ∧ a % b < b := ⟨Int.emod_nonneg a (by omega), Int.emod_lt_of_pos a h⟩
theorem noise_bd {a p i : Int32} (ha : 0 ≤ a.toInt) (ha2 : a.toInt ≤ 10000) (hp : 1 ≤ p.toInt) (hp2 : p.toInt ≤ 1000) (hi : 0 ≤ i.toInt) (hi2 : i.toInt ≤ 4000) : -10000 ≤ (noise a p i).toInt ∧ (noise a p i).toInt ≤ 10000 := by
  unfold noise
  have l1 : (1103515245 : Int64).toInt = 1103515245 := rfl
  have l2 : (12345 : Int64).toInt = 12345 := rfl
  have l3 : (2147483648 : Int64).toInt = 2147483648 := rfl
  have l4 : (65536 : Int64).toInt = 65536 := rfl
  have o1 : (1 : Int32).toInt = 1 := rfl
  have o2 : (2 : Int32).toInt = 2 := rfl
  have e1 : (i + 1).toInt = i.toInt + 1 := by rw [ti_add (by omega) (by omega), o1]
  have m1 : (1103515245 * Int32.toInt64 (i + 1)).toInt = 1103515245 * (i.toInt + 1) := by rw [tl_mul (by rw [ti_l, e1, l1]; omega) (by rw [ti_l, e1, l1]; omega), ti_l, e1, l1]
  have m2 : (12345 * Int32.toInt64 p).toInt = 12345 * p.toInt := by rw [tl_mul (by rw [ti_l, l2]; omega) (by rw [ti_l, l2]; omega), ti_l, l2]
  have m3 : (1103515245 * Int32.toInt64 (i + 1) + 12345 * Int32.toInt64 p).toInt = 1103515245 * (i.toInt + 1) + 12345 * p.toInt := by rw [tl_add (by rw [m1, m2]; omega) (by rw [m1, m2]; omega), m1, m2]
  generalize 1103515245 * Int32.toInt64 (i + 1) + 12345 * Int32.toInt64 p = X at m3 ⊢
  have hX : 0 ≤ X.toInt := by omega
  have r1 := tl_rem (y := 2147483648) hX (by rw [l3]; decide)
  generalize X - X / 2147483648 * 2147483648 = Z at r1 ⊢
  have hZ := mod_lt (a := X.toInt) (b := (2147483648 : Int64).toInt) (by rw [l3]; decide)
  rw [← r1, l3] at hZ
  have d1 := tl_divN (y := 65536) hZ.1 (by rw [l4]; decide)
  have hd : 0 ≤ Z.toInt / (65536 : Int64).toInt := Int.ediv_nonneg hZ.1 (by rw [l4]; decide)
  rw [← d1] at hd
  have w1 : (2 * a + 1).toInt = 2 * a.toInt + 1 := by
    have h2 : (2 * a).toInt = 2 * a.toInt := by rw [ti_mul (by rw [o2]; omega) (by rw [o2]; omega), o2]
    rw [ti_add (by rw [h2, o1]; omega) (by rw [h2, o1]; omega), h2, o1]
  have w2 : (Int32.toInt64 (2 * a + 1)).toInt = 2 * a.toInt + 1 := by rw [ti_l, w1]
  have r2 := tl_rem (y := Int32.toInt64 (2 * a + 1)) hd (by rw [w2]; omega)
  have hr := mod_lt (a := (Z / 65536).toInt) (b := (Int32.toInt64 (2 * a + 1)).toInt) (by rw [w2]; omega)
  rw [← r2, w2] at hr
  generalize Z / 65536 - Z / 65536 / Int32.toInt64 (2 * a + 1) * Int32.toInt64 (2 * a + 1) = V at hr ⊢
  have e2 : V.toInt32.toInt = V.toInt := tl_i (by omega) (by omega)
  rw [ti_sub (by omega) (by omega), e2]
  omega
theorem smp_bd {sh a p i : Int32} (ha : 0 ≤ a.toInt) (ha2 : a.toInt ≤ 10000) (hp : 1 ≤ p.toInt) (hp2 : p.toInt ≤ 1000) (hi : 0 ≤ i.toInt) (hi2 : i.toInt ≤ 4000) : -10000 ≤ (smp sh a p i).toInt ∧ (smp sh a p i).toInt ≤ 10000 := by
  unfold smp
  have o2 : (2 : Int32).toInt = 2 := rfl
  have hq := mod_lt (a := i.toInt) (b := p.toInt) (by omega)
  rw [← ti_rem hi (by omega)] at hq
  generalize i - i / p * p = q at hq ⊢
  split
  · split
    · rw [ti_neg (by omega)]; omega
    · omega
  · split
    · have h2 : (2 * a).toInt = 2 * a.toInt := by rw [ti_mul (by rw [o2]; omega) (by rw [o2]; omega), o2]
      have hm := mul_bd (v := 2 * a.toInt) (g := q.toInt) (B := 20000) (D := 1000) (by omega) (by omega) hq.1 (by omega)
      have h3 : (2 * a * q).toInt = 2 * a.toInt * q.toInt := by rw [ti_mul (by rw [h2]; omega) (by rw [h2]; omega), h2]
      have hn : 0 ≤ 2 * a.toInt * q.toInt := Int.mul_nonneg (by omega) hq.1
      have h4 : (2 * a * q / p).toInt = 2 * a.toInt * q.toInt / p.toInt := by rw [ti_div (by rw [h3]; exact hn) (by omega), h3]
      have h5 : 0 ≤ 2 * a.toInt * q.toInt / p.toInt := Int.ediv_nonneg hn (by omega)
      have h6 : 2 * a.toInt * q.toInt / p.toInt ≤ 2 * a.toInt := by
        apply Int.ediv_le_of_le_mul (by omega)
        exact Int.mul_le_mul_of_nonneg_left (by omega) (by omega)
      rw [ti_sub (by rw [h4]; omega) (by rw [h4]; omega), h4]
      omega
    · split
      · exact noise_bd ha ha2 hp hp2 hi hi2
      · omega
theorem smpR_bd {R : Row} (h : VS R) {s : Nat} (hs : s < 6) {i : Int32} (hi : 0 ≤ i.toInt) (hi2 : i < rS R s 3) : -10000 ≤ (smpR R s i).toInt ∧ (smpR R s i).toInt ≤ 10000 := by
  obtain ⟨-, ⟨a1, a2⟩, ⟨p1, p2⟩, z1, z2⟩ := h s hs
  rw [ti_lt] at hi2
  exact smp_bd a1 a2 p1 p2 hi (by omega)
/-- the gain of a fade -/
def fg (i len cv : Int32) : Int32 := if cv = 1 then (1000 * i / len) * (1000 * i / len) / 1000 else 1000 * i / len
theorem fg_bd {i len cv : Int32} (hi : 0 ≤ i.toInt) (h : i < len) (hl : len.toInt ≤ 4000) : (0 ≤ (1000 * i / len).toInt ∧ (1000 * i / len).toInt ≤ 999) ∧ 0 ≤ (fg i len cv).toInt ∧ (fg i len cv).toInt ≤ 999 := by
  rw [ti_lt] at h
  have l1 : (1000 : Int32).toInt = 1000 := rfl
  have h1 : (1000 * i).toInt = 1000 * i.toInt := by rw [ti_mul (by rw [l1]; omega) (by rw [l1]; omega), l1]
  have h2 : (1000 * i / len).toInt = 1000 * i.toInt / len.toInt := by rw [ti_div (by rw [h1]; omega) (by omega), h1]
  have h3 : 0 ≤ 1000 * i.toInt / len.toInt := Int.ediv_nonneg (by omega) (by omega)
  have h4 : 1000 * i.toInt / len.toInt < 1000 := by
    apply Int.ediv_lt_of_lt_mul (by omega)
    omega
  rw [← h2] at h3 h4
  refine ⟨⟨h3, by omega⟩, ?_⟩
  unfold fg
  generalize 1000 * i / len = f at h3 h4 ⊢
  split
  · have hm := mul_bd (v := f.toInt) (g := f.toInt) (B := 999) (D := 999) (by omega) (by omega) h3 (by omega)
    have hn : 0 ≤ f.toInt * f.toInt := Int.mul_nonneg h3 h3
    have h5 : (f * f).toInt = f.toInt * f.toInt := ti_mul (by omega) (by omega)
    rw [ti_div (by rw [h5]; exact hn) (by rw [l1]; decide), h5, l1]
    omega
  · omega
theorem fd_eq (v i len cv : Int32) : fd v i len cv = if i < len then ap v (fg i len cv) else v := rfl
theorem fd_bd {v i len cv : Int32} {B : Int} (hv : -B ≤ v.toInt) (hv2 : v.toInt ≤ B) (hB : B ≤ 1000000) (hi : 0 ≤ i.toInt) (hl : len.toInt ≤ 4000) : -B ≤ (fd v i len cv).toInt ∧ (fd v i len cv).toInt ≤ B := by
  rw [fd_eq]
  split
  · rename_i h
    obtain ⟨-, g1, g2⟩ := fg_bd (cv := cv) hi h hl
    have h3 := ap_bd (D := 1000) hv hv2 g1 (by omega) (by omega)
    omega
  · exact ⟨hv, hv2⟩
