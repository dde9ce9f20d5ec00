/-! The class: what a state object shows -/
def bs (s : Nat) : Prop := s = 2 ∨ s = 41 ∨ s = 83 ∨ s = 122 ∨ s = 161 ∨ s = 200
theorem bs_le {s : Nat} (h : bs s) : 2 ≤ s ∧ s ≤ 200 := by unfold bs at h; omega
/-- the kinds around a state -/
def knd (i : Nat) : Nat := if i = 0 then 5 else if i = 1 then 13 else if i = 2 then 14 else if i = 3 then 15 else if i = 4 then 3 else if i < 11 then 4 else if i < 23 then 0 else if i % 4 = 3 then 6 else if i % 4 = 2 then 12 else 10
theorem bs_tg : ∀ i, i < 39 → (Tg (2 + i) = knd i ∧ Tg (41 + i) = knd i ∧ Tg (83 + i) = knd i ∧ Tg (122 + i) = knd i ∧ Tg (161 + i) = knd i ∧ Tg (200 + i) = knd i) := by decide +kernel
theorem bs_is {s i : Nat} (h : bs s) (hi : i < 39) : mw_is 255 (s + i) (knd i) := by
  have hb := bs_le h
  refine ⟨?_, by omega, by omega⟩
  obtain ⟨h1, h2, h3, h4, h5, h6⟩ := bs_tg i hi
  rcases h with rfl | rfl | rfl | rfl | rfl | rfl
  · exact h1
  · exact h2
  · exact h3
  · exact h4
  · exact h5
  · exact h6
def lnd (i : Nat) : Nat := if i = 1 then 6 else if i = 2 then 12 else if i = 3 then 4 else 8
theorem bs_ln0 : ∀ i, i < 39 → (i = 1 ∨ i = 2 ∨ i = 3 ∨ (24 ≤ i ∧ i % 4 ≠ 3)) → (Ln (2 + i) = lnd i ∧ Ln (41 + i) = lnd i ∧ Ln (83 + i) = lnd i ∧ Ln (122 + i) = lnd i ∧ Ln (161 + i) = lnd i ∧ Ln (200 + i) = lnd i) := by decide +kernel
theorem bs_ln {s i : Nat} (h : bs s) (hi : i < 39) (hk : i = 1 ∨ i = 2 ∨ i = 3 ∨ (24 ≤ i ∧ i % 4 ≠ 3)) : Ln (s + i) = lnd i := by
  obtain ⟨h1, h2, h3, h4, h5, h6⟩ := bs_ln0 i hi hk
  rcases h with rfl | rfl | rfl | rfl | rfl | rfl
  · exact h1
  · exact h2
  · exact h3
  · exact h4
  · exact h5
  · exact h6
/-- the pointers of a state: its row of clips is in some order -/
def sk (M : mw_M) (s : Nat) : Prop := (mP M s 0 = s + 1 ∧ mP M s 1 = s + 2 ∧ mP M s 3 = s + 3 ∧ mP M s 8 = s + 4) ∧ (∀ i, i < 6 → mP M (s + 1) i = s + 5 + i) ∧ (∀ t, t < 4 → mP M (s + 3) t = s + 23 + 4 * t ∧ mP M (s + 23 + 4 * t) 5 = s + 24 + 4 * t ∧ mP M (s + 23 + 4 * t) 6 = s + 25 + 4 * t ∧ mP M (s + 23 + 4 * t) 7 = s + 26 + 4 * t) ∧ (∀ i, i < 12 → s + 11 ≤ mP M (s + 2) i ∧ mP M (s + 2) i < s + 23) ∧ ∀ i j, i < 12 → j < 12 → mP M (s + 2) i = mP M (s + 2) j → i = j
/-- the state s shows the row R and the sum K -/
def rep (M : mw_M) (s : Nat) (R : Row) (K : Int64) : Prop := (∀ i f, i < 6 → f < 4 → mI M (s + 5 + i) f = rS R i f) ∧ mI M s 2 = R 8 ∧ (∀ c f, c < cn R → f < 9 → mI M (mP M (s + 2) c) f = rC R c f) ∧ (∀ t, t < 4 → (∀ f, f < 5 → mI M (s + 23 + 4 * t) f = rT R t f ∧ mI M (s + 23 + 4 * t) (8 + f) = rT R t (29 + f)) ∧ ∀ k, k < pn R t → mI M (s + 24 + 4 * t) k = rT R t (5 + 3 * k) ∧ mI M (s + 25 + 4 * t) k = rT R t (5 + 3 * k + 1) ∧ mI M (s + 26 + 4 * t) k = rT R t (5 + 3 * k + 2)) ∧ (mI M s 4 = R 3 ∧ mI M s 5 = R 0 ∧ mI M s 6 = R 1 ∧ mI M s 7 = R 2) ∧ (∀ j, j < 4 → mL M (s + 4) j = Int32.toInt64 (R (4 + j))) ∧ mL M (s + 4) 4 = K
theorem kS {s : Nat} (h : bs s) : mw_is 255 s 5 := bs_is (i := 0) h (by decide)
theorem kA1 {s : Nat} (h : bs s) : mw_is 255 (s + 1) 13 := bs_is (i := 1) h (by decide)
theorem kA2 {s : Nat} (h : bs s) : mw_is 255 (s + 2) 14 := bs_is (i := 2) h (by decide)
theorem kA3 {s : Nat} (h : bs s) : mw_is 255 (s + 3) 15 := bs_is (i := 3) h (by decide)
theorem kM {s : Nat} (h : bs s) : mw_is 255 (s + 4) 3 := bs_is (i := 4) h (by decide)
theorem kSrc {s i : Nat} (h : bs s) (hi : i < 6) : mw_is 255 (s + 5 + i) 4 := by
  have := bs_is (i := 5 + i) h (by omega)
  rw [← Nat.add_assoc] at this
  have e : knd (5 + i) = 4 := by unfold knd; rw [if_neg (by omega), if_neg (by omega), if_neg (by omega), if_neg (by omega), if_neg (by omega), if_pos (by omega)]
  rw [e] at this
  exact this
theorem kClip {s q : Nat} (h : bs s) (h1 : s + 11 ≤ q) (h2 : q < s + 23) : mw_is 255 q 0 := by
  obtain ⟨i, rfl⟩ : ∃ i, q = s + i := ⟨q - s, by omega⟩
  have := bs_is (i := i) h (by omega)
  have e : knd i = 0 := by unfold knd; rw [if_neg (by omega), if_neg (by omega), if_neg (by omega), if_neg (by omega), if_neg (by omega), if_neg (by omega), if_pos (by omega)]
  rw [e] at this
  exact this
theorem kTr {s t : Nat} (h : bs s) (ht : t < 4) : mw_is 255 (s + 23 + 4 * t) 6 ∧ mw_is 255 (s + 24 + 4 * t) 10 ∧ mw_is 255 (s + 25 + 4 * t) 10 ∧ mw_is 255 (s + 26 + 4 * t) 12 := by
  have a := bs_is (i := 23 + 4 * t) h (by omega)
  have b := bs_is (i := 24 + 4 * t) h (by omega)
  have c := bs_is (i := 25 + 4 * t) h (by omega)
  have d := bs_is (i := 26 + 4 * t) h (by omega)
  rw [← Nat.add_assoc] at a b c d
  have ht' : t = 0 ∨ t = 1 ∨ t = 2 ∨ t = 3 := by omega
  rcases ht' with rfl | rfl | rfl | rfl <;> exact ⟨a, b, c, d⟩
