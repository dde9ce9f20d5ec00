/-! The class: tests of arguments -/
theorem s_X7_isOutside {n : Nat} {M : mw_M} {x a b : Int32} {Q : Int32 → Prop} (hq : Q (bl (¬ (a.toInt ≤ x.toInt ∧ x.toInt ≤ b.toInt)))) : w_X7_isOutside n M x a b Q := by
  unfold w_X7_isOutside w_X7_isOutside_b10 w_X7_isOutside_b15
  simp only [ti_lt, ti_le]
  refine ⟨fun h => ⟨Or.inr rfl, ?_⟩, fun h => ⟨fun h2 => ⟨Or.inl rfl, ?_⟩, fun h2 => ⟨Or.inr rfl, ?_⟩⟩⟩
  · rw [bl_t (P := ¬ (a.toInt ≤ x.toInt ∧ x.toInt ≤ b.toInt)) (by omega)] at hq; exact hq
  · rw [bl_f (P := ¬ (a.toInt ≤ x.toInt ∧ x.toInt ≤ b.toInt)) (by omega)] at hq; exact hq
  · rw [bl_t (P := ¬ (a.toInt ≤ x.toInt ∧ x.toInt ≤ b.toInt)) (by omega)] at hq; exact hq
/-- a test and its two ways -/
theorem s_out {n : Nat} {M : mw_M} {x a b : Int32} (lo hi : Int) (ha : a.toInt = lo) (hb : b.toInt = hi) {A B : Prop} (h0 : isAt lo hi x → A) (h1 : ¬ isAt lo hi x → B) : w_X7_isOutside n M x a b (fun v => (v = 0 → A) ∧ (¬ v = 0 → B)) := by
  refine s_X7_isOutside ?_
  rw [ha, hb, bl_0, Classical.not_not]
  exact ⟨h0, h1⟩
