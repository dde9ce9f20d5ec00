/-! The class: the frame -/
theorem lim_eq (x : Int32) : (lim x = x → limN x = 0) ∧ (¬ lim x = x → limN x = 1) := by
  have a : (32767 : Int32).toInt = 32767 := rfl
  have b : (-32767 : Int32).toInt = -32767 := rfl
  unfold lim limN
  simp only [ti_lt, a, b]
  by_cases h1 : 32767 < x.toInt
  · simp only [if_pos h1, if_pos (Or.inl h1)]
    exact ⟨fun h => by have := congrArg Int32.toInt h; rw [a] at this; omega, fun _ => by simp⟩
  · simp only [if_neg h1]
    by_cases h2 : x.toInt < -32767
    · simp only [if_pos h2, if_pos (Or.inr h2)]
      exact ⟨fun h => by have := congrArg Int32.toInt h; rw [b] at this; omega, fun _ => by simp⟩
    · simp only [if_neg h2, if_neg (not_or.mpr ⟨h1, h2⟩)]
      exact ⟨fun _ => by simp, fun h => absurd trivial (by simpa using h)⟩
def S82 : Nat → Nat → Prop := fun a _ => a = 82
theorem s_X2_limit {M : mw_M} {x1 x2 : Int32} {Q : mw_M → Prop} (hq : ∀ M1, sm S82 M M1 → mI M1 82 0 = lim x1 → mI M1 82 1 = lim x2 → mI M1 82 2 = iI (limN x1 + limN x2) → Q M1) : w_X2_limit 255 M 82 x1 x2 Q := by
  unfold w_X2_limit
  rintro _ rfl _ rfl
  rw [lim_s]
  refine ⟨is82, ?_⟩
  rintro _ rfl _ rfl _ rfl _ rfl
  rw [lim_s]
  have e0 : mI (sI (sI M 82 0 (lim x1)) 82 1 (lim x2)) 82 0 = lim x1 := by rw [mI_ne (Or.inr (by decide)), mI_at]
  have e1 : mI (sI (sI M 82 0 (lim x1)) 82 1 (lim x2)) 82 1 = lim x2 := mI_at _ _ _ _
  have s1 : sm S82 M (sI (sI M 82 0 (lim x1)) 82 1 (lim x2)) := (sm.si (S := S82) rfl).tr (sm.si (S := S82) rfl)
  generalize sI (sI M 82 0 (lim x1)) 82 1 (lim x2) = N at *
  obtain ⟨p1, p2⟩ := lim_eq x1
  obtain ⟨r1, r2⟩ := lim_eq x2
  have b61 : ∀ a b : Int32, b + a = iI (limN x1 + limN x2) → w_X2_limit_b61 255 N a b 82 Q := by
    intro a b hab
    unfold w_X2_limit_b61
    refine ⟨is82, ?_⟩
    rintro _ rfl
    refine hq _ (s1.tr (sm.si rfl)) ?_ ?_ ?_
    · rw [mI_ne (Or.inr (by decide))]; exact e0
    · rw [mI_ne (Or.inr (by decide))]; exact e1
    · rw [mI_at]; exact hab
  unfold w_X2_limit_b48
  rw [e0, e1]
  refine ⟨fun g1 => ⟨is82, fun g2 => b61 _ _ ?_, fun g2 => b61 _ _ ?_⟩, fun g1 => ⟨is82, fun g2 => b61 _ _ ?_, fun g2 => b61 _ _ ?_⟩⟩
  · rw [p2 g1, r2 g2]; rfl
  · rw [p2 g1, r1 g2]; rfl
  · rw [p1 g1, r2 g2]; rfl
  · rw [p1 g1, r1 g2]; rfl
