/-! The class: who is heard, the limit -/
theorem b01T {M : mw_M} {s t f : Nat} {R : Row} {K : Int64} (hr : rep M s R K) (hT : VT R) (ht : t < 4) (hf : f = 2 ∨ f = 3) : mI M (s + 23 + 4 * t) f = rT R t f ∧ (rT R t f = 0 ∨ rT R t f = 1) := by
  obtain ⟨-, -, ⟨a0, a1⟩, ⟨b0, b1⟩, -⟩ := hT t ht
  refine ⟨vT hr ht (by omega), ?_⟩
  rcases hf with rfl | rfl
  · exact b01_i a0 a1
  · exact b01_i b0 b1
theorem s_X5_hasSolo {M : mw_M} {s : Nat} {R : Row} {K : Int64} {Q : Int32 → Prop} (hb : bs s) (hsk : sk M s) (hr : rep M s R K) (hT : VT R) (hq : Q (bl (someSolo R))) : w_X5_hasSolo 255 M s Q := by
  obtain ⟨⟨-, -, p3, -⟩, -, pt, -⟩ := id hsk
  have el : lnd 3 = 4 := rfl
  unfold w_X5_hasSolo
  refine ⟨kS hb, ?_⟩
  rw [p3]
  rintro _ rfl
  rw [bs_ln hb (by decide) (Or.inr (Or.inr (Or.inl rfl))), el]
  refine ⟨kA3 hb, ?_⟩
  rintro _ rfl
  unfold w_X5_hasSolo_b10
  refine ⟨fun z => ∃ t, z = nI t ∧ t ≤ 4 ∧ ∀ u, u < t → rT R u 3 = 0, fun z => 4 - z.toInt.toNat, ⟨0, rfl, by decide, fun u hu => absurd hu (Nat.not_lt_zero u)⟩, ?_⟩
  rintro _ ⟨t, rfl, ht, hI⟩
  rw [nI_leI (by decide) (by omega), bs_ln hb (by decide) (Or.inr (Or.inr (Or.inl rfl))), el, nI_clamp (by omega)]
  refine ⟨fun h => ?_, fun h => ⟨kA3 hb, vp_n (by omega) (by decide), ?_⟩⟩
  · have : t = 4 := by omega
    subst this
    have hn : ¬ someSolo R := by
      unfold someSolo
      rw [hI 0 (by decide), hI 1 (by decide), hI 2 (by decide), hI 3 (by decide)]
      decide
    rw [bl_f hn] at hq
    exact hq
  · have ht4 : t < 4 := by omega
    rw [(pt t ht4).1]
    rintro _ rfl
    obtain ⟨e3, h01⟩ := b01T hr hT ht4 (f := 3) (Or.inr rfl)
    rw [e3]
    refine ⟨(kTr hb ht4).1, fun h2 => ?_, fun h2 => ?_⟩
    · rintro _ rfl
      refine ⟨⟨t + 1, nI_1 t, by omega, fun u hu => ?_⟩, mu_dec (by omega) (by decide)⟩
      by_cases e : u = t
      · rw [e]; exact h2
      · exact hI u (by omega)
    · have h1 := h01.resolve_left h2
      have hs : someSolo R := by
        unfold someSolo
        rcases (show t = 0 ∨ t = 1 ∨ t = 2 ∨ t = 3 by omega) with rfl | rfl | rfl | rfl
        · exact Or.inl h1
        · exact Or.inr (Or.inl h1)
        · exact Or.inr (Or.inr (Or.inl h1))
        · exact Or.inr (Or.inr (Or.inr h1))
      rw [bl_t hs] at hq
      exact hq
theorem s_X6_isHeard {M : mw_M} {s t : Nat} {R : Row} {K : Int64} {Q : Int32 → Prop} (hb : bs s) (hr : rep M s R K) (hT : VT R) (ht : t < 4) (hq : Q (bl (heard R t))) : w_X6_isHeard 255 M (s + 23 + 4 * t) (bl (someSolo R)) Q := by
  unfold w_X6_isHeard w_X6_isHeard_b22 w_X6_isHeard_b18 w_X6_isHeard_b23
  obtain ⟨e2, h2⟩ := b01T hr hT ht (f := 2) (Or.inl rfl)
  obtain ⟨e3, h3⟩ := b01T hr hT ht (f := 3) (Or.inr rfl)
  rw [e2, e3, bl_0]
  unfold heard at hq
  refine ⟨(kTr hb ht).1, fun g => ⟨Or.inl rfl, ?_⟩, fun g => ⟨fun g1 => ⟨Or.inr rfl, ?_⟩, fun g1 => ⟨fun g2 => ⟨Or.inl rfl, ?_⟩, fun g2 => ⟨Or.inr rfl, ?_⟩⟩⟩⟩
  · rw [bl_f (fun q => g q.1)] at hq; exact hq
  · rw [bl_t ⟨g, Or.inl g1⟩] at hq; exact hq
  · rw [bl_f (fun q => q.2.elim g1 (fun r => by rw [g2] at r; exact absurd r (by decide)))] at hq; exact hq
  · rw [bl_t ⟨g, Or.inr (h3.resolve_left g2)⟩] at hq; exact hq
theorem is82 : mw_is 255 82 2 := ⟨by decide +kernel, by decide, by decide⟩
theorem lim_s (x : Int32) : (if (-32767 : Int32) < (if x < 32767 then x else 32767) then (if x < 32767 then x else 32767) else -32767) = lim x := by
  have a : (32767 : Int32).toInt = 32767 := rfl
  have b : (-32767 : Int32).toInt = -32767 := rfl
  apply ti_inj
  unfold lim
  simp only [ti_lt, a, b]
  by_cases h1 : x.toInt < 32767
  · simp only [if_pos h1]
    by_cases h2 : -32767 < x.toInt
    · rw [if_pos h2, if_neg (by omega), if_neg (by omega)]
    · rw [if_neg h2, if_neg (by omega)]
      by_cases h3 : x.toInt < -32767
      · rw [if_pos h3]
      · rw [if_neg h3, b]; omega
  · simp only [if_neg h1, a]
    rw [if_pos (by decide)]
    by_cases h3 : 32767 < x.toInt
    · rw [if_pos h3]
    · rw [if_neg h3, if_neg (by omega), a]; omega
