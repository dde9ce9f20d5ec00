/-! The class: lanes -/
theorem vT {M : mw_M} {s t : Nat} {R : Row} {K : Int64} (hr : rep M s R K) (ht : t < 4) {f : Nat} (hf : f < 5) : mI M (s + 23 + 4 * t) f = rT R t f := ((hr.2.2.2.1 t ht).1 f hf).1
theorem vT2 {M : mw_M} {s t : Nat} {R : Row} {K : Int64} (hr : rep M s R K) (ht : t < 4) {f : Nat} (hf : f < 5) : mI M (s + 23 + 4 * t) (8 + f) = rT R t (29 + f) := ((hr.2.2.2.1 t ht).1 f hf).2
theorem vP {M : mw_M} {s t : Nat} {R : Row} {K : Int64} (hr : rep M s R K) (ht : t < 4) {k : Nat} (hk : k < pn R t) : mI M (s + 24 + 4 * t) k = rT R t (5 + 3 * k) ∧ mI M (s + 25 + 4 * t) k = rT R t (5 + 3 * k + 1) ∧ mI M (s + 26 + 4 * t) k = rT R t (5 + 3 * k + 2) := (hr.2.2.2.1 t ht).2 k hk
theorem ln8 {s t : Nat} (hb : bs s) (ht : t < 4) : Ln (s + 24 + 4 * t) = 8 ∧ Ln (s + 25 + 4 * t) = 8 ∧ Ln (s + 26 + 4 * t) = 8 := by
  have a := bs_ln (i := 24 + 4 * t) hb (by omega) (by omega)
  have b := bs_ln (i := 25 + 4 * t) hb (by omega) (by omega)
  have c := bs_ln (i := 26 + 4 * t) hb (by omega) (by omega)
  rw [← Nat.add_assoc] at a b c
  have ht' : t = 0 ∨ t = 1 ∨ t = 2 ∨ t = 3 := by omega
  rcases ht' with rfl | rfl | rfl | rfl <;> exact ⟨a, b, c⟩
theorem le_1 {x y : Int32} (hy : y.toInt ≤ 3999) : x < y + 1 ↔ ¬ y < x := by
  rw [ti_lt, ti_lt, ti_1 (by omega)]
  omega
theorem s_X6_last {M : mw_M} {s t : Nat} {R : Row} {K : Int64} {x : Int32} {Q : Int32 → Prop} (hb : bs s) (hsk : sk M s) (hr : rep M s R K) (hT : VT R) (ht : t < 4) (hx : x.toInt ≤ 3999) (hq : Q (nI (pa R t (x + 1)) - 1)) : w_X6_lastPointUpTo 255 M (s + 23 + 4 * t) x Q := by
  unfold w_X6_lastPointUpTo w_X6_lastPointUpTo_b4 w_X6_lastPointUpTo_b30
  obtain ⟨e4, h8⟩ := hT.pn ht
  obtain ⟨k6, k10, k10b, k12⟩ := kTr hb ht
  obtain ⟨l1, l2, l3⟩ := ln8 hb ht
  refine ⟨fun y z => ∃ k, z = nI k ∧ y = nI k - 1 ∧ k ≤ pn R t ∧ ∀ j, j < k → rT R t (5 + 3 * j) < x + 1, fun _ z => 8 - z.toInt.toNat, ⟨0, rfl, rfl, Nat.zero_le _, fun j hj => absurd hj (Nat.not_lt_zero j)⟩, ?_⟩
  rintro _ _ ⟨k, rfl, rfl, hk, hj⟩
  rw [vT hr ht (f := 4) (by decide), e4, nI_leI (by omega) (by omega), (hsk.2.2.1 t ht).2.1, l1, nI_clamp (by omega)]
  refine ⟨k6, fun h => ?_, fun h => ⟨k10, vp_n (by omega) (by decide), ?_⟩⟩
  · rw [pa_is hk hj (fun q => by omega)] at hq
    exact hq
  · rw [(vP hr ht (k := k) (by omega)).1]
    refine ⟨fun h2 => ?_, fun h2 => ?_⟩
    · rw [pa_is hk hj (fun _ q => (le_1 hx).mp q h2)] at hq
      exact hq
    · rintro _ rfl
      refine ⟨⟨k + 1, nI_1 k, (nI_pred k).symm, by omega, fun j hj2 => ?_⟩, mu_dec (by omega) (by decide)⟩
      by_cases e : j = k
      · rw [e]; exact (le_1 hx).mpr h2
      · exact hj j (by omega)
theorem s_X6_laneGain {M : mw_M} {s t : Nat} {R : Row} {K : Int64} {x : Int32} {Q : Int32 → Prop} (hb : bs s) (hsk : sk M s) (hr : rep M s R K) (hT : VT R) (hP : VP R) (ht : t < 4) (hx : 0 ≤ x.toInt) (hx2 : x.toInt ≤ 3999) (hq : Q (laneR R t x)) : w_X6_laneGain 255 M (s + 23 + 4 * t) x Q := by
  obtain ⟨e4, h8⟩ := hT.pn ht
  obtain ⟨k6, k10, k10b, k12⟩ := kTr hb ht
  obtain ⟨l1, l2, l3⟩ := ln8 hb ht
  obtain ⟨-, q5, q6, q7⟩ := hsk.2.2.1 t ht
  have z0 : (0 : Int32) = nI 0 := rfl
  unfold w_X6_laneGain
  rw [vT hr ht (f := 4) (by decide), e4, q5, q6, q7, l1, l2, l3]
  unfold laneR at hq
  refine ⟨k6, fun h => ?_, fun h => ?_⟩
  · have hp0 : pn R t ≠ 0 := fun e => h (by rw [e]; rfl)
    rw [if_neg hp0] at hq
    refine s_X6_last hb hsk hr hT ht hx2 ?_
    obtain ⟨p1, p2, p3⟩ := pa_s (R := R) (t := t) (n := x + 1)
    generalize hk : pa R t (x + 1) = k at *
    refine ⟨fun h2 => ?_, fun h2 => ?_⟩
    · have hk0 : k ≠ 0 := fun e => h2 (by rw [e]; rfl)
      rw [if_neg hk0] at hq
      obtain ⟨k', rfl⟩ : ∃ k', k = k' + 1 := ⟨k - 1, by omega⟩
      rw [Nat.add_sub_cancel] at hq
      rw [nI_pred]
      rintro _ rfl
      obtain ⟨v1, v2, v3⟩ := vP hr ht (k := k') (by omega)
      obtain ⟨hold, -⟩ := hP t ht
      obtain ⟨-, -, b0, b1⟩ := hold k' (by omega)
      have b01 := b01_i b0 b1
      rw [nI_1, nI_clamp (by omega), nI_clamp (by omega), v1, v2, v3, nI_ltI (by omega) (by omega)]
      have b50 : Q (rT R t (5 + 3 * k' + 1)) → w_X6_laneGain_b50 255 M (s + 23 + 4 * t) (nI k') Q := by
        intro hh
        unfold w_X6_laneGain_b50
        rw [q6, l2, nI_clamp (by omega), v2]
        exact ⟨k6, k10b, vp_n (by omega) (by decide), hh⟩
      refine ⟨k12, vp_n (by omega) (by decide), fun h3 => b50 ?_, fun h3 => ⟨fun h4 => ⟨k10, vp_n (by omega) (by decide), vp_n (by omega) (by decide), ?_⟩, fun h4 => b50 ?_⟩⟩
      · rw [if_pos (Or.inr (b01.resolve_left h3))] at hq; exact hq
      · rw [if_neg (by rintro (q | q); · omega
                       · rw [h3] at q; exact absurd q (by decide))] at hq
        obtain ⟨w1, w2, w3⟩ := vP hr ht (k := k' + 1) (by omega)
        rw [w1, w2]
        rintro _ rfl
        obtain ⟨a1, a2, a3, a4, a5, a6⟩ := lane_nb hP ht hx hx2 hk (by omega)
        have s1 := ti_sub (x := rT R t (5 + 3 * (k' + 1) + 1)) (y := rT R t (5 + 3 * k' + 1)) (by omega) (by omega)
        have s2 := ti_sub (x := x) (y := rT R t (5 + 3 * k')) (by omega) (by omega)
        have s3 := ti_sub (x := rT R t (5 + 3 * (k' + 1))) (y := rT R t (5 + 3 * k')) (by omega) (by omega)
        have hm := mul_bd (v := (rT R t (5 + 3 * (k' + 1) + 1)).toInt - (rT R t (5 + 3 * k' + 1)).toInt) (g := x.toInt - (rT R t (5 + 3 * k')).toInt) (B := 2000) (D := 4000) (by omega) (by omega) (by omega) (by omega)
        have o1 : (1 : Int32).toInt = 1 := rfl
        refine ⟨fun h5 => ⟨k10b, vp_n (by omega) (by decide), vp_n (by omega) (by decide), ?_⟩, fun h5 => ?_⟩
        · rintro _ rfl
          refine s_floorDiv (by rw [s3]; omega) ?_
          rw [ti_mul (by rw [s1, s2]; omega) (by rw [s1, s2]; omega), s1, s2, s3]
          exact hq
        · rw [ti_le, o1, s3] at h5
          omega
      · rw [if_pos (Or.inl (by omega))] at hq; exact hq
    · have e0 : k = 0 := by
        by_cases e : k = 0
        · exact e
        · obtain ⟨k', rfl⟩ : ∃ k', k = k' + 1 := ⟨k - 1, by omega⟩
          rw [nI_pred] at h2
          have e1 := congrArg Int32.toInt h2
          have m1 : (-1 : Int32).toInt = -1 := rfl
          rw [nI_toInt (by omega), m1] at e1
          omega
      rw [if_pos e0] at hq
      have hc : Int32.toNatClampNeg 0 = 0 := rfl
      rw [hc, (vP hr ht (k := 0) (by omega)).2.1]
      exact ⟨k10b, vp_n (j := 0) (by decide) (by decide), hq⟩
  · have hp0 : pn R t = 0 := (nI_eq (by omega) (by omega)).mp h
    rw [if_pos hp0] at hq
    exact hq
