/-! The class: dry values -/
theorem vC {M : mw_M} {s c : Nat} {R : Row} {K : Int64} (hr : rep M s R K) (hc : c < cn R) {f : Nat} (hf : f < 9) : mI M (mP M (s + 2) c) f = rC R c f := hr.2.2.1 c f hc hf
theorem kC {M : mw_M} {s c : Nat} (hb : bs s) (hsk : sk M s) (hc : c < 12) : mw_is 255 (mP M (s + 2) c) 0 := kClip hb (hsk.2.2.2.1 c hc).1 (hsk.2.2.2.1 c hc).2
theorem bl_on {R : Row} {t c : Nat} {x : Int32} (h : rC R c 0 = nI t) : bl (rC R c 2 ≤ x ∧ x < rC R c 2 + rC R c 4) = bl (on R t x c) := bl_c ⟨fun q => ⟨h, q⟩, fun q => q.2⟩
theorem nI_ne {k : Nat} (h : k < 4000) : ¬ nI k = (-1 : Int32) := fun e => by
  have e1 := congrArg Int32.toInt e
  have m1 : (-1 : Int32).toInt = -1 := rfl
  rw [nI_toInt (by omega), m1] at e1
  omega
theorem s_X5_first {M : mw_M} {s t : Nat} {R : Row} {K : Int64} {x : Int32} {Q : Int32 → Prop} (hb : bs s) (hsk : sk M s) (hr : rep M s R K) (hC : VC R) (hq : Q (if fc R t x = cn R then -1 else nI (fc R t x))) : w_X5_firstCovering 255 M s (nI t) x Q := by
  obtain ⟨e8, h12⟩ := hC.cn
  obtain ⟨⟨-, p1, -⟩, -⟩ := id hsk
  unfold w_X5_firstCovering w_X5_firstCovering_b2
  refine ⟨fun z => ∃ c, z = nI c ∧ c ≤ cn R ∧ ∀ j, j < c → ¬ on R t x j, fun z => 12 - z.toInt.toNat, ⟨0, rfl, Nat.zero_le _, fun j hj => absurd hj (Nat.not_lt_zero j)⟩, ?_⟩
  rintro _ ⟨c, rfl, hc, hj⟩
  rw [hr.2.1, e8, nI_leI (by omega) (by omega), p1, bs_ln hb (by decide) (Or.inr (Or.inl rfl)), nI_clamp (by omega)]
  have el : lnd 2 = 12 := rfl
  rw [el]
  refine ⟨kS hb, fun h => ?_, fun h => ⟨kA2 hb, vp_n (by omega) (by decide), kC hb hsk (by omega), ?_⟩⟩
  · have : c = cn R := by omega
    rw [fc_is hc hj (fun q => by omega), if_pos this] at hq
    exact hq
  · have nx1 : ¬ on R t x c → ∀ v1 : Int32, v1 = nI c + 1 → (∃ c, v1 = nI c ∧ c ≤ cn R ∧ ∀ j, j < c → ¬ on R t x j) ∧ 12 - v1.toInt.toNat < 12 - (nI c).toInt.toNat := by
      rintro hno _ rfl
      refine ⟨⟨c + 1, nI_1 c, by omega, fun j h2 => ?_⟩, mu_dec (by omega) (by decide)⟩
      by_cases e : j = c
      · rw [e]; exact hno
      · exact hj j (by omega)
    unfold w_X5_firstCovering_b38
    rw [vC hr (c := c) (by omega) (f := 0) (by decide)]
    refine ⟨fun h0 => nx1 (fun q => h0 q.1), fun h0 => s_X0_covers (kC hb hsk (by omega)) ?_⟩
    rw [vC hr (c := c) (by omega) (f := 2) (by decide), vC hr (c := c) (by omega) (f := 4) (by decide), bl_on h0, bl_0]
    refine ⟨fun h1 => nx1 h1, fun h1 => ?_⟩
    rw [fc_is hc hj (fun _ => Classical.not_not.mp h1), if_neg (by omega)] at hq
    exact hq
theorem ap_0 (g : Int32) : ap 0 g = 0 := by
  unfold ap
  rw [Int32.toInt_zero, Int.zero_mul]
  rfl
theorem s_X5_dryValue {M : mw_M} {s t : Nat} {R : Row} {K : Int64} {x : Int32} {Q : Int32 → Prop} (hb : bs s) (hsk : sk M s) (hr : rep M s R K) (hV : VAL R) (ht : t < 4) (hx : 0 ≤ x.toInt) (hx2 : x.toInt ≤ 3999) (hq : Q (dryR R t x)) : w_X5_dryValue 255 M s (nI t) x Q := by
  obtain ⟨hS, hC, hT, hP, -, hL⟩ := hV
  obtain ⟨e8, h12⟩ := hC.cn
  obtain ⟨⟨-, p1, p3, -⟩, -, pt, -⟩ := id hsk
  have hsum := sumR_bd hS hC hL t x
  obtain ⟨⟨g1, g2⟩, -⟩ := hT t ht
  obtain ⟨⟨d1, d2⟩, -⟩ := dryR_bd hS hC hT hP hL ht hx hx2
  have hlb := laneR_bd hP ht hx hx2
  have b141 : w_X5_dryValue_b141 255 M s (nI t) x (sumR R t x) Q := by
    unfold w_X5_dryValue_b141
    have el : lnd 3 = 4 := rfl
    rw [p3, bs_ln hb (by decide) (Or.inr (Or.inr (Or.inl rfl))), nI_clamp (by omega), (pt t ht).1, vT hr ht (f := 0) (by decide), el]
    refine ⟨kS hb, kA3 hb, vp_n ht (by decide), (kTr hb ht).1, s_X7_applied (B := 40000) (D := 2000) (by omega) (by omega) g1 g2 (by decide) (s_X6_laneGain hb hsk hr hT hP ht hx hx2 (s_X7_applied (B := 80000) (D := 2000) d1 d2 hlb.1 hlb.2 (by decide) hq))⟩
  unfold w_X5_dryValue
  refine ⟨kS hb, s_X5_first hb hsk hr hC ?_⟩
  obtain ⟨f1, f2, f3⟩ := fc_s (R := R) (t := t) (n := x)
  by_cases hf : fc R t x = cn R
  · rw [if_pos hf]
    refine ⟨fun q => absurd rfl q, fun _ => ?_⟩
    have hd : dryR R t x = 0 := by
      unfold dryR sumR
      rw [if_pos hf, ap_0, ap_0]
    rw [hd] at hq
    exact hq
  · rw [if_neg hf]
    have ho := f3 (by omega)
    unfold sumR at b141 hsum
    rw [if_neg hf] at b141 hsum
    have two_s : two R t x ↔ fc R t x + 1 < cn R ∧ on R t x (fc R t x + 1) := Iff.rfl
    generalize hfa : fc R t x = a at *
    have ha : a < cn R := by omega
    have va := hC.2 a ha
    have r1 := rawR_bd hS va ho.2
    refine ⟨fun _ => ?_, fun q => absurd q (nI_ne (by omega))⟩
    have el : lnd 2 = 12 := rfl
    rw [p1, bs_ln hb (by decide) (Or.inr (Or.inl rfl)), el, nI_clamp (by omega)]
    refine ⟨kA2 hb, vp_n (by omega) (by decide), ?_⟩
    rintro _ rfl
    refine s_X5_rawValue hb hsk hr hS (kC hb hsk (by omega)) (fun f hf => vC hr ha hf) va ho.2 ?_
    rw [hr.2.1, e8, nI_1, nI_leI (by omega) (by omega), nI_clamp (by omega)]
    refine ⟨fun h1 => ?_, fun h1 => ⟨vp_n (by omega) (by decide), ?_⟩⟩
    · rw [ifp_f (fun q => by have := (two_s.mp q).1; omega)] at b141
      unfold w_X5_dryValue_b54
      refine ⟨kC hb hsk (by omega), s_X0_end (kC hb hsk (by omega)) ⟨kC hb hsk (by omega), ?_⟩⟩
      rintro _ rfl
      exact ⟨(kC hb hsk (by omega)).2.2, (kC hb hsk (by omega)).2.2, fun _ => b141, fun q => absurd rfl q⟩
    · have hb1 : a + 1 < cn R := by omega
      have vb := hC.2 (a + 1) hb1
      unfold w_X5_dryValue_b54
      refine ⟨kC hb hsk (by omega), s_X0_end (kC hb hsk (by omega)) ⟨kC hb hsk (by omega), ?_⟩⟩
      rw [vC hr ha (f := 2) (by decide), vC hr ha (f := 4) (by decide), vC hr hb1 (f := 2) (by decide), vC hr hb1 (f := 0) (by decide)]
      rintro _ rfl
      refine ⟨(kC hb hsk (by omega)).2.2, (kC hb hsk (by omega)).2.2, fun q => ?_, fun _ => ⟨fun h0 => ?_, fun h0 => s_X0_covers (kC hb hsk (by omega)) ?_⟩⟩
      · have := hsk.2.2.2.2 (a + 1) a (by omega) (by omega) q
        omega
      · rw [ifp_f (fun q => h0 (two_s.mp q).2.1)] at b141
        exact b141
      · rw [vC hr hb1 (f := 2) (by decide), vC hr hb1 (f := 4) (by decide), bl_on h0, bl_0]
        refine ⟨fun h3 => ?_, fun h3 => ?_⟩
        · rw [ifp_f (fun q => h3 (two_s.mp q).2)] at b141
          exact b141
        · have h4 := Classical.not_not.mp h3
          rw [ifp_t (two_s.mpr ⟨hb1, h4⟩)] at b141
          obtain ⟨w0, w4, w1, w2, w3⟩ := wxf_bd hC hL hb1 ho h4
          have r2 := rawR_bd hS vb h4.2
          refine ⟨fun h5 => ?_, fun h5 => ⟨fun e => ?_, ?_⟩⟩
          · rw [ti_le, w0, Int32.toInt_zero] at h5; omega
          · have e1 := congrArg Int32.toInt e
            rw [w0, Int32.toInt_zero] at e1
            omega
          · rintro _ rfl
            refine s_X7_applied (B := 20000) (D := 1000) (y := 1000 - wxf R a x) (by omega) (by omega) (by rw [w3]; omega) (by rw [w3]; omega) (by decide) ⟨kS hb, s_X5_rawValue hb hsk hr hS (kC hb hsk (by omega)) (fun f hf => vC hr hb1 hf) vb h4.2 (s_X7_applied (B := 20000) (D := 1000) (y := wxf R a x) (by omega) (by omega) w1 w2 (by decide) ?_)⟩
            rintro _ rfl
            exact b141
