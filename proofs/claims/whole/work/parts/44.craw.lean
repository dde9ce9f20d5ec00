/-! The class: clips and sources -/
theorem s_X0_covers {n q : Nat} {M : mw_M} {x : Int32} {Q : Int32 → Prop} (hk : mw_is n q 0) (hq : Q (bl (mI M q 2 ≤ x ∧ x < mI M q 2 + mI M q 4))) : w_X0_covers n M q x Q := by
  unfold w_X0_covers w_X0_covers_b25 w_X0_covers_b26
  refine ⟨hk, fun h => ⟨Or.inl rfl, ?_⟩, fun h => ⟨fun h2 => ⟨Or.inl rfl, ?_⟩, fun h2 => ⟨Or.inr rfl, ?_⟩⟩⟩
  · rw [bl_f (fun r => nlt_of_le r.1 h)] at hq; exact hq
  · rw [bl_f (fun r => nlt_of_le h2 r.2)] at hq; exact hq
  · rw [bl_t ⟨le_of_nlt h, lt_of_nle h2⟩] at hq; exact hq
theorem s_X0_end {n q : Nat} {M : mw_M} {Q : Int32 → Prop} (hk : mw_is n q 0) (hq : Q (mI M q 2 + mI M q 4)) : w_X0_end n M q Q := ⟨hk, hq⟩
theorem s_X0_fadeGain {n q : Nat} {M : mw_M} {x l : Int32} {Q : Int32 → Prop} (hk : mw_is n q 0) (hx : 0 ≤ x.toInt) (hq : Q (if x < l then fg x l (mI M q 8) else 1000)) : w_X0_fadeGain n M q x l Q := by
  unfold w_X0_fadeGain w_X0_fadeGain_b10 w_X0_fadeGain_b41
  have o1 : (1 : Int32).toInt = 1 := rfl
  refine ⟨fun h => ?_, fun h => ⟨fun h2 => ⟨fun e => ?_, ?_⟩, fun h2 => ?_⟩⟩
  · rw [if_neg (fun r => by rw [ti_lt] at r h; omega)] at hq; exact hq
  · rw [e, ti_lt, Int32.toInt_zero] at h2; omega
  · rintro _ rfl
    rw [if_pos h2] at hq
    unfold fg at hq
    refine ⟨hk, fun h3 => ?_, fun h3 => ?_⟩
    · rw [if_neg h3] at hq; exact hq
    · rw [if_pos h3] at hq; exact hq
  · rw [if_neg h2] at hq; exact hq
theorem fd_fg (v x l cv : Int32) : ap v (if x < l then fg x l cv else 1000) = fd v x l cv := by
  rw [fd_eq]
  by_cases h : x < l
  · rw [if_pos h, if_pos h]
  · rw [if_neg h, if_neg h, ap_1000]
theorem s_X4_valueAt {n q s : Nat} {M : mw_M} {R : Row} {x : Int32} {Q : Int32 → Prop} (hk : mw_is n q 4) (hv : ∀ f, f < 4 → mI M q f = rS R s f) (hV : VS R) (hs : s < 6) (hx : 0 ≤ x.toInt) (hq : Q (if x < rS R s 3 then smpR R s x else 0)) : w_X4_valueAt n M q x Q := by
  obtain ⟨⟨s1, s2⟩, ⟨a1, a2⟩, ⟨p1, p2⟩, z1, z2⟩ := hV s hs
  have o1 : (1 : Int32).toInt = 1 := rfl
  have o2 : (2 : Int32).toInt = 2 := rfl
  unfold w_X4_valueAt w_X4_valueAt_b20 w_X4_valueAt_b82
  rw [hv 0 (by decide), hv 1 (by decide), hv 2 (by decide), hv 3 (by decide)]
  refine ⟨fun h => ?_, fun h => ⟨hk, fun h2 => ?_, fun h2 => ⟨fun h3 => ⟨fun e => ?_, ?_⟩, fun h3 => ?_⟩⟩⟩
  · rw [ti_lt, Int32.toInt_zero] at h; omega
  · rw [if_neg (nlt_of_le h2)] at hq; exact hq
  · rw [e, Int32.toInt_zero] at p1; omega
  · rintro _ rfl
    rw [if_pos (lt_of_nle h2)] at hq
    unfold smpR smp at hq
    refine ⟨fun g => ?_, fun g => ⟨fun g2 => ?_, fun g2 => ?_⟩, fun g => ?_, fun g => ?_⟩
    · rw [if_neg (by omega), if_neg (by omega), if_neg (by omega)] at hq; exact hq
    · rw [if_pos g, if_pos g2] at hq; exact hq
    · rw [if_pos g, if_neg g2] at hq; exact hq
    · rw [if_neg (by omega), if_pos g] at hq; exact hq
    · rw [if_neg (by omega), if_neg (by omega), if_pos g] at hq
      rintro _ rfl _ rfl _ rfl
      have ea : (if (0 : Int32) < rS R s 1 then rS R s 1 else 0) = rS R s 1 := by
        by_cases g0 : (0 : Int32) < rS R s 1
        · rw [if_pos g0]
        · rw [if_neg g0]
          rw [ti_lt, Int32.toInt_zero] at g0
          exact ti_inj (by rw [Int32.toInt_zero]; omega)
      rw [ea]
      refine ⟨fun e => ?_, hq⟩
      have h2 : (2 * rS R s 1).toInt = 2 * (rS R s 1).toInt := by rw [ti_mul (by rw [o2]; omega) (by rw [o2]; omega), o2]
      have e2 := congrArg Int64.toInt e
      rw [ti_l, ti_add (by rw [h2, o1]; omega) (by rw [h2, o1]; omega), h2, o1] at e2
      have z0 : (0 : Int64).toInt = 0 := rfl
      rw [z0] at e2
      omega
  · rw [ti_le, o1] at h3; omega
theorem s_X5_rawValue {M : mw_M} {s q c : Nat} {R : Row} {K : Int64} {x : Int32} {Q : Int32 → Prop} (hb : bs s) (hsk : sk M s) (hr : rep M s R K) (hS : VS R) (hk : mw_is 255 q 0) (hv : ∀ f, f < 9 → mI M q f = rC R c f) (h : VC1 R c) (hc : cov R c x) (hq : Q (rawR R c x)) : w_X5_rawValue 255 M s q x Q := by
  have hb1 := sv_bd hS h hc
  have hb2 := gv_bd hS h hc
  have hb3 := fv_bd hS h hc
  obtain ⟨k1, k2, k3⟩ := cov_i h hc
  obtain ⟨m1, m2, m3⟩ := back_i h hc
  obtain ⟨n1, n2⟩ := src_lt h
  have hA := at_i h hc
  obtain ⟨-, -, -, -, ⟨g1, g2⟩, ⟨-, f2⟩, ⟨-, f4⟩, -⟩ := id h
  have fgb : ∀ i len : Int32, 0 ≤ i.toInt → len.toInt ≤ 4000 → 0 ≤ (if i < len then fg i len (rC R c 8) else 1000).toInt ∧ (if i < len then fg i len (rC R c 8) else 1000).toInt ≤ 1000 := by
    intro i len hi hl
    by_cases hh : i < len
    · rw [if_pos hh]
      have := (fg_bd (cv := rC R c 8) hi hh hl).2
      omega
    · rw [if_neg hh]; decide
  have tail : ∀ l : Int32, l = sv R c x → w_X5_rawValue_b41 255 M q (x - rC R c 2) l Q := by
    rintro _ rfl
    unfold w_X5_rawValue_b41
    rw [hv 5 (by decide), hv 6 (by decide), hv 4 (by decide), hv 7 (by decide)]
    have b1 := fgb (x - rC R c 2) (rC R c 6) k2 f2
    have b2 := fgb (rC R c 4 - 1 - (x - rC R c 2)) (rC R c 7) m3 f4
    refine ⟨hk, s_X7_applied (B := 10000) (D := 2000) hb1.1 hb1.2 g1 g2 (by decide) (s_X0_fadeGain hk k2 ?_)⟩
    rw [hv 8 (by decide)]
    refine s_X7_applied (B := 20000) (D := 1000) hb2.1 hb2.2 b1.1 b1.2 (by decide) (s_X0_fadeGain hk m3 ?_)
    rw [hv 8 (by decide), fd_fg]
    refine s_X7_applied (B := 20000) (D := 1000) hb3.1 hb3.2 b2.1 b2.2 (by decide) ?_
    rw [fd_fg]
    exact hq
  unfold w_X5_rawValue
  refine ⟨hk, ?_⟩
  rintro _ rfl
  obtain ⟨⟨p0, -⟩, p1, -⟩ := hsk
  rw [hv 1 (by decide), hv 2 (by decide), hv 3 (by decide), p0, bs_ln hb (by decide) (Or.inl rfl), n2]
  have el : lnd 1 = 6 := rfl
  rw [el, nI_leI (by decide) (by omega)]
  refine ⟨kS hb, kA1 hb, fun g => absurd g (by omega), fun g => ⟨vp_n n1 (by decide), ?_⟩⟩
  rw [nI_clamp (by omega), p1 _ n1]
  refine ⟨kSrc hb n1, s_X4_valueAt (s := (rC R c 1).toInt.toNat) (R := R) (kSrc hb n1) (fun f hf => hr.1 _ f n1 hf) hS n1 hA.2.1 (tail _ rfl)⟩
