/-! The class: the value of a track -/
theorem s_X1_gainAt {M : mw_M} {t n w : Nat} {R : Row} {Q : Int32 → Prop} (hT : VT R) (hk : cvk M) (ht : t < 4) (hn : n < 4000) (hne : rT R t 29 ≠ -1) (ew : mI M (239 + 2 * t) 1 = nI w) (hw : n / 40 < w) (hw2 : w ≤ 100) (hE : ∀ j, j ≤ w → mI M (240 + 2 * t) j = dk R t j) (hq : Q (dgR R t n)) : w_X1_gainAt 255 M (239 + 2 * t) (nI n) Q := by
  obtain ⟨k1, k10, kl⟩ := isCv ht
  have ep := (hk.2 t ht).2
  unfold w_X1_gainAt w_X1_gainAt_b17
  rintro _ rfl
  rw [pk_div40 hn, ep, ew, kl]
  have z0 : (0 : Int32) = nI 0 := rfl
  refine ⟨fun h => ?_, fun _ => ⟨k1, fun h => ⟨k10, ?_⟩, fun h => ?_⟩⟩
  · rw [z0, nI_ltI (by omega) (by decide)] at h; omega
  · rw [nI_1, nI_clamp (by omega), nI_clamp (by omega), hE _ (by omega), hE _ (by omega)]
    refine ⟨vp_n (by omega) (by decide), vp_n (by omega) (by decide), ?_⟩
    rintro _ rfl
    obtain ⟨a1, a2⟩ := dk_bd hT ht (n / 40)
    obtain ⟨b1, b2⟩ := dk_bd hT ht (n / 40 + 1)
    have s1 := ti_sub (x := dk R t (n / 40 + 1)) (y := dk R t (n / 40)) (by omega) (by omega)
    have e40 : (40 : Int32) * nI (n / 40) = nI (40 * (n / 40)) := by rw [li 40, pk_mul]
    have f1 : (nI n).toInt = (n : Int) := nI_toInt (by omega)
    have f2 : (nI (40 * (n / 40))).toInt = ((40 * (n / 40) : Nat) : Int) := nI_toInt (by omega)
    have s2 : (nI n - 40 * nI (n / 40)).toInt = (n : Int) - 40 * (n / 40 : Nat) := by
      rw [e40, ti_sub (by rw [f1, f2]; omega) (by rw [f1, f2]; omega), f1, f2]
      omega
    have hm := mul_bd (v := (dk R t (n / 40 + 1)).toInt - (dk R t (n / 40)).toInt) (g := (n : Int) - 40 * (n / 40 : Nat)) (B := 1000) (D := 40) (by omega) (by omega) (by omega) (by omega)
    have o40 : (40 : Int32).toInt = 40 := rfl
    refine s_floorDiv (by rw [o40]; decide) ?_
    rw [ti_mul (by rw [s1, s2]; omega) (by rw [s1, s2]; omega), s1, s2, o40]
    unfold dgR at hq
    rw [if_neg hne] at hq
    exact hq
  · rw [nI_ltI (by omega) (by omega)] at h; omega
theorem s_X7_duckGainAt {M : mw_M} {s t n : Nat} {R : Row} {K : Int64} {Q : Int32 → Prop} (h0 : mP M 1 0 = s) (hb : bs s) (hsk : sk M s) (hr : rep M s R K) (hT : VT R) (hk : cvk M) (ht : t < 4) (hn : n < 4000) (hc : cv M R t) (hc2 : rT R t 29 ≠ -1 → ∃ w, mI M (239 + 2 * t) 1 = nI w ∧ n / 40 < w ∧ w ≤ 100) (hq : Q (dgR R t n)) : w_X7_duckGainAt 255 M 1 (nI t) (nI n) Q := by
  obtain ⟨⟨-, -, p3, -⟩, -, pt, -⟩ := id hsk
  have e8 : mI M (s + 23 + 4 * t) 8 = rT R t 29 := vT2 hr ht (f := 0) (by decide)
  have el : lnd 3 = 4 := rfl
  unfold w_X7_duckGainAt w_X7_duckGainAt_b32
  rw [h0, p3, bs_ln hb (by decide) (Or.inr (Or.inr (Or.inl rfl))), el, nI_clamp (by omega), (pt t ht).1, e8, hk.1, Ln81, (hk.2 t ht).1]
  refine ⟨is1, kS hb, kA3 hb, vp_n ht (by decide), (kTr hb ht).1, fun hne => ⟨is81, vp_n ht (by decide), (isCv ht).1, ?_⟩, fun he => ?_⟩
  · obtain ⟨w, ew, w1, w2⟩ := hc2 hne
    obtain ⟨w', -, w3, ew', -, -, hE⟩ := hc
    have : w = w' := (nI_eq (by omega) (by omega)).mp (ew.symm.trans ew')
    subst this
    exact s_X1_gainAt hT hk ht hn hne ew w1 w2 (hE hne) hq
  · unfold dgR at hq
    rw [if_pos he] at hq
    exact hq
theorem s_X7_valueOfTrack {M : mw_M} {s t n : Nat} {R : Row} {K : Int64} {Q : Int32 → Prop} (h0 : mP M 1 0 = s) (hb : bs s) (hsk : sk M s) (hr : rep M s R K) (hV : VAL R) (hk : cvk M) (ht : t < 4) (hn : n < 4000) (hc : cv M R t) (hc2 : rT R t 29 ≠ -1 → ∃ w, mI M (239 + 2 * t) 1 = nI w ∧ n / 40 < w ∧ w ≤ 100) (hq : Q (valR R t n)) : w_X7_valueOfTrack 255 M 1 (nI t) (nI n) Q := by
  obtain ⟨hS, hC, hT, hP, -, hL⟩ := id hV
  have hni : (nI n).toInt = n := nI_toInt (by omega)
  obtain ⟨-, d1, d2⟩ := dryR_bd hS hC hT hP hL ht (n := nI n) (by omega) (by omega)
  obtain ⟨g1, g2⟩ := dg_bd hT ht n
  unfold w_X7_valueOfTrack
  rw [h0]
  exact ⟨is1, kS hb, s_X5_dryValue hb hsk hr hV ht (by omega) (by omega) (s_X7_duckGainAt h0 hb hsk hr hT hk ht hn hc hc2 (s_X7_applied (B := 160000) (D := 1000) d1 d2 g1 g2 (by decide) hq))⟩
