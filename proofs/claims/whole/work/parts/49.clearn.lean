/-! The class: learning the gains of a track -/
theorem dk_s (R : Row) (t m : Nat) : dk R t (m + 2) = ifp (loudR R (keyN R t) m (rT R t 30)) (if rT R t 31 < dk R t (m + 1) - rT R t 32 then dk R t (m + 1) - rT R t 32 else rT R t 31) (if dk R t (m + 1) + rT R t 33 < 1000 then dk R t (m + 1) + rT R t 33 else 1000) := rfl
theorem Scv_lo {t s a b : Nat} (hb : bs s) (h2 : a < s + 39) : ¬ Scv t a b := by
  have := bs_le hb
  rintro (q | q) <;> omega
theorem s_X7_learn {M : mw_M} {s t n : Nat} {R : Row} {K : Int64} {Q : mw_M → Prop} (h0 : mP M 1 0 = s) (hb : bs s) (hsk : sk M s) (hr : rep M s R K) (hV : VAL R) (hk : cvk M) (hc : cv M R t) (ht : t < 4) (hn : n < 4000) (hq : ∀ M1, sm (Scv t) M M1 → cv M1 R t → (rT R t 29 ≠ -1 → ∃ w, mI M1 (239 + 2 * t) 1 = nI w ∧ n / 40 < w ∧ w ≤ 100) → Q M1) : w_X7_learnDucking 255 M 1 (nI t) (nI n) Q := by
  obtain ⟨⟨-, -, p3, -⟩, -, pt, -⟩ := id hsk
  have hT := hV.2.2.1
  have e8 : mI M (s + 23 + 4 * t) 8 = rT R t 29 := vT2 hr ht (f := 0) (by decide)
  have el : lnd 3 = 4 := rfl
  unfold w_X7_learnDucking
  rw [h0, p3, bs_ln hb (by decide) (Or.inr (Or.inr (Or.inl rfl))), el, nI_clamp (by omega)]
  refine ⟨is1, kS hb, kA3 hb, vp_n ht (by decide), ?_⟩
  rw [(pt t ht).1]
  rintro _ rfl
  rw [e8]
  refine ⟨(kTr hb ht).1, fun hne => ?_, fun he => hq M sm.rf hc (fun q => absurd he q)⟩
  rintro _ rfl
  rw [hk.1, Ln81, (hk.2 t ht).1]
  refine ⟨is81, vp_n ht (by decide), (isCv ht).1, ?_⟩
  rintro _ rfl
  obtain ⟨w0, w1, w2, ew, z0, z1, hd⟩ := hc
  rw [ew, pk_div40 hn]
  obtain ⟨ek, hk4⟩ := keyN_s hT ht hne
  have e9 : ∀ N, sm (Scv t) M N → mI N (s + 23 + 4 * t) 8 = rT R t 29 ∧ mI N (s + 23 + 4 * t) 9 = rT R t 30 := fun N sN => ⟨(sN.2.1 _ _ (Scv_lo hb (by omega))).trans e8, (sN.2.1 _ _ (Scv_lo hb (by omega))).trans (vT2 hr ht (f := 1) (by decide))⟩
  unfold w_X7_learnDucking_b36
  refine ⟨fun N z => ∃ w, z = nI w ∧ 1 ≤ w ∧ w ≤ 100 ∧ sm (Scv t) M N ∧ mI N (239 + 2 * t) 1 = nI w ∧ mI N (240 + 2 * t) 0 = 1000 ∧ mI N (240 + 2 * t) 1 = 1000 ∧ ∀ j, j ≤ w → mI N (240 + 2 * t) j = dk R t j, fun _ z => 101 - z.toInt.toNat, ⟨w0, rfl, w1, w2, sm.rf, ew, z0, z1, hd hne⟩, ?_⟩
  rintro N _ ⟨w, rfl, v1, v2, sN, fw, y0, y1, hE⟩
  rw [nI_ltI (by omega) (by omega)]
  refine ⟨fun g => hq N sN ⟨w, v1, v2, fw, y0, y1, fun _ => hE⟩ (fun _ => ⟨w, fw, g, v2⟩), fun g => ⟨is1, ?_⟩⟩
  obtain ⟨m, rfl⟩ : ∃ m, w = m + 1 := ⟨w - 1, by omega⟩
  have hkN := sm_cvk sN hk
  have hskN := sm_sk sN hsk
  have hrN := sm_rep sN hsk hV.2.1 (fun a b _ h2 => Scv_lo hb h2) hr
  have h0N : mP N 1 0 = s := (sN.1 _ _).trans h0
  rw [hkN.1, Ln81, nI_clamp (by omega), (hkN.2 t ht).1, h0N, (e9 N sN).1, (e9 N sN).2, ek, nI_pred]
  refine ⟨is81, vp_n ht (by decide), (kTr hb ht).1, kS hb, s_X5_reaches hb hskN hrN hV hk4 (by omega) ⟨(isCv ht).1, s_X1_follow hb hrN hkN ht (w := m + 1) (by omega) fw (fun N2 s2 f1 f2 f3 => ?_)⟩⟩
  rintro _ rfl
  refine ⟨⟨m + 2, by rw [nI_1], by omega, by omega, sN.tr s2, f1, (f3 0 (by omega)).trans y0, (f3 1 (by omega)).trans y1, fun j hj => ?_⟩, mu_dec (by omega) (by decide)⟩
  by_cases e : j = m + 2
  · rw [e, f2, hE (m + 1) (Nat.le_refl _), dk_s]
    by_cases hl : loudR R (keyN R t) m (rT R t 30)
    · rw [ifp_t hl, bl_t hl, if_neg (by decide)]
    · rw [ifp_f hl, bl_f hl, if_pos rfl]
  · rw [f3 j e]
    exact hE j (by omega)
