/-! The reference: values of tracks, the mix -/
theorem laid.mono {M : mw_M} {t a b : Nat} (h : laid M t b) (hab : a ≤ b) : laid M t a := fun hne m hm => h hne m (by omega)
theorem s_X8_laysDucks {M : mw_M} {last : Nat} {Q : mw_M → Prop} (hM : MK M) (hV : VAL (nw M)) (hl : last < 100) (hq : ∀ M1, sm S253 M M1 → (∀ t, t < 4 → laid M1 t last) → Q M1) : w_X8_laysDucks 255 M 247 (nI last) Q := by
  unfold w_X8_laysDucks w_X8_laysDucks_b2
  refine ⟨fun N z => ∃ t, z = nI t ∧ t ≤ 4 ∧ sm S253 M N ∧ ∀ u, u < t → laid N u last, fun _ z => 4 - z.toInt.toNat, ⟨0, rfl, by decide, sm.rf, fun u hu => absurd hu (Nat.not_lt_zero u)⟩, ?_⟩
  rintro N _ ⟨t, rfl, ht, sN, hL⟩
  have eRN : nw N = nw M := sN.nw (fun b h => by cases h)
  rw [li 4, nI_leI (by omega) (by omega)]
  refine ⟨fun h => hq N sN (fun u hu => hL u (by omega)), fun h => ⟨is247, s_X8_laysDuck (sN.MK hM) (by rw [eRN]; exact hV) (by omega) hl (fun N1 s1 l1 r1 => ?_)⟩⟩
  rintro _ rfl
  refine ⟨⟨t + 1, nI_1 t, by omega, sN.tr s1, fun u hu => ?_⟩, mu_dec (by omega) (by decide)⟩
  by_cases e : u = t
  · rw [e]; exact l1
  · have e1 : nw N1 = nw N := s1.nw (fun b h => by cases h)
    have h2 := hL u (by omega)
    intro hne m hm
    rw [e1] at hne ⊢
    rw [r1 _ (by omega)]
    exact h2 hne m hm
theorem s_X8_duckAt {M : mw_M} {t n : Nat} {Q : Int32 → Prop} (hM : MK M) (hV : VAL (nw M)) (ht : t < 4) (hn : n < 4000) (hne : rT (nw M) t 29 ≠ -1) (hl : laid M t (n / 40)) (hq : Q (dgR (nw M) t n)) : w_X8_duckAt 255 M 247 (nI t) (nI n) Q := by
  obtain ⟨h1, -, -, -, -, h6⟩ := id hM
  obtain ⟨hS, hC, hT, hP, hX, hL⟩ := id hV
  have hdb := dg_bd hT ht n
  unfold w_X8_duckAt
  rw [li 40, pk_div (by omega) (by decide) (by decide)]
  rintro _ rfl
  have d0 := dk_bd hT ht (n / 40)
  have d1 := dk_bd hT ht (n / 40 + 1)
  have b28 : ∀ s : Int32, s = dk (nw M) t (n / 40) → w_X8_duckAt_b28 255 M 247 (nI t) (nI n) (nI (n / 40)) s Q := by
    rintro s rfl
    unfold w_X8_duckAt_b28
    obtain ⟨ia, ja⟩ := e_ix (m := n / 40) ht (by omega) (x := 100 * nI t + nI (n / 40)) (by rw [li 100, pk_mul, nI_add])
    rw [h6, ja, hl hne (n / 40) (Nat.le_refl _)]
    refine ⟨is247, is253, ia, ?_⟩
    have e40 : nI n - 40 * nI (n / 40) = nI (n - 40 * (n / 40)) := by rw [li 40, pk_mul, pk_sub (by omega)]
    rw [e40]
    have en : (nI (n - 40 * (n / 40))).toInt = (n : Int) - 40 * (n / 40 : Nat) := by rw [nI_toInt (by omega)]; omega
    have es := ti_sub (x := dk (nw M) t (n / 40 + 1)) (y := dk (nw M) t (n / 40)) (by omega) (by omega)
    have hm := mul_bd (v := (dk (nw M) t (n / 40 + 1)).toInt - (dk (nw M) t (n / 40)).toInt) (g := (n : Int) - 40 * (n / 40 : Nat)) (B := 1000) (D := 40) (by omega) (by omega) (by omega) (by omega)
    have e1 : (Int32.toInt64 (dk (nw M) t (n / 40 + 1) - dk (nw M) t (n / 40)) * Int32.toInt64 (nI (n - 40 * (n / 40)))).toInt = ((dk (nw M) t (n / 40 + 1)).toInt - (dk (nw M) t (n / 40)).toInt) * ((n : Int) - 40 * (n / 40 : Nat)) := by
      rw [tl_mul (by rw [ti_l, ti_l, es, en]; omega) (by rw [ti_l, ti_l, es, en]; omega), ti_l, ti_l, es, en]
    have l40 : (40 : Int64).toInt = 40 := rfl
    refine s_X8_floor (by rw [l40]; decide) (by rw [e1]; omega) (fun r hr => ?_)
    rw [e1, l40] at hr
    unfold dgR at hq
    rw [if_neg hne, ← hr] at hq
    have e3 : r.toInt32 = iI r.toInt := iI_eq (tl_i (by omega) (by omega))
    rw [e3]
    exact hq
  refine ⟨fun h => ?_, fun h => ?_⟩
  · have h0 : n / 40 ≠ 0 := fun e => h (by rw [e]; rfl)
    obtain ⟨m', hm'⟩ : ∃ m', n / 40 = m' + 1 := ⟨n / 40 - 1, by omega⟩
    rw [hm'] at b28 ⊢
    obtain ⟨ia, ja⟩ := e_ix (m := m') ht (by omega) (x := 100 * nI t + nI (m' + 1) - 1) (by rw [li 100, li 1, pk_mul, nI_add, pk_sub (by omega)]; exact congrArg nI (by omega))
    rw [h6, ja]
    exact ⟨is247, is253, ia, b28 _ (hl hne m' (by omega))⟩
  · have e0 : n / 40 = 0 := (nI_eq (by omega) (by omega)).mp h
    refine b28 _ ?_
    rw [e0]
    rfl
theorem s_X8_valueAt {M : mw_M} {t n : Nat} {Q : Int32 → Prop} (hM : MK M) (hV : VAL (nw M)) (ht : t < 4) (hn : n < 4000) (hl : laid M t (n / 40)) (hq : Q (valR (nw M) t n)) : w_X8_valueAt 255 M 247 (nI t) (nI n) Q := by
  obtain ⟨h1, -⟩ := id hM
  obtain ⟨hS, hC, hT, hP, hX, hL⟩ := id hV
  have hni : (nI n).toInt = n := nI_toInt (by omega)
  obtain ⟨-, d1, d2⟩ := dryR_bd hS hC hT hP hL ht (n := nI n) (by omega) (by omega)
  obtain ⟨g1, g2⟩ := dg_bd hT ht n
  unfold w_X8_valueAt w_X8_valueAt_b38
  refine ⟨is247, s_X8_dry hM hV ht (by omega) (by omega) (s_X8_trackAt ?_)⟩
  obtain ⟨i29, j29⟩ := trk_ix (M := M) (f := 29) ht (by decide) (x := nI (141 + 34 * t) + 29) (by rw [li 29, nI_add])
  rw [h1, j29]
  refine ⟨is248, i29, fun h => ?_, fun h => ?_⟩
  · exact s_X8_duckAt hM hV ht hn h hl (s_X8_applied (B := 160000) (D := 1000) (ti_l _) (by omega) (by omega) g1 g2 (by omega) hq)
  · unfold valR dgR at hq
    rw [if_pos h, ap_1000] at hq
    exact hq
theorem b01_i {x : Int32} (h0 : 0 ≤ x.toInt) (h1 : x.toInt ≤ 1) : (x = 0 ∨ x = 1) := by
  rcases (show x.toInt = 0 ∨ x.toInt = 1 by omega) with h | h
  · exact Or.inl (ti_inj h)
  · exact Or.inr (ti_inj h)
theorem s_X8_isHeard {M : mw_M} {t : Nat} {Q : Int32 → Prop} (hM : MK M) (hT : VT (nw M)) (ht : t < 4) (hq : Q (bl (heard (nw M) t))) : w_X8_isHeard 255 M 247 (nI t) Q := by
  obtain ⟨h1, -⟩ := id hM
  unfold w_X8_isHeard w_X8_isHeard_b4
  refine ⟨fun y z => ∃ u, z = nI u ∧ u ≤ 4 ∧ mw_b01 y ∧ (y = 1 ↔ ∃ v, v < u ∧ rT (nw M) v 3 = 1), fun _ z => 4 - z.toInt.toNat, ⟨0, rfl, by decide, Or.inl rfl, ⟨fun q => absurd q (by decide), fun ⟨v, hv, _⟩ => absurd hv (Nat.not_lt_zero v)⟩⟩, ?_⟩
  rintro y _ ⟨u, rfl, hu, hy, hI⟩
  rw [li 4, nI_leI (by omega) (by omega)]
  refine ⟨fun h => ?_, fun h => ?_⟩
  · have : u = 4 := by omega
    subst this
    have hsolo : someSolo (nw M) ↔ y = 1 := by
      rw [hI]
      unfold someSolo
      constructor
      · rintro (q | q | q | q)
        · exact ⟨0, by decide, q⟩
        · exact ⟨1, by decide, q⟩
        · exact ⟨2, by decide, q⟩
        · exact ⟨3, by decide, q⟩
      · rintro ⟨v, hv, q⟩
        rcases (show v = 0 ∨ v = 1 ∨ v = 2 ∨ v = 3 by omega) with rfl | rfl | rfl | rfl
        · exact Or.inl q
        · exact Or.inr (Or.inl q)
        · exact Or.inr (Or.inr (Or.inl q))
        · exact Or.inr (Or.inr (Or.inr q))
    refine ⟨is247, s_X8_trackAt ?_⟩
    obtain ⟨i2, j2⟩ := trk_ix (M := M) (f := 2) ht (by decide) (x := nI (141 + 34 * t) + 2) (by rw [li 2, nI_add])
    obtain ⟨i3, j3⟩ := trk_ix (M := M) (f := 3) ht (by decide) (x := nI (141 + 34 * t) + 3) (by rw [li 3, nI_add])
    rw [h1, j2]
    unfold w_X8_isHeard_b77 w_X8_isHeard_b73 w_X8_isHeard_b78
    have F : ¬ heard (nw M) t → mw_b01 0 ∧ Q 0 := fun h2 => ⟨Or.inl rfl, by rw [bl_f h2] at hq; exact hq⟩
    have T : heard (nw M) t → mw_b01 1 ∧ Q 1 := fun h2 => ⟨Or.inr rfl, by rw [bl_t h2] at hq; exact hq⟩
    refine ⟨is248, i2, fun h2 => F (fun q => h2 q.1), fun h2 => ⟨fun h3 => T ⟨h2, Or.inl (fun q => by rw [hsolo, h3] at q; exact absurd q (by decide))⟩, fun h3 => s_X8_trackAt ?_⟩⟩
    rw [j3]
    refine ⟨i3, fun h4 => F (fun q => ?_), fun h4 => T ⟨h2, Or.inr h4⟩⟩
    have hy1 : y = 1 := hy.resolve_left h3
    rcases q.2 with q2 | q2
    · exact q2 (hsolo.mpr hy1)
    · exact h4 q2
  · have stp : ∀ y' : Int32, mw_b01 y' → (y' = 1 ↔ ∃ v, v < u + 1 ∧ rT (nw M) v 3 = 1) → w_X8_isHeard_b33 255 M 247 (nI t) (nI u) y' Q (fun (x2_ : Int32) (x3_ : Int32) => (∃ u, x3_ = nI u ∧ u ≤ 4 ∧ mw_b01 x2_ ∧ (x2_ = 1 ↔ ∃ v, v < u ∧ rT (nw M) v 3 = 1)) ∧ 4 - x3_.toInt.toNat < 4 - (nI u).toInt.toNat) := by
      intro y' h2 h3
      unfold w_X8_isHeard_b33
      rintro _ rfl
      exact ⟨⟨u + 1, nI_1 u, by omega, h2, h3⟩, mu_dec (by omega) (by decide)⟩
    unfold w_X8_isHeard_b28
    refine ⟨fun h2 => stp 1 (Or.inr rfl) ⟨fun _ => ?_, fun _ => rfl⟩, fun h2 => ⟨is247, s_X8_trackAt ?_⟩⟩
    · obtain ⟨v, hv, q⟩ := hI.mp (hy.resolve_left h2)
      exact ⟨v, by omega, q⟩
    · obtain ⟨i3, j3⟩ := trk_ix (M := M) (t := u) (f := 3) (by omega) (by decide) (x := nI (141 + 34 * u) + 3) (by rw [li 3, nI_add])
      rw [h1, j3]
      refine ⟨is248, i3, fun h4 => stp 0 (Or.inl rfl) ⟨fun q => absurd q (by decide), fun ⟨v, hv, q⟩ => ?_⟩, fun h4 => stp 1 (Or.inr rfl) ⟨fun _ => ⟨u, by omega, h4⟩, fun _ => rfl⟩⟩
      by_cases e : v = u
      · rw [e] at q; exact absurd q h4
      · have := hI.mpr ⟨v, by omega, q⟩
        rw [h2] at this
        exact absurd this (by decide)
/-- the mix's own places -/
def Smix : Nat → Nat → Prop := fun a b => a = 247 ∧ (b = 10 ∨ b = 11 ∨ b = 12)
theorem s_X8_limited {M : mw_M} {x : Int32} {Q : mw_M → Int32 → Prop} {c : Int} (hc : mI M 247 12 = iI c) (hq : Q (sI M 247 12 (iI (c + limN x))) (lim x)) : w_X8_limited 255 M 247 x Q := by
  have l1 : (32767 : Int32).toInt = 32767 := rfl
  have l2 : (-32767 : Int32).toInt = -32767 := rfl
  unfold w_X8_limited w_X8_limited_b19 w_X8_limited_b24 w_X8_limited_b55
  rw [hc]
  have e1 : iI c + 1 = iI (c + 1) := by unfold iI; rw [Int32.ofInt_add]; rfl
  have e0 : iI c + 0 = iI (c + 0) := by unfold iI; rw [Int32.ofInt_add]; rfl
  unfold lim limN at hq
  simp only [ti_lt, ti_le, l1, l2] at hq ⊢
  refine ⟨is247, fun h => ⟨is247, ?_⟩, fun h => ⟨fun h2 => ⟨is247, ?_⟩, fun h2 => ⟨is247, ?_⟩⟩⟩
  · rintro _ rfl
    rw [if_pos (Or.inl h), if_pos h] at hq
    rw [e1]
    exact ⟨fun q => by omega, fun _ => hq⟩
  · rintro _ rfl
    rw [if_neg (by omega), if_neg (by omega), if_neg (by omega)] at hq
    rw [e0]
    exact ⟨fun _ => ⟨fun _ => hq, fun q => by omega⟩, fun q => by omega⟩
  · rintro _ rfl
    rw [if_pos (by omega), if_neg (by omega), if_pos (by omega)] at hq
    rw [e1]
    exact ⟨fun _ => ⟨fun q => by omega, fun _ => hq⟩, fun q => by omega⟩
theorem lr_bd {R : Row} (hV : VAL R) {t : Nat} (ht : t < 4) {n : Nat} (hn : n < 4000) : (-160000 ≤ lft R t n ∧ lft R t n ≤ 160000) ∧ -160000 ≤ rgt R t n ∧ rgt R t n ≤ 160000 := by
  obtain ⟨v1, v2⟩ := val_bd hV ht hn
  obtain ⟨-, -, hT, -⟩ := hV
  obtain ⟨-, ⟨p1, p2⟩, -⟩ := hT t ht
  unfold lft rgt
  have m1 := mul_bd (v := (valR R t n).toInt) (g := 100 - (if 0 < (rT R t 1).toInt then (rT R t 1).toInt else 0)) (B := 160000) (D := 100) (by omega) (by omega) (by split <;> omega) (by split <;> omega)
  have m2 := mul_bd (v := (valR R t n).toInt) (g := 100 + (if (rT R t 1).toInt < 0 then (rT R t 1).toInt else 0)) (B := 160000) (D := 100) (by omega) (by omega) (by split <;> omega) (by split <;> omega)
  omega
theorem sum_bd {R : Row} (hV : VAL R) {n : Nat} (hn : n < 4000) : ∀ t : Nat, t ≤ 4 → (-160000 * (t : Int) ≤ sumL R n t ∧ sumL R n t ≤ 160000 * (t : Int)) ∧ -160000 * (t : Int) ≤ sumRt R n t ∧ sumRt R n t ≤ 160000 * (t : Int)
  | 0, _ => by simp [sumL, sumRt]
  | t + 1, h => by
    obtain ⟨⟨a1, a2⟩, a3, a4⟩ := sum_bd hV hn t (by omega)
    obtain ⟨⟨b1, b2⟩, b3, b4⟩ := lr_bd hV (show t < 4 by omega) hn
    unfold sumL sumRt
    by_cases hh : heard R t
    · rw [ifp_t hh, ifp_t hh]; omega
    · rw [ifp_f hh, ifp_f hh]; omega
theorem s_X8_mixes {M : mw_M} {n : Nat} {Q : mw_M → Prop} (hM : MK M) (hV : VAL (nw M)) (hn : n < 4000) (hl : ∀ t, t < 4 → laid M t (n / 40)) (hq : ∀ M1, sm Smix M M1 → mI M1 247 10 = mixL (nw M) n → mI M1 247 11 = mixRt (nw M) n → mI M1 247 12 = iI (mixN (nw M) n) → Q M1) : w_X8_mixes 255 M 247 (nI n) Q := by
  obtain ⟨h1, -⟩ := id hM
  obtain ⟨hS, hC, hT, hP, hX, hL⟩ := id hV
  have l100 : (100 : Int64).toInt = 100 := rfl
  have i100 : (100 : Int32).toInt = 100 := rfl
  unfold w_X8_mixes w_X8_mixes_b8
  refine ⟨fun N l r z => ∃ t, z = nI t ∧ t ≤ 4 ∧ N = M ∧ l.toInt = sumL (nw M) n t ∧ r.toInt = sumRt (nw M) n t, fun _ _ _ z => 4 - z.toInt.toNat, ⟨0, rfl, by decide, rfl, rfl, rfl⟩, ?_⟩
  rintro N l r _ ⟨t, rfl, ht, rfl, hl2, hr2⟩
  rw [li 4, nI_leI (by omega) (by omega)]
  obtain ⟨⟨a1, a2⟩, a3, a4⟩ := sum_bd hV hn t ht
  refine ⟨fun h => ⟨is247, ?_⟩, fun h => ⟨is247, ?_⟩⟩
  · have : t = 4 := by omega
    subst this
    obtain ⟨-, -, m1, m2⟩ := hX
    rintro _ rfl
    have s1 : sm Smix N (sI N 247 12 0) := sm.si ⟨rfl, Or.inr (Or.inr rfl)⟩
    have eR1 : nw (sI N 247 12 0) = nw N := s1.nw (fun b h => by cases h.1)
    have k1 : mP (sI N 247 12 0) 247 0 = 248 := h1
    obtain ⟨i3, j3⟩ := ix_is (x := 3) (j := 3) rfl (by decide)
    rw [k1, j3]
    refine ⟨is248, i3, ?_⟩
    have e3 : mI (sI N 247 12 0) 248 3 = nw N 3 := congrFun eR1 3
    rw [e3]
    have b0 : (iI (sumL (nw N) n 4)).toInt = sumL (nw N) n 4 := iI_toInt (by omega) (by omega)
    have b1 : (iI (sumRt (nw N) n 4)).toInt = sumRt (nw N) n 4 := iI_toInt (by omega) (by omega)
    refine s_X8_applied (v := iI (sumL (nw N) n 4)) (B := 640000) (D := 2000) (by rw [b0]; exact hl2) (by omega) (by omega) m1 m2 (by omega) ?_
    refine s_X8_limited (c := 0) (mI_at _ _ _ _) ?_
    rintro _ rfl
    have k2 : mP (sI (sI (sI N 247 12 0) 247 12 (iI (0 + limN (ap (iI (sumL (nw N) n 4)) (nw N 3))))) 247 10 (lim (ap (iI (sumL (nw N) n 4)) (nw N 3)))) 247 0 = 248 := h1
    rw [k2]
    refine ⟨is248, i3, ?_⟩
    have s2 : sm Smix N (sI (sI (sI N 247 12 0) 247 12 (iI (0 + limN (ap (iI (sumL (nw N) n 4)) (nw N 3))))) 247 10 (lim (ap (iI (sumL (nw N) n 4)) (nw N 3)))) := (s1.tr (sm.si ⟨rfl, Or.inr (Or.inr rfl)⟩)).tr (sm.si ⟨rfl, Or.inl rfl⟩)
    have eR2 := s2.nw (fun b h => by cases h.1)
    have e4 := congrFun eR2 3
    rw [show ∀ X : mw_M, mI X 248 3 = nw X 3 from fun _ => rfl, e4]
    refine s_X8_applied (v := iI (sumRt (nw N) n 4)) (B := 640000) (D := 2000) (by rw [b1]; exact hr2) (by omega) (by omega) m1 m2 (by omega) ?_
    refine s_X8_limited (c := 0 + limN (ap (iI (sumL (nw N) n 4)) (nw N 3))) (by rw [mI_ne (Or.inr (by decide)), mI_at]) ?_
    rintro _ rfl
    refine hq _ ((s2.tr (sm.si ⟨rfl, Or.inr (Or.inr rfl)⟩)).tr (sm.si ⟨rfl, Or.inr (Or.inl rfl)⟩)) ?_ ?_ ?_
    · rw [mI_ne (Or.inr (by decide)), mI_ne (Or.inr (by decide)), mI_at]; rfl
    · rw [mI_at]; rfl
    · rw [mI_ne (Or.inr (by decide)), mI_at]
      show iI _ = iI _
      congr 1
      unfold mixN mst
      omega
  · refine s_X8_isHeard hM hT (by omega) ?_
    have stp : ∀ l' r' : Int64, l'.toInt = sumL (nw N) n (t + 1) → r'.toInt = sumRt (nw N) n (t + 1) → w_X8_mixes_b103 255 N 247 (nI n) l' r' (nI t) Q (fun (M_ : mw_M) (l2_ : Int64) (l4_ : Int64) (x6_ : Int32) => (∃ t, x6_ = nI t ∧ t ≤ 4 ∧ M_ = N ∧ l2_.toInt = sumL (nw N) n t ∧ l4_.toInt = sumRt (nw N) n t) ∧ 4 - x6_.toInt.toNat < 4 - (nI t).toInt.toNat) := by
      intro l' r' g1 g2
      unfold w_X8_mixes_b103
      rintro _ rfl
      exact ⟨⟨t + 1, nI_1 t, by omega, rfl, g1, g2⟩, mu_dec (by omega) (by decide)⟩
    refine ⟨fun h2 => stp l r ?_ ?_, fun h2 => ?_⟩
    · rw [bl_0] at h2
      unfold sumL
      rw [ifp_f h2]; omega
    · rw [bl_0] at h2
      unfold sumRt
      rw [ifp_f h2]; omega
    · have hh : heard (nw N) t := Classical.not_not.mp (fun q => h2 (bl_0.mpr q))
      have stpL : sumL (nw N) n (t + 1) = sumL (nw N) n t + lft (nw N) t n := by rw [sumL, ifp_t hh]
      have stpR : sumRt (nw N) n (t + 1) = sumRt (nw N) n t + rgt (nw N) t n := by rw [sumRt, ifp_t hh]
      refine s_X8_valueAt hM hV (by omega) hn (hl t (by omega)) ?_
      rintro _ rfl
      refine s_X8_trackAt ?_
      obtain ⟨i1, j1⟩ := trk_ix (M := N) (t := t) (f := 1) (by omega) (by decide) (x := nI (141 + 34 * t) + 1) (by rw [li 1, nI_add])
      rw [h1, j1]
      refine ⟨is248, i1, ?_⟩
      rintro _ rfl
      obtain ⟨-, ⟨p1, p2⟩, -⟩ := hT t (by omega)
      obtain ⟨v1, v2⟩ := val_bd hV (show t < 4 by omega) hn
      obtain ⟨⟨c1, c2⟩, c3, c4⟩ := lr_bd hV (show t < 4 by omega) hn
      rw [ti_le, Int32.toInt_zero]
      have b91 : ∀ s0 : Int32, s0.toInt = (if (rT (nw N) t 1).toInt < 0 then (rT (nw N) t 1).toInt else 0) → ∀ l' : Int64, l'.toInt = sumL (nw N) n (t + 1) → w_X8_mixes_b91 255 N 247 (nI n) l' (nI t) s0 100 (Int32.toInt64 (valR (nw N) t n)) r Q (fun (M_ : mw_M) (l2_ : Int64) (l4_ : Int64) (x6_ : Int32) => (∃ t, x6_ = nI t ∧ t ≤ 4 ∧ M_ = N ∧ l2_.toInt = sumL (nw N) n t ∧ l4_.toInt = sumRt (nw N) n t) ∧ 4 - x6_.toInt.toNat < 4 - (nI t).toInt.toNat) := by
        intro s0 hs0 l' hl'
        unfold w_X8_mixes_b91
        have hs1 : -100 ≤ s0.toInt ∧ s0.toInt ≤ 0 := by rw [hs0]; split <;> omega
        have e1 : ((100 : Int32) + s0).toInt = 100 + s0.toInt := by rw [ti_add (by rw [i100]; omega) (by rw [i100]; omega), i100]
        have hm := mul_bd (v := (valR (nw N) t n).toInt) (g := 100 + s0.toInt) (B := 160000) (D := 100) (by omega) (by omega) (by omega) (by omega)
        have e2 : (Int32.toInt64 (valR (nw N) t n) * Int32.toInt64 (100 + s0)).toInt = (valR (nw N) t n).toInt * (100 + s0.toInt) := by rw [tl_mul (by rw [ti_l, ti_l, e1]; omega) (by rw [ti_l, ti_l, e1]; omega), ti_l, ti_l, e1]
        refine s_X8_floor (by rw [l100]; decide) (by rw [e2]; omega) (fun q hq2 => ?_)
        rintro _ rfl
        rw [e2, l100, hs0] at hq2
        have hq3 : q.toInt = rgt (nw N) t n := hq2
        exact stp _ _ hl' (by rw [tl_add (by omega) (by omega), hr2, hq3, stpR])
      have b63 : ∀ s0 : Int32, s0.toInt = (if 0 < (rT (nw N) t 1).toInt then (rT (nw N) t 1).toInt else 0) → w_X8_mixes_b63 255 N 247 (nI n) r (nI t) (Int32.toInt64 (valR (nw N) t n)) (rT (nw N) t 1) s0 100 (Int32.toInt64 (valR (nw N) t n)) l Q (fun (M_ : mw_M) (l2_ : Int64) (l4_ : Int64) (x6_ : Int32) => (∃ t, x6_ = nI t ∧ t ≤ 4 ∧ M_ = N ∧ l2_.toInt = sumL (nw N) n t ∧ l4_.toInt = sumRt (nw N) n t) ∧ 4 - x6_.toInt.toNat < 4 - (nI t).toInt.toNat) := by
        intro s0 hs0
        unfold w_X8_mixes_b63
        have hs1 : 0 ≤ s0.toInt ∧ s0.toInt ≤ 100 := by rw [hs0]; split <;> omega
        have e1 : ((100 : Int32) - s0).toInt = 100 - s0.toInt := by rw [ti_sub (by rw [i100]; omega) (by rw [i100]; omega), i100]
        have hm := mul_bd (v := (valR (nw N) t n).toInt) (g := 100 - s0.toInt) (B := 160000) (D := 100) (by omega) (by omega) (by omega) (by omega)
        have e2 : (Int32.toInt64 (valR (nw N) t n) * Int32.toInt64 (100 - s0)).toInt = (valR (nw N) t n).toInt * (100 - s0.toInt) := by rw [tl_mul (by rw [ti_l, ti_l, e1]; omega) (by rw [ti_l, ti_l, e1]; omega), ti_l, ti_l, e1]
        refine s_X8_floor (by rw [l100]; decide) (by rw [e2]; omega) (fun q hq2 => ?_)
        rintro _ rfl
        rw [e2, l100, hs0] at hq2
        have hq3 : q.toInt = lft (nw N) t n := hq2
        have hl' : (l + q).toInt = sumL (nw N) n (t + 1) := by rw [tl_add (by omega) (by omega), hl2, hq3, stpL]
        rw [ti_le, Int32.toInt_zero]
        refine ⟨fun h5 => b91 0 (by rw [if_neg (by omega)]; rfl) _ hl', fun h5 => b91 _ (by rw [if_pos (by omega)]) _ hl'⟩
      exact ⟨fun h5 => b63 0 (by rw [if_neg (by omega)]; rfl), fun h5 => b63 _ (by rw [if_pos (by omega)])⟩
