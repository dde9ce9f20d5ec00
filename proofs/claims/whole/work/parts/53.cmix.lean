/-! The class: the mix at a position -/
def Smi : Nat → Nat → Prop := fun a _ => a = 82 ∨ (239 ≤ a ∧ a ≤ 246)
theorem Smi_lo {s a b : Nat} (hb : bs s) (h1 : s ≤ a) (h2 : a < s + 39) : ¬ Smi a b := by
  have := hb
  unfold bs at this
  rintro (q | q) <;> omega
theorem cv_fr {M M1 : mw_M} {R : Row} {t u : Nat} (s : sm (Scv t) M M1) (h : cv M R u) (hu : u ≠ t) : cv M1 R u := by
  obtain ⟨w, w1, w2, ew, z0, z1, hd⟩ := h
  have n1 : ∀ b, ¬ Scv t (239 + 2 * u) b := by rintro b (q | q) <;> omega
  have n2 : ∀ b, ¬ Scv t (240 + 2 * u) b := by rintro b (q | q) <;> omega
  exact ⟨w, w1, w2, (s.2.1 _ _ (n1 _)).trans ew, (s.2.1 _ _ (n2 _)).trans z0, (s.2.1 _ _ (n2 _)).trans z1, fun hne j hj => (s.2.1 _ _ (n2 _)).trans (hd hne j hj)⟩
theorem cv_82 {M M1 : mw_M} {R : Row} {u : Nat} (s : sm S82 M M1) (h : cv M R u) : cv M1 R u := by
  obtain ⟨w, w1, w2, ew, z0, z1, hd⟩ := h
  have n1 : ∀ b, ¬ S82 (239 + 2 * u) b := by intro b (q : _ = 82); omega
  have n2 : ∀ b, ¬ S82 (240 + 2 * u) b := by intro b (q : _ = 82); omega
  exact ⟨w, w1, w2, (s.2.1 _ _ (n1 _)).trans ew, (s.2.1 _ _ (n2 _)).trans z0, (s.2.1 _ _ (n2 _)).trans z1, fun hne j hj => (s.2.1 _ _ (n2 _)).trans (hd hne j hj)⟩
theorem s_X7_mixInto {M : mw_M} {s n : Nat} {R : Row} {K : Int64} {Q : mw_M → Prop} (h0 : mP M 1 0 = s) (hb : bs s) (hsk : sk M s) (hr : rep M s R K) (hV : VAL R) (hk : cvk M) (hc : ∀ t, t < 4 → cv M R t) (hn : n < 4000) (hq : ∀ M1, sm Smi M M1 → (∀ t, t < 4 → cv M1 R t) → mI M1 82 0 = mixL R n → mI M1 82 1 = mixRt R n → mI M1 82 2 = iI (mixN R n) → Q M1) : w_X7_mixInto 255 M 1 82 (nI n) Q := by
  have hT := hV.2.2.1
  have hm3 := hV.2.2.2.2.1.2.2
  unfold w_X7_mixInto
  rw [h0]
  refine ⟨is1, kS hb, s_X5_hasSolo hb hsk hr hT ?_⟩
  have el : lnd 3 = 4 := rfl
  unfold w_X7_mixInto_b17
  refine ⟨fun N y z w => ∃ t, w = nI t ∧ t ≤ 4 ∧ y = iI (sumL R n t) ∧ z = iI (sumRt R n t) ∧ sm Smi M N ∧ ∀ u, u < 4 → cv N R u, fun _ _ _ w => 4 - w.toInt.toNat, ⟨0, rfl, by decide, rfl, rfl, sm.rf, hc⟩, ?_⟩
  rintro N _ _ _ ⟨t, rfl, ht, rfl, rfl, sN, hcN⟩
  have h0N : mP N 1 0 = s := (sN.1 _ _).trans h0
  have hskN := sm_sk sN hsk
  have hkN := sm_cvk sN hk
  have hrN := sm_rep sN hsk hV.2.1 (fun a b h1 h2 => Smi_lo hb h1 h2) hr
  obtain ⟨⟨-, -, p3, -⟩, -, pt, -⟩ := id hskN
  obtain ⟨⟨b1, b2⟩, b3, b4⟩ := sum_bd hV hn t ht
  have eL : (iI (sumL R n t)).toInt = sumL R n t := iI_toInt (by omega) (by omega)
  have eR : (iI (sumRt R n t)).toInt = sumRt R n t := iI_toInt (by omega) (by omega)
  rw [li 4, nI_leI (by decide) (by omega), h0N]
  refine ⟨fun g => ⟨is1, kS hb, ?_⟩, fun g => ⟨is1, kS hb, ?_⟩⟩
  · have : t = 4 := by omega
    subst this
    rw [hrN.2.2.2.2.1.1]
    refine s_X7_applied (B := 640000) (D := 2000) (by omega) (by omega) hm3.1 hm3.2 (by decide) (s_X7_applied (B := 640000) (D := 2000) (by omega) (by omega) hm3.1 hm3.2 (by decide) ⟨is82, s_X2_limit (fun M1 s1 e0 e1 e2 => hq M1 (sN.tr (s1.mono (fun a b q => Or.inl q))) (fun u hu => cv_82 s1 (hcN u hu)) e0 e1 e2)⟩)
  · have ht4 : t < 4 := by omega
    rw [p3, bs_ln hb (by decide) (Or.inr (Or.inr (Or.inl rfl))), el, nI_clamp (by omega), (pt t ht4).1]
    refine ⟨kA3 hb, vp_n ht4 (by decide), ?_⟩
    rintro _ rfl
    refine ⟨(kTr hb ht4).1, s_X6_isHeard hb hrN hT ht4 ?_⟩
    rw [bl_0]
    unfold w_X7_mixInto_b110
    have sl : sumL R n (t + 1) = sumL R n t + ifp (heard R t) (lft R t n) 0 := rfl
    have sr : sumRt R n (t + 1) = sumRt R n t + ifp (heard R t) (rgt R t n) 0 := rfl
    refine ⟨fun hh => ?_, fun hh => s_X7_learn h0N hb hskN hrN hV hkN (hcN t ht4) ht4 hn (fun N2 s2 c2 w2 => ?_)⟩
    · rintro _ rfl
      rw [ifp_f hh, Int.add_zero] at sl sr
      exact ⟨⟨t + 1, nI_1 t, by omega, by rw [sl], by rw [sr], sN, hcN⟩, mu_dec (by omega) (by decide)⟩
    · replace hh := Classical.not_not.mp hh
      rw [ifp_t hh] at sl sr
      have s2' : sm Smi N N2 := s2.mono (fun a b q => Or.inr (by rcases q with q | q <;> omega))
      have h0N2 : mP N2 1 0 = s := (s2.1 _ _).trans h0N
      have hskN2 := sm_sk s2 hskN
      have hkN2 := sm_cvk s2 hkN
      have hrN2 := sm_rep s2' hskN hV.2.1 (fun a b h1 h2 => Smi_lo hb h1 h2) hrN
      refine s_X7_valueOfTrack h0N2 hb hskN2 hrN2 hV hkN2 ht4 hn c2 w2 ?_
      obtain ⟨v1, v2⟩ := val_bd hV ht4 hn
      obtain ⟨-, ⟨q1, q2⟩, -⟩ := hT t ht4
      rw [vT hrN2 ht4 (f := 1) (by decide)]
      have z0 : (0 : Int32).toInt = 0 := Int32.toInt_zero
      have o1 : (100 : Int32).toInt = 100 := rfl
      rintro _ rfl
      have eP : (if (0 : Int32) < rT R t 1 then rT R t 1 else 0).toInt = (if 0 < (rT R t 1).toInt then (rT R t 1).toInt else 0) := by
        simp only [ti_lt, z0]; split <;> simp
      have eM : (if rT R t 1 < (0 : Int32) then rT R t 1 else 0).toInt = (if (rT R t 1).toInt < 0 then (rT R t 1).toInt else 0) := by
        simp only [ti_lt, z0]; split <;> simp
      have gP : 0 ≤ (if 0 < (rT R t 1).toInt then (rT R t 1).toInt else 0) ∧ (if 0 < (rT R t 1).toInt then (rT R t 1).toInt else 0) ≤ 100 := by split <;> omega
      have gM : -100 ≤ (if (rT R t 1).toInt < 0 then (rT R t 1).toInt else 0) ∧ (if (rT R t 1).toInt < 0 then (rT R t 1).toInt else 0) ≤ 0 := by split <;> omega
      have f1 : (100 - (if (0 : Int32) < rT R t 1 then rT R t 1 else 0)).toInt = 100 - (if 0 < (rT R t 1).toInt then (rT R t 1).toInt else 0) := by
        rw [ti_sub (by rw [o1, eP]; omega) (by rw [o1, eP]; omega), o1, eP]
      have f2 : (100 + (if rT R t 1 < (0 : Int32) then rT R t 1 else 0)).toInt = 100 + (if (rT R t 1).toInt < 0 then (rT R t 1).toInt else 0) := by
        rw [ti_add (by rw [o1, eM]; omega) (by rw [o1, eM]; omega), o1, eM]
      have m1 := mul_bd (v := (valR R t n).toInt) (g := 100 - (if 0 < (rT R t 1).toInt then (rT R t 1).toInt else 0)) (B := 160000) (D := 100) v1 v2 (by omega) (by omega)
      have m2 := mul_bd (v := (valR R t n).toInt) (g := 100 + (if (rT R t 1).toInt < 0 then (rT R t 1).toInt else 0)) (B := 160000) (D := 100) v1 v2 (by omega) (by omega)
      obtain ⟨⟨l1, l2⟩, l3, l4⟩ := lr_bd hV ht4 hn
      refine s_floorDiv (by rw [o1]; decide) ?_
      rw [ti_mul (by rw [f1]; omega) (by rw [f1]; omega), f1, o1]
      rintro _ rfl _ rfl
      refine s_floorDiv (by rw [o1]; decide) ?_
      rw [ti_mul (by rw [f2]; omega) (by rw [f2]; omega), f2, o1]
      rintro _ rfl _ rfl
      have k1 : iI (sumL R n t) + iI (lft R t n) = iI (sumL R n (t + 1)) := by
        have e := iI_toInt (z := lft R t n) (by omega) (by omega)
        refine iI_eq ?_
        rw [ti_add (by rw [eL, e]; omega) (by rw [eL, e]; omega), eL, e, sl]
      have k2 : iI (sumRt R n t) + iI (rgt R t n) = iI (sumRt R n (t + 1)) := by
        have e := iI_toInt (z := rgt R t n) (by omega) (by omega)
        refine iI_eq ?_
        rw [ti_add (by rw [eR, e]; omega) (by rw [eR, e]; omega), eR, e, sr]
      refine ⟨⟨t + 1, nI_1 t, by omega, k1, k2, sN.tr s2', fun u hu => ?_⟩, mu_dec (by omega) (by decide)⟩
      by_cases e : u = t
      · rw [e]; exact c2
      · exact cv_fr s2 (hcN u hu) e
