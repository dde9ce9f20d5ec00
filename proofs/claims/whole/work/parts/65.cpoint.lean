/-! The class: points -/
/-- the points up to a position -/
noncomputable def pb (R : Row) (t : Nat) (x : Int32) : Nat := lead (fun k => ¬ x < rT R t (5 + 3 * k)) (pn R t)
theorem s_X6_last2 {M : mw_M} {s t : Nat} {R : Row} {K : Int64} {x : Int32} {Q : Int32 → Prop} (hb : bs s) (hsk : sk M s) (hr : rep M s R K) (hT : VT R) (ht : t < 4) (hq : Q (nI (pb R t x) - 1)) : w_X6_lastPointUpTo 255 M (s + 23 + 4 * t) x Q := by
  unfold w_X6_lastPointUpTo w_X6_lastPointUpTo_b4 w_X6_lastPointUpTo_b30
  obtain ⟨e4, h8⟩ := hT.pn ht
  obtain ⟨k6, k10, k10b, k12⟩ := kTr hb ht
  obtain ⟨l1, l2, l3⟩ := ln8 hb ht
  refine ⟨fun y z => ∃ k, z = nI k ∧ y = nI k - 1 ∧ k ≤ pn R t ∧ ∀ j, j < k → ¬ x < rT R t (5 + 3 * j), fun _ z => 8 - z.toInt.toNat, ⟨0, rfl, rfl, Nat.zero_le _, fun j hj => absurd hj (Nat.not_lt_zero j)⟩, ?_⟩
  rintro _ _ ⟨k, rfl, rfl, hk, hj⟩
  rw [vT hr ht (f := 4) (by decide), e4, nI_leI (by omega) (by omega), (hsk.2.2.1 t ht).2.1, l1, nI_clamp (by omega)]
  have fin : (k < pn R t → ¬ ¬ x < rT R t (5 + 3 * k)) → Q (nI k - 1) := fun h => by
    have : pb R t x = k := lead_is hk hj h
    rw [this] at hq
    exact hq
  refine ⟨k6, fun h => fin (fun q => by omega), fun h => ⟨k10, vp_n (by omega) (by decide), ?_⟩⟩
  rw [(vP hr ht (k := k) (by omega)).1]
  refine ⟨fun h2 => fin (fun _ q => q h2), fun h2 => ?_⟩
  rintro _ rfl
  refine ⟨⟨k + 1, nI_1 k, (nI_pred k).symm, by omega, fun j hj2 => ?_⟩, mu_dec (by omega) (by decide)⟩
  by_cases e : j = k
  · rw [e]; exact h2
  · exact hj j (by omega)
theorem VP_lt {R : Row} {t : Nat} (hP : VP1 R t) : ∀ {i j : Nat}, i < j → j < pn R t → (rT R t (5 + 3 * i)).toInt < (rT R t (5 + 3 * j)).toInt := by
  intro i j hij
  induction j with
  | zero => omega
  | succ j ih =>
    intro hj
    have h1 := hP.2 j hj
    by_cases e : i = j
    · rw [e]; exact h1
    · have := ih (by omega) (by omega)
      omega
theorem pb_has {R : Row} {t : Nat} {x : Int32} (hP : VP1 R t) : (hasP R t x → pb R t x = pa R t x + 1) ∧ (¬ hasP R t x → pb R t x = pa R t x) := by
  obtain ⟨p1, p2, p3⟩ := pa_s (R := R) (t := t) (n := x)
  refine ⟨fun h => ?_, fun h => ?_⟩
  · obtain ⟨h1, h2⟩ := h
    refine lead_is (by omega) (fun j hj q => ?_) (fun hj q => q ?_)
    · by_cases e : j = pa R t x
      · rw [e, h2, ti_lt] at q; omega
      · have := p2 j (by omega)
        rw [ti_lt] at q this
        omega
    · have := VP_lt hP (Nat.lt_succ_self (pa R t x)) hj
      rw [h2] at this
      exact ti_lt.mpr this
  · refine lead_is p1 (fun j hj q => ?_) (fun hj q => q ?_)
    · have := p2 j hj
      rw [ti_lt] at q this
      omega
    · have h3 := p3 hj
      have h4 : ¬ rT R t (5 + 3 * pa R t x) = x := fun q => h ⟨hj, q⟩
      rw [ti_eq] at h4
      rw [ti_lt] at h3 ⊢
      omega
theorem s_X6_pointAt {M : mw_M} {s t : Nat} {R : Row} {K : Int64} {x : Int32} {Q : Int32 → Prop} (hb : bs s) (hsk : sk M s) (hr : rep M s R K) (hV : VAL R) (ht : t < 4) (hq : Q (ifp (hasP R t x) (nI (pa R t x)) (-1))) : w_X6_pointAt 255 M (s + 23 + 4 * t) x Q := by
  have hT := hV.2.2.1
  have hP := hV.2.2.2.1 t ht
  obtain ⟨e4, h8⟩ := hT.pn ht
  obtain ⟨p1, p2, p3⟩ := pa_s (R := R) (t := t) (n := x)
  obtain ⟨g1, g2⟩ := pb_has (x := x) hP
  obtain ⟨k6, k10, k10b, k12⟩ := kTr hb ht
  obtain ⟨l1, l2, l3⟩ := ln8 hb ht
  unfold w_X6_pointAt w_X6_pointAt_b25 w_X6_pointAt_b26
  refine ⟨k6, s_X6_last2 hb hsk hr hT ht ?_⟩
  rw [(hsk.2.2.1 t ht).2.1, l1]
  by_cases h : hasP R t x
  · rw [ifp_t h] at hq
    obtain ⟨h1, h2⟩ := id h
    rw [g1 h, nI_pred, nI_clamp (by omega), (vP hr ht h1).1]
    exact ⟨fun q => absurd q (nI_ne (by omega)), fun _ => ⟨k10, vp_n (by omega) (by decide), fun q => absurd h2 q, fun _ => hq⟩⟩
  · rw [ifp_f h] at hq
    rw [g2 h]
    refine ⟨fun _ => hq, fun q => ?_⟩
    have h0 : pa R t x ≠ 0 := fun e => q (by rw [e]; rfl)
    obtain ⟨d, hd⟩ : ∃ d, pa R t x = d + 1 := ⟨pa R t x - 1, by omega⟩
    have h3 := p2 d (by omega)
    rw [hd, nI_pred, nI_clamp (by omega), (vP hr ht (k := d) (by omega)).1]
    refine ⟨k10, vp_n (by omega) (by decide), fun _ => hq, fun e => ?_⟩
    rw [e, ti_lt] at h3
    omega
/-- place j shows point i of the row -/
def pts (N : mw_M) (s t j : Nat) (R : Row) (i : Nat) : Prop := mI N (s + 24 + 4 * t) j = rT R t (5 + 3 * i) ∧ mI N (s + 25 + 4 * t) j = rT R t (5 + 3 * i + 1) ∧ mI N (s + 26 + 4 * t) j = rT R t (5 + 3 * i + 2)
theorem s_X6_copyPlace {M : mw_M} {s t a b i : Nat} {R : Row} {Q : mw_M → Prop} (hb : bs s) (hsk : sk M s) (ht : t < 4) (ha : a < 8) (hb8 : b < 8) (hP : VP1 R t) (hi : i < pn R t) (hp : pts M s t b R i) (hq : ∀ M1, sm (fun q c => (s + 24 + 4 * t ≤ q ∧ q < s + 27 + 4 * t) ∧ c = a) M M1 → pts M1 s t a R i → Q M1) : w_X6_copyPlace 255 M (s + 23 + 4 * t) (nI a) (nI b) Q := by
  obtain ⟨k6, k10, k10b, k12⟩ := kTr hb ht
  obtain ⟨l1, l2, l3⟩ := ln8 hb ht
  obtain ⟨-, q5, q6, q7⟩ := hsk.2.2.1 t ht
  obtain ⟨v1, v2, v3⟩ := hp
  obtain ⟨-, -, b0, b1⟩ := hP.1 i hi
  unfold w_X6_copyPlace
  rw [q5, q6, q7, l1, l2, l3, nI_clamp (by omega), v1, v2, v3]
  exact ⟨k6, k10, vp_n hb8 (by decide), k10b, vp_n hb8 (by decide), k12, vp_n hb8 (by decide), s_X6_setPlace hb hsk ht ha (b01_i b0 b1) (fun M1 s1 h1 h2 h3 => hq M1 s1 ⟨h1, h2, h3⟩)⟩
theorem pts_fr {N N1 : mw_M} {s t a j i : Nat} {R : Row} (s1 : sm (fun q c => (s + 24 + 4 * t ≤ q ∧ q < s + 27 + 4 * t) ∧ c = a) N N1) (h : pts N s t j R i) (hj : j ≠ a) : pts N1 s t j R i := ⟨(s1.2.1 _ _ (fun q => hj q.2)).trans h.1, (s1.2.1 _ _ (fun q => hj q.2)).trans h.2.1, (s1.2.1 _ _ (fun q => hj q.2)).trans h.2.2⟩
theorem hP_s (R : Row) (t p : Nat) (x v h : Int32) : rT (hPoint R t p x v h) t (5 + 3 * p) = x ∧ rT (hPoint R t p x v h) t (5 + 3 * p + 1) = v ∧ rT (hPoint R t p x v h) t (5 + 3 * p + 2) = bi h := by
  unfold rT hPoint
  refine ⟨?_, ?_, ?_⟩
  · rw [up_ne (by omega), up_ne (by omega), show 141 + 34 * t + (5 + 3 * p) = 146 + 34 * t + 3 * p by omega, up_at]
  · rw [up_ne (by omega), show 141 + 34 * t + (5 + 3 * p + 1) = 146 + 34 * t + 3 * p + 1 by omega, up_at]
  · rw [show 141 + 34 * t + (5 + 3 * p + 2) = 146 + 34 * t + 3 * p + 2 by omega, up_at]
theorem hP_o {R : Row} {t p j : Nat} {x v h : Int32} (hj : j < 146 + 34 * t + 3 * p ∨ 146 + 34 * t + 3 * p + 3 ≤ j) : hPoint R t p x v h j = R j := by
  unfold hPoint
  rw [up_ne (by omega), up_ne (by omega), up_ne (by omega)]
theorem iP_o {R : Row} {t p j : Nat} {x v h : Int32} (h7 : pn R t < 8) (hp : p ≤ pn R t) (hj : j < 145 + 34 * t ∨ 141 + 34 * t + 29 ≤ j) : iPoint R t p x v h j = R j := by
  unfold iPoint
  rw [hP_o (by omega), up_ne (by omega)]
  unfold shR
  rw [if_neg (by omega)]
theorem iP_n {R : Row} {t p : Nat} {x v h : Int32} : rT (iPoint R t p x v h) t 4 = nI (pn R t + 1) := by
  unfold iPoint rT
  rw [hP_o (by omega), show 141 + 34 * t + 4 = 145 + 34 * t by omega, up_at]
theorem iP_lo {R : Row} {t p k e : Nat} {x v h : Int32} (hk : k < p) (he : e < 3) : rT (iPoint R t p x v h) t (5 + 3 * k + e) = rT R t (5 + 3 * k + e) := by
  unfold iPoint rT
  rw [hP_o (by omega), up_ne (by omega)]
  unfold shR
  rw [if_neg (by omega)]
theorem iP_hi {R : Row} {t p k e : Nat} {x v h : Int32} (hk : p ≤ k) (hk2 : k < pn R t) (he : e < 3) : rT (iPoint R t p x v h) t (5 + 3 * (k + 1) + e) = rT R t (5 + 3 * k + e) := by
  unfold iPoint rT
  rw [hP_o (by omega), up_ne (by omega)]
  unfold shR
  rw [if_pos (by omega)]
  congr 1
  omega
theorem s_X6_putPoint {M : mw_M} {s t : Nat} {R : Row} {K : Int64} {x v h : Int32} {Q : mw_M → Prop} (hb : bs s) (hsk : sk M s) (hr : rep M s R K) (hV : VAL R) (ht : t < 4) (hh : mw_b01 h) (hroom : gPoint R t x) (hq : ∀ M1, sm (Str s t) M M1 → repD1 M1 s (rPoint R t x v h) t → Q M1) : w_X6_putPoint 255 M (s + 23 + 4 * t) x v h Q := by
  have hT := hV.2.2.1
  have hP := hV.2.2.2.1 t ht
  obtain ⟨e4, h8⟩ := hT.pn ht
  obtain ⟨p1, p2, p3⟩ := pa_s (R := R) (t := t) (n := x)
  obtain ⟨g1, g2⟩ := pb_has (x := x) hP
  obtain ⟨k6, k10, k10b, k12⟩ := kTr hb ht
  obtain ⟨l1, l2, l3⟩ := ln8 hb ht
  have toS : ∀ {a : Nat} {N N1 : mw_M}, sm (fun q c => (s + 24 + 4 * t ≤ q ∧ q < s + 27 + 4 * t) ∧ c = a) N N1 → sm (Str s t) N N1 := fun w => w.mono (fun q c w => ⟨by have := w.1.1; omega, w.1.2⟩)
  obtain ⟨d1, d2⟩ := (rep_g.mp hr).2.2.1 t ht
  unfold w_X6_putPoint
  refine ⟨k6, s_X6_last2 hb hsk hr hT ht ?_⟩
  rw [(hsk.2.2.1 t ht).2.1, l1]
  by_cases hp : hasP R t x
  · have hR : rPoint R t x v h = hPoint R t (pa R t x) x v h := ifp_t hp
    rw [hR] at hq
    obtain ⟨h1, h2⟩ := id hp
    rw [g1 hp, nI_pred, nI_clamp (by omega), (vP hr ht h1).1]
    refine ⟨fun q => absurd q (nI_ne (by omega)), fun _ => ⟨k10, vp_n (by omega) (by decide), fun _ => ?_, fun q => absurd h2 q⟩⟩
    unfold w_X6_putPoint_b76
    refine ⟨k6, s_X6_setPlace hb hsk ht (by omega) hh (fun M1 s1 a1 a2 a3 => hq M1 (toS s1) ?_)⟩
    obtain ⟨u1, u2, u3⟩ := hP_s R t (pa R t x) x v h
    have eo : ∀ f, f < 5 ∨ 29 ≤ f → rT (hPoint R t (pa R t x) x v h) t f = rT R t f := fun f hf => hP_o (by omega)
    have ep : pn (hPoint R t (pa R t x) x v h) t = pn R t := by unfold pn; rw [eo 4 (by omega)]
    have n1 : ∀ b, mI M1 (s + 23 + 4 * t) b = mI M (s + 23 + 4 * t) b := fun b => s1.2.1 _ _ (by rintro ⟨⟨w, -⟩, -⟩; omega)
    refine ⟨fun f hf => ?_, fun k hk => ?_⟩
    · rw [eo f (by omega), eo (29 + f) (by omega), n1, n1]
      exact d1 f hf
    · rw [ep] at hk
      by_cases e : k = pa R t x
      · subst e
        exact ⟨a1.trans u1.symm, a2.trans u2.symm, (a3.trans (bi_01 hh).symm).trans u3.symm⟩
      · have w1 : rT (hPoint R t (pa R t x) x v h) t (5 + 3 * k) = rT R t (5 + 3 * k) := hP_o (by omega)
        have w2 : rT (hPoint R t (pa R t x) x v h) t (5 + 3 * k + 1) = rT R t (5 + 3 * k + 1) := hP_o (by omega)
        have w3 : rT (hPoint R t (pa R t x) x v h) t (5 + 3 * k + 2) = rT R t (5 + 3 * k + 2) := hP_o (by omega)
        rw [w1, w2, w3]
        exact pts_fr s1 (d2 k hk) e
  · have hR : rPoint R t x v h = iPoint R t (pa R t x) x v h := ifp_f hp
    rw [hR] at hq
    have h7 : pn R t < 8 := by
      rcases hroom with q | q
      · exact absurd q hp
      · omega
    rw [g2 hp]
    generalize hpa : pa R t x = p at *
    have b24 : w_X6_putPoint_b24 255 M (s + 23 + 4 * t) x v h (nI p - 1) Q := by
      unfold w_X6_putPoint_b24
      rw [vT hr ht (f := 4) (by decide), e4, li 8, nI_ltI (by omega) (by decide)]
      refine ⟨k6, fun _ => ?_, fun q => absurd h7 q⟩
      have e1 : nI p - 1 + 1 = nI p := by rw [Int32.sub_add_cancel]
      rw [e1]
      rintro _ rfl _ rfl
      unfold w_X6_putPoint_b43
      refine ⟨fun N z => ∃ c, z = nI c ∧ p ≤ c ∧ c ≤ pn R t ∧ sm (Str s t) M N ∧ (∀ b, mI N (s + 23 + 4 * t) b = mI M (s + 23 + 4 * t) b) ∧ (∀ j, j < pn R t → j ≤ c → pts N s t j R j) ∧ ∀ j, c ≤ j → j < pn R t → pts N s t (j + 1) R j, fun _ z => z.toInt.toNat, ⟨pn R t, rfl, p1, Nat.le_refl _, sm.rf, fun _ => rfl, fun j hj _ => d2 j hj, fun j h1 h2 => by omega⟩, ?_⟩
      rintro N _ ⟨c, rfl, hc1, hc2, sN, gF, gl, gh⟩
      have hkN := sm_sk sN hsk
      rw [nI_leI (by omega) (by omega)]
      refine ⟨fun q => ⟨k6, ?_⟩, fun q => ⟨k6, ?_⟩⟩
      · have : c = p := by omega
        subst this
        rw [gF, vT hr ht (f := 4) (by decide), e4, nI_1]
        rintro _ rfl
        unfold w_X6_putPoint_b76
        refine ⟨k6, s_X6_setPlace hb (sm_sk (sm.si (S := fun _ _ => True) trivial) hkN) ht (by omega) hh (fun M1 s1 a1 a2 a3 => hq M1 ((sN.tr (sm.si ⟨by omega, by omega⟩)).tr (toS s1)) ?_)⟩
        obtain ⟨u1, u2, u3⟩ := hP_s (up (shR R (146 + 34 * t) (3 * c) (3 * pn R t)) (145 + 34 * t) (nI (pn R t + 1))) t c x v h
        have eo : ∀ f, f < 4 ∨ 29 ≤ f → rT (iPoint R t c x v h) t f = rT R t f := fun f hf => iP_o h7 (by omega) (by omega)
        have ep : pn (iPoint R t c x v h) t = pn R t + 1 := by unfold pn; rw [iP_n, nI_toInt (by omega)]; rfl
        have n1 : ∀ b, b ≠ 4 → mI M1 (s + 23 + 4 * t) b = mI M (s + 23 + 4 * t) b := fun b hb4 => ((s1.2.1 _ _ (by rintro ⟨⟨w, -⟩, -⟩; omega)).trans (mI_ne (Or.inr hb4))).trans (gF b)
        have pz : ∀ j i, j ≠ c → pts N s t j R i → pts M1 s t j R i := fun j i hj g => pts_fr s1 ⟨(mI_ne (Or.inl (by omega))).trans g.1, (mI_ne (Or.inl (by omega))).trans g.2.1, (mI_ne (Or.inl (by omega))).trans g.2.2⟩ hj
        refine ⟨fun f hf => ⟨?_, ?_⟩, fun k hk => ?_⟩
        · by_cases e : f = 4
          · subst e
            rw [iP_n]
            exact (s1.2.1 _ _ (by rintro ⟨⟨w, -⟩, -⟩; omega)).trans (mI_at _ _ _ _)
          · rw [eo f (by omega), n1 f e]
            exact (d1 f hf).1
        · rw [eo (29 + f) (by omega), n1 (8 + f) (by omega)]
          exact (d1 f hf).2
        · rw [ep] at hk
          by_cases e : k = c
          · subst e
            exact ⟨a1.trans u1.symm, a2.trans u2.symm, (a3.trans (bi_01 hh).symm).trans u3.symm⟩
          · by_cases e2 : k < c
            · obtain ⟨z1, z2, z3⟩ := pz k k e (gl k (by omega) (by omega))
              exact ⟨z1.trans (iP_lo (e := 0) e2 (by decide)).symm, z2.trans (iP_lo (e := 1) e2 (by decide)).symm, z3.trans (iP_lo (e := 2) e2 (by decide)).symm⟩
            · obtain ⟨d, rfl⟩ : ∃ d, k = d + 1 := ⟨k - 1, by omega⟩
              obtain ⟨z1, z2, z3⟩ := pz (d + 1) d e (gh d (by omega) (by omega))
              exact ⟨z1.trans (iP_hi (e := 0) (by omega) (by omega) (by decide)).symm, z2.trans (iP_hi (e := 1) (by omega) (by omega) (by decide)).symm, z3.trans (iP_hi (e := 2) (by omega) (by omega) (by decide)).symm⟩
      · obtain ⟨d, rfl⟩ : ∃ d, c = d + 1 := ⟨c - 1, by omega⟩
        rw [nI_pred]
        refine s_X6_copyPlace (i := d) hb hkN ht (by omega) (by omega) hP (by omega) (gl d (by omega) (by omega)) (fun M1 s1 w1 => ?_)
        rintro _ rfl
        have ed : nI (d + 1) + -1 = nI d := by
          rw [← nI_1, Int32.add_assoc]
          exact Int32.add_zero _
        rw [ed]
        refine ⟨⟨d, rfl, by omega, by omega, sN.tr (toS s1), fun b => (s1.2.1 _ _ (by rintro ⟨⟨w, -⟩, -⟩; omega)).trans (gF b), fun j h1 h2 => pts_fr s1 (gl j h1 (by omega)) (by omega), fun j h1 h2 => ?_⟩, ?_⟩
        · by_cases e : j = d
          · subst e; exact w1
          · exact pts_fr s1 (gh j (by omega) h2) (by omega)
        · show (nI d).toInt.toNat < (nI (d + 1)).toInt.toNat
          rw [nI_toInt (by omega), nI_toInt (by omega)]
          omega
    refine ⟨fun _ => b24, fun q => ?_⟩
    have h0 : p ≠ 0 := fun e => q (by rw [e]; rfl)
    obtain ⟨d, rfl⟩ : ∃ d, p = d + 1 := ⟨p - 1, by omega⟩
    have h3 := p2 d (by omega)
    have hcl : Int32.toNatClampNeg (nI (d + 1) - 1) = d := by rw [nI_pred, nI_clamp (by omega)]
    have hvp : vp_in (nI (d + 1) - 1) 8 := by rw [nI_pred]; exact vp_n (by omega) (by decide)
    rw [hcl, (vP hr ht (k := d) (by omega)).1]
    refine ⟨k10, hvp, fun e => ?_, fun _ => b24⟩
    rw [e, ti_lt] at h3
    omega
