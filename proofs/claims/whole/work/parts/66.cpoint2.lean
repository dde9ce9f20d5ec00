/-! The class: points dropped; the calls on points -/
theorem xP_n {R : Row} {t : Nat} {x : Int32} : rT (xPoint R t x) t 4 = nI (pn R t - 1) := by
  unfold xPoint rT dnR
  rw [if_neg (by omega), show 141 + 34 * t + 4 = 145 + 34 * t by omega, up_at]
theorem xP_o {R : Row} {t j : Nat} {x : Int32} (h8 : pn R t ≤ 8) (hj : j < 145 + 34 * t ∨ 141 + 34 * t + 29 ≤ j) : xPoint R t x j = R j := by
  unfold xPoint dnR
  rw [if_neg (by omega), up_ne (by omega)]
theorem xP_lo {R : Row} {t k e : Nat} {x : Int32} (hk : k < pa R t x) (he : e < 3) : rT (xPoint R t x) t (5 + 3 * k + e) = rT R t (5 + 3 * k + e) := by
  unfold xPoint rT dnR
  rw [if_neg (by omega), up_ne (by omega)]
theorem xP_hi {R : Row} {t k e : Nat} {x : Int32} (hk : pa R t x ≤ k) (hk2 : k + 1 < pn R t) (he : e < 3) : rT (xPoint R t x) t (5 + 3 * k + e) = rT R t (5 + 3 * (k + 1) + e) := by
  unfold xPoint rT dnR
  rw [if_pos (by omega), up_ne (by omega)]
  congr 1
  omega
theorem s_X6_dropPoint {M : mw_M} {s t : Nat} {R : Row} {K : Int64} {x : Int32} {Q : mw_M → Prop} (hb : bs s) (hsk : sk M s) (hr : rep M s R K) (hV : VAL R) (ht : t < 4) (hp : hasP R t x) (hq : ∀ M1, sm (Str s t) M M1 → repD1 M1 s (xPoint R t x) t → Q M1) : w_X6_dropPoint 255 M (s + 23 + 4 * t) (nI (pa R t x)) Q := by
  have hT := hV.2.2.1
  have hP := hV.2.2.2.1 t ht
  obtain ⟨e4, h8⟩ := hT.pn ht
  obtain ⟨k6, k10, k10b, k12⟩ := kTr hb ht
  have toS : ∀ {a : Nat} {N N1 : mw_M}, sm (fun q c => (s + 24 + 4 * t ≤ q ∧ q < s + 27 + 4 * t) ∧ c = a) N N1 → sm (Str s t) N N1 := fun w => w.mono (fun q c w => ⟨by have := w.1.1; omega, w.1.2⟩)
  obtain ⟨d1, d2⟩ := (rep_g.mp hr).2.2.1 t ht
  have hp1 := hp.1
  have lo := fun k e (hk : k < pa R t x) (he : e < 3) => xP_lo (R := R) (t := t) (x := x) hk he
  have hi := fun k e (hk : pa R t x ≤ k) (hk2 : k + 1 < pn R t) (he : e < 3) => xP_hi (R := R) (t := t) (x := x) hk hk2 he
  have eo : ∀ f, f < 4 ∨ 29 ≤ f → rT (xPoint R t x) t f = rT R t f := fun f hf => xP_o h8 (by omega)
  have en : rT (xPoint R t x) t 4 = nI (pn R t - 1) := xP_n
  generalize xPoint R t x = R1 at *
  generalize pa R t x = p at *
  unfold w_X6_dropPoint
  rw [nI_1]
  rintro _ rfl
  unfold w_X6_dropPoint_b4
  refine ⟨fun N z => ∃ c, z = nI c ∧ p + 1 ≤ c ∧ c ≤ pn R t ∧ sm (Str s t) M N ∧ (∀ b, mI N (s + 23 + 4 * t) b = mI M (s + 23 + 4 * t) b) ∧ (∀ j, j < p → pts N s t j R j) ∧ (∀ j, p ≤ j → j + 1 < c → pts N s t j R (j + 1)) ∧ ∀ j, c ≤ j + 1 → j < pn R t → pts N s t j R j, fun _ z => 8 - z.toInt.toNat, ⟨p + 1, rfl, Nat.le_refl _, hp1, sm.rf, fun _ => rfl, fun j hj => d2 j (by omega), fun j h1 h2 => by omega, fun j h1 h2 => d2 j h2⟩, ?_⟩
  rintro N _ ⟨c, rfl, hc1, hc2, sN, gF, ga, gb, gc⟩
  have hkN := sm_sk sN hsk
  rw [gF, vT hr ht (f := 4) (by decide), e4, nI_leI (by omega) (by omega)]
  refine ⟨k6, fun q => ?_, fun q => ?_⟩
  · have : c = pn R t := by omega
    subst this
    have ev : nI (pn R t) - 1 = nI (pn R t - 1) := by
      obtain ⟨d, hd⟩ : ∃ d, pn R t = d + 1 := ⟨pn R t - 1, by omega⟩
      rw [hd]; exact nI_pred d
    rw [ev]
    rintro _ rfl
    have ep : pn R1 t = pn R t - 1 := by unfold pn; rw [en, nI_toInt (by omega)]; rfl
    have n1 : ∀ b, b ≠ 4 → mI (sI N (s + 23 + 4 * t) 4 (nI (pn R t - 1))) (s + 23 + 4 * t) b = mI M (s + 23 + 4 * t) b := fun b hb4 => (mI_ne (Or.inr hb4)).trans (gF b)
    have pz : ∀ j i, pts N s t j R i → pts (sI N (s + 23 + 4 * t) 4 (nI (pn R t - 1))) s t j R i := fun j i g => ⟨(mI_ne (Or.inl (by omega))).trans g.1, (mI_ne (Or.inl (by omega))).trans g.2.1, (mI_ne (Or.inl (by omega))).trans g.2.2⟩
    refine hq _ (sN.tr (sm.si ⟨by omega, by omega⟩)) ⟨fun f hf => ⟨?_, ?_⟩, fun k hk => ?_⟩
    · by_cases e : f = 4
      · subst e
        rw [en]
        exact mI_at _ _ _ _
      · rw [eo f (by omega), n1 f e]
        exact (d1 f hf).1
    · rw [eo (29 + f) (by omega), n1 (8 + f) (by omega)]
      exact (d1 f hf).2
    · rw [ep] at hk
      by_cases e2 : k < p
      · obtain ⟨z1, z2, z3⟩ := pz k k (ga k e2)
        exact ⟨z1.trans (lo k 0 e2 (by decide)).symm, z2.trans (lo k 1 e2 (by decide)).symm, z3.trans (lo k 2 e2 (by decide)).symm⟩
      · obtain ⟨z1, z2, z3⟩ := pz k (k + 1) (gb k (by omega) (by omega))
        exact ⟨z1.trans (hi k 0 (by omega) (by omega) (by decide)).symm, z2.trans (hi k 1 (by omega) (by omega) (by decide)).symm, z3.trans (hi k 2 (by omega) (by omega) (by decide)).symm⟩
  · obtain ⟨d, rfl⟩ : ∃ d, c = d + 1 := ⟨c - 1, by omega⟩
    rw [nI_pred]
    refine s_X6_copyPlace (i := d + 1) hb hkN ht (by omega) (by omega) hP (by omega) (gc (d + 1) (by omega) (by omega)) (fun M1 s1 w1 => ?_)
    rintro _ rfl
    refine ⟨⟨d + 2, nI_1 _, by omega, by omega, sN.tr (toS s1), fun b => (s1.2.1 _ _ (by rintro ⟨⟨w, -⟩, -⟩; omega)).trans (gF b), fun j h1 => pts_fr s1 (ga j h1) (by omega), fun j h1 h2 => ?_, fun j h1 h2 => pts_fr s1 (gc j (by omega) h2) (by omega)⟩, mu_dec (by omega) (by decide)⟩
    by_cases e : j = d
    · subst e; exact w1
    · exact pts_fr s1 (gb j h1 (by omega)) e
theorem VT1_pt {R R1 : Row} {t : Nat} (h : VT1 R t) (e : ∀ f, f < 4 ∨ 29 ≤ f → f < 34 → rT R1 t f = rT R t f) (h4 : 0 ≤ (rT R1 t 4).toInt ∧ (rT R1 t 4).toInt ≤ 8) : VT1 R1 t := by
  obtain ⟨a1, a2, a3, a4, -, a6, a7, a8, a9, a10⟩ := h
  unfold VT1
  rw [e 0 (by decide) (by decide), e 1 (by decide) (by decide), e 2 (by decide) (by decide), e 3 (by decide) (by decide), e 29 (by decide) (by decide), e 30 (by decide) (by decide), e 31 (by decide) (by decide), e 32 (by decide) (by decide), e 33 (by decide) (by decide)]
  exact ⟨a1, a2, a3, a4, h4, a6, a7, a8, a9, a10⟩
theorem V_point {R : Row} {t : Nat} {x v h : Int32} (hV : VAL R) (ht : t < 4) (hf : fPoint x v) (hg : gPoint R t x) : VAL (rPoint R t x v h) := by
  have hT := hV.2.2.1
  have hP := hV.2.2.2.1 t ht
  obtain ⟨e4, h8⟩ := hT.pn ht
  obtain ⟨p1, p2, p3⟩ := pa_s (R := R) (t := t) (n := x)
  obtain ⟨⟨f1, f2⟩, f3⟩ := hf
  by_cases hp : hasP R t x
  · have hR : rPoint R t x v h = hPoint R t (pa R t x) x v h := ifp_t hp
    rw [hR]
    obtain ⟨h1, h2⟩ := id hp
    obtain ⟨u1, u2, u3⟩ := hP_s R t (pa R t x) x v h
    have eo : ∀ f, f < 5 ∨ 29 ≤ f → rT (hPoint R t (pa R t x) x v h) t f = rT R t f := fun f hf => hP_o (by omega)
    have ep : pn (hPoint R t (pa R t x) x v h) t = pn R t := by unfold pn; rw [eo 4 (by omega)]
    have ek : ∀ k, k < pn R t → rT (hPoint R t (pa R t x) x v h) t (5 + 3 * k) = rT R t (5 + 3 * k) := fun k hk => by
      by_cases e : k = pa R t x
      · subst e; exact u1.trans h2.symm
      · exact hP_o (by omega)
    refine VAL_trk hV (fun j hj => hP_o (by omega)) ht (VT1_pt (hT t ht) (fun f hf _ => eo f (by omega)) (by rw [eo 4 (by omega), e4, nI_toInt (by omega)]; omega)) ⟨fun k hk => ?_, fun k hk => ?_⟩
    · rw [ep] at hk
      rw [ek k hk]
      obtain ⟨a1, a2, a3⟩ := hP.1 k hk
      by_cases e : k = pa R t x
      · subst e
        rw [u2, u3]
        exact ⟨a1, f3, bi_bd h⟩
      · have w2 : rT (hPoint R t (pa R t x) x v h) t (5 + 3 * k + 1) = rT R t (5 + 3 * k + 1) := hP_o (by omega)
        have w3 : rT (hPoint R t (pa R t x) x v h) t (5 + 3 * k + 2) = rT R t (5 + 3 * k + 2) := hP_o (by omega)
        rw [w2, w3]
        exact ⟨a1, a2, a3⟩
    · rw [ep] at hk
      rw [ek k (by omega), ek (k + 1) hk]
      exact hP.2 k hk
  · have hR : rPoint R t x v h = iPoint R t (pa R t x) x v h := ifp_f hp
    rw [hR]
    have h7 : pn R t < 8 := by
      rcases hg with q | q
      · exact absurd q hp
      · omega
    generalize hpa : pa R t x = p at *
    obtain ⟨u1, u2, u3⟩ := hP_s (up (shR R (146 + 34 * t) (3 * p) (3 * pn R t)) (145 + 34 * t) (nI (pn R t + 1))) t p x v h
    have u1' : rT (iPoint R t p x v h) t (5 + 3 * p) = x := u1
    have ep : pn (iPoint R t p x v h) t = pn R t + 1 := by unfold pn; rw [iP_n, nI_toInt (by omega)]; rfl
    have hne : p < pn R t → x.toInt < (rT R t (5 + 3 * p)).toInt := fun hj => by
      have h3 := p3 hj
      have h4 : ¬ rT R t (5 + 3 * p) = x := fun q => hp ⟨by rw [hpa]; exact hj, by rw [hpa]; exact q⟩
      rw [ti_eq] at h4
      rw [ti_lt] at h3
      omega
    refine VAL_trk hV (fun j hj => iP_o h7 p1 (by omega)) ht (VT1_pt (hT t ht) (fun f hf _ => iP_o h7 p1 (by omega)) (by rw [iP_n, nI_toInt (by omega)]; omega)) ⟨fun k hk => ?_, fun k hk => ?_⟩
    · rw [ep] at hk
      by_cases e : k = p
      · subst e
        have u2' : rT (iPoint R t k x v h) t (5 + 3 * k + 1) = v := u2
        have u3' : rT (iPoint R t k x v h) t (5 + 3 * k + 2) = bi h := u3
        rw [u1', u2', u3']
        exact ⟨⟨f1, f2⟩, f3, bi_bd h⟩
      · by_cases e2 : k < p
        · have z0 : rT (iPoint R t p x v h) t (5 + 3 * k) = rT R t (5 + 3 * k) := iP_lo (e := 0) e2 (by decide)
          rw [z0, iP_lo (e := 1) e2 (by decide), iP_lo (e := 2) e2 (by decide)]
          exact hP.1 k (by omega)
        · obtain ⟨d, rfl⟩ : ∃ d, k = d + 1 := ⟨k - 1, by omega⟩
          have z0 : rT (iPoint R t p x v h) t (5 + 3 * (d + 1)) = rT R t (5 + 3 * d) := iP_hi (e := 0) (by omega) (by omega) (by decide)
          rw [z0, iP_hi (e := 1) (by omega) (by omega) (by decide), iP_hi (e := 2) (by omega) (by omega) (by decide)]
          exact hP.1 d (by omega)
    · rw [ep] at hk
      have lo0 : ∀ k, k < p → rT (iPoint R t p x v h) t (5 + 3 * k) = rT R t (5 + 3 * k) := fun k hk => iP_lo (e := 0) hk (by decide)
      have hi0 : ∀ k, p ≤ k → k < pn R t → rT (iPoint R t p x v h) t (5 + 3 * (k + 1)) = rT R t (5 + 3 * k) := fun k h1 h2 => iP_hi (e := 0) h1 h2 (by decide)
      by_cases e1 : k + 1 < p
      · rw [lo0 k (by omega), lo0 (k + 1) e1]
        exact hP.2 k (by omega)
      · by_cases e2 : k + 1 = p
        · subst e2
          have h3 := p2 k (by omega)
          rw [ti_lt] at h3
          rw [lo0 k (by omega), u1']
          exact h3
        · by_cases e3 : k = p
          · subst e3
            rw [u1', hi0 k (Nat.le_refl _) (by omega)]
            exact hne (by omega)
          · obtain ⟨d, rfl⟩ : ∃ d, k = d + 1 := ⟨k - 1, by omega⟩
            rw [hi0 d (by omega) (by omega), hi0 (d + 1) (by omega) (by omega)]
            exact hP.2 d (by omega)
theorem V_xpoint {R : Row} {t : Nat} {x : Int32} (hV : VAL R) (ht : t < 4) (hp : hasP R t x) : VAL (xPoint R t x) := by
  have hT := hV.2.2.1
  have hP := hV.2.2.2.1 t ht
  obtain ⟨e4, h8⟩ := hT.pn ht
  have hp1 := hp.1
  have ep : pn (xPoint R t x) t = pn R t - 1 := by unfold pn; rw [xP_n, nI_toInt (by omega)]; rfl
  refine VAL_trk hV (fun j hj => xP_o h8 (by omega)) ht (VT1_pt (hT t ht) (fun f hf _ => xP_o h8 (by omega)) (by rw [xP_n, nI_toInt (by omega)]; omega)) ⟨fun k hk => ?_, fun k hk => ?_⟩
  · rw [ep] at hk
    by_cases e2 : k < pa R t x
    · have z0 : rT (xPoint R t x) t (5 + 3 * k) = rT R t (5 + 3 * k) := xP_lo (e := 0) e2 (by decide)
      rw [z0, xP_lo (e := 1) e2 (by decide), xP_lo (e := 2) e2 (by decide)]
      exact hP.1 k (by omega)
    · have z0 : rT (xPoint R t x) t (5 + 3 * k) = rT R t (5 + 3 * (k + 1)) := xP_hi (e := 0) (by omega) (by omega) (by decide)
      rw [z0, xP_hi (e := 1) (by omega) (by omega) (by decide), xP_hi (e := 2) (by omega) (by omega) (by decide)]
      exact hP.1 (k + 1) (by omega)
  · rw [ep] at hk
    have lo0 : ∀ k, k < pa R t x → rT (xPoint R t x) t (5 + 3 * k) = rT R t (5 + 3 * k) := fun k hk => xP_lo (e := 0) hk (by decide)
    have hi0 : ∀ k, pa R t x ≤ k → k + 1 < pn R t → rT (xPoint R t x) t (5 + 3 * k) = rT R t (5 + 3 * (k + 1)) := fun k h1 h2 => xP_hi (e := 0) h1 h2 (by decide)
    by_cases e1 : k + 1 < pa R t x
    · rw [lo0 k (by omega), lo0 (k + 1) e1]
      exact hP.2 k (by omega)
    · by_cases e2 : k < pa R t x
      · rw [lo0 k e2, hi0 (k + 1) (by omega) (by omega)]
        exact VP_lt hP (by omega) (by omega)
      · rw [hi0 k (by omega) (by omega), hi0 (k + 1) (by omega) (by omega)]
        exact VP_lt hP (by omega) (by omega)
theorem rP_o {R : Row} {t j : Nat} {x v h : Int32} (hT : VT R) (ht : t < 4) (hg : gPoint R t x) (hj : j < 141 + 34 * t ∨ 141 + 34 * t + 34 ≤ j) : rPoint R t x v h j = R j := by
  obtain ⟨e4, h8⟩ := hT.pn ht
  obtain ⟨p1, p2, p3⟩ := pa_s (R := R) (t := t) (n := x)
  by_cases hp : hasP R t x
  · have hR : rPoint R t x v h = hPoint R t (pa R t x) x v h := ifp_t hp
    have := hp.1
    rw [hR]; exact hP_o (by omega)
  · have hR : rPoint R t x v h = iPoint R t (pa R t x) x v h := ifp_f hp
    have h7 : pn R t < 8 := by
      rcases hg with q | q
      · exact absurd q hp
      · omega
    rw [hR]; exact iP_o h7 p1 (by omega)
theorem rP_4 {R : Row} {t : Nat} {x v h : Int32} (hT : VT R) (ht : t < 4) : rT (rPoint R t x v h) t 4 = nPoint R t x := by
  by_cases hp : hasP R t x
  · have hR : rPoint R t x v h = hPoint R t (pa R t x) x v h := ifp_t hp
    have hn : nPoint R t x = nI (pn R t) := by unfold nPoint; rw [ifp_t hp]
    rw [hR, hn, ← (hT.pn ht).1]
    exact hP_o (by omega)
  · have hR : rPoint R t x v h = iPoint R t (pa R t x) x v h := ifp_f hp
    have hn : nPoint R t x = nI (pn R t + 1) := by unfold nPoint; rw [ifp_f hp]
    rw [hR, hn]
    exact iP_n
theorem s_X7_setPoint {M : mw_M} {σ : Nat → Nat} {k : Nat} {R : Row} {K : Int64} {P : Nat → Row} {PK : Nat → Int64} {x1 x2 x3 x4 : Int32} {Q : mw_M → Int32 → Prop} {X : mw_M → String → Prop} (h : CF M σ k R K P PK) (h4 : mw_b01 x4) (h1 : ¬ isTr x1 → X M "java/lang/IndexOutOfBoundsException") (h2 : isTr x1 → ¬ fPoint x2 x3 → X M "java/lang/IllegalArgumentException") (h3 : isTr x1 → fPoint x2 x3 → ¬ gPoint R (nx x1) x2 → X M "java/lang/IllegalStateException") (hq : isTr x1 → fPoint x2 x3 → gPoint R (nx x1) x2 → ∀ M1 σ1, fo ST M M1 → CF M1 σ1 (nk k) (rPoint R (nx x1) x2 x3 x4) K (psh k P R) (psh k PK K) → Q M1 (nPoint R (nx x1) x2)) : w_X7_setPoint 255 M 1 x1 x2 x3 x4 Q X := by
  obtain ⟨⟨h0, -, hb⟩, hsk, hp, hV, hk, hc⟩ := h.cx
  unfold w_X7_setPoint
  refine s_chkT h1 (fun ht => s_chkP (fun g => h2 ht (fun q => g q.1)) (fun hpl => s_out 0 2000 rfl rfl (fun g3 => ?_) (fun g => h2 ht (fun q => g q.2))))
  have hf : fPoint x2 x3 := ⟨hpl, g3⟩
  replace h3 := h3 ht hf
  replace hq := hq ht hf
  obtain ⟨hx, ht4⟩ := nx_4 ht
  clear h1 h2 ht
  generalize nx x1 = t at *
  subst hx
  obtain ⟨e4, h8⟩ := hV.2.2.1.pn ht4
  have el : lnd 3 = 4 := rfl
  have b70 : gPoint R t x2 → w_X7_setPoint_b70 255 M 1 (nI t) x2 x3 x4 Q X := by
    intro hg
    replace hq := hq hg
    unfold w_X7_setPoint_b70
    refine ⟨is1, s_draft h (fun M1 s1 k1 b1 r1 => ?_)⟩
    rw [k1.1.2.2.1, bs_ln b1 (by decide) (Or.inr (Or.inr (Or.inl rfl))), el, nI_clamp (by omega), (k1.2.2.1 t ht4).1]
    refine ⟨kS b1, kA3 b1, vp_n ht4 (by decide), (kTr b1 ht4).1, s_X6_putPoint b1 k1 r1 hV ht4 h4 hg (fun M2 s2 g2 => ?_)⟩
    refine s_keepSound h ((s1.fo (fun a b q => q)).tr (s2.fo (fun a b q => ⟨by have := q.1; omega, by have := q.2; omega⟩))) (sm_sk s2 k1) (rep_trkU k1 hV r1 ht4 s2 g2 (fun j hj => rP_o hV.2.2.1 ht4 hg hj)) (V_point hV ht4 hf hg) (fun M3 σ3 f3 c3 => ?_)
    obtain ⟨⟨z0, -, zb⟩, zk, zp, -⟩ := c3.cx
    rw [z0, zk.1.2.2.1, bs_ln zb (by decide) (Or.inr (Or.inr (Or.inl rfl))), el, (zk.2.2.1 t ht4).1, vT zp ht4 (f := 4) (by decide), rP_4 hV.2.2.1 ht4]
    exact ⟨kS zb, kA3 zb, vp_n ht4 (by decide), (kTr zb ht4).1, hq M3 σ3 f3 c3⟩
  rw [h0, hsk.1.2.2.1, bs_ln hb (by decide) (Or.inr (Or.inr (Or.inl rfl))), el, nI_clamp (by omega), (hsk.2.2.1 t ht4).1]
  refine ⟨is1, kS hb, kA3 hb, vp_n ht4 (by decide), ?_⟩
  rintro _ rfl
  rw [vT hp ht4 (f := 4) (by decide), e4, li 8, nI_ltI (by omega) (by decide)]
  refine ⟨(kTr hb ht4).1, fun g => b70 (Or.inr (by omega)), fun g => s_X6_pointAt hb hsk hp hV ht4 ?_⟩
  by_cases hh : hasP R t x2
  · rw [ifp_t hh]
    exact ⟨fun _ => b70 (Or.inl hh), fun q => absurd q (nI_ne (by have := hh.1; omega))⟩
  · rw [ifp_f hh]
    exact ⟨fun q => absurd rfl q, fun _ => h3 (fun q => q.elim hh (fun q => by omega))⟩
theorem s_X7_removePoint {M : mw_M} {σ : Nat → Nat} {k : Nat} {R : Row} {K : Int64} {P : Nat → Row} {PK : Nat → Int64} {x1 x2 : Int32} {Q : mw_M → Int32 → Prop} {X : mw_M → String → Prop} (h : CF M σ k R K P PK) (h1 : ¬ isTr x1 → X M "java/lang/IndexOutOfBoundsException") (h2 : isTr x1 → ¬ hasP R (nx x1) x2 → X M "java/lang/IllegalArgumentException") (hq : isTr x1 → hasP R (nx x1) x2 → ∀ M1 σ1, fo ST M M1 → CF M1 σ1 (nk k) (xPoint R (nx x1) x2) K (psh k P R) (psh k PK K) → Q M1 (nI (pn R (nx x1) - 1))) : w_X7_removePoint 255 M 1 x1 x2 Q X := by
  obtain ⟨⟨h0, -, hb⟩, hsk, hp, hV, hk, hc⟩ := h.cx
  unfold w_X7_removePoint
  refine s_chkT h1 (fun ht => ?_)
  replace h2 := h2 ht
  replace hq := hq ht
  obtain ⟨hx, ht4⟩ := nx_4 ht
  clear h1 ht
  generalize nx x1 = t at *
  subst hx
  obtain ⟨e4, h8⟩ := hV.2.2.1.pn ht4
  have el : lnd 3 = 4 := rfl
  rw [h0, hsk.1.2.2.1, bs_ln hb (by decide) (Or.inr (Or.inr (Or.inl rfl))), el, nI_clamp (by omega), (hsk.2.2.1 t ht4).1]
  refine ⟨is1, kS hb, kA3 hb, vp_n ht4 (by decide), (kTr hb ht4).1, s_X6_pointAt hb hsk hp hV ht4 ?_⟩
  by_cases hh : hasP R t x2
  · rw [ifp_t hh]
    replace hq := hq hh
    refine ⟨fun _ => s_draft h (fun M1 s1 k1 b1 r1 => ?_), fun q => absurd q (nI_ne (by have := hh.1; omega))⟩
    rw [k1.1.2.2.1, bs_ln b1 (by decide) (Or.inr (Or.inr (Or.inl rfl))), el, (k1.2.2.1 t ht4).1]
    refine ⟨kS b1, kA3 b1, vp_n ht4 (by decide), (kTr b1 ht4).1, s_X6_dropPoint b1 k1 r1 hV ht4 hh (fun M2 s2 g2 => ?_)⟩
    refine s_keepSound h ((s1.fo (fun a b q => q)).tr (s2.fo (fun a b q => ⟨by have := q.1; omega, by have := q.2; omega⟩))) (sm_sk s2 k1) (rep_trkU k1 hV r1 ht4 s2 g2 (fun j hj => xP_o h8 (by omega))) (V_xpoint hV ht4 hh) (fun M3 σ3 f3 c3 => ?_)
    obtain ⟨⟨z0, -, zb⟩, zk, zp, -⟩ := c3.cx
    rw [z0, zk.1.2.2.1, bs_ln zb (by decide) (Or.inr (Or.inr (Or.inl rfl))), el, (zk.2.2.1 t ht4).1, vT zp ht4 (f := 4) (by decide), xP_n]
    exact ⟨kS zb, kA3 zb, vp_n ht4 (by decide), (kTr zb ht4).1, hq M3 σ3 f3 c3⟩
  · rw [ifp_f hh]
    exact ⟨fun q => absurd rfl q, fun _ => h2 hh⟩
