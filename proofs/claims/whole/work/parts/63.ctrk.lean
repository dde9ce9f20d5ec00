/-! The class: changes of tracks, of the transport, of the meters -/
theorem repD1_f {M M1 : mw_M} {s t : Nat} {R R1 : Row} (g : repD1 M s R t) (h8 : pn R t ≤ 8) (s1 : sm (So (s + 23 + 4 * t)) M M1) (e : ∀ f, f < 5 → mI M1 (s + 23 + 4 * t) f = rT R1 t f ∧ mI M1 (s + 23 + 4 * t) (8 + f) = rT R1 t (29 + f)) (eP : ∀ f, 4 ≤ f → f < 29 → rT R1 t f = rT R t f) : repD1 M1 s R1 t := by
  have ep : pn R1 t = pn R t := by unfold pn; rw [eP 4 (by decide) (by decide)]
  refine ⟨e, fun k hk => ?_⟩
  rw [ep] at hk
  have n1 : ∀ {q b : Nat}, q ≠ s + 23 + 4 * t → mI M1 q b = mI M q b := fun h => s1.2.1 _ _ h
  rw [n1 (by omega), n1 (by omega), n1 (by omega), eP _ (by omega) (by omega), eP _ (by omega) (by omega), eP _ (by omega) (by omega)]
  exact g.2 k hk
theorem VP1_pt {R R1 : Row} {t : Nat} (h : VP1 R t) (h8 : pn R t ≤ 8) (e : ∀ f, 4 ≤ f → f < 29 → rT R1 t f = rT R t f) : VP1 R1 t := by
  have ep : pn R1 t = pn R t := by unfold pn; rw [e 4 (by decide) (by decide)]
  refine ⟨fun k hk => ?_, fun k hk => ?_⟩
  · rw [ep] at hk
    rw [e _ (by omega) (by omega), e _ (by omega) (by omega), e _ (by omega) (by omega)]
    exact h.1 k hk
  · rw [ep] at hk
    rw [e _ (by omega) (by omega), e _ (by omega) (by omega)]
    exact h.2 k hk
theorem rTrack_s (R : Row) (t : Nat) (g p m s : Int32) : rT (rTrack R t g p m s) t 0 = g ∧ rT (rTrack R t g p m s) t 1 = p ∧ rT (rTrack R t g p m s) t 2 = bi m ∧ rT (rTrack R t g p m s) t 3 = bi s := by
  unfold rT rTrack
  refine ⟨?_, ?_, ?_, ?_⟩ <;> simp [up]
theorem rTrack_o {R : Row} {t j : Nat} {g p m s : Int32} (h : j < 141 + 34 * t ∨ 141 + 34 * t + 4 ≤ j) : rTrack R t g p m s j = R j := by
  unfold rTrack
  rw [up_ne (by omega), up_ne (by omega), up_ne (by omega), up_ne (by omega)]
theorem bi_bd (x : Int32) : 0 ≤ (bi x).toInt ∧ (bi x).toInt ≤ 1 := by
  unfold bi
  by_cases h : x ≠ 0
  · rw [bl_t h]; decide
  · rw [bl_f h]; decide
theorem bi_01 {x : Int32} (h : mw_b01 x) : bi x = x := by
  unfold bi
  rcases h with rfl | rfl
  · exact bl_f (fun q => q rfl)
  · exact bl_t (by decide)
theorem V_track {R : Row} {t : Nat} {g p m s : Int32} (h : VAL R) (ht : t < 4) (hf : fTrack g p) : VAL (rTrack R t g p m s) := by
  obtain ⟨e0, e1, e2, e3⟩ := rTrack_s R t g p m s
  have eo : ∀ f, 4 ≤ f → f < 34 → rT (rTrack R t g p m s) t f = rT R t f := fun f h1 h2 => rTrack_o (by omega)
  obtain ⟨-, -, -, -, a5, a6, a7, a8, a9, a10⟩ := h.2.2.1 t ht
  refine VAL_trk h (fun j hj => rTrack_o (by omega)) ht ?_ (VP1_pt (h.2.2.2.1 t ht) (h.2.2.1.pn ht).2 (fun f h1 h2 => eo f h1 (by omega)))
  unfold VT1
  rw [e0, e1, e2, e3, eo 4 (by decide) (by decide), eo 29 (by decide) (by decide), eo 30 (by decide) (by decide), eo 31 (by decide) (by decide), eo 32 (by decide) (by decide), eo 33 (by decide) (by decide)]
  exact ⟨hf.1, hf.2, bi_bd m, bi_bd s, a5, a6, a7, a8, a9, a10⟩
theorem So_Str {s t : Nat} : ∀ a b, So (s + 23 + 4 * t) a b → Str s t a b := fun a b (q : a = _) => ⟨by omega, by omega⟩
theorem s_X7_setTrack {M : mw_M} {σ : Nat → Nat} {k : Nat} {R : Row} {K : Int64} {P : Nat → Row} {PK : Nat → Int64} {x1 x2 x3 x4 x5 : Int32} {Q : mw_M → Int32 → Prop} {X : mw_M → String → Prop} (h : CF M σ k R K P PK) (h4 : mw_b01 x4) (h5 : mw_b01 x5) (h1 : ¬ isTr x1 → X M "java/lang/IndexOutOfBoundsException") (h2 : isTr x1 → ¬ fTrack x2 x3 → X M "java/lang/IllegalArgumentException") (hq : isTr x1 → fTrack x2 x3 → ∀ M1 σ1, fo ST M M1 → CF M1 σ1 (nk k) (rTrack R (nx x1) x2 x3 x4 x5) K (psh k P R) (psh k PK K) → Q M1 (rT R (nx x1) 0)) : w_X7_setTrack 255 M 1 x1 x2 x3 x4 x5 Q X := by
  obtain ⟨⟨h0, -, hb⟩, hsk, hp, hV, hk, hc⟩ := h.cx
  unfold w_X7_setTrack w_X7_setTrack_b26
  refine s_chkT h1 (fun ht => ?_)
  have bad := h2 ht
  refine s_out2 0 2000 rfl rfl (fun g2 => s_out (-100) 100 rfl rfl (fun g3 => ?_) (fun g => bad (fun q => g q.2))) (fun g => bad (fun q => g q.1))
  have hf : fTrack x2 x3 := ⟨g2, g3⟩
  replace hq := hq ht hf
  obtain ⟨hx, ht4⟩ := nx_4 ht
  clear h1 h2 bad ht
  generalize nx x1 = t at *
  subst hx
  have el : lnd 3 = 4 := rfl
  rw [h0, hsk.1.2.2.1, bs_ln hb (by decide) (Or.inr (Or.inr (Or.inl rfl))), el, nI_clamp (by omega), (hsk.2.2.1 t ht4).1, vT hp ht4 (f := 0) (by decide)]
  refine ⟨is1, kS hb, kA3 hb, vp_n ht4 (by decide), (kTr hb ht4).1, ?_⟩
  rintro _ rfl
  refine s_draft h (fun M1 s1 k1 b1 r1 => ?_)
  rw [k1.1.2.2.1, bs_ln b1 (by decide) (Or.inr (Or.inr (Or.inl rfl))), el, (k1.2.2.1 t ht4).1]
  refine ⟨kS b1, kA3 b1, vp_n ht4 (by decide), ?_⟩
  rintro _ rfl
  refine ⟨(kTr b1 ht4).1, ?_⟩
  rintro _ rfl _ rfl
  refine ⟨h4, ?_⟩
  rintro _ rfl
  refine ⟨h5, ?_⟩
  rintro _ rfl
  obtain ⟨e0, e1, e2, e3⟩ := rTrack_s R t x2 x3 x4 x5
  rw [bi_01 h4] at e2
  rw [bi_01 h5] at e3
  have eo : ∀ f, 4 ≤ f → f < 34 → rT (rTrack R t x2 x3 x4 x5) t f = rT R t f := fun f h1 h2 => rTrack_o (by omega)
  have s2 : sm (So (σ 1 + 23 + 4 * t)) M1 (sI (sI (sI (sI M1 (σ 1 + 23 + 4 * t) 0 x2) (σ 1 + 23 + 4 * t) 1 x3) (σ 1 + 23 + 4 * t) 2 x4) (σ 1 + 23 + 4 * t) 3 x5) := (((sm.si (S := So (σ 1 + 23 + 4 * t)) rfl).tr (sm.si (S := So (σ 1 + 23 + 4 * t)) rfl)).tr (sm.si (S := So (σ 1 + 23 + 4 * t)) rfl)).tr (sm.si (S := So (σ 1 + 23 + 4 * t)) rfl)
  refine s_keepSound h ((s1.fo (fun a b q => q)).tr (s2.fo (fun a b (q : a = _) => ⟨by omega, by omega⟩))) (sm_sk s2 k1) (rep_trkU k1 hV r1 ht4 (s2.mono So_Str) (repD1_f ((rep_g.mp r1).2.2.1 t ht4) (hV.2.2.1.pn ht4).2 s2 (fun f hf => ⟨?_, ?_⟩) (fun f a1 a2 => eo f a1 (by omega))) (fun j hj => rTrack_o (by omega))) (V_track hV ht4 hf) hq
  · have hf9 : f = 0 ∨ f = 1 ∨ f = 2 ∨ f = 3 ∨ f = 4 := by omega
    rcases hf9 with rfl | rfl | rfl | rfl | rfl
    · rw [e0]; simp [mI_sI]
    · rw [e1]; simp [mI_sI]
    · rw [e2]; simp [mI_sI]
    · rw [e3]; simp [mI_sI]
    · rw [eo 4 (by decide) (by decide), mI_ne (Or.inr (by decide)), mI_ne (Or.inr (by decide)), mI_ne (Or.inr (by decide)), mI_ne (Or.inr (by decide))]
      exact vT r1 ht4 (by decide)
  · rw [eo (29 + f) (by omega) (by omega), mI_ne (Or.inr (by omega)), mI_ne (Or.inr (by omega)), mI_ne (Or.inr (by omega)), mI_ne (Or.inr (by omega))]
    exact vT2 r1 ht4 hf
theorem s_X5_isKey {M : mw_M} {s : Nat} {R : Row} {K : Int64} {x : Int32} {Q : Int32 → Prop} (hb : bs s) (hsk : sk M s) (hp : rep M s R K) (hq : Q (bl (isK R x))) : w_X5_isKey 255 M s x Q := by
  obtain ⟨⟨-, -, p3, -⟩, -, pt, -⟩ := id hsk
  have el : lnd 3 = 4 := rfl
  unfold w_X5_isKey
  refine ⟨kS hb, ?_⟩
  rw [p3]
  rintro _ rfl
  rw [bs_ln hb (by decide) (Or.inr (Or.inr (Or.inl rfl))), el]
  refine ⟨kA3 hb, ?_⟩
  rintro _ rfl
  unfold w_X5_isKey_b11
  refine ⟨fun z => ∃ t, z = nI t ∧ t ≤ 4 ∧ ∀ u, u < t → rT R u 29 ≠ x, fun z => 4 - z.toInt.toNat, ⟨0, rfl, by decide, fun u hu => absurd hu (Nat.not_lt_zero u)⟩, ?_⟩
  rintro _ ⟨t, rfl, ht, hI⟩
  rw [nI_leI (by decide) (by omega), bs_ln hb (by decide) (Or.inr (Or.inr (Or.inl rfl))), el, nI_clamp (by omega)]
  refine ⟨fun h => ?_, fun h => ⟨kA3 hb, vp_n (by omega) (by decide), ?_⟩⟩
  · have : t = 4 := by omega
    subst this
    rw [bl_f (P := isK R x) (fun ⟨u, h1, h2⟩ => hI u h1 h2)] at hq
    exact hq
  · have ht4 : t < 4 := by omega
    rw [(pt t ht4).1]
    rintro _ rfl
    have e8 : mI M (s + 23 + 4 * t) 8 = rT R t 29 := vT2 hp ht4 (f := 0) (by decide)
    rw [e8]
    refine ⟨(kTr hb ht4).1, fun h2 => ?_, fun h2 => ?_⟩
    · rintro _ rfl
      refine ⟨⟨t + 1, nI_1 t, by omega, fun u hu => ?_⟩, mu_dec (by omega) (by decide)⟩
      by_cases e : u = t
      · rw [e]; exact h2
      · exact hI u (by omega)
    · rw [bl_t (P := isK R x) ⟨t, ht4, h2⟩] at hq
      exact hq
theorem rDuck_s (R : Row) (t : Nat) (k th f a r : Int32) : rT (rDuck R t k th f a r) t 29 = k ∧ rT (rDuck R t k th f a r) t 30 = th ∧ rT (rDuck R t k th f a r) t 31 = f ∧ rT (rDuck R t k th f a r) t 32 = a ∧ rT (rDuck R t k th f a r) t 33 = r := by
  unfold rT rDuck
  refine ⟨?_, ?_, ?_, ?_, ?_⟩ <;> simp [up]
theorem rDuck_o {R : Row} {t j : Nat} {k th f a r : Int32} (h : j < 141 + 34 * t + 29 ∨ 141 + 34 * t + 34 ≤ j) : rDuck R t k th f a r j = R j := by
  unfold rDuck
  rw [up_ne (by omega), up_ne (by omega), up_ne (by omega), up_ne (by omega), up_ne (by omega)]
theorem V_duck {R : Row} {t : Nat} {k th f a r : Int32} (h : VAL R) (ht : t < 4) (hf : fDuck k th f a r) : VAL (rDuck R t k th f a r) := by
  obtain ⟨e0, e1, e2, e3, e4⟩ := rDuck_s R t k th f a r
  have eo : ∀ j, j < 29 → rT (rDuck R t k th f a r) t j = rT R t j := fun f h1 => rDuck_o (by omega)
  obtain ⟨a1, a2, a3, a4, a5, -⟩ := h.2.2.1 t ht
  obtain ⟨f1, f2, f3, f4, f5⟩ := hf
  obtain ⟨k1, k2⟩ := f1
  refine VAL_trk h (fun j hj => rDuck_o (by omega)) ht ?_ (VP1_pt (h.2.2.2.1 t ht) (h.2.2.1.pn ht).2 (fun f _ h2 => eo f h2))
  unfold VT1
  rw [e0, e1, e2, e3, e4, eo 0 (by decide), eo 1 (by decide), eo 2 (by decide), eo 3 (by decide), eo 4 (by decide)]
  exact ⟨a1, a2, a3, a4, a5, by omega, f2, f3, by omega, by omega⟩
theorem s_X7_duck {M : mw_M} {σ : Nat → Nat} {k : Nat} {R : Row} {K : Int64} {P : Nat → Row} {PK : Nat → Int64} {x1 x2 x3 x4 x5 x6 : Int32} {Q : mw_M → Int32 → Prop} {X : mw_M → String → Prop} (h : CF M σ k R K P PK) (h1 : ¬ isTr x1 → X M "java/lang/IndexOutOfBoundsException") (h2 : isTr x1 → ¬ fDuck x2 x3 x4 x5 x6 → X M "java/lang/IllegalArgumentException") (h3 : isTr x1 → fDuck x2 x3 x4 x5 x6 → ¬ gDuck R x1 x2 → X M "java/lang/IllegalStateException") (hq : isTr x1 → fDuck x2 x3 x4 x5 x6 → gDuck R x1 x2 → ∀ M1 σ1, fo ST M M1 → CF M1 σ1 (nk k) (rDuck R (nx x1) x2 x3 x4 x5 x6) K (psh k P R) (psh k PK K) → Q M1 (rT R (nx x1) 29)) : w_X7_duck 255 M 1 x1 x2 x3 x4 x5 x6 Q X := by
  obtain ⟨⟨h0, -, hb⟩, hsk, hp, hV, hk, hc⟩ := h.cx
  unfold w_X7_duck w_X7_duck_b59 w_X7_duck_b101
  refine s_chkT h1 (fun ht => ?_)
  have bad := h2 ht
  refine s_out2 0 3 rfl rfl (fun g2 => s_out2 0 100000 rfl rfl (fun g3 => s_out2 0 1000 rfl rfl (fun g4 => s_out2 1 1000 rfl rfl (fun g5 => s_out 1 1000 rfl rfl (fun g6 => ?_) (fun g => bad (fun q => g q.2.2.2.2))) (fun g => bad (fun q => g q.2.2.2.1))) (fun g => bad (fun q => g q.2.2.1))) (fun g => bad (fun q => g q.2.1))) (fun g => bad (fun q => g q.1))
  have hf : fDuck x2 x3 x4 x5 x6 := ⟨g2, g3, g4, g5, g6⟩
  replace h3 := h3 ht hf
  replace hq := hq ht hf
  refine ⟨fun e => h3 (fun q => q.1 e), fun e => ?_⟩
  obtain ⟨hx, ht4⟩ := nx_4 ht
  obtain ⟨hy, hu4⟩ := nx_4 hf.1
  clear h1 h2 bad ht g2
  have hg : gDuck R x1 x2 ↔ rT R (nx x2) 29 = -1 ∧ ¬ isK R x1 := ⟨fun q => q.2, fun q => ⟨e, q.1, q.2⟩⟩
  rw [hg] at h3 hq
  clear hg e
  generalize nx x1 = t at *
  generalize nx x2 = u at *
  subst hx
  subst hy
  have el : lnd 3 = 4 := rfl
  have e8u : mI M (σ 0 + 23 + 4 * u) 8 = rT R u 29 := vT2 hp hu4 (f := 0) (by decide)
  have e8t : mI M (σ 0 + 23 + 4 * t) 8 = rT R t 29 := vT2 hp ht4 (f := 0) (by decide)
  have cu : Int32.toNatClampNeg (nI u) = u := nI_clamp (by omega)
  have ct : Int32.toNatClampNeg (nI t) = t := nI_clamp (by omega)
  rw [h0, hsk.1.2.2.1, bs_ln hb (by decide) (Or.inr (Or.inr (Or.inl rfl))), el, cu, ct, (hsk.2.2.1 u hu4).1, (hsk.2.2.1 t ht4).1, e8u, e8t]
  refine ⟨is1, kS hb, kA3 hb, vp_n hu4 (by decide), (kTr hb hu4).1, fun g => h3 (fun q => g q.1), fun g => s_X5_isKey hb hsk hp ⟨fun g2 => ?_, fun g2 => h3 (fun q => g2 (bl_f q.2))⟩⟩
  rw [bl_0] at g2
  replace hq := hq ⟨g, g2⟩
  refine ⟨vp_n ht4 (by decide), (kTr hb ht4).1, ?_⟩
  rintro _ rfl
  refine s_draft h (fun M1 s1 k1 b1 r1 => ?_)
  rw [k1.1.2.2.1, bs_ln b1 (by decide) (Or.inr (Or.inr (Or.inl rfl))), el, (k1.2.2.1 t ht4).1]
  refine ⟨kS b1, kA3 b1, vp_n ht4 (by decide), ?_⟩
  rintro _ rfl
  refine ⟨(kTr b1 ht4).1, ?_⟩
  rintro _ rfl _ rfl _ rfl _ rfl _ rfl
  obtain ⟨e0, e1, e2, e3, e4⟩ := rDuck_s R t (nI u) x3 x4 x5 x6
  have eo : ∀ f, f < 29 → rT (rDuck R t (nI u) x3 x4 x5 x6) t f = rT R t f := fun f h2 => rDuck_o (by omega)
  have s2 : sm (So (σ 1 + 23 + 4 * t)) M1 (sI (sI (sI (sI (sI M1 (σ 1 + 23 + 4 * t) 8 (nI u)) (σ 1 + 23 + 4 * t) 9 x3) (σ 1 + 23 + 4 * t) 10 x4) (σ 1 + 23 + 4 * t) 11 x5) (σ 1 + 23 + 4 * t) 12 x6) := ((((sm.si (S := So (σ 1 + 23 + 4 * t)) rfl).tr (sm.si (S := So (σ 1 + 23 + 4 * t)) rfl)).tr (sm.si (S := So (σ 1 + 23 + 4 * t)) rfl)).tr (sm.si (S := So (σ 1 + 23 + 4 * t)) rfl)).tr (sm.si (S := So (σ 1 + 23 + 4 * t)) rfl)
  refine s_keepSound h ((s1.fo (fun a b q => q)).tr (s2.fo (fun a b (q : a = _) => ⟨by omega, by omega⟩))) (sm_sk s2 k1) (rep_trkU k1 hV r1 ht4 (s2.mono So_Str) (repD1_f ((rep_g.mp r1).2.2.1 t ht4) (hV.2.2.1.pn ht4).2 s2 (fun f hf => ⟨?_, ?_⟩) (fun f a1 a2 => eo f a2)) (fun j hj => rDuck_o (by omega))) (V_duck hV ht4 hf) hq
  · rw [eo f (by omega), mI_ne (Or.inr (by omega)), mI_ne (Or.inr (by omega)), mI_ne (Or.inr (by omega)), mI_ne (Or.inr (by omega)), mI_ne (Or.inr (by omega))]
    exact vT r1 ht4 hf
  · have hf9 : f = 0 ∨ f = 1 ∨ f = 2 ∨ f = 3 ∨ f = 4 := by omega
    rcases hf9 with rfl | rfl | rfl | rfl | rfl
    · refine Eq.trans ?_ e0.symm; simp [mI_sI]
    · refine Eq.trans ?_ e1.symm; simp [mI_sI]
    · refine Eq.trans ?_ e2.symm; simp [mI_sI]
    · refine Eq.trans ?_ e3.symm; simp [mI_sI]
    · refine Eq.trans ?_ e4.symm; simp [mI_sI]
theorem V_end {R : Row} {t : Nat} (h : VAL R) (ht : t < 4) : VAL (rEnd R t) := by
  have eo : ∀ f, f < 34 → f ≠ 29 → rT (rEnd R t) t f = rT R t f := fun f h1 h2 => up_ne (by omega)
  have e0 : rT (rEnd R t) t 29 = -1 := up_at _ _ _
  have m1 : (-1 : Int32).toInt = -1 := rfl
  obtain ⟨a1, a2, a3, a4, a5, a6, a7, a8, a9, a10⟩ := h.2.2.1 t ht
  refine VAL_trk h (fun j hj => up_ne (by omega)) ht ?_ (VP1_pt (h.2.2.2.1 t ht) (h.2.2.1.pn ht).2 (fun f _ h2 => eo f (by omega) (by omega)))
  unfold VT1
  rw [e0, m1, eo 0 (by decide) (by decide), eo 1 (by decide) (by decide), eo 2 (by decide) (by decide), eo 3 (by decide) (by decide), eo 4 (by decide) (by decide), eo 30 (by decide) (by decide), eo 31 (by decide) (by decide), eo 32 (by decide) (by decide), eo 33 (by decide) (by decide)]
  exact ⟨a1, a2, a3, a4, a5, by decide, a7, a8, a9, a10⟩
theorem s_X7_endDuck {M : mw_M} {σ : Nat → Nat} {k : Nat} {R : Row} {K : Int64} {P : Nat → Row} {PK : Nat → Int64} {x1 : Int32} {Q : mw_M → Int32 → Prop} {X : mw_M → String → Prop} (h : CF M σ k R K P PK) (h1 : ¬ isTr x1 → X M "java/lang/IndexOutOfBoundsException") (hq : isTr x1 → ∀ M1 σ1, fo ST M M1 → CF M1 σ1 (nk k) (rEnd R (nx x1)) K (psh k P R) (psh k PK K) → Q M1 (rT R (nx x1) 29)) : w_X7_endDuck 255 M 1 x1 Q X := by
  obtain ⟨⟨h0, -, hb⟩, hsk, hp, hV, hk, hc⟩ := h.cx
  unfold w_X7_endDuck
  refine s_chkT h1 (fun ht => ?_)
  replace hq := hq ht
  obtain ⟨hx, ht4⟩ := nx_4 ht
  clear h1 ht
  generalize nx x1 = t at *
  subst hx
  have el : lnd 3 = 4 := rfl
  have e8t : mI M (σ 0 + 23 + 4 * t) 8 = rT R t 29 := vT2 hp ht4 (f := 0) (by decide)
  rw [h0, hsk.1.2.2.1, bs_ln hb (by decide) (Or.inr (Or.inr (Or.inl rfl))), el, nI_clamp (by omega), (hsk.2.2.1 t ht4).1, e8t]
  refine ⟨is1, kS hb, kA3 hb, vp_n ht4 (by decide), (kTr hb ht4).1, ?_⟩
  rintro _ rfl
  refine s_draft h (fun M1 s1 k1 b1 r1 => ?_)
  rw [k1.1.2.2.1, bs_ln b1 (by decide) (Or.inr (Or.inr (Or.inl rfl))), el, (k1.2.2.1 t ht4).1]
  refine ⟨kS b1, kA3 b1, vp_n ht4 (by decide), (kTr b1 ht4).1, ?_⟩
  rintro _ rfl
  have eo : ∀ f, f < 34 → f ≠ 29 → rT (rEnd R t) t f = rT R t f := fun f h1 h2 => up_ne (by omega)
  have e0 : rT (rEnd R t) t 29 = -1 := up_at _ _ _
  have s2 : sm (So (σ 1 + 23 + 4 * t)) M1 (sI M1 (σ 1 + 23 + 4 * t) 8 (-1)) := sm.si (S := So (σ 1 + 23 + 4 * t)) rfl
  refine s_keepSound h ((s1.fo (fun a b q => q)).tr (s2.fo (fun a b (q : a = _) => ⟨by omega, by omega⟩))) (sm_sk s2 k1) (rep_trkU k1 hV r1 ht4 (s2.mono So_Str) (repD1_f ((rep_g.mp r1).2.2.1 t ht4) (hV.2.2.1.pn ht4).2 s2 (fun f hf => ⟨?_, ?_⟩) (fun f a1 a2 => eo f (by omega) (by omega))) (fun j hj => up_ne (by omega))) (V_end hV ht4) hq
  · rw [eo f (by omega) (by omega), mI_ne (Or.inr (by omega))]
    exact vT r1 ht4 hf
  · by_cases e : f = 0
    · subst e
      exact (mI_at _ _ _ _).trans e0.symm
    · rw [eo (29 + f) (by omega) (by omega), mI_ne (Or.inr (by omega))]
      exact vT2 r1 ht4 hf
theorem V_x {R R1 : Row} (h : VAL R) (e : ∀ j, 8 ≤ j → R1 j = R j) (hX : VX R1) : VAL R1 := by
  obtain ⟨vS, vC, vT, vP, vX, vL⟩ := h
  obtain ⟨c1, c2⟩ := VCL_ag (R1 := R1) vC vL (fun j h1 h2 => e j (by omega))
  obtain ⟨t1, t2⟩ := VTP_ag (R1 := R1) vT vP (fun j h1 h2 => e j (by omega))
  exact ⟨VS_ag vS (fun j h1 h2 => e j (by omega)), c1, t1, t2, hX, c2⟩
theorem s_X7_setMaster {M : mw_M} {σ : Nat → Nat} {k : Nat} {R : Row} {K : Int64} {P : Nat → Row} {PK : Nat → Int64} {x1 : Int32} {Q : mw_M → Int32 → Prop} {X : mw_M → String → Prop} (h : CF M σ k R K P PK) (h1 : ¬ isAt 0 2000 x1 → X M "java/lang/IllegalArgumentException") (hq : isAt 0 2000 x1 → ∀ M1 σ1, fo ST M M1 → CF M1 σ1 (nk k) (up R 3 x1) K (psh k P R) (psh k PK K) → Q M1 (R 3)) : w_X7_setMaster 255 M 1 x1 Q X := by
  obtain ⟨⟨h0, -, hb⟩, hsk, hp, hV, hk, hc⟩ := h.cx
  unfold w_X7_setMaster
  refine s_out 0 2000 rfl rfl (fun g => ?_) (fun g => h1 g)
  rw [h0, hp.2.2.2.2.1.1]
  refine ⟨is1, kS hb, ?_⟩
  rintro _ rfl
  refine s_draft h (fun M1 s1 k1 b1 r1 => ⟨kS b1, ?_⟩)
  rintro _ rfl
  obtain ⟨-, -, -, ⟨g1, g2, g3, g4⟩, gF⟩ := rep_g.mp r1
  refine s_keepSt h s1 k1 r1 (sm.si (Or.inr ⟨rfl, by decide⟩)) (fun b => mI_ne (Or.inl (by omega))) ⟨(mI_at _ _ _ _).trans (up_at _ _ _).symm, (mI_ne (Or.inr (by decide))).trans g2, (mI_ne (Or.inr (by decide))).trans g3, (mI_ne (Or.inr (by decide))).trans g4⟩ (gF.tr (fun b => rfl) (fun j h1 h2 => up_ne (by omega))) (fun j hj => up_ne (by omega)) (V_x hV (fun j hj => up_ne (by omega)) ?_) (hq g)
  obtain ⟨v1, v2, -⟩ := hV.2.2.2.2.1
  exact ⟨v1, v2, g⟩
theorem s_X7_seek {M : mw_M} {σ : Nat → Nat} {k : Nat} {R : Row} {K : Int64} {P : Nat → Row} {PK : Nat → Int64} {x1 : Int32} {Q : mw_M → Int32 → Prop} {X : mw_M → String → Prop} (h : CF M σ k R K P PK) (h1 : ¬ isPl x1 → X M "java/lang/IllegalArgumentException") (hq : isPl x1 → ∀ M1 σ1, fo ST M M1 → CF M1 σ1 (nk k) (up R 0 x1) K (psh k P R) (psh k PK K) → Q M1 (R 0)) : w_X7_seek 255 M 1 x1 Q X := by
  obtain ⟨⟨h0, -, hb⟩, hsk, hp, hV, hk, hc⟩ := h.cx
  unfold w_X7_seek
  refine s_chkP h1 (fun g => ?_)
  rw [h0, hp.2.2.2.2.1.2.1]
  refine ⟨is1, kS hb, ?_⟩
  rintro _ rfl
  refine s_draft h (fun M1 s1 k1 b1 r1 => ⟨kS b1, ?_⟩)
  rintro _ rfl
  obtain ⟨-, -, -, ⟨g1, g2, g3, g4⟩, gF⟩ := rep_g.mp r1
  refine s_keepSt (R1 := up R 0 x1) h s1 k1 r1 (sm.si (Or.inr ⟨rfl, by decide⟩)) (fun b => mI_ne (Or.inl (by omega))) ⟨(mI_ne (Or.inr (by decide))).trans g1, (mI_at _ _ _ _).trans (up_at _ _ _).symm, (mI_ne (Or.inr (by decide))).trans g3, (mI_ne (Or.inr (by decide))).trans g4⟩ (gF.tr (fun b => rfl) (fun j h1 h2 => up_ne (by omega))) (fun j hj => up_ne (by omega)) (V_x hV (fun j hj => up_ne (by omega)) ?_) (hq g)
  obtain ⟨v1, v2, v3⟩ := hV.2.2.2.2.1
  exact ⟨g, v2, v3⟩
theorem s_X7_setLoop {M : mw_M} {σ : Nat → Nat} {k : Nat} {R : Row} {K : Int64} {P : Nat → Row} {PK : Nat → Int64} {x1 x2 : Int32} {Q : mw_M → Int32 → Prop} {X : mw_M → String → Prop} (h : CF M σ k R K P PK) (h1 : ¬ fLoop x1 x2 → X M "java/lang/IllegalArgumentException") (hq : fLoop x1 x2 → ∀ M1 σ1, fo ST M M1 → CF M1 σ1 (nk k) (rLoop R x1 x2) K (psh k P R) (psh k PK K) → Q M1 (R 1)) : w_X7_setLoop 255 M 1 x1 x2 Q X := by
  obtain ⟨⟨h0, -, hb⟩, hsk, hp, hV, hk, hc⟩ := h.cx
  unfold w_X7_setLoop w_X7_setLoop_b22
  have o1 : (1 : Int32).toInt = 1 := rfl
  refine s_out2 1 4000 rfl rfl (fun g1 => ?_) (fun g => h1 (fun q => g q.1))
  have g1' := g1
  obtain ⟨ga, gb⟩ := g1'
  refine s_out 0 (x2.toInt - 1) rfl (by rw [ti_sub (by rw [o1]; omega) (by rw [o1]; omega), o1]) (fun g2 => ?_) (fun g => h1 (fun q => g ⟨q.2.1, by have := q.2.2; omega⟩))
  have hf : fLoop x1 x2 := ⟨g1, g2.1, by have := g2.2; omega⟩
  rw [h0, hp.2.2.2.2.1.2.2.1]
  refine ⟨is1, kS hb, ?_⟩
  rintro _ rfl
  refine s_draft h (fun M1 s1 k1 b1 r1 => ⟨kS b1, ?_⟩)
  rintro _ rfl _ rfl
  obtain ⟨-, -, -, ⟨q1, q2, q3, q4⟩, gF⟩ := rep_g.mp r1
  have eR : ∀ j, j ≠ 1 → j ≠ 2 → rLoop R x1 x2 j = R j := fun j n1 n2 => by unfold rLoop; rw [up_ne n1, up_ne n2]
  refine s_keepSt (R1 := rLoop R x1 x2) h s1 k1 r1 ((sm.si (Or.inr ⟨rfl, by decide⟩)).tr (sm.si (Or.inr ⟨rfl, by decide⟩))) (fun b => (mI_ne (Or.inl (by omega))).trans (mI_ne (Or.inl (by omega)))) ⟨((mI_ne (Or.inr (by decide))).trans (mI_ne (Or.inr (by decide)))).trans q1, ((mI_ne (Or.inr (by decide))).trans (mI_ne (Or.inr (by decide)))).trans q2, ((mI_ne (Or.inr (by decide))).trans (mI_at _ _ _ _)).trans rfl, (mI_at _ _ _ _).trans rfl⟩ (gF.tr (fun b => rfl) (fun j h1 h2 => eR j (by omega) (by omega))) (fun j hj => eR j (by omega) (by omega)) (V_x hV (fun j hj => eR j (by omega) (by omega)) ?_) (hq hf)
  obtain ⟨v1, v2, v3⟩ := hV.2.2.2.2.1
  exact ⟨v1, ⟨hf.2.1, hf.2.2, hf.1.2⟩, v3⟩
theorem s_X7_clearMeters {M : mw_M} {σ : Nat → Nat} {k : Nat} {R : Row} {K : Int64} {P : Nat → Row} {PK : Nat → Int64} {Q : mw_M → Int64 → Prop} (h : CF M σ k R K P PK) (hq : ∀ M1 σ1, fo ST M M1 → CF M1 σ1 (nk k) (rClear R) 7 (psh k P R) (psh k PK K) → Q M1 (Int32.toInt64 (R 4))) : w_X7_clearMeters 255 M 1 Q := by
  obtain ⟨⟨h0, -, hb⟩, hsk, hp, hV, hk, hc⟩ := h.cx
  unfold w_X7_clearMeters
  rw [h0, hsk.1.2.2.2, hp.2.2.2.2.2.1 0 (by decide)]
  refine ⟨is1, kS hb, kM hb, ?_⟩
  rintro _ rfl
  refine s_draft h (fun M1 s1 k1 b1 r1 => ?_)
  rw [k1.1.2.2.2]
  unfold w_X3_clear
  refine ⟨kS b1, kM b1, kM b1, ?_⟩
  rintro _ rfl _ rfl _ rfl _ rfl _ rfl
  obtain ⟨-, -, -, gE, gF⟩ := rep_g.mp r1
  have eR : ∀ j, (j < 4 ∨ 8 ≤ j) → rClear R j = R j := fun j n1 => by unfold rClear; rw [up_ne (by omega), up_ne (by omega), up_ne (by omega), up_ne (by omega)]
  have w : ∀ {N : mw_M} {b : Nat} {x : Int64}, sm (fun a b => a = σ 1 + 4 ∨ (a = σ 1 ∧ 4 ≤ b)) N (sL N (σ 1 + 4) b x) := sm.sl (Or.inl rfl)
  refine s_keepSt (R1 := rClear R) h s1 k1 r1 ((((w.tr w).tr w).tr w).tr w) (fun b => rfl) (gE.tr (fun b _ _ => rfl) (fun j hj => eR j (Or.inl hj))) ⟨fun j hj => ?_, mL_at _ _ _ _⟩ (fun j hj => eR j (Or.inr hj)) (V_x hV (fun j hj => eR j (Or.inr hj)) (VX_ag hV.2.2.2.2.1 (fun j hj => eR j (Or.inl hj)))) hq
  have hj9 : j = 0 ∨ j = 1 ∨ j = 2 ∨ j = 3 := by omega
  have z0 : Int32.toInt64 0 = 0 := rfl
  rcases hj9 with rfl | rfl | rfl | rfl
  · rw [show rClear R (4 + 0) = 0 from rfl, z0]; simp [mL_sL]
  · rw [show rClear R (4 + 1) = 0 from rfl, z0]; simp [mL_sL]
  · rw [show rClear R (4 + 2) = 0 from rfl, z0]; simp [mL_sL]
  · rw [show rClear R (4 + 3) = 0 from rfl, z0]; simp [mL_sL]
