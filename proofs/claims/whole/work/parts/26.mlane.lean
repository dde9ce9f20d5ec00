/-! The reference: lanes, dry values, levels -/
theorem mu_dec {N k : Nat} (h : k < N) (hN : N ≤ 100000) : N - (nI k + 1).toInt.toNat < N - (nI k).toInt.toNat := by
  rw [nI_1, nI_toInt (by omega), nI_toInt (by omega)]
  omega
theorem trk_ix {M : mw_M} {t f : Nat} (ht : t < 4) (hf : f < 34) {x : Int32} (hx : x = nI (141 + 34 * t + f)) : vp_in x (Ln 248) ∧ mI M 248 (Int32.toNatClampNeg x) = rT (nw M) t f := by
  obtain ⟨i1, i2⟩ := ix_is hx (by omega)
  rw [i2]
  exact ⟨i1, rfl⟩
theorem s_X8_pointsAhead {M : mw_M} {t : Nat} {x : Int32} {Q : Int32 → Prop} (hM : MK M) (hT : VT (nw M)) (ht : t < 4) (hq : Q (nI (pa (nw M) t x))) : w_X8_pointsAhead 255 M 247 (nI t) x Q := by
  unfold w_X8_pointsAhead
  refine s_X8_trackAt ?_
  unfold w_X8_pointsAhead_b8 w_X8_pointsAhead_b44
  obtain ⟨e4, h8⟩ := hT.pn ht
  obtain ⟨h1, -⟩ := hM
  refine ⟨fun z => ∃ k, z = nI k ∧ k ≤ pn (nw M) t ∧ ∀ j, j < k → rT (nw M) t (5 + 3 * j) < x, fun z => 8 - z.toInt.toNat, ⟨0, rfl, Nat.zero_le _, fun j hj => absurd hj (Nat.not_lt_zero j)⟩, ?_⟩
  rintro _ ⟨k, rfl, hk, hj⟩
  obtain ⟨i4, j4⟩ := trk_ix (M := M) (f := 4) ht (by decide) (x := nI (141 + 34 * t) + 4) (by rw [li 4, nI_add])
  rw [h1, j4, e4]
  refine ⟨is247, is248, i4, fun h => ?_, fun h => ?_⟩
  · rw [nI_leI (by omega) (by omega)] at h
    rw [pa_is hk hj (fun q => by omega)] at hq
    exact hq
  · rw [nI_leI (by omega) (by omega)] at h
    obtain ⟨i5, j5⟩ := trk_ix (M := M) (f := 5 + 3 * k) ht (by omega) (x := nI (141 + 34 * t) + 5 + 3 * nI k) (by rw [li 5, li 3, pk_mul, nI_add, nI_add, Nat.add_assoc])
    rw [j5]
    refine ⟨i5, fun h2 => ?_, fun h2 => ?_⟩
    · rw [pa_is hk hj (fun _ q => by rw [ti_lt] at q; rw [ti_le] at h2; omega)] at hq
      exact hq
    · rintro _ rfl
      refine ⟨⟨k + 1, nI_1 k, by omega, fun j hj2 => ?_⟩, ?_⟩
      · by_cases e : j = k
        · rw [e, ti_lt]; rw [ti_le] at h2; omega
        · exact hj j (by omega)
      · exact mu_dec (by omega) (by decide)
theorem s_X8_laneAt {M : mw_M} {t : Nat} {x : Int32} {Q : Int32 → Prop} (hM : MK M) (hT : VT (nw M)) (hP : VP (nw M)) (ht : t < 4) (hx : 0 ≤ x.toInt) (hx2 : x.toInt ≤ 3999) (hq : Q (laneR (nw M) t x)) : w_X8_laneAt 255 M 247 (nI t) x Q := by
  have hMk := hM
  obtain ⟨e4, h8⟩ := hT.pn ht
  obtain ⟨h1, -⟩ := hM
  unfold w_X8_laneAt
  refine s_X8_trackAt ?_
  rintro _ rfl
  refine ⟨is247, s_X8_trackAt ?_⟩
  obtain ⟨i4, j4⟩ := trk_ix (M := M) (f := 4) ht (by decide) (x := nI (141 + 34 * t) + 4) (by rw [li 4, nI_add])
  rw [h1]
  refine ⟨is248, i4, ?_⟩
  rintro _ rfl
  rw [j4, e4]
  have e5 : nI (141 + 34 * t) + 5 = nI (146 + 34 * t) := by rw [li 5, nI_add]; congr 1; omega
  rw [e5]
  refine s_X8_pointsAhead hMk hT ht ?_
  unfold laneR at hq
  obtain ⟨p1, p2, p3⟩ := pa_s (R := nw M) (t := t) (n := x + 1)
  generalize hk : pa (nw M) t (x + 1) = k at *
  have b68 : (∀ k', k = k' + 1 → Q (rT (nw M) t (5 + 3 * k' + 1))) → (k = 0 → pn (nw M) t ≠ 0 → Q (rT (nw M) t 6)) → pn (nw M) t ≠ 0 → w_X8_laneAt_b68 255 M 247 (nI (146 + 34 * t)) (nI k) Q := by
    intro g1 g2 g3
    unfold w_X8_laneAt_b68 w_X8_laneAt_b88
    rw [h1]
    refine ⟨is247, fun h => ?_, fun h => ?_⟩
    · have hk1 : k ≠ 0 := fun e => h (by rw [e]; rfl)
      obtain ⟨k', rfl⟩ : ∃ k', k = k' + 1 := ⟨k - 1, by omega⟩
      obtain ⟨i6, j6⟩ := trk_ix (M := M) (f := 5 + 3 * k' + 1) ht (by omega) (x := nI (146 + 34 * t) + (3 * nI (k' + 1) - 2)) (by rw [li 3, li 2, pk_mul, pk_sub (by omega), nI_add]; congr 1; omega)
      rw [j6]
      exact ⟨is248, i6, g1 k' rfl⟩
    · have e0 : k = 0 := (nI_eq (by omega) (by omega)).mp h
      obtain ⟨i6, j6⟩ := trk_ix (M := M) (f := 6) ht (by omega) (x := nI (146 + 34 * t) + 1) (by rw [li 1, nI_add]; congr 1; omega)
      rw [j6]
      exact ⟨is248, i6, g2 e0 g3⟩
  have z0 : (0 : Int32) = nI 0 := rfl
  refine ⟨fun h => ?_, fun h => ?_⟩
  · have hp0 : pn (nw M) t ≠ 0 := fun e => h (by rw [e]; rfl)
    rw [if_neg hp0] at hq
    refine ⟨fun h2 => ?_, fun h2 => ?_⟩
    · have e0 : k = 0 := (nI_eq (by omega) (by omega)).mp h2
      refine b68 (fun k' e => by omega) (fun _ _ => ?_) hp0
      rw [if_pos e0] at hq
      exact hq
    · have hk0 : k ≠ 0 := fun e => h2 (by rw [e]; rfl)
      rw [if_neg hk0] at hq
      obtain ⟨k', rfl⟩ : ∃ k', k = k' + 1 := ⟨k - 1, by omega⟩
      rw [Nat.add_sub_cancel] at hq
      refine ⟨fun h3 => ?_, fun h3 => ?_⟩
      · rw [nI_eq (by omega) (by omega)] at h3
        refine b68 (fun k2 e => ?_) (fun e => by omega) hp0
        have : k' = k2 := by omega
        subst this
        rw [if_pos (Or.inl h3)] at hq
        exact hq
      · rw [nI_eq (by omega) (by omega)] at h3
        obtain ⟨i7, j7⟩ := trk_ix (M := M) (f := 5 + 3 * k' + 2) ht (by omega) (x := nI (146 + 34 * t) + 3 * nI (k' + 1) - 1) (by rw [li 3, li 1, pk_mul, nI_add, pk_sub (by omega)]; congr 1; omega)
        rw [j7]
        refine ⟨i7, fun h4 => ?_, fun h4 => ?_⟩
        · rw [if_neg (by rw [not_or]; exact ⟨h3, h4⟩)] at hq
          have e18 : nI (146 + 34 * t) + 3 * nI (k' + 1) - 3 = nI (146 + 34 * t + 3 * k') := by rw [li 3, pk_mul, nI_add, pk_sub (by omega)]; exact congrArg nI (by omega)
          rw [e18]
          rintro _ rfl
          obtain ⟨ia, ja⟩ := trk_ix (M := M) (f := 5 + 3 * (k' + 1) + 1) ht (by omega) (x := nI (146 + 34 * t + 3 * k') + 4) (by rw [li 4, nI_add]; congr 1; omega)
          obtain ⟨ib, jb⟩ := trk_ix (M := M) (f := 5 + 3 * k' + 1) ht (by omega) (x := nI (146 + 34 * t + 3 * k') + 1) (by rw [li 1, nI_add]; congr 1; omega)
          obtain ⟨ic, jc⟩ := trk_ix (M := M) (f := 5 + 3 * k') ht (by omega) (x := nI (146 + 34 * t + 3 * k')) (congrArg nI (by omega))
          obtain ⟨id1, jd⟩ := trk_ix (M := M) (f := 5 + 3 * (k' + 1)) ht (by omega) (x := nI (146 + 34 * t + 3 * k') + 3) (by rw [li 3, nI_add]; congr 1; omega)
          refine ⟨ia, ib, ic, ?_⟩
          rintro _ rfl
          rw [ja, jb, jc, jd]
          refine ⟨id1, ?_⟩
          obtain ⟨a1, a2, a3, a4, a5, a6⟩ := lane_nb hP ht hx hx2 hk (by omega)
          have s1 := ti_sub (x := rT (nw M) t (5 + 3 * (k' + 1) + 1)) (y := rT (nw M) t (5 + 3 * k' + 1)) (by omega) (by omega)
          have s2 := ti_sub (x := x) (y := rT (nw M) t (5 + 3 * k')) (by omega) (by omega)
          have s3 := ti_sub (x := rT (nw M) t (5 + 3 * (k' + 1))) (y := rT (nw M) t (5 + 3 * k')) (by omega) (by omega)
          have hm := mul_bd (v := (rT (nw M) t (5 + 3 * (k' + 1) + 1)).toInt - (rT (nw M) t (5 + 3 * k' + 1)).toInt) (g := x.toInt - (rT (nw M) t (5 + 3 * k')).toInt) (B := 2000) (D := 4000) (by omega) (by omega) (by omega) (by omega)
          have m1 : (Int32.toInt64 (rT (nw M) t (5 + 3 * (k' + 1) + 1) - rT (nw M) t (5 + 3 * k' + 1)) * Int32.toInt64 (x - rT (nw M) t (5 + 3 * k'))).toInt = ((rT (nw M) t (5 + 3 * (k' + 1) + 1)).toInt - (rT (nw M) t (5 + 3 * k' + 1)).toInt) * (x.toInt - (rT (nw M) t (5 + 3 * k')).toInt) := by
            rw [tl_mul (by rw [ti_l, ti_l, s1, s2]; omega) (by rw [ti_l, ti_l, s1, s2]; omega), ti_l, ti_l, s1, s2]
          refine s_X8_floor (by rw [ti_l, s3]; omega) (by rw [m1]; omega) (fun r hr => ?_)
          rw [m1, ti_l, s3] at hr
          have hmd := mid_bd (u := (rT (nw M) t (5 + 3 * k' + 1)).toInt) (v := (rT (nw M) t (5 + 3 * (k' + 1) + 1)).toInt) (a := x.toInt - (rT (nw M) t (5 + 3 * k')).toInt) (b := (rT (nw M) t (5 + 3 * (k' + 1))).toInt - (rT (nw M) t (5 + 3 * k')).toInt) (by omega) (by omega) a4.1 a4.2 a5 a6
          rw [← hr] at hmd hq
          have e3 : r.toInt32 = iI r.toInt := iI_eq (tl_i (by omega) (by omega))
          rw [e3]
          exact hq
        · rw [if_pos (Or.inr h4)] at hq
          refine b68 (fun k2 e => ?_) (fun e => by omega) hp0
          have : k' = k2 := by omega
          subst this
          exact hq
  · have hp0 : pn (nw M) t = 0 := (nI_eq (by omega) (by omega)).mp h
    rw [if_pos hp0] at hq
    exact hq
/-- clips in their order -/
theorem VL_lt {R : Row} (hL : VL R) : ∀ {i j : Nat}, i < j → j < cn R → (rC R i 0).toInt ≤ (rC R j 0).toInt ∧ (rC R i 0 = rC R j 0 → (rC R i 2).toInt < (rC R j 2).toInt ∧ (rC R i 2).toInt + (rC R i 4).toInt < (rC R j 2).toInt + (rC R j 4).toInt) := by
  intro i j
  induction j with
  | zero => intro h; omega
  | succ j ih =>
    intro h hj
    have hs := hL.1 j hj
    by_cases e : i = j
    · subst e
      rcases hs with h1 | ⟨h1, h2, h3⟩
      · exact ⟨by omega, fun q => by rw [q] at h1; omega⟩
      · exact ⟨by rw [h1]; omega, fun _ => ⟨h2, h3⟩⟩
    · obtain ⟨a1, a2⟩ := ih (by omega) (by omega)
      rcases hs with h1 | ⟨h1, h2, h3⟩
      · exact ⟨by omega, fun q => by rw [q] at a1; omega⟩
      · refine ⟨by rw [← h1]; exact a1, fun q => ?_⟩
        obtain ⟨b1, b2⟩ := a2 (q.trans h1.symm)
        exact ⟨by omega, by omega⟩
theorem on_two {R : Row} (hC : VC R) (hL : VL R) {t a c : Nat} {n : Int32} (ha : on R t n a) (hc : on R t n c) (hac : a < c) (hcn : c < cn R) : c = a + 1 := by
  by_cases e : c = a + 1
  · exact e
  · exfalso
    have e0 : rC R a 0 = rC R c 0 := ha.1.trans hc.1.symm
    have m1 := VL_lt hL (i := a) (j := a + 2) (by omega) (by omega)
    have e1 : rC R a 0 = rC R (a + 2) 0 := by
      by_cases e2 : a + 2 = c
      · rw [e2]; exact e0
      · have m2 := VL_lt hL (i := a + 2) (j := c) (by omega) hcn
        rw [e0] at m1
        rw [e0, ti_eq]
        omega
    have h3 := hL.2 a (by omega) e1
    have h4 : (rC R (a + 2) 2).toInt ≤ (rC R c 2).toInt := by
      by_cases e2 : a + 2 = c
      · rw [e2]; exact Int.le_refl _
      · have m2 := VL_lt hL (i := a + 2) (j := c) (by omega) hcn
        have := m2.2 (e1.symm.trans e0)
        omega
    have h5 := ha.2.2
    have h6 := hc.2.1
    rw [ti_lt, end_i (hC.2 a (by omega))] at h5
    rw [ti_le] at h6
    omega
theorem s_X8_dry {M : mw_M} {t : Nat} {x : Int32} {Q : Int32 → Prop} (hM : MK M) (hV : VAL (nw M)) (ht : t < 4) (hx : 0 ≤ x.toInt) (hx2 : x.toInt ≤ 3999) (hq : Q (dryR (nw M) t x)) : w_X8_dry 255 M 247 (nI t) x Q := by
  have hMk := hM
  obtain ⟨hS, hC, hT, hP, -, hL⟩ := hV
  obtain ⟨h1, -⟩ := hM
  obtain ⟨e8, h12⟩ := hC.cn
  have hsum := sumR_bd hS hC hL t x
  obtain ⟨⟨g1, g2⟩, -⟩ := hT t ht
  obtain ⟨⟨d1, d2⟩, -⟩ := dryR_bd hS hC hT hP hL ht hx hx2
  have hlb := laneR_bd hP ht hx hx2
  have b152 : w_X8_dry_b152 255 M 247 (nI t) x (sumR (nw M) t x) Q := by
    unfold w_X8_dry_b152
    refine ⟨is247, s_X8_trackAt ?_⟩
    obtain ⟨i0, j0⟩ := trk_ix (M := M) (f := 0) ht (by decide) (x := nI (141 + 34 * t)) rfl
    rw [h1, j0]
    exact ⟨is248, i0, s_X8_applied (B := 40000) (D := 2000) (ti_l _) (by omega) (by omega) g1 g2 (by omega) (s_X8_laneAt hMk hT hP ht hx hx2 (s_X8_applied (B := 80000) (D := 2000) (ti_l _) (by omega) (by omega) hlb.1 hlb.2 (by omega) hq))⟩
  have b87 : ∀ a : Nat, a < cn (nw M) → fc (nw M) t x = a → on (nw M) t x a → ∀ z : Int32, (two (nw M) t x → z = nI (a + 1)) → (¬ two (nw M) t x → z = -1) → w_X8_dry_b87 255 M 247 (nI t) x (nI a) z (rawR (nw M) a x) Q := by
    intro a ha hf ho z z1 z2
    unfold w_X8_dry_b87
    unfold sumR at b152 hsum
    rw [if_neg (by omega), hf] at b152 hsum
    by_cases h2 : two (nw M) t x
    · rw [z1 h2]
      rw [ifp_t h2] at b152
      obtain ⟨h3, h4⟩ := h2
      rw [hf] at h3 h4
      refine ⟨fun e => ?_, fun _ => ?_⟩
      · have e1 := congrArg Int32.toInt e
        rw [nI_toInt (by omega)] at e1
        have : (-1 : Int32).toInt = -1 := rfl
        omega
      · obtain ⟨w0, w4, w1, w2, w3⟩ := wxf_bd hC hL h3 ho h4
        have r1 := rawR_bd hS (hC.2 a ha) ho.2
        have r2 := rawR_bd hS (hC.2 (a + 1) h3) h4.2
        refine ⟨is247, s_X8_clipOf (f := 2) hMk (by omega) (by decide) rfl (s_X8_clipEnd hMk (by omega) (s_X8_clipOf (f := 2) hMk (by omega) (by decide) rfl ⟨fun e => ?_, ?_⟩))⟩
        · have e1 := congrArg Int32.toInt e
          rw [w0, Int32.toInt_zero] at e1
          omega
        · rintro _ rfl
          refine s_X8_applied (B := 20000) (D := 1000) (y := 1000 - wxf (nw M) a x) (ti_l _) (by omega) (by omega) (by rw [w3]; omega) (by rw [w3]; omega) (by omega) (s_X8_raw hMk hS (by omega) (hC.2 _ h3) h4.2 (s_X8_applied (B := 20000) (D := 1000) (y := wxf (nw M) a x) (ti_l _) (by omega) (by omega) w1 w2 (by omega) ?_))
          rintro _ rfl
          exact b152
    · rw [z2 h2]
      rw [ifp_f h2] at b152
      exact ⟨fun _ => b152, fun e => absurd rfl e⟩
  have m1 : (-1 : Int32).toInt = -1 := rfl
  have nm : ∀ k : Nat, k < 12 → ¬ nI k = (-1 : Int32) := fun k hk e => by
    have e1 := congrArg Int32.toInt e
    rw [nI_toInt (by omega), m1] at e1
    omega
  unfold w_X8_dry w_X8_dry_b8
  refine ⟨fun y z w => ∃ c, w = nI c ∧ c ≤ cn (nw M) ∧ ((y = -1 ∧ z = -1 ∧ ∀ j, j < c → ¬ on (nw M) t x j) ∨ ∃ a, a < c ∧ y = nI a ∧ on (nw M) t x a ∧ (∀ j, j < a → ¬ on (nw M) t x j) ∧ ((z = nI (a + 1) ∧ a + 1 < c ∧ on (nw M) t x (a + 1)) ∨ (z = -1 ∧ (a + 1 < c → ¬ on (nw M) t x (a + 1))))), fun _ _ w => 12 - w.toInt.toNat, ⟨0, rfl, Nat.zero_le _, Or.inl ⟨rfl, rfl, fun j hj => absurd hj (Nat.not_lt_zero j)⟩⟩, ?_⟩
  rintro y z _ ⟨c, rfl, hc, hI⟩
  obtain ⟨i8, j8⟩ := ix_is (x := 8) (j := 8) rfl (by decide)
  have e8' : mI M 248 8 = nI (cn (nw M)) := e8
  rw [h1, j8, e8']
  refine ⟨is247, is248, i8, fun h => ?_, fun h => ?_⟩
  · rw [nI_leI (by omega) (by omega)] at h
    have hcc : c = cn (nw M) := by omega
    subst hcc
    refine ⟨fun hy => ?_, fun hy => ?_⟩
    · rcases hI with ⟨q, -⟩ | ⟨a, a1, rfl, a2, a3, a4⟩
      · exact absurd q hy
      · have hf : fc (nw M) t x = a := fc_is (by omega) a3 (fun _ => a2)
        refine s_X8_raw hMk hS (by omega) (hC.2 a a1) a2.2 (b87 a a1 hf a2 z (fun h2 => ?_) (fun h2 => ?_))
        · obtain ⟨h3, h4⟩ := h2
          rw [hf] at h3 h4
          rcases a4 with ⟨q, -⟩ | ⟨-, q⟩
          · exact q
          · exact absurd h4 (q h3)
        · rcases a4 with ⟨-, q1, q2⟩ | ⟨q, -⟩
          · exact absurd (show two (nw M) t x from by unfold two; rw [hf]; exact ⟨q1, q2⟩) h2
          · exact q
    · rcases hI with ⟨-, rfl, q⟩ | ⟨a, a1, q, -⟩
      · have hf : fc (nw M) t x = cn (nw M) := fc_is (Nat.le_refl _) q (fun q9 => absurd q9 (Nat.lt_irrefl _))
        unfold w_X8_dry_b87
        unfold sumR at b152
        rw [if_pos hf] at b152
        exact ⟨fun _ => b152, fun e => absurd rfl e⟩
      · rw [q] at hy
        exact absurd hy (nm a (by omega))
  · rw [nI_leI (by omega) (by omega)] at h
    have stp : ∀ y' z' : Int32, ((y' = -1 ∧ z' = -1 ∧ ∀ j, j < c + 1 → ¬ on (nw M) t x j) ∨ ∃ a, a < c + 1 ∧ y' = nI a ∧ on (nw M) t x a ∧ (∀ j, j < a → ¬ on (nw M) t x j) ∧ ((z' = nI (a + 1) ∧ a + 1 < c + 1 ∧ on (nw M) t x (a + 1)) ∨ (z' = -1 ∧ (a + 1 < c + 1 → ¬ on (nw M) t x (a + 1))))) → w_X8_dry_b66 255 M 247 (nI t) x y' z' (nI c) Q (fun (x3_ : Int32) (x4_ : Int32) (x5_ : Int32) => (∃ c, x5_ = nI c ∧ c ≤ cn (nw M) ∧ ((x3_ = -1 ∧ x4_ = -1 ∧ ∀ j, j < c → ¬ on (nw M) t x j) ∨ ∃ a, a < c ∧ x3_ = nI a ∧ on (nw M) t x a ∧ (∀ j, j < a → ¬ on (nw M) t x j) ∧ ((x4_ = nI (a + 1) ∧ a + 1 < c ∧ on (nw M) t x (a + 1)) ∨ (x4_ = -1 ∧ (a + 1 < c → ¬ on (nw M) t x (a + 1)))))) ∧ 12 - x5_.toInt.toNat < 12 - (nI c).toInt.toNat) := by
      intro y' z' g
      unfold w_X8_dry_b66
      rintro _ rfl
      exact ⟨⟨c + 1, nI_1 c, by omega, g⟩, mu_dec (by omega) (by decide)⟩
    have skip : ¬ on (nw M) t x c → w_X8_dry_b66 255 M 247 (nI t) x y z (nI c) Q (fun (x3_ : Int32) (x4_ : Int32) (x5_ : Int32) => (∃ c, x5_ = nI c ∧ c ≤ cn (nw M) ∧ ((x3_ = -1 ∧ x4_ = -1 ∧ ∀ j, j < c → ¬ on (nw M) t x j) ∨ ∃ a, a < c ∧ x3_ = nI a ∧ on (nw M) t x a ∧ (∀ j, j < a → ¬ on (nw M) t x j) ∧ ((x4_ = nI (a + 1) ∧ a + 1 < c ∧ on (nw M) t x (a + 1)) ∨ (x4_ = -1 ∧ (a + 1 < c → ¬ on (nw M) t x (a + 1)))))) ∧ 12 - x5_.toInt.toNat < 12 - (nI c).toInt.toNat) := by
      intro hno
      refine stp y z ?_
      rcases hI with ⟨q1, q2, q3⟩ | ⟨a, a1, a2, a3, a4, a5⟩
      · refine Or.inl ⟨q1, q2, fun j hj => ?_⟩
        by_cases e : j = c
        · rw [e]; exact hno
        · exact q3 j (by omega)
      · refine Or.inr ⟨a, by omega, a2, a3, a4, ?_⟩
        rcases a5 with ⟨b1, b2, b3⟩ | ⟨b1, b2⟩
        · exact Or.inl ⟨b1, by omega, b3⟩
        · refine Or.inr ⟨b1, fun q => ?_⟩
          by_cases e : a + 1 = c
          · rw [e]; exact hno
          · exact b2 (by omega)
    refine s_X8_clipOf (f := 0) hMk (by omega) (by decide) rfl ⟨fun h2 => skip (fun q => h2 q.1), fun h2 => s_X8_covers hMk (by omega) ⟨fun h3 => skip (fun q => bl_0.mp h3 q.2), fun h3 => ?_⟩⟩
    have hon : on (nw M) t x c := ⟨h2, by rw [bl_0, Classical.not_not] at h3; exact h3⟩
    refine ⟨fun hy => ?_, fun hy => ?_⟩
    · rcases hI with ⟨q, -⟩ | ⟨a, a1, rfl, a3, a4, a5⟩
      · exact absurd q hy
      · have hc1 := on_two hC hL a3 hon a1 (by omega)
        unfold w_X8_dry_b52 w_X8_dry_b65
        refine ⟨fun _ => stp _ _ (Or.inr ⟨a, by omega, rfl, a3, a4, Or.inl ⟨by rw [hc1], by omega, by rw [← hc1]; exact hon⟩⟩), fun q => absurd q hy⟩
    · rcases hI with ⟨-, q2, q3⟩ | ⟨a, a1, q, -⟩
      · unfold w_X8_dry_b52 w_X8_dry_b65
        refine ⟨fun q => absurd hy q, fun _ => stp _ _ (Or.inr ⟨c, by omega, rfl, hon, q3, Or.inr ⟨rfl, fun q => by omega⟩⟩)⟩
      · rw [q] at hy
        exact absurd hy (nm a (by omega))
