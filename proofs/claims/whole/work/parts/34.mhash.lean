/-! The reference: undo, the digest -/
def Su : Nat → Nat → Prop := fun a b => (a = 248 ∧ b < 277) ∨ (a = 247 ∧ (b = 1 ∨ b = 4 ∨ b = 5))
theorem s_X8_undo {M : mw_M} {k : Nat} {Q : mw_M → Int32 → Prop} (hI : IK M k) (h1 : k = 0 → ∀ M1, sm S5 M M1 → mI M1 247 5 = 1 → Q M1 0) (h0 : ∀ d, k = d + 1 → ∀ M1, sm Su M M1 → mI M1 247 5 = 0 → mI M1 247 4 = nI d → (∀ j, j < 277 → nw M1 j = mI M 249 (277 * d + j)) → mL M1 247 1 = mL M 250 d → Q M1 (nI d)) : w_X8_undo 255 M 247 Q := by
  obtain ⟨hM, hk, hk4⟩ := hI
  unfold w_X8_undo
  have z : (0 : Int32) = nI 0 := rfl
  rw [hk, z, nI_leI (by omega) (by decide)]
  refine ⟨is247, fun h => ?_, fun h => ?_⟩
  · have : k = 0 := by omega
    subst this
    unfold w_X8_undo_b13
    refine ⟨is247, s_X8_refuses ?_⟩
    rw [bl_t (by decide)]
    exact ⟨fun q => absurd q (by decide), fun _ => h1 rfl _ (sm.si ⟨rfl, rfl⟩) (mI_at _ _ _ _)⟩
  · obtain ⟨d, rfl⟩ : ∃ d, k = d + 1 := ⟨k - 1, by omega⟩
    unfold w_X8_undo_b13
    refine ⟨is247, s_X8_refuses ?_⟩
    rw [bl_f (fun q => q rfl)]
    refine ⟨fun _ => ⟨is247, ?_⟩, fun q => absurd rfl q⟩
    rintro _ rfl
    rw [mI_ne (Or.inr (by decide)), hk, nI_pred]
    have sA : sm Su M (sI (sI M 247 5 (nI 0)) 247 4 (nI d)) := (sm.si (S := Su) (Or.inr ⟨rfl, Or.inr (Or.inr rfl)⟩)).tr (sm.si (S := Su) (Or.inr ⟨rfl, Or.inr (Or.inl rfl)⟩))
    have e4 : mI (sI (sI M 247 5 (nI 0)) 247 4 (nI d)) 247 4 = nI d := mI_at _ _ _ _
    have e5 : mI (sI (sI M 247 5 (nI 0)) 247 4 (nI d)) 247 5 = 0 := by rw [mI_ne (Or.inr (by decide)), mI_at]; rfl
    have eP : ∀ j, mI (sI (sI M 247 5 (nI 0)) 247 4 (nI d)) 249 j = mI M 249 j := fun j => by rw [mI_ne (Or.inl (by decide)), mI_ne (Or.inl (by decide))]
    have eL : ∀ j, mL (sI (sI M 247 5 (nI 0)) 247 4 (nI d)) 250 j = mL M 250 j := fun j => by rw [mL_sI, mL_sI]
    generalize sI (sI M 247 5 (nI 0)) 247 4 (nI d) = M2 at sA e4 e5 eP eL ⊢
    have k2 := sA.MK hM
    unfold w_X8_undo_b33
    refine ⟨fun N y => ∃ c, y = nI c ∧ c ≤ 277 ∧ sm (fun a b => a = 248 ∧ b < 277) M2 N ∧ ∀ j, j < c → nw N j = mI M 249 (277 * d + j), fun _ y => 277 - y.toInt.toNat, ⟨0, rfl, by decide, sm.rf, fun j hj => absurd hj (Nat.not_lt_zero j)⟩, ?_⟩
    rintro N _ ⟨c, rfl, hc, sN, g1⟩
    obtain ⟨m0, m2, m3, -⟩ := sN.MK k2
    have f4 : mI N 247 4 = nI d := (sN.2.1 247 4 (by decide)).trans e4
    have f5 : mI N 247 5 = 0 := (sN.2.1 247 5 (by decide)).trans e5
    rw [li 277, nI_leI (by decide) (by omega), m0, m2, m3, f4]
    refine ⟨fun g => ⟨is247, ?_⟩, fun g => ⟨is247, ?_⟩⟩
    · have : c = 277 := by omega
      subst this
      obtain ⟨i1, j1⟩ := q_ix (j := d) (x := nI d) (by omega) rfl
      rw [j1]
      refine ⟨is250, i1, ?_⟩
      rintro _ rfl
      rw [mI_sL, f4]
      refine h0 d rfl _ ((sA.tr (sN.mono (fun a b q => Or.inl q))).tr (sm.sl (Or.inr ⟨rfl, Or.inl rfl⟩))) ?_ ?_ (fun j hj => ?_) ?_
      · rw [mI_sL]; exact f5
      · rw [mI_sL]; exact f4
      · show mI _ _ _ = _
        rw [mI_sL]; exact g1 j hj
      · rw [mL_at, sN.2.2 250 d (fun q => by cases q.1), eL]
    · obtain ⟨i1, j1⟩ := ix_is (x := nI c) (j := c) rfl (by omega)
      obtain ⟨i2, j2⟩ := p_ix (j := 277 * d + c) (by omega) (x := nI 277 * nI d + nI c) (by rw [pk_mul, nI_add])
      rw [j1, j2]
      refine ⟨is249, i2, is248, i1, ?_⟩
      rintro _ rfl
      rintro _ rfl
      refine ⟨⟨c + 1, nI_1 c, by omega, sN.tr (sm.si ⟨rfl, by omega⟩), fun j hj => ?_⟩, mu_dec (by omega) (by decide)⟩
      rw [nw_sI]
      by_cases e : j = c
      · rw [e, up_at, sN.2.1 249 _ (fun q => by cases q.1), eP]
      · rw [up_ne e]; exact g1 j (by omega)
noncomputable section
/-- the hash of n values from j on -/
def hr (R : Row) (j : Nat) : Nat → Int64 → Int64
  | 0, h => h
  | n + 1, h => 31 * hr R j n h + Int32.toInt64 (R (j + n))
def dTr (R : Row) (t : Nat) (h : Int64) : Int64 := hr R (141 + 34 * t + 29) (if rT R t 29 = -1 then 1 else 5) (hr R (141 + 34 * t) (5 + 3 * pn R t) h)
def dT (R : Row) : Nat → Int64 → Int64
  | 0, h => h
  | t + 1, h => dTr R t (dT R t h)
def dM (R : Row) : Nat → Int64 → Int64
  | 0, h => h
  | i + 1, h => 31 * (31 * dM R i h + Int32.toInt64 (mixL R (50 * i))) + Int32.toInt64 (mixRt R (50 * i))
def dig (R : Row) (k : Nat) (K : Int64) : Int64 := dM R 80 (dT R 4 (hr R 33 (9 * cn R) (hr R 8 1 (hr R 9 24 (31 * hr R 0 8 (31 * 18363 + Int32.toInt64 (nI k)) + K)))))
end
def Sh : Nat → Nat → Prop := fun a b => a = 247 ∧ b = 13
theorem Sh8 : ∀ b, ¬ Sh 248 b := fun b h => absurd h.1 (by decide)
theorem s_X8_hashes {M : mw_M} {v : Int64} {Q : mw_M → Prop} (hq : ∀ M1, sm Sh M M1 → mL M1 247 13 = 31 * mL M 247 13 + v → Q M1) : w_X8_hashes 255 M 247 v Q := by
  unfold w_X8_hashes
  refine ⟨is247, ?_⟩
  rintro _ rfl
  exact hq _ (sm.sl ⟨rfl, rfl⟩) (mL_at _ _ _ _)
theorem s_X8_hashesRow {M : mw_M} {j n : Nat} {x1 x2 : Int32} {Q : mw_M → Prop} (hM : MK M) (h1 : x1 = nI j) (h2 : x2 = nI n) (hb : j + n ≤ 277) (hq : ∀ M1, sm Sh M M1 → mL M1 247 13 = hr (nw M) j n (mL M 247 13) → Q M1) : w_X8_hashesRow 255 M 247 x1 x2 Q := by
  subst h1
  subst h2
  unfold w_X8_hashesRow w_X8_hashesRow_b2
  refine ⟨fun N z => ∃ c, z = nI c ∧ c ≤ n ∧ sm Sh M N ∧ mL N 247 13 = hr (nw M) j c (mL M 247 13), fun _ z => n - z.toInt.toNat, ⟨0, rfl, Nat.zero_le _, sm.rf, rfl⟩, ?_⟩
  rintro N _ ⟨c, rfl, hc, sN, hh⟩
  rw [nI_leI (by omega) (by omega)]
  refine ⟨fun h => ?_, fun h => ⟨is247, ?_⟩⟩
  · have : c = n := by omega
    subst this
    exact hq N sN hh
  · obtain ⟨i1, j1⟩ := ix_is (x := nI j + nI c) (j := j + c) (nI_add _ _) (by omega)
    rw [(sN.MK hM).1, j1]
    refine ⟨is248, i1, s_X8_hashes (fun M1 s1 e1 => ?_)⟩
    rintro _ rfl
    refine ⟨⟨c + 1, nI_1 c, by omega, sN.tr s1, ?_⟩, mu_dec (by omega) (by omega)⟩
    rw [e1, hh]
    have : mI N 248 (j + c) = nw M (j + c) := congrFun (sN.nw Sh8) _
    rw [this]
    rfl
theorem Sqh : ∀ a b, Sh a b → Sq a b := fun a b h => Or.inr ⟨h.1, Or.inr (by have := h.2; omega)⟩
theorem s_X8_digest {M : mw_M} {k : Nat} {Q : mw_M → Int64 → Prop} (hI : IK M k) (hV : VAL (nw M)) (hq : ∀ M1, sm Sq M M1 → mI M1 247 5 = 0 → Q M1 (dig (nw M) k (mL M 247 1))) : w_X8_digest 255 M 247 Q := by
  obtain ⟨hM, hk, hk4⟩ := hI
  unfold w_X8_digest
  refine ⟨is247, ?_⟩
  rintro _ rfl
  rintro _ rfl
  have s1 : sm Sq M (sL (sI M 247 5 0) 247 13 18363) := (sm.si (S := Sq) (Or.inr ⟨rfl, Or.inl rfl⟩)).tr (sm.sl (S := Sq) (Or.inr ⟨rfl, Or.inr (by decide)⟩))
  have hh : mL (sL (sI M 247 5 0) 247 13 18363) 247 13 = 18363 := mL_at _ _ _ _
  have h5 : mI (sL (sI M 247 5 0) 247 13 18363) 247 5 = 0 := by rw [mI_sL, mI_at]
  generalize sL (sI M 247 5 0) 247 13 18363 = M1 at s1 hh h5 ⊢
  have keep : ∀ {N N' : mw_M}, sm Sh N N' → sm Sq M N → mI N 247 5 = 0 → sm Sq M N' ∧ mI N' 247 5 = 0 ∧ MK N' ∧ nw N' = nw M ∧ mL N' 247 1 = mL M 247 1 := fun sh sq h => by
    have s2 := sq.tr (sh.mono Sqh)
    exact ⟨s2, (sh.2.1 247 5 (by rintro ⟨-, q⟩; cases q)).trans h, s2.MK hM, s2.nw Sq8, s2.2.2 247 1 (by rintro (q | ⟨-, q⟩); cases q; omega)⟩
  have e4 : mI M1 247 4 = nI k := (s1.2.1 247 4 (by rintro (q | ⟨-, q⟩); cases q; omega)).trans hk
  rw [e4]
  refine s_X8_hashes (fun M2 t2 e2 => ?_)
  obtain ⟨s2, f2, k2, n2, c2⟩ := keep t2 s1 h5
  refine s_X8_hashesRow (j := 0) (n := 8) k2 rfl rfl (by decide) (fun M3 t3 e3 => ?_)
  obtain ⟨s3, f3, k3, n3, c3⟩ := keep t3 s2 f2
  refine s_X8_hashes (fun M4 t4 e4' => ?_)
  obtain ⟨s4, f4, k4, n4, c4⟩ := keep t4 s3 f3
  refine s_X8_hashesRow (j := 9) (n := 24) k4 rfl rfl (by decide) (fun M5 t5 e5 => ?_)
  obtain ⟨s5, f5, k5, n5, c5⟩ := keep t5 s4 f4
  refine s_X8_hashesRow (j := 8) (n := 1) k5 rfl rfl (by decide) (fun M6 t6 e6 => ?_)
  obtain ⟨s6, f6, k6, n6, c6⟩ := keep t6 s5 f5
  obtain ⟨hS, hC, hT, -⟩ := id hV
  obtain ⟨e8, h12⟩ := hC.cn
  obtain ⟨i1, j1⟩ := ix_is (x := 8) (j := 8) rfl (by decide)
  have e8' : mI M6 248 8 = nI (cn (nw M)) := by rw [← e8]; exact congrFun n6 8
  rw [k6.1, j1, e8']
  refine ⟨is248, i1, s_X8_hashesRow (j := 33) (n := 9 * cn (nw M)) k6 rfl (by rw [li 9, pk_mul]) (by omega) (fun M7 t7 e7 => ?_)⟩
  obtain ⟨s7, f7, k7, n7, c7⟩ := keep t7 s6 f6
  obtain ⟨H, hH⟩ : ∃ H, H = hr (nw M) 33 (9 * cn (nw M)) (hr (nw M) 8 1 (hr (nw M) 9 24 (31 * hr (nw M) 0 8 (31 * 18363 + Int32.toInt64 (nI k)) + mL M 247 1))) := ⟨_, rfl⟩
  have e7' : mL M7 247 13 = H := by rw [e7, e6, e5, e4', e3, e2, hh, n6, n5, n4, n2, c3, hH]
  have hq2 : ∀ M1, sm Sq M M1 → mI M1 247 5 = 0 → Q M1 (dM (nw M) 80 (dT (nw M) 4 H)) := by
    rw [hH]; exact hq
  clear e7 e6 e5 e4' e3 e2 hh hq hH
  unfold w_X8_digest_b69
  refine ⟨fun N z => ∃ t, z = nI t ∧ t ≤ 4 ∧ sm Sq M N ∧ mI N 247 5 = 0 ∧ mL N 247 13 = dT (nw M) t H, fun _ z => 4 - z.toInt.toNat, ⟨0, rfl, by decide, s7, f7, e7'⟩, ?_⟩
  rintro N _ ⟨t, rfl, ht, sN, fN, hN⟩
  have kN := sN.MK hM
  have nN := sN.nw Sq8
  rw [li 4, nI_leI (by decide) (by omega)]
  refine ⟨fun h => ⟨is247, ?_⟩, fun h => ?_⟩
  · have : t = 4 := by omega
    subst this
    refine s_X8_laysDucks (last := 99) kN (by rw [nN]; exact hV) (by decide) (fun N2 u2 l2 => ?_)
    have v2 := sN.tr (u2.mono Sq3)
    have w2 : mI N2 247 5 = 0 := (u2.2.1 247 5 (fun q => by cases q)).trans fN
    have hN2 : mL N2 247 13 = dT (nw M) 4 H := (u2.2.2 247 13 (fun q => by cases q)).trans hN
    unfold w_X8_digest_b143
    refine ⟨fun N3 z => ∃ i, z = nI (50 * i) ∧ i ≤ 80 ∧ sm Sq M N3 ∧ sm (fun a b => Smix a b ∨ Sh a b) N2 N3 ∧ mL N3 247 13 = dM (nw M) i (dT (nw M) 4 H), fun _ z => 4000 - z.toInt.toNat, ⟨0, rfl, by decide, v2, sm.rf, hN2⟩, ?_⟩
    rintro N3 _ ⟨i, rfl, hi, s3, u3, hN3⟩
    have k3 := s3.MK hM
    have n3 := s3.nw Sq8
    have w3 : mI N3 247 5 = 0 := (u3.2.1 247 5 (by rintro (⟨-, q⟩ | ⟨-, q⟩) <;> omega)).trans w2
    rw [li 4000, nI_leI (by decide) (by omega)]
    refine ⟨fun g => ⟨is247, ?_⟩, fun g => ⟨is247, ?_⟩⟩
    · have : i = 80 := by omega
      subst this
      rw [hN3]
      exact hq2 N3 s3 w3
    · have l3 : ∀ t, t < 4 → laid N3 t (50 * i / 40) := by
        intro t ht hne m hm
        have nn : nw N3 = nw N2 := u3.nw (by rintro b (⟨q, -⟩ | ⟨q, -⟩) <;> cases q)
        rw [nn] at hne ⊢
        rw [u3.2.1 253 _ (by rintro (⟨q, -⟩ | ⟨q, -⟩) <;> cases q)]
        exact l2 t ht hne m (by omega)
      refine s_X8_mixes k3 (by rw [n3]; exact hV) (by omega) l3 (fun N4 u4 eL eR _ => ?_)
      rw [n3] at eL eR
      refine s_X8_hashes (fun N5 u5 e5 => ?_)
      rw [eL] at e5
      have eR5 : mI N5 247 11 = mixRt (nw M) (50 * i) := (u5.2.1 247 11 (by rintro ⟨-, q⟩; cases q)).trans eR
      refine s_X8_hashes (fun N6 u6 e6 => ?_)
      rw [eR5] at e6
      rintro _ rfl
      refine ⟨⟨i + 1, by rw [li 50, nI_add]; rfl, by omega, ((s3.tr (u4.mono Sqm)).tr (u5.mono Sqh)).tr (u6.mono Sqh), ((u3.tr (u4.mono (fun a b => Or.inl))).tr (u5.mono (fun a b => Or.inr))).tr (u6.mono (fun a b => Or.inr)), ?_⟩, ?_⟩
      · rw [e6, e5, u4.2.2 247 13 (by rintro ⟨-, q⟩; omega), hN3]
        rfl
      · show 4000 - (nI (50 * i) + nI 50).toInt.toNat < 4000 - (nI (50 * i)).toInt.toNat
        rw [nI_add, nI_toInt (by omega), nI_toInt (by omega)]
        omega
  · have ht4 : t < 4 := by omega
    obtain ⟨e4, h8⟩ := hT.pn ht4
    obtain ⟨i4, j4⟩ := trk_ix (M := N) (f := 4) ht4 (by decide) (x := nI (141 + 34 * t) + nI 4) (by rw [nI_add])
    refine s_X8_trackAt ⟨is247, s_X8_trackAt ?_⟩
    rw [kN.1, j4, nN, e4]
    refine ⟨is248, i4, s_X8_hashesRow (j := 141 + 34 * t) (n := 5 + 3 * pn (nw M) t) kN rfl (by rw [li 5, li 3, pk_mul, nI_add]) (by omega) (fun N2 u2 e2 => ?_)⟩
    obtain ⟨s2, f2, k2, n2, c2⟩ := keep u2 sN fN
    rw [nN, hN] at e2
    refine s_X8_trackAt (s_X8_trackAt ?_)
    obtain ⟨i9, j9⟩ := trk_ix (M := N2) (f := 29) ht4 (by decide) (x := nI (141 + 34 * t) + 29) (by rw [li 29, nI_add])
    rw [k2.1, j9, n2]
    have b126 : ∀ m, m = (if rT (nw M) t 29 = -1 then 1 else 5) → w_X8_digest_b126 255 N2 247 (nI t) (nI m) (nI (141 + 34 * t) + 29) 247 Q (fun (M_ : mw_M) (x1_ : Int32) => (∃ t, x1_ = nI t ∧ t ≤ 4 ∧ sm Sq M M_ ∧ mI M_ 247 5 = 0 ∧ mL M_ 247 13 = dT (nw M) t H) ∧ 4 - x1_.toInt.toNat < 4 - (nI t).toInt.toNat) := by
      intro m hm
      unfold w_X8_digest_b126
      have hm5 : m ≤ 5 := by rw [hm]; split <;> decide
      refine ⟨is247, s_X8_hashesRow (j := 141 + 34 * t + 29) (n := m) k2 (by rw [li 29, nI_add]) rfl (by omega) (fun N3 u3 e3 => ?_)⟩
      obtain ⟨s3, f3, k3, n3, c3⟩ := keep u3 s2 f2
      rintro _ rfl
      refine ⟨⟨t + 1, nI_1 t, by omega, s3, f3, ?_⟩, mu_dec (by omega) (by decide)⟩
      rw [e3, e2, n2, hm]
      rfl
    exact ⟨is248, i9, fun g => b126 5 (by rw [if_neg g]), fun g => b126 1 (by rw [if_pos g])⟩
