/-! The reference: refusals, its stack of states -/
def S5 : Nat → Nat → Prop := fun a b => a = 247 ∧ b = 5
def Sk : Nat → Nat → Prop := fun a b => a = 249 ∨ a = 250 ∨ (a = 247 ∧ (b = 4 ∨ b = 5))
theorem s_X8_refuses {M : mw_M} {x : Int32} {Q : mw_M → Int32 → Prop} (hq : Q (sI M 247 5 x) (bl (x ≠ 0))) : w_X8_refuses 255 M 247 x Q := by
  unfold w_X8_refuses w_X8_refuses_b14
  refine ⟨is247, ?_⟩
  rintro _ rfl
  refine ⟨fun h => ⟨Or.inl rfl, ?_⟩, fun h => ⟨Or.inr rfl, ?_⟩⟩
  · rw [bl_f (fun q => q h)] at hq; exact hq
  · rw [bl_t h] at hq; exact hq
theorem s_X8_refusesChange_x {M : mw_M} {x : Int32} {Q : mw_M → Int32 → Prop} (hx : ¬ x = 0) (hq : ∀ M1, sm S5 M M1 → mI M1 247 5 = x → Q M1 1) : w_X8_refusesChange 255 M 247 x Q := by
  unfold w_X8_refusesChange
  refine ⟨is247, s_X8_refuses ?_⟩
  rw [bl_t hx]
  exact ⟨fun h => absurd h (by decide), fun _ => hq _ (sm.si ⟨rfl, rfl⟩) (mI_at _ _ _ _)⟩
/-- what the push of a state leaves -/
def pushed (M M1 : mw_M) (k d : Nat) : Prop := mI M1 247 4 = nI (k - d + 1) ∧ (∀ i j, i < k - d → j < 277 → mI M1 249 (277 * i + j) = mI M 249 (277 * (i + d) + j)) ∧ (∀ j, j < 277 → mI M1 249 (277 * (k - d) + j) = mI M 248 j) ∧ (∀ i, i < k - d → mL M1 250 i = mL M 250 (i + d)) ∧ mL M1 250 (k - d) = mL M 247 1
def kd (k : Nat) : Nat := if k = 4 then 1 else 0
theorem p_ix {j : Nat} (h : j < 1108) {x : Int32} (hx : x = nI j) : vp_in x (Ln 249) ∧ Int32.toNatClampNeg x = j := by
  subst hx
  exact ⟨by rw [Ln249]; exact vp_n h (by decide), nI_clamp (by omega)⟩
theorem q_ix {j : Nat} (h : j < 4) {x : Int32} (hx : x = nI j) : vp_in x (Ln 250) ∧ Int32.toNatClampNeg x = j := by
  subst hx
  exact ⟨by rw [Ln250]; exact vp_n h (by decide), nI_clamp (by omega)⟩
/-- the last loop: the state itself is put on the stack -/
theorem s_push_last {M : mw_M} {k : Nat} {Q : mw_M → Int32 → Prop} (hM : MK M) (hk : mI M 247 4 = nI k) (hk4 : k < 4) (hq : ∀ M1, sm Sk M M1 → mI M1 247 5 = mI M 247 5 → mI M1 247 4 = nI (k + 1) → (∀ j, j < 277 * k → mI M1 249 j = mI M 249 j) → (∀ j, j < 277 → mI M1 249 (277 * k + j) = mI M 248 j) → (∀ i, i ≠ k → mL M1 250 i = mL M 250 i) → mL M1 250 k = mL M 247 1 → Q M1 0) : w_X8_refusesChange_b88 255 M 247 0 Q := by
  obtain ⟨h1, h2, h3, -⟩ := id hM
  unfold w_X8_refusesChange_b88
  refine ⟨fun N z => ∃ c, z = nI c ∧ c ≤ 277 ∧ sm (fun a _ => a = 249) M N ∧ (∀ j, j < 277 * k → mI N 249 j = mI M 249 j) ∧ ∀ j, j < c → mI N 249 (277 * k + j) = mI M 248 j, fun _ z => 277 - z.toInt.toNat, ⟨0, rfl, by decide, sm.rf, fun _ _ => rfl, fun j hj => absurd hj (Nat.not_lt_zero j)⟩, ?_⟩
  rintro N _ ⟨c, rfl, hc, sN, g1, g2⟩
  have e4 : mI N 247 4 = nI k := (sN.2.1 247 4 (by decide)).trans hk
  have m1 : mP N 247 0 = 248 := (sN.1 _ _).trans h1
  have m2 : mP N 247 2 = 249 := (sN.1 _ _).trans h2
  have m3 : mP N 247 3 = 250 := (sN.1 _ _).trans h3
  rw [li 277, nI_leI (by decide) (by omega), m1, m2, m3, e4]
  refine ⟨fun h => ?_, fun h => ?_⟩
  · have : c = 277 := by omega
    subst this
    obtain ⟨i1, j1⟩ := q_ix (x := nI k) hk4 rfl
    rw [j1]
    refine ⟨is247, is250, i1, ?_⟩
    rintro _ rfl
    rintro _ rfl
    have sA : sm Sk M (sI (sL N 250 k (mL N 247 1)) 247 4 (mI (sL N 250 k (mL N 247 1)) 247 4 + 1)) := ((sN.mono (S' := Sk) (fun a b h => Or.inl h)).tr (sm.sl (S := Sk) (Or.inr (Or.inl rfl)))).tr (sm.si (S := Sk) (Or.inr (Or.inr ⟨rfl, Or.inl rfl⟩)))
    refine hq _ sA ?_ ?_ (fun j hj => ?_) (fun j hj => ?_) (fun i hi => ?_) ?_
    · rw [mI_ne (Or.inr (by decide)), mI_sL]; exact sN.2.1 247 5 (by decide)
    · rw [mI_at, mI_sL, e4, nI_1]
    · rw [mI_ne (Or.inl (by decide)), mI_sL]; exact g1 j hj
    · rw [mI_ne (Or.inl (by decide)), mI_sL]; exact g2 j hj
    · rw [mL_sI, mL_ne (Or.inr hi)]; exact sN.2.2 250 i (fun h => by cases h)
    · rw [mL_sI, mL_at]; exact sN.2.2 247 1 (by decide)
  · obtain ⟨i1, j1⟩ := ix_is (x := nI c) rfl (by omega)
    obtain ⟨i2, j2⟩ := p_ix (j := 277 * k + c) (by omega) (x := nI 277 * nI k + nI c) (by rw [pk_mul, nI_add])
    rw [j1, j2]
    refine ⟨is247, is248, i1, is249, i2, ?_⟩
    rintro _ rfl
    rintro _ rfl
    refine ⟨⟨c + 1, nI_1 c, by omega, sN.tr (sm.si rfl), fun j hj => ?_, fun j hj => ?_⟩, mu_dec (by omega) (by decide)⟩
    · rw [mI_ne (Or.inr (by omega))]; exact g1 j hj
    · by_cases e : j = c
      · rw [e, mI_at]; exact sN.2.1 248 c (fun h => by cases h)
      · rw [mI_ne (Or.inr (by omega))]; exact g2 j (by omega)
theorem s_X8_refusesChange_0 {M : mw_M} {k : Nat} {Q : mw_M → Int32 → Prop} (hM : MK M) (hk : mI M 247 4 = nI k) (hk4 : k ≤ 4) (hq : ∀ M1, sm Sk M M1 → mI M1 247 5 = 0 → pushed M M1 k (kd k) → Q M1 0) : w_X8_refusesChange 255 M 247 0 Q := by
  unfold w_X8_refusesChange
  refine ⟨is247, s_X8_refuses ?_⟩
  rw [bl_f (fun q => q rfl)]
  have s0 : sm S5 M (sI M 247 5 0) := sm.si ⟨rfl, rfl⟩
  have hM0 := s0.MK hM
  have hsub : ∀ a b, S5 a b → Sk a b := fun a b h => Or.inr (Or.inr ⟨h.1, Or.inr h.2⟩)
  have e4 : mI (sI M 247 5 0) 247 4 = nI k := by rw [mI_ne (Or.inr (by decide))]; exact hk
  have e5 : mI (sI M 247 5 0) 247 5 = 0 := mI_at _ _ _ _
  have e249 : ∀ j, mI (sI M 247 5 0) 249 j = mI M 249 j := fun j => mI_ne (Or.inl (by decide))
  have e248 : ∀ j, mI (sI M 247 5 0) 248 j = mI M 248 j := fun j => mI_ne (Or.inl (by decide))
  have eL : ∀ a b, mL (sI M 247 5 0) a b = mL M a b := fun a b => rfl
  generalize sI M 247 5 0 = N0 at s0 hM0 e4 e5 e249 e248 eL
  rw [e4]
  refine ⟨fun _ => ⟨fun h => ?_, fun h => ?_⟩, fun h => absurd rfl h⟩
  · have hk3 : k ≠ 4 := fun q => h (by rw [q]; rfl)
    unfold w_X8_refusesChange_b86
    refine s_push_last hM0 e4 (by omega) (fun M1 s1 a5 a4 a1 a2 a3 a6 => hq M1 ((s0.mono hsub).tr s1) (a5.trans e5) ?_)
    unfold pushed kd
    rw [if_neg hk3, Nat.sub_zero]
    refine ⟨a4, fun i j hi hj => ?_, fun j hj => (a2 j hj).trans (e248 j), fun i hi => ?_, by rw [a6, eL]⟩
    · rw [a1 _ (by omega), e249, Nat.add_zero]
    · rw [a3 i (by omega), eL, Nat.add_zero]
  · have hk4' : k = 4 := (nI_eq (by omega) (by decide)).mp h
    subst hk4'
    unfold w_X8_refusesChange_b20
    refine ⟨fun N z => ∃ c, z = nI c ∧ c ≤ 831 ∧ sm (fun a _ => a = 249) N0 N ∧ (∀ j, j < c → mI N 249 j = mI M 249 (j + 277)) ∧ ∀ j, c ≤ j → mI N 249 j = mI M 249 j, fun _ z => 831 - z.toInt.toNat, ⟨0, rfl, by decide, sm.rf, fun j hj => absurd hj (Nat.not_lt_zero j), fun j _ => e249 j⟩, ?_⟩
    rintro N _ ⟨c, rfl, hc, sN, g1, g2⟩
    obtain ⟨h1, h2, h3, -⟩ := sN.MK hM0
    rw [li 831, nI_leI (by decide) (by omega), h2]
    refine ⟨fun h9 => ?_, fun h9 => ?_⟩
    · have : c = 831 := by omega
      subst this
      unfold w_X8_refusesChange_b51
      refine ⟨fun N2 z => ∃ c, z = nI c ∧ c ≤ 3 ∧ sm (fun a _ => a = 250) N N2 ∧ (∀ j, j < c → mL N2 250 j = mL M 250 (j + 1)) ∧ ∀ j, c ≤ j → mL N2 250 j = mL M 250 j, fun _ z => 3 - z.toInt.toNat, ⟨0, rfl, by decide, sm.rf, fun j hj => absurd hj (Nat.not_lt_zero j), fun j _ => (sN.2.2 250 j (fun h => by cases h)).trans (eL _ _)⟩, ?_⟩
      rintro N2 _ ⟨c, rfl, hc3, sN2, g3, g4⟩
      have hM2 := sN2.MK (sN.MK hM0)
      obtain ⟨k1, k2, k3, -⟩ := id hM2
      rw [li 3, nI_leI (by decide) (by omega), k3]
      refine ⟨fun h8 => ⟨is247, ?_⟩, fun h8 => ?_⟩
      · have : c = 3 := by omega
        subst this
        rintro _ rfl
        have f4 : mI N2 247 4 = nI 4 := (sN2.2.1 247 4 (by decide)).trans ((sN.2.1 247 4 (by decide)).trans e4)
        have f5 : mI N2 247 5 = 0 := (sN2.2.1 247 5 (by decide)).trans ((sN.2.1 247 5 (by decide)).trans e5)
        unfold w_X8_refusesChange_b86
        rw [f4]
        have s3 : sm Sk N2 (sI N2 247 4 (nI 4 - 1)) := sm.si (Or.inr (Or.inr ⟨rfl, Or.inl rfl⟩))
        refine s_push_last (k := 3) (s3.MK hM2) (mI_at _ _ _ _) (by decide) (fun M1 s1 a5 a4 a1 a2 a3 a6 => hq M1 ?_ ?_ ?_)
        · exact ((((s0.mono hsub).tr (sN.mono (fun a b h => Or.inl h))).tr (sN2.mono (fun a b h => Or.inr (Or.inl h)))).tr s3).tr s1
        · rw [a5, mI_ne (Or.inr (by decide)), f5]
        · unfold pushed kd
          rw [if_pos rfl]
          refine ⟨a4, fun i j hi hj => ?_, fun j hj => ?_, fun i hi => ?_, ?_⟩
          · rw [a1 _ (by omega), mI_ne (Or.inl (by decide)), sN2.2.1 249 _ (fun h => by cases h), g1 _ (by omega)]
            congr 1
            omega
          · rw [a2 j hj, mI_ne (Or.inl (by decide)), sN2.2.1 248 _ (fun h => by cases h), sN.2.1 248 _ (fun h => by cases h), e248]
          · rw [a3 i (by omega), mL_sI, g3 i (by omega)]
          · rw [a6, mL_sI, sN2.2.2 247 1 (by decide), sN.2.2 247 1 (by decide), eL]
      · obtain ⟨i1, j1⟩ := q_ix (j := c + 1) (by omega) (x := nI c + 1) (nI_1 c)
        obtain ⟨i2, j2⟩ := q_ix (j := c) (by omega) (x := nI c) rfl
        rw [j1, j2]
        refine ⟨is247, is250, i1, i2, ?_⟩
        rintro _ rfl
        rintro _ rfl
        refine ⟨⟨c + 1, nI_1 c, by omega, sN2.tr (sm.sl rfl), fun j hj => ?_, fun j hj => ?_⟩, mu_dec (by omega) (by decide)⟩
        · by_cases e : j = c
          · rw [e, mL_at]; exact g4 _ (by omega)
          · rw [mL_ne (Or.inr e)]; exact g3 j (by omega)
        · rw [mL_ne (Or.inr (by omega))]; exact g4 j (by omega)
    · obtain ⟨i1, j1⟩ := p_ix (j := c + 277) (by omega) (x := nI c + 277) (by rw [li 277, nI_add])
      obtain ⟨i2, j2⟩ := p_ix (j := c) (by omega) (x := nI c) rfl
      rw [j1, j2]
      refine ⟨is247, is249, i1, i2, ?_⟩
      rintro _ rfl
      rintro _ rfl
      refine ⟨⟨c + 1, nI_1 c, by omega, sN.tr (sm.si rfl), fun j hj => ?_, fun j hj => ?_⟩, mu_dec (by omega) (by decide)⟩
      · by_cases e : j = c
        · rw [e, mI_at]; exact g2 _ (by omega)
        · rw [mI_ne (Or.inr e)]; exact g1 j (by omega)
      · rw [mI_ne (Or.inr (by omega))]; exact g2 j (by omega)
