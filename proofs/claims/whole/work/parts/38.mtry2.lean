/-! The reference: order, law, take-over of a trial -/
theorem s_X8_tries {M : mw_M} {Q : mw_M → Prop} (hM : MK M) (hC : VC (nw M)) (hq : ∀ N T, sm St M N → Tr N (cn (nw M)) T → (∀ c f, c < cn (nw M) → T c f = rC (nw M) c f) → Q N) : w_X8_tries 255 M 247 Q := by
  unfold w_X8_tries
  obtain ⟨e8, h12⟩ := hC.cn
  obtain ⟨i1, j1⟩ := ix_is (x := 8) (j := 8) rfl (by decide)
  have e8' : mI M 248 8 = nI (cn (nw M)) := e8
  rw [hM.1, j1, e8']
  refine ⟨is247, is248, i1, ?_⟩
  rintro _ rfl
  unfold w_X8_tries_b13
  have s1 : sm St M (sI M 247 6 (nI (cn (nw M)))) := sm.si (Or.inr (Or.inr ⟨rfl, rfl⟩))
  refine ⟨fun N z => ∃ k, z = nI k ∧ k ≤ 9 * cn (nw M) ∧ sm St M N ∧ mI N 247 6 = nI (cn (nw M)) ∧ ∀ j, j < k → mI N 251 j = nw M (33 + j), fun _ z => 200 - z.toInt.toNat, ⟨0, rfl, Nat.zero_le _, s1, mI_at _ _ _ _, fun j hj => absurd hj (Nat.not_lt_zero j)⟩, ?_⟩
  rintro N _ ⟨k, rfl, hk, sN, h6, g⟩
  rw [h6, li 9, pk_mul, nI_leI (by omega) (by omega)]
  have kN := sN.MK hM
  refine ⟨is247, fun h => ?_, fun h => ?_⟩
  · have : k = 9 * cn (nw M) := by omega
    subst this
    refine hq N (fun c f => if c < cn (nw M) then rC (nw M) c f else mI N 251 (9 * c + f)) sN ⟨kN, h6, by omega, fun c f hf => ?_⟩ (fun c f hc => if_pos hc)
    by_cases hc : c < cn (nw M)
    · dsimp only
      rw [if_pos hc, g _ (by omega)]
      unfold rC
      congr 1
      omega
    · dsimp only
      rw [if_neg hc]
  · obtain ⟨i2, j2⟩ := ix_is (x := 33 + nI k) (j := 33 + k) (by rw [li 33, nI_add]) (by omega)
    have i3 : vp_in (nI k) (Ln 251) := by rw [Ln251]; exact vp_n (by omega) (by decide)
    have j3 : Int32.toNatClampNeg (nI k) = k := nI_clamp (by omega)
    rw [kN.1, kN.2.2.2.1, j2, j3]
    refine ⟨is248, i2, is251, i3, ?_⟩
    rintro _ rfl
    rintro _ rfl
    refine ⟨⟨k + 1, nI_1 k, by omega, sN.tr (sm.si (Or.inl rfl)), (mI_ne (Or.inl (by decide))).trans h6, fun j hj => ?_⟩, mu_dec (by omega) (by decide)⟩
    by_cases e : j = k
    · rw [e, mI_at]
      exact congrFun (sN.nw St8) _
    · rw [mI_ne (Or.inr e)]
      exact g j (by omega)
noncomputable section
def ahd (T : Arr) (o c : Nat) : Prop := T o 0 < T c 0 ∨ (T o 0 = T c 0 ∧ T o 2 < T c 2)
/-- how many lie ahead of a clip -/
def cntA (T : Arr) (c : Nat) : Nat → Nat
  | 0 => 0
  | o + 1 => cntA T c o + ifp (o ≠ c ∧ ahd T o c) 1 0
end
theorem cntA_s (T : Arr) (c o : Nat) : ((o ≠ c ∧ ahd T o c) → cntA T c (o + 1) = cntA T c o + 1) ∧ (¬ (o ≠ c ∧ ahd T o c) → cntA T c (o + 1) = cntA T c o) := by
  refine ⟨fun h => ?_, fun h => ?_⟩
  · show cntA T c o + ifp _ _ _ = _
    rw [ifp_t h]
  · show cntA T c o + ifp _ _ _ = _
    rw [ifp_f h, Nat.add_zero]
theorem cntA_le (T : Arr) (c : Nat) : ∀ o, cntA T c o ≤ o ∧ (c < o → cntA T c o < o)
  | 0 => ⟨Nat.le_refl _, fun h => absurd h (Nat.not_lt_zero c)⟩
  | o + 1 => by
    have ih := cntA_le T c o
    have hs := cntA_s T c o
    by_cases h : o ≠ c ∧ ahd T o c
    · rw [hs.1 h]
      exact ⟨by omega, fun q => by have := ih.2 (by have := h.1; omega); omega⟩
    · rw [hs.2 h]
      exact ⟨by omega, fun _ => by omega⟩
theorem s_settles {N : mw_M} {m c : Nat} {T : Arr} {x : Int32} {Q : mw_M → Int32 → Prop} (h : Tr N m T) (hc : c < m) (hx : x = nI c) (hq : ∀ N1, sm St N N1 → Tr N1 m (crry T c (cntA T c m)) → Q N1 (nI (cntA T c m))) : w_X8_settles 255 N 247 x Q := by
  subst hx
  have hm := h.2.2.1
  unfold w_X8_settles w_X8_settles_b4
  refine ⟨fun N1 y z => ∃ o, N1 = N ∧ z = nI o ∧ o ≤ m ∧ y = nI (cntA T c o), fun _ _ z => 14 - z.toInt.toNat, ⟨0, rfl, rfl, Nat.zero_le _, rfl⟩, ?_⟩
  rintro N1 _ _ ⟨o, rfl, rfl, ho, rfl⟩
  rw [h.2.1, nI_leI (by omega) (by omega)]
  have hs := cntA_s T c o
  have hle := cntA_le T c o
  refine ⟨is247, fun g => ?_, fun g => ?_⟩
  · have : o = m := by omega
    subst this
    have := hle.2 hc
    exact s_carries h (by omega) (by omega) rfl rfl hq
  · have b62 : ∀ s : Int32, (s = 0 ↔ ¬ ahd T o c) → w_X8_settles_b62 255 N1 247 (nI c) (nI (cntA T c o)) (nI o) s Q (fun (M_ : mw_M) (x2_ : Int32) (x3_ : Int32) => (∃ o, M_ = N1 ∧ x3_ = nI o ∧ o ≤ m ∧ x2_ = nI (cntA T c o)) ∧ 14 - x3_.toInt.toNat < 14 - (nI o).toInt.toNat) := by
      intro s hs2
      unfold w_X8_settles_b62 w_X8_settles_b79 w_X8_settles_b80
      rw [nI_eq (by omega) (by omega)]
      refine ⟨fun e => ?_, fun e => ⟨fun e2 => ?_, fun e2 => ?_⟩⟩
      · rintro _ rfl _ rfl
        refine ⟨⟨o + 1, rfl, nI_1 o, by omega, ?_⟩, mu_dec (by omega) (by decide)⟩
        rw [hs.2 (fun q => q.1 e)]
        exact Int32.add_zero _
      · rintro _ rfl _ rfl
        refine ⟨⟨o + 1, rfl, nI_1 o, by omega, ?_⟩, mu_dec (by omega) (by decide)⟩
        rw [hs.2 (fun q => hs2.mp e2 q.2)]
        exact Int32.add_zero _
      · rintro _ rfl _ rfl
        refine ⟨⟨o + 1, rfl, nI_1 o, by omega, ?_⟩, mu_dec (by omega) (by decide)⟩
        rw [hs.1 ⟨e, Classical.not_not.mp (fun q => e2 (hs2.mpr q))⟩]
        exact nI_1 _
    have ho13 : o < 14 := by omega
    have hc13 : c < 14 := by omega
    unfold w_X8_settles_b57 w_X8_settles_b61
    refine s_of h ho13 (f := 0) (by decide) rfl (s_of h hc13 (f := 0) (by decide) rfl ⟨fun e => b62 1 ⟨fun q => absurd q (by decide), fun q => absurd (Or.inl e) q⟩, fun e => s_of h ho13 (f := 0) (by decide) rfl (s_of h hc13 (f := 0) (by decide) rfl ⟨fun e2 => b62 0 ⟨fun _ q => q.elim e (fun q => e2 q.1), fun _ => rfl⟩, fun e2 => s_of h ho13 (f := 2) (by decide) rfl (s_of h hc13 (f := 2) (by decide) rfl ⟨fun e3 => b62 0 ⟨fun _ q => ?_, fun _ => rfl⟩, fun e3 => b62 1 ⟨fun q => absurd q (by decide), fun q => ?_⟩⟩)⟩)⟩)
    · rcases q with q | ⟨-, q⟩
      · exact e q
      · rw [ti_lt] at q; rw [ti_le] at e3; omega
    · exact absurd (Or.inr ⟨e2, by rw [ti_lt]; rw [ti_le] at e3; omega⟩) q
/-- clip c left out of m -/
def lv (T : Arr) (c m : Nat) : Arr := fun i f => if c ≤ i ∧ i + 1 < m then T (i + 1) f else T i f
theorem s_leaves {N : mw_M} {m c : Nat} {T : Arr} {x : Int32} {Q : mw_M → Prop} (h : Tr N m T) (hc : c < m) (hx : x = nI c) (hq : ∀ N1, sm St N N1 → Tr N1 (m - 1) (lv T c m) → Q N1) : w_X8_leaves 255 N 247 x Q := by
  subst hx
  have hm := h.2.2.1
  unfold w_X8_leaves
  refine ⟨is247, ?_⟩
  rintro _ rfl
  obtain ⟨m1, rfl⟩ : ∃ m1, m = m1 + 1 := ⟨m - 1, by omega⟩
  rw [h.2.1, nI_pred]
  have s1 : sm St N (sI N 247 6 (nI m1)) := sm.si (Or.inr (Or.inr ⟨rfl, rfl⟩))
  have t1 : Tr (sI N 247 6 (nI m1)) m1 T := ⟨s1.MK h.1, mI_at _ _ _ _, by omega, fun c f hf => (mI_ne (Or.inl (by decide))).trans (h.2.2.2 c f hf)⟩
  generalize sI N 247 6 (nI m1) = N1 at s1 t1 ⊢
  unfold w_X8_leaves_b12
  refine ⟨fun N2 z => ∃ o, z = nI o ∧ c ≤ o ∧ o ≤ m1 ∧ sm St N N2 ∧ Tr N2 m1 (fun i f => if c ≤ i ∧ i < o then T (i + 1) f else T i f), fun _ z => 14 - z.toInt.toNat, ⟨c, rfl, Nat.le_refl _, by omega, s1, t1.c (fun i f _ => if_neg (by omega))⟩, ?_⟩
  rintro N2 _ ⟨o, rfl, ho, ho2, s2, t2⟩
  rw [t2.2.1, nI_leI (by omega) (by omega)]
  refine ⟨is247, fun g => ?_, fun g => ?_⟩
  · have : o = m1 := by omega
    subst this
    refine hq N2 s2 (t2.c (fun i f _ => ?_))
    unfold lv
    repeat' split
    all_goals first | rfl | (exfalso; omega)
  · refine s_shifts t2 (a := o + 1) (b := o) (by omega) (by omega) (nI_1 o) rfl (fun N3 s3 t3 _ => ?_)
    rintro _ rfl
    refine ⟨⟨o + 1, nI_1 o, by omega, by omega, s2.tr s3, t3.c (fun i f _ => ?_)⟩, mu_dec (by omega) (by decide)⟩
    try dsimp only [up2, upr, crry]
    repeat' split
    all_goals first | rfl | (exfalso; omega) | (congr 2 <;> omega)
/-- all clips in order, no three over a position -/
def fine (T : Arr) (m : Nat) : Prop := ∀ c, c + 1 < m → T c 0 = T (c + 1) 0 → (T c 2 < T (c + 1) 2 ∧ T c 2 + T c 4 < T (c + 1) 2 + T (c + 1) 4) ∧ (c + 2 < m → T (c + 2) 0 = T c 0 → T c 2 + T c 4 ≤ T (c + 2) 2)
def fine1 (T : Arr) (m c : Nat) : Prop := T c 0 = T (c + 1) 0 → (T c 2 < T (c + 1) 2 ∧ T c 2 + T c 4 < T (c + 1) 2 + T (c + 1) 4) ∧ (c + 2 < m → T (c + 2) 0 = T c 0 → T c 2 + T c 4 ≤ T (c + 2) 2)
theorem le_of_nlt {x y : Int32} (h : ¬ x < y) : y ≤ x := by rw [ti_lt] at h; rw [ti_le]; omega
theorem lt_of_nle {x y : Int32} (h : ¬ x ≤ y) : y < x := by rw [ti_le] at h; rw [ti_lt]; omega
theorem nlt_of_le {x y : Int32} (h : x ≤ y) : ¬ y < x := by rw [ti_le] at h; rw [ti_lt]; omega
theorem nle_of_lt {x y : Int32} (h : x < y) : ¬ y ≤ x := by rw [ti_lt] at h; rw [ti_le]; omega
theorem s_isFine {N : mw_M} {m : Nat} {T : Arr} {Q : Int32 → Prop} (h : Tr N m T) (hq : Q (bl (fine T m))) : w_X8_isFine 255 N 247 Q := by
  have hm13 := h.2.2.1
  unfold w_X8_isFine w_X8_isFine_b4
  refine ⟨fun y z => ∃ c, z = nI c ∧ c ≤ m ∧ y = bl (∀ i, i < c → i + 1 < m → fine1 T m i), fun _ z => 14 - z.toInt.toNat, ⟨0, rfl, Nat.zero_le _, (bl_t (fun i hi => absurd hi (Nat.not_lt_zero i))).symm⟩, ?_⟩
  rintro _ _ ⟨c, rfl, hc, rfl⟩
  rw [h.2.1, nI_1, nI_leI (by omega) (by omega)]
  refine ⟨is247, fun g => ⟨bl_b, ?_⟩, fun g => ?_⟩
  · rw [bl_c (P' := fine T m) ⟨fun q i hi => q i (by omega) hi, fun q i _ hi => q i hi⟩]
    exact hq
  · have hc14 : c < 14 := by omega
    have hc15 : c + 1 < 14 := by omega
    have fin : ∀ v : Int32, v = bl ((∀ i, i < c → i + 1 < m → fine1 T m i) ∧ fine1 T m c) → ∀ w : Int32, w = nI c + 1 → (∃ c, w = nI c ∧ c ≤ m ∧ v = bl (∀ i, i < c → i + 1 < m → fine1 T m i)) ∧ 14 - w.toInt.toNat < 14 - (nI c).toInt.toNat := by
      rintro _ rfl _ rfl
      refine ⟨⟨c + 1, nI_1 c, by omega, bl_c ⟨fun q i hi hi2 => ?_, fun q => ⟨fun i hi hi2 => q i (by omega) hi2, q c (by omega) (by omega)⟩⟩⟩, mu_dec (by omega) (by decide)⟩
      by_cases e : i = c
      · rw [e]; exact q.2
      · exact q.1 i (by omega) hi2
    have e2 : nI c + 2 = nI (c + 2) := by rw [li 2, nI_add]
    have e1 : nI c + 1 = nI (c + 1) := nI_1 c
    obtain ⟨A, hA⟩ : ∃ A : Prop, A = (∀ i, i < c → i + 1 < m → fine1 T m i) := ⟨_, rfl⟩
    rw [← hA] at fin ⊢
    have b72 : ∀ s : Int32, T c 0 = T (c + 1) 0 → (s = 0 ↔ ¬ (A ∧ T c 2 < T (c + 1) 2 ∧ T c 2 + T c 4 < T (c + 1) 2 + T (c + 1) 4)) → w_X8_isFine_b72 255 N 247 (nI c) s Q (fun (x1_ : Int32) (x2_ : Int32) => (∃ c, x2_ = nI c ∧ c ≤ m ∧ x1_ = bl (∀ i, i < c → i + 1 < m → fine1 T m i)) ∧ 14 - x2_.toInt.toNat < 14 - (nI c).toInt.toNat) := by
      intro s hT hs
      unfold w_X8_isFine_b72 w_X8_isFine_b120 w_X8_isFine_b124 w_X8_isFine_b125 w_X8_isFine_b126
      rw [h.2.1, e2, nI_leI (by omega) (by omega)]
      refine ⟨fun h0 => fin 0 (bl_f (fun q => hs.mp h0 ⟨q.1, (q.2 hT).1⟩)).symm, fun h0 => ⟨is247, ?_⟩⟩
      have hs' := Classical.not_not.mp (fun q => h0 (hs.mpr q))
      refine ⟨fun h1 => fin 1 (bl_t ⟨hs'.1, fun _ => ⟨hs'.2, fun q => absurd q (by omega)⟩⟩).symm, fun h1 => ?_⟩
      refine s_of h (by omega) (f := 0) (by decide) rfl (s_of h hc14 (f := 0) (by decide) rfl ⟨fun h3 => fin 1 (bl_t ⟨hs'.1, fun _ => ⟨hs'.2, fun _ q => absurd q h3⟩⟩).symm, fun h3 => s_of h (by omega) (f := 2) (by decide) rfl (s_endOf h hc14 ⟨fun h4 => fin 0 (bl_f (fun q => ?_)).symm, fun h4 => fin 1 (bl_t ⟨hs'.1, fun _ => ⟨hs'.2, fun _ _ => le_of_nlt h4⟩⟩).symm⟩)⟩)
      exact nlt_of_le ((q.2 hT).2 (by omega) h3) h4
    unfold w_X8_isFine_b71 w_X8_isFine_b126
    rw [e1]
    refine s_of h hc14 (f := 0) (by decide) rfl (s_of h hc15 (f := 0) (by decide) rfl ⟨fun g0 => ?_, fun g0 => ⟨fun g1 => b72 0 g0 ⟨fun _ q => bl_0.mp g1 q.1, fun _ => rfl⟩, fun g1 => s_of h hc14 (f := 2) (by decide) rfl (s_of h hc15 (f := 2) (by decide) rfl ⟨fun g2 => b72 0 g0 ⟨fun _ q => nlt_of_le g2 q.2.1, fun _ => rfl⟩, fun g2 => s_endOf h hc14 (s_endOf h hc15 ⟨fun g3 => b72 0 g0 ⟨fun _ q => nlt_of_le g3 q.2.2, fun _ => rfl⟩, fun g3 => b72 1 g0 ⟨fun q => absurd q (by decide), fun q => absurd ⟨Classical.not_not.mp (fun r => g1 (bl_0.mpr r)), lt_of_nle g2, lt_of_nle g3⟩ q⟩⟩)⟩)⟩⟩)
    exact fun w hw => fin _ (bl_c ⟨fun q => ⟨q, fun r => absurd r g0⟩, fun q => q.1⟩) w (hw.trans e1.symm)
/-- the row with a trial taken over -/
def tov (R : Row) (m : Nat) (T : Arr) : Row := fun j => if j = 8 then nI m else if 33 ≤ j ∧ j < 33 + 9 * m then T ((j - 33) / 9) ((j - 33) % 9) else R j
theorem s_takesOver {N : mw_M} {m : Nat} {T : Arr} {Q : mw_M → Prop} (h : Tr N m T) (hm : m ≤ 12) (hq : ∀ N1, sm (fun a b => a = 248 ∧ b < 277) N N1 → nw N1 = tov (nw N) m T → Q N1) : w_X8_takesOver 255 N 247 Q := by
  unfold w_X8_takesOver
  obtain ⟨i1, j1⟩ := ix_is (x := 8) (j := 8) rfl (by decide)
  rw [h.1.1, j1, h.2.1]
  refine ⟨is247, is248, i1, ?_⟩
  rintro _ rfl
  unfold w_X8_takesOver_b13
  refine ⟨fun N1 z => ∃ k, z = nI k ∧ k ≤ 9 * m ∧ sm (fun a b => a = 248 ∧ b < 277) N N1 ∧ nw N1 = (fun j => if j = 8 then nI m else if 33 ≤ j ∧ j < 33 + k then T ((j - 33) / 9) ((j - 33) % 9) else nw N j), fun _ z => 200 - z.toInt.toNat, ⟨0, rfl, Nat.zero_le _, sm.si ⟨rfl, by decide⟩, ?_⟩, ?_⟩
  · rw [nw_sI]
    funext j
    unfold up
    by_cases e : j = 8
    · rw [if_pos e, if_pos e]
    · rw [if_neg e, if_neg e, if_neg (by omega)]
  · rintro N1 _ ⟨k, rfl, hk, s1, g⟩
    have k1 := s1.MK h.1
    have h6 : mI N1 247 6 = nI m := (s1.2.1 247 6 (fun q => by cases q.1)).trans h.2.1
    have ht : ∀ c f, f < 9 → mI N1 251 (9 * c + f) = T c f := fun c f hf => (s1.2.1 251 _ (fun q => by cases q.1)).trans (h.2.2.2 c f hf)
    rw [h6, li 9, pk_mul, nI_leI (by omega) (by omega)]
    refine ⟨is247, fun q => ?_, fun q => ?_⟩
    · have : k = 9 * m := by omega
      subst this
      exact hq N1 s1 g
    · obtain ⟨i2, j2⟩ := ix_is (x := 33 + nI k) (j := 33 + k) (by rw [li 33, nI_add]) (by omega)
      have i3 : vp_in (nI k) (Ln 251) := by rw [Ln251]; exact vp_n (by omega) (by decide)
      have j3 : Int32.toNatClampNeg (nI k) = k := nI_clamp (by omega)
      have ek : mI N1 251 k = T (k / 9) (k % 9) := by
        rw [← ht _ _ (Nat.mod_lt _ (by decide))]
        congr 1
        omega
      rw [k1.1, k1.2.2.2.1, j2, j3, ek]
      refine ⟨is251, i3, is248, i2, ?_⟩
      rintro _ rfl
      rintro _ rfl
      refine ⟨⟨k + 1, nI_1 k, by omega, s1.tr (sm.si ⟨rfl, by omega⟩), ?_⟩, mu_dec (by omega) (by decide)⟩
      rw [nw_sI, g]
      funext j
      unfold up
      dsimp only
      by_cases e : j = 33 + k
      · have e33 : j - 33 = k := by omega
        rw [if_pos e, if_neg (by omega), if_pos (by omega), e33]
      · rw [if_neg e]
        by_cases e1 : j = 8
        · rw [if_pos e1, if_pos e1]
        · rw [if_neg e1, if_neg e1]
          by_cases e2 : 33 ≤ j ∧ j < 33 + k
          · rw [if_pos e2, if_pos (by omega)]
          · rw [if_neg e2, if_neg (by omega)]
noncomputable section
def mn (a b : Int32) : Int32 := if b ≤ a then b else a
/-- pieces cut off clip c -/
def cut1 (r : Nat → Int32) (fr bk : Int32) : Nat → Int32 := fun f => if f = 2 then r 2 + fr else if f = 3 then r 3 + fr else if f = 4 then r 4 - fr - bk else if f = 6 then mn (r 6) (r 4 - fr - bk) else if f = 7 then mn (r 7) (r 4 - fr - bk) else r f
end
theorem s_limits {N : mw_M} {m c : Nat} {T : Arr} {Q : mw_M → Prop} (h : Tr N m T) (hc : c < 14) (hq : ∀ N1, sm St N N1 → Tr N1 m (up2 (up2 T c 6 (mn (T c 6) (T c 4))) c 7 (mn (T c 7) (T c 4))) → Q N1) : w_X8_limitsFades 255 N 247 (nI c) Q := by
  have b62 : ∀ (N1 : mw_M) (v : Int32), sm St N N1 → Tr N1 m (up2 T c 6 (mn (T c 6) (T c 4))) → v = mn (T c 7) (T c 4) → w_X8_limitsFades_b62 255 N1 v 7 (nI c) 247 Q := by
    rintro N1 _ s1 t1 rfl
    unfold w_X8_limitsFades_b62
    exact ⟨is247, s_set t1 hc (f := 7) (by decide) rfl (fun N2 s2 t2 => hq N2 (s1.tr s2) t2)⟩
  have b33 : ∀ v : Int32, v = mn (T c 6) (T c 4) → w_X8_limitsFades_b33 255 N 247 (nI c) (T c 4) v 6 (nI c) 247 Q := by
    rintro _ rfl
    unfold w_X8_limitsFades_b33
    refine ⟨is247, s_set h hc (f := 6) (by decide) rfl (fun N1 s1 t1 => ⟨is247, s_of t1 hc (f := 7) (by decide) rfl ?_⟩)⟩
    rw [up2_ne (Or.inr (by decide))]
    refine ⟨fun g => b62 N1 _ s1 t1 (if_pos g).symm, fun g => s_of t1 hc (f := 7) (by decide) rfl ?_⟩
    rw [up2_ne (Or.inr (by decide))]
    exact b62 N1 _ s1 t1 (if_neg g).symm
  unfold w_X8_limitsFades
  exact ⟨is247, s_of h hc (f := 4) (by decide) rfl (s_of h hc (f := 6) (by decide) rfl ⟨fun g => b33 _ (if_pos g).symm, fun g => s_of h hc (f := 6) (by decide) rfl (b33 _ (if_neg g).symm)⟩)⟩
theorem s_cuts {N : mw_M} {m c : Nat} {T : Arr} {x fr bk : Int32} {Q : mw_M → Prop} (h : Tr N m T) (hc : c < 14) (hx : x = nI c) (hq : ∀ N1, sm St N N1 → Tr N1 m (upr T c (cut1 (T c) fr bk)) → Q N1) : w_X8_cuts 255 N 247 x fr bk Q := by
  subst hx
  unfold w_X8_cuts
  refine ⟨is247, s_of h hc (f := 2) (by decide) rfl (s_set h hc (f := 2) (by decide) rfl (fun N1 s1 t1 => s_of t1 hc (f := 3) (by decide) rfl (s_set t1 hc (f := 3) (by decide) rfl (fun N2 s2 t2 => s_of t2 hc (f := 4) (by decide) rfl (s_set t2 hc (f := 4) (by decide) rfl (fun N3 s3 t3 => s_limits t3 hc (fun N4 s4 t4 => hq N4 (((s1.tr s2).tr s3).tr s4) (t4.c (fun i f hf => ?_))))))))) ⟩
  unfold upr cut1 up2
  by_cases e : i = c
  · subst e
    have hf9 : f = 0 ∨ f = 1 ∨ f = 2 ∨ f = 3 ∨ f = 4 ∨ f = 5 ∨ f = 6 ∨ f = 7 ∨ f = 8 := by omega
    rcases hf9 with rfl | rfl | rfl | rfl | rfl | rfl | rfl | rfl | rfl <;> simp
  · simp [e]
