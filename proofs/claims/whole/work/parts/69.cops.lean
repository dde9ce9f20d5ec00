/-! The class: law, insertion, cuts -/
theorem nI_sub2 {d : Nat} (h : d < 1000) : nI (d + 2) - 2 = nI d := by
  have o2 : (2 : Int32).toInt = 2 := rfl
  have a : (nI (d + 2)).toInt = ((d + 2 : Nat) : Int) := nI_toInt (by omega)
  have b : (nI d).toInt = (d : Int) := nI_toInt (by omega)
  exact ti_inj (by rw [ti_sub (by rw [a, o2]; omega) (by rw [a, o2]; omega), a, o2, b]; omega)
theorem s_X5_isLawful {N : mw_M} {s m : Nat} {T : Arr} {Q : Int32 → Prop} (hb : bs s) (h : Cl N s m T) (hq : Q (bl (lawC T m))) : w_X5_isLawful 255 N s Q := by
  obtain ⟨hsk, e2, h12, hT⟩ := h
  have el : lnd 2 = 12 := rfl
  have no : ¬ lawC T m → Q 0 := fun q => by rw [bl_f q] at hq; exact hq
  have b69 : (∀ i, i + 1 < m → T i 0 = T (i + 1) 0 → T i 2 < T (i + 1) 2 ∧ T i 2 + T i 4 < T (i + 1) 2 + T (i + 1) 4) → w_X5_isLawful_b69 255 N s 2 Q := by
    intro g1
    unfold w_X5_isLawful_b69 w_X5_isLawful_b117
    refine ⟨fun z => ∃ c, z = nI c ∧ 2 ≤ c ∧ (c ≤ m ∨ c = 2) ∧ ∀ i, i + 2 < c → T i 0 = T (i + 2) 0 → T i 2 + T i 4 ≤ T (i + 2) 2, fun z => 13 - z.toInt.toNat, ⟨2, rfl, by decide, Or.inr rfl, fun i hi => by omega⟩, ?_⟩
    rintro _ ⟨c, rfl, hc1, hc2, g2⟩
    rw [e2, nI_leI (by omega) (by omega)]
    refine ⟨kS hb, fun q => ?_, fun q => ?_⟩
    · rw [bl_t (P := lawC T m) ⟨g1, fun i hi => g2 i (by omega)⟩] at hq
      exact hq
    · obtain ⟨d, rfl⟩ : ∃ d, c = d + 2 := ⟨c - 2, by omega⟩
      rw [nI_sub2 (by omega), hsk.1.2.1, bs_ln hb (by decide) (Or.inr (Or.inl rfl)), el, nI_clamp (by omega), nI_clamp (by omega)]
      have kd1 := kC hb hsk (c := d) (by omega)
      have kd2 := kC hb hsk (c := d + 2) (by omega)
      refine ⟨kA2 hb, vp_n (by omega) (by decide), ?_⟩
      rintro _ rfl
      refine ⟨vp_n (by omega) (by decide), ?_⟩
      rintro _ rfl
      rw [hT d 0 (by omega) (by decide), hT (d + 2) 0 (by omega) (by decide), hT (d + 2) 2 (by omega) (by decide)]
      have nx1 : (T d 0 = T (d + 2) 0 → T d 2 + T d 4 ≤ T (d + 2) 2) → ∀ v : Int32, v = nI (d + 2) + 1 → (∃ c, v = nI c ∧ 2 ≤ c ∧ (c ≤ m ∨ c = 2) ∧ ∀ i, i + 2 < c → T i 0 = T (i + 2) 0 → T i 2 + T i 4 ≤ T (i + 2) 2) ∧ 13 - v.toInt.toNat < 13 - (nI (d + 2)).toInt.toNat := by
        rintro hh _ rfl
        refine ⟨⟨d + 3, nI_1 _, by omega, by omega, fun i hi => ?_⟩, mu_dec (by omega) (by decide)⟩
        by_cases e : i = d
        · rw [e]; exact hh
        · exact g2 i (by omega)
      refine ⟨kd1, kd2, fun e => nx1 (fun q => absurd q e), fun e => s_X0_end kd1 ?_⟩
      rw [hT d 2 (by omega) (by decide), hT d 4 (by omega) (by decide)]
      exact ⟨fun g => nx1 (fun _ => g), fun g => no (fun q => g (q.2 d (by omega) e))⟩
  unfold w_X5_isLawful w_X5_isLawful_b2 w_X5_isLawful_b61 w_X5_isLawful_b59
  refine ⟨fun z => ∃ c, z = nI c ∧ 1 ≤ c ∧ (c ≤ m ∨ c = 1) ∧ ∀ i, i + 1 < c → T i 0 = T (i + 1) 0 → T i 2 < T (i + 1) 2 ∧ T i 2 + T i 4 < T (i + 1) 2 + T (i + 1) 4, fun z => 13 - z.toInt.toNat, ⟨1, rfl, by decide, Or.inr rfl, fun i hi => by omega⟩, ?_⟩
  rintro _ ⟨c, rfl, hc1, hc2, g1⟩
  rw [e2, nI_leI (by omega) (by omega)]
  refine ⟨kS hb, fun q => b69 (fun i hi => g1 i (by omega)), fun q => ?_⟩
  obtain ⟨d, rfl⟩ : ∃ d, c = d + 1 := ⟨c - 1, by omega⟩
  rw [nI_pred, hsk.1.2.1, bs_ln hb (by decide) (Or.inr (Or.inl rfl)), el, nI_clamp (by omega), nI_clamp (by omega)]
  have kd1 := kC hb hsk (c := d) (by omega)
  have kd2 := kC hb hsk (c := d + 1) (by omega)
  refine ⟨kA2 hb, vp_n (by omega) (by decide), ?_⟩
  rintro _ rfl
  refine ⟨vp_n (by omega) (by decide), ?_⟩
  rintro _ rfl
  rw [hT d 0 (by omega) (by decide), hT (d + 1) 0 (by omega) (by decide), hT d 2 (by omega) (by decide), hT (d + 1) 2 (by omega) (by decide)]
  have nx1 : (T d 0 = T (d + 1) 0 → T d 2 < T (d + 1) 2 ∧ T d 2 + T d 4 < T (d + 1) 2 + T (d + 1) 4) → ∀ v : Int32, v = nI (d + 1) + 1 → (∃ c, v = nI c ∧ 1 ≤ c ∧ (c ≤ m ∨ c = 1) ∧ ∀ i, i + 1 < c → T i 0 = T (i + 1) 0 → T i 2 < T (i + 1) 2 ∧ T i 2 + T i 4 < T (i + 1) 2 + T (i + 1) 4) ∧ 13 - v.toInt.toNat < 13 - (nI (d + 1)).toInt.toNat := by
    rintro hh _ rfl
    refine ⟨⟨d + 2, nI_1 _, by omega, by omega, fun i hi => ?_⟩, mu_dec (by omega) (by decide)⟩
    by_cases e : i = d
    · rw [e]; exact hh
    · exact g1 i (by omega)
  refine ⟨kd1, kd2, fun e => nx1 (fun q => absurd q e), fun e => ⟨fun g => no (fun q => nlt_of_le g (q.1 d (by omega) e).1), fun g => s_X0_end kd1 ?_⟩⟩
  rw [hT d 2 (by omega) (by decide), hT d 4 (by omega) (by decide)]
  refine s_X0_end kd2 ?_
  rw [hT (d + 1) 2 (by omega) (by decide), hT (d + 1) 4 (by omega) (by decide)]
  exact ⟨fun g2 => nx1 (fun _ => ⟨lt_of_nle g, g2⟩), fun g2 => no (fun q => g2 (q.1 d (by omega) e).2)⟩
def fitC (T : Arr) (m : Nat) : Prop := ∀ c, c < m → T c 3 ≤ 3999
theorem s_X5_offsetsFit {N : mw_M} {s m : Nat} {T : Arr} {Q : Int32 → Prop} (hb : bs s) (h : Cl N s m T) (hq : Q (bl (fitC T m))) : w_X5_offsetsFit 255 N s Q := by
  obtain ⟨hsk, e2, h12, hT⟩ := h
  have el : lnd 2 = 12 := rfl
  unfold w_X5_offsetsFit w_X5_offsetsFit_b2
  refine ⟨fun z => ∃ c, z = nI c ∧ c ≤ m ∧ ∀ i, i < c → T i 3 ≤ 3999, fun z => 13 - z.toInt.toNat, ⟨0, rfl, Nat.zero_le _, fun i hi => by omega⟩, ?_⟩
  rintro _ ⟨c, rfl, hc, g⟩
  rw [e2, nI_leI (by omega) (by omega)]
  refine ⟨kS hb, fun q => ?_, fun q => ?_⟩
  · rw [bl_t (P := fitC T m) (fun i hi => g i (by omega))] at hq
    exact hq
  · rw [hsk.1.2.1, bs_ln hb (by decide) (Or.inr (Or.inl rfl)), el, nI_clamp (by omega), hT c 3 (by omega) (by decide)]
    refine ⟨kA2 hb, vp_n (by omega) (by decide), kC hb hsk (by omega), fun e => ?_, fun e => ?_⟩
    · rintro _ rfl
      refine ⟨⟨c + 1, nI_1 _, by omega, fun i hi => ?_⟩, mu_dec (by omega) (by decide)⟩
      by_cases e3 : i = c
      · rw [e3]; exact e
      · exact g i (by omega)
    · rw [bl_f (P := fitC T m) (fun w => e (w c (by omega)))] at hq
      exact hq
theorem Cl.ext {N : mw_M} {s m : Nat} {T : Arr} (h : Cl N s m T) (hm : m < 12) : Fc s N (sI N s 2 (nI (m + 1))) ∧ ∃ r, Cl (sI N s 2 (nI (m + 1))) s (m + 1) (upr T m r) := by
  obtain ⟨hsk, e2, h12, hT⟩ := h
  refine ⟨⟨fo.si (Or.inl rfl), fun b hb2 => mI_ne (Or.inr hb2), fun b => rfl⟩, fun f => mI N (mP N (s + 2) m) f, sm_sk (sm.si (S := fun _ _ => True) trivial) hsk, mI_at _ _ _ _, by omega, fun a f ha hf => ?_⟩
  obtain ⟨q1, q2⟩ := hsk.2.2.2.1 a (by omega)
  show mI (sI N s 2 (nI (m + 1))) (mP N (s + 2) a) f = _
  rw [mI_ne (Or.inl (by omega))]
  unfold upr
  by_cases e : a = m
  · rw [if_pos e, e]
  · rw [if_neg e]; exact hT a f (by omega) hf
theorem s_X5_insert {N : mw_M} {s m : Nat} {T : Arr} {x1 x2 x3 x4 x5 x6 : Int32} {Q : mw_M → Int32 → Prop} (hb : bs s) (h : Cl N s m T) (hm : m < 12) (hq : ∀ N1 k, Fc s N N1 → Cl N1 s (m + 1) (crry (upr T m (nrow x1 x2 x3 x4 x5 x6)) m k) → stl (upr T m (nrow x1 x2 x3 x4 x5 x6)) m (m + 1) k → Q N1 (nI k)) : w_X5_insert 255 N s x1 x2 x3 x4 x5 x6 Q := by
  obtain ⟨hsk, e2, h12, hT⟩ := id h
  have el : lnd 2 = 12 := rfl
  have kq := kC hb hsk (c := m) hm
  obtain ⟨f1, r, c1⟩ := h.ext hm
  unfold w_X5_insert
  rw [e2, li 12, nI_ltI (by omega) (by decide), hsk.1.2.1, bs_ln hb (by decide) (Or.inr (Or.inl rfl)), el, nI_clamp (by omega), nI_1]
  refine ⟨kS hb, fun _ => ⟨kA2 hb, vp_n (by omega) (by decide), ?_⟩, fun q => absurd hm q⟩
  rintro _ rfl _ rfl
  have w : ∀ {N1 : mw_M} {b : Nat} {x : Int32}, sm (So (mP N (s + 2) m)) N1 (sI N1 (mP N (s + 2) m) b x) := sm.si rfl
  refine ⟨kq, ?_⟩
  unfold w_X0_place w_X0_play w_X0_fade
  refine ⟨kq, ?_⟩
  rintro _ rfl _ rfl _ rfl
  refine ⟨kq, ?_⟩
  rintro _ rfl _ rfl _ rfl
  refine ⟨kq, ?_⟩
  rintro _ rfl _ rfl _ rfl
  obtain ⟨f2, c2⟩ := c1.u (c := m) (r := nrow x1 x2 x3 x4 x5 x6) (by omega) ((((((((w (b := 0) (x := x1)).tr (w (b := 2) (x := x3))).tr (w (b := 4) (x := x5))).tr (w (b := 1) (x := x2))).tr (w (b := 3) (x := x4))).tr (w (b := 5) (x := x6))).tr (w (b := 6) (x := 0))).tr ((w (b := 7) (x := 0)).tr (w (b := 8) (x := 0)))) (fun f hf => by
    show mI _ (mP N (s + 2) m) f = _
    unfold nrow
    have hf9 : f = 0 ∨ f = 1 ∨ f = 2 ∨ f = 3 ∨ f = 4 ∨ f = 5 ∨ f = 6 ∨ f = 7 ∨ f = 8 := by omega
    rcases hf9 with rfl | rfl | rfl | rfl | rfl | rfl | rfl | rfl | rfl <;> simp [mI_sI])
  rw [upr_upr] at c2
  rw [c2.2.1, nI_pred]
  exact s_X5_settle hb c2 (by omega) (fun N1 k f3 c3 g => hq N1 k ((f1.tr f2).tr f3) c3 g)
theorem s_X5_cutInTwo {N : mw_M} {s m c : Nat} {T : Arr} {x : Int32} {Q : mw_M → Int32 → Prop} (hb : bs s) (h : Cl N s m T) (hm : m < 12) (hc : c < m) (hq : ∀ N1 k, Fc s N N1 → Cl N1 s (m + 1) (crry (spl T c m (x - T c 2)) m k) → stl (spl T c m (x - T c 2)) m (m + 1) k → Q N1 (nI k)) : w_X5_cutInTwo 255 N s (nI c) x Q := by
  obtain ⟨hsk, e2, h12, hT⟩ := id h
  have el : lnd 2 = 12 := rfl
  have kq := kC hb hsk (c := m) hm
  have kp := kC hb hsk (c := c) (by omega)
  have hne : ¬ mP N (s + 2) m = mP N (s + 2) c := fun e => by
    have := hsk.2.2.2.2 m c hm (by omega) e
    omega
  have hne2 : ¬ mP N (s + 2) c = mP N (s + 2) m := fun e => hne e.symm
  obtain ⟨f1, r, c1⟩ := h.ext hm
  have hT1 : ∀ f, f < 9 → mI (sI N s 2 (nI (m + 1))) (mP N (s + 2) c) f = T c f := fun f hf => by
    have := c1.2.2.2 c f (by omega) hf
    unfold upr at this
    rw [if_neg (by omega)] at this
    exact this
  unfold w_X5_cutInTwo
  rw [e2, li 12, nI_ltI (by omega) (by decide), hsk.1.2.1, bs_ln hb (by decide) (Or.inr (Or.inl rfl)), el, nI_clamp (by omega), nI_clamp (by omega), nI_1]
  refine ⟨kS hb, fun _ => ⟨kA2 hb, vp_n (by omega) (by decide), ?_⟩, fun q => absurd hm q⟩
  rintro _ rfl
  refine ⟨vp_n (by omega) (by decide), ?_⟩
  rintro _ rfl _ rfl
  refine ⟨kq, s_X0_takeFrom (r := T c) kq kp hne hT1 (fun N2 s2 e2' => ⟨kp, ?_⟩)⟩
  have p2 : ∀ f, f < 9 → mI N2 (mP N (s + 2) c) f = T c f := fun f hf => (s2.2.1 _ _ hne2).trans (hT1 f hf)
  rw [p2 2 (by decide)]
  refine s_X0_trim (r := T c) kq e2' (fun N3 s3 e3 => ?_)
  rintro _ rfl
  have p3 : ∀ f, f < 9 → mI (sI N3 (mP N (s + 2) m) 6 0) (mP N (s + 2) c) f = T c f := fun f hf => (mI_ne (Or.inl hne2)).trans ((s3.2.1 _ _ hne2).trans (p2 f hf))
  have s4 : sm (So (mP N (s + 2) m)) (sI N s 2 (nI (m + 1))) (sI N3 (mP N (s + 2) m) 6 0) := (s2.tr s3).tr (sm.si rfl)
  obtain ⟨f4, c4⟩ := c1.u (c := m) (r := zat (cut1 (T c) (x - T c 2) 0) 6) (by omega) s4 (fun f hf => by
    show mI _ (mP N (s + 2) m) f = _
    unfold zat
    by_cases e : f = 6
    · rw [if_pos e, e, mI_at]
    · rw [if_neg e, mI_ne (Or.inr e)]; exact e3 f hf)
  rw [upr_upr] at c4
  refine s_X0_end kp ?_
  rw [p3 2 (by decide), p3 4 (by decide)]
  refine s_X0_trim (r := T c) kp p3 (fun N5 s5 e5 => ?_)
  rintro _ rfl
  have eq4 : mP (sI N3 (mP N (s + 2) m) 6 0) (s + 2) c = mP N (s + 2) c := (s4.1 _ _).trans rfl
  have ed : T c 2 + T c 4 - x = T c 4 - (x - T c 2) := by
    rw [Int32.sub_eq_add_neg (T c 4), Int32.neg_sub, Int32.sub_eq_add_neg, Int32.sub_eq_add_neg, ← Int32.add_assoc, Int32.add_comm (T c 4)]
  rw [ed] at e5
  obtain ⟨f6, c6⟩ := c4.u (c := c) (r := zat (cut1 (T c) 0 (T c 4 - (x - T c 2))) 7) (N1 := sI N5 (mP N (s + 2) c) 7 0) (by omega) (by rw [eq4]; exact s5.tr (sm.si rfl)) (fun f hf => by
    rw [eq4]
    unfold zat
    by_cases e : f = 7
    · rw [if_pos e, e, mI_at]
    · rw [if_neg e, mI_ne (Or.inr e)]; exact e5 f hf)
  rw [c6.2.1, nI_pred]
  exact s_X5_settle hb c6 (by omega) (fun N1 k f7 c7 g => hq N1 k (((f1.tr f4).tr f6).tr f7) c7 g)
theorem s_X0_loseStretch {M : mw_M} {q : Nat} {r : Nat → Int32} {a b : Int32} {Q : mw_M → Prop} (kq : mw_is 255 q 0) (hv : ∀ f, f < 9 → mI M q f = r f) (hab : a < b) (hq : ∀ M1, sm (So q) M M1 → (∀ f, f < 9 → mI M1 q f = dele r a b f) → Q M1) : w_X0_loseStretch 255 M q a b Q := by
  have c2 : ∀ x y : Int32, cut1 r x y 2 = r 2 + x := fun x y => if_pos rfl
  unfold w_X0_loseStretch w_X0_loseStretch_b27
  rw [hv 2 (by decide)]
  have b47 : ∀ M1, sm (So q) M M1 → (∀ f, f < 9 → mI M1 q f = dele1 r a b f) → ¬ dele1 r a b 2 < b → w_X0_loseStretch_b47 255 M1 q a b Q := by
    intro M1 s1 e1 hn
    unfold w_X0_loseStretch_b47
    rw [e1 2 (by decide)]
    refine ⟨kq, ?_⟩
    rintro _ rfl
    refine hq _ (s1.tr (sm.si rfl)) (fun f hf => ?_)
    unfold dele
    by_cases e : f = 2
    · rw [if_pos e, if_neg hn, e, mI_at]
    · rw [if_neg e, mI_ne (Or.inr e)]; exact e1 f hf
  have stay : r 2 < a → dele1 r a b 2 = r 2 → ∀ f, dele r a b f = dele1 r a b f := fun g e f => by
    unfold dele
    by_cases e2 : f = 2
    · rw [if_pos e2, e, e2, if_pos (by rw [ti_lt] at *; omega), e]
    · rw [if_neg e2]
  refine ⟨kq, fun g => ⟨fun g2 => b47 M sm.rf (fun f hf => ?_) ?_, fun g2 => s_X0_trim kq hv (fun M1 s1 e1 => b47 M1 s1 (fun f hf => ?_) ?_)⟩, fun g => s_X0_end kq ?_⟩
  · unfold dele1
    rw [if_neg (nlt_of_le g), if_neg (nlt_of_le g2)]
    exact hv f hf
  · unfold dele1
    rw [if_neg (nlt_of_le g), if_neg (nlt_of_le g2)]
    exact nlt_of_le g2
  · unfold dele1
    rw [if_neg (nlt_of_le g), if_pos (lt_of_nle g2)]
    exact e1 f hf
  · unfold dele1
    rw [if_neg (nlt_of_le g), if_pos (lt_of_nle g2), c2, Int32.add_comm, Int32.sub_add_cancel]
    exact fun q => by rw [ti_lt] at q; omega
  · rw [hv 2 (by decide), hv 4 (by decide)]
    have ga := lt_of_nle g
    refine ⟨fun g3 => hq M sm.rf (fun f hf => ?_), fun g3 => s_X0_end kq ?_⟩
    · have e1 : dele1 r a b = r := by unfold dele1; rw [if_pos ga, if_neg (nlt_of_le g3)]
      rw [stay ga (by rw [e1]), e1]
      exact hv f hf
    · rw [hv 2 (by decide), hv 4 (by decide)]
      have e1 : dele1 r a b = cut1 r 0 (r 2 + r 4 - a) := by unfold dele1; rw [if_pos ga, if_pos (lt_of_nle g3)]
      refine s_X0_trim kq hv (fun M1 s1 e2 => hq M1 s1 (fun f hf => ?_))
      rw [stay ga (by rw [e1, c2]; exact Int32.add_zero _), e1]
      exact e2 f hf
theorem s_X5_cutOut {N : mw_M} {s m : Nat} {T : Arr} {x1 x2 x3 : Int32} {Q : mw_M → Int32 → Prop} (hb : bs s) (h : Cl N s m T) (hab : x2 < x3) (hq : ∀ N1, Fc s N N1 → Cl N1 s (dl x1 x2 x3 m T m).2 (cutAll (dl x1 x2 x3 m T m).1 (dl x1 x2 x3 m T m).2 x1 x2 x3) → Q N1 (nI (m - (dl x1 x2 x3 m T m).2))) : w_X5_cutOut 255 N s x1 x2 x3 Q := by
  have h12 := h.2.2.1
  have el : lnd 2 = 12 := rfl
  have o1 : (1 : Int32).toInt = 1 := rfl
  have z0 : (0 : Int32).toInt = 0 := rfl
  have ev : ∀ c, c ≤ 13 → (nI c - 1).toInt = (c : Int) - 1 := fun c hc => by
    rw [ti_sub (by rw [nI_toInt (by omega), o1]; omega) (by rw [nI_toInt (by omega), o1]; omega), nI_toInt (by omega), o1]
  generalize hD : dl x1 x2 x3 m T m = D at hq
  unfold w_X5_cutOut
  rw [h.2.1]
  refine ⟨kS hb, ?_⟩
  rintro _ rfl
  unfold w_X5_cutOut_b11
  refine ⟨fun N1 y z => ∃ c T' m' S, z = nI c - 1 ∧ c ≤ m' ∧ m' ≤ m ∧ y = nI (m - m') ∧ Fc s N N1 ∧ Cl N1 s m' S ∧ dl x1 x2 x3 c T' m' = D ∧ ∀ i f, i < m' → S i f = ifp (c ≤ i ∧ T' i 0 = x1) (dele (T' i) x2 x3 f) (T' i f), fun _ _ z => (z.toInt + 1).toNat, ⟨m, T, m, T, rfl, Nat.le_refl _, Nat.le_refl _, by rw [Nat.sub_self]; rfl, Fc.rf, h, hD, fun i f hi => (ifp_f (fun q => by omega)).symm⟩, ?_⟩
  rintro N1 _ _ ⟨c, T', m', S, rfl, hc, hm', rfl, f1, c1, hd, hS⟩
  rw [ti_lt, ev c (by omega), z0]
  refine ⟨fun gc => ?_, fun gc => ?_⟩
  · have : c = 0 := by omega
    subst this
    have e1 : D = (T', m') := hd.symm
    rw [e1] at hq
    refine hq N1 f1 (c1.c (fun i f hi hf => ?_))
    rw [hS i f hi]
    unfold cutAll
    by_cases e : T' i 0 = x1
    · rw [ifp_t ⟨hi, e⟩, ifp_t ⟨Nat.zero_le _, e⟩]
    · rw [ifp_f (fun q => e q.2), ifp_f (fun q => e q.2)]
  · obtain ⟨d, rfl⟩ : ∃ d, c = d + 1 := ⟨c - 1, by omega⟩
    obtain ⟨hsk, e2, hm12, hT⟩ := id c1
    have hSd : ∀ f, S d f = T' d f := fun f => by rw [hS d f (by omega), ifp_f (fun q => by omega)]
    have kq := kC hb hsk (c := d) (by omega)
    have hsd := dl_s x1 x2 x3 d T' m'
    have dec : ((nI d - 1).toInt + 1).toNat < ((nI d).toInt + 1).toNat := by
      rw [ev d (by omega), nI_toInt (by omega)]
      omega
    have ed : nI d + -1 = nI d - 1 := (Int32.sub_eq_add_neg ..).symm
    rw [nI_pred, hsk.1.2.1, bs_ln hb (by decide) (Or.inr (Or.inl rfl)), el, nI_clamp (by omega)]
    refine ⟨kS hb, kA2 hb, vp_n (by omega) (by decide), ?_⟩
    rintro _ rfl
    rw [hT d 0 (by omega) (by decide), hT d 2 (by omega) (by decide), hSd, hSd]
    have stay : ¬ T' d 0 = x1 → ∀ (N2 : mw_M), N2 = N1 → w_X5_cutOut_b71 255 N2 s x1 x2 x3 (nI (m - m')) (nI d) Q (fun (M_ : mw_M) (x4_ : Int32) (x5_ : Int32) => (∃ c T' m' S, x5_ = nI c - 1 ∧ c ≤ m' ∧ m' ≤ m ∧ x4_ = nI (m - m') ∧ Fc s N M_ ∧ Cl M_ s m' S ∧ dl x1 x2 x3 c T' m' = D ∧ ∀ i f, i < m' → S i f = ifp (c ≤ i ∧ T' i 0 = x1) (dele (T' i) x2 x3 f) (T' i f)) ∧ (x5_.toInt + 1).toNat < ((nI d).toInt + 1).toNat) := by
      rintro hne _ rfl
      unfold w_X5_cutOut_b71
      rintro _ rfl
      rw [ed]
      rw [hsd.2 (fun q => hne q.1)] at hd
      refine ⟨⟨d, T', m', S, rfl, by omega, hm', rfl, f1, c1, hd, fun i f hi => ?_⟩, dec⟩
      rw [hS i f hi]
      by_cases e : i = d
      · rw [ifp_f (fun q => by omega), ifp_f (fun q => hne (e ▸ q.2))]
      · by_cases e3 : d + 1 ≤ i ∧ T' i 0 = x1
        · rw [ifp_t e3, ifp_t ⟨by omega, e3.2⟩]
        · rw [ifp_f e3, ifp_f (fun q => e3 ⟨by omega, q.2⟩)]
    have lose : T' d 0 = x1 → ¬ gn (T' d) x1 x2 x3 → w_X5_cutOut_b64 255 N1 s x1 x2 x3 (nI (m - m')) (nI d) (mP N1 (s + 2) d) Q (fun (M_ : mw_M) (x4_ : Int32) (x5_ : Int32) => (∃ c T' m' S, x5_ = nI c - 1 ∧ c ≤ m' ∧ m' ≤ m ∧ x4_ = nI (m - m') ∧ Fc s N M_ ∧ Cl M_ s m' S ∧ dl x1 x2 x3 c T' m' = D ∧ ∀ i f, i < m' → S i f = ifp (c ≤ i ∧ T' i 0 = x1) (dele (T' i) x2 x3 f) (T' i f)) ∧ (x5_.toInt + 1).toNat < ((nI d).toInt + 1).toNat) := by
      intro h0 hg
      unfold w_X5_cutOut_b64
      refine ⟨kq, s_X0_loseStretch (r := T' d) kq (fun f hf => (hT d f (by omega) hf).trans (hSd f)) hab (fun N2 s2 e2' => ?_)⟩
      unfold w_X5_cutOut_b71
      rintro _ rfl
      rw [ed]
      rw [hsd.2 hg] at hd
      obtain ⟨f2, c2⟩ := c1.u (c := d) (r := dele (T' d) x2 x3) (by omega) s2 e2'
      refine ⟨⟨d, T', m', _, rfl, by omega, hm', rfl, f1.tr f2, c2, hd, fun i f hi => ?_⟩, dec⟩
      unfold upr
      by_cases e : i = d
      · rw [if_pos e, ifp_t ⟨by omega, e ▸ h0⟩, e]
      · rw [if_neg e, hS i f hi]
        by_cases e3 : d + 1 ≤ i ∧ T' i 0 = x1
        · rw [ifp_t e3, ifp_t ⟨by omega, e3.2⟩]
        · rw [ifp_f e3, ifp_f (fun q => e3 ⟨by omega, q.2⟩)]
    refine ⟨kq, fun hne => stay hne _ rfl, fun h0 => ⟨fun g2 => lose h0 (fun q => nlt_of_le q.2.1 g2), fun g2 => s_X0_end kq ?_⟩⟩
    rw [hT d 2 (by omega) (by decide), hT d 4 (by omega) (by decide), hSd, hSd]
    refine ⟨fun g3 => lose h0 (fun q => nlt_of_le q.2.2 g3), fun g3 => s_X5_drop hb c1 (by omega) (fun N2 f2 c2 => ?_)⟩
    rintro _ rfl
    unfold w_X5_cutOut_b71
    rintro _ rfl
    rw [ed]
    rw [hsd.1 ⟨h0, le_of_nlt g2, le_of_nlt g3⟩] at hd
    refine ⟨⟨d, lv T' d m', m' - 1, lv S d m', rfl, by omega, by omega, by rw [nI_1]; exact congrArg nI (by omega), f1.tr f2, c2, hd, fun i f hi => ?_⟩, dec⟩
    have e5 : ∀ g, lv T' d m' i g = if d ≤ i then T' (i + 1) g else T' i g := fun g => by
      unfold lv
      by_cases e : d ≤ i
      · rw [if_pos e, if_pos ⟨e, by omega⟩]
      · rw [if_neg e, if_neg (fun q => e q.1)]
    have e6 : lv S d m' i f = if d ≤ i then S (i + 1) f else S i f := by
      unfold lv
      by_cases e : d ≤ i
      · rw [if_pos e, if_pos ⟨e, by omega⟩]
      · rw [if_neg e, if_neg (fun q => e q.1)]
    have e7 : lv T' d m' i = if d ≤ i then T' (i + 1) else T' i := by
      funext g
      rw [e5]
      split <;> rfl
    rw [e6, e7]
    by_cases e : d ≤ i
    · rw [if_pos e, if_pos e, hS (i + 1) f (by omega)]
      by_cases e3 : T' (i + 1) 0 = x1
      · rw [ifp_t ⟨by omega, e3⟩, ifp_t ⟨e, e3⟩]
      · rw [ifp_f (fun q => e3 q.2), ifp_f (fun q => e3 q.2)]
    · rw [if_neg e, if_neg e, hS i f (by omega), ifp_f (fun q => by omega), ifp_f (fun q => e q.1)]
