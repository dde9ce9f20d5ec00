/-! What the constructors make -/
def zr (M : mw_M) (n : Nat) : Prop := ∀ a, n ≤ a → ∀ b, mI M a b = 0 ∧ mL M a b = 0 ∧ mP M a b = 0
def ptb (M : mw_M) (n : Nat) : Prop := ∀ a b, mP M a b < n
theorem zr.le {M : mw_M} {n m : Nat} (h : zr M n) (hm : n ≤ m) : zr M m := fun a ha b => h a (by omega) b
theorem ptb.le {M : mw_M} {n m : Nat} (h : ptb M n) (hm : n ≤ m) : ptb M m := fun a b => Nat.lt_of_lt_of_le (h a b) hm
theorem zr.si {M : mw_M} {n k j : Nat} {x : Int32} (h : zr M n) (hk : k < n) : zr (sI M k j x) n := fun a ha b => by
  rw [mI_ne (Or.inl (by omega))]
  exact h a ha b
theorem zr.sl {M : mw_M} {n k j : Nat} {x : Int64} (h : zr M n) (hk : k < n) : zr (sL M k j x) n := fun a ha b => by
  rw [mL_ne (Or.inl (by omega))]
  exact h a ha b
theorem zr.sp {M : mw_M} {n k j x : Nat} (h : zr M n) (hk : k < n) : zr (sP M k j x) n := fun a ha b => by
  rw [mP_ne (Or.inl (by omega))]
  exact h a ha b
theorem ptb.si {M : mw_M} {n k j : Nat} {x : Int32} (h : ptb M n) : ptb (sI M k j x) n := h
theorem ptb.sl {M : mw_M} {n k j : Nat} {x : Int64} (h : ptb M n) : ptb (sL M k j x) n := h
theorem ptb.sp {M : mw_M} {n k j x : Nat} (h : ptb M n) (hx : x < n) : ptb (sP M k j x) n := fun a b => by
  rw [mP_sP]
  split
  · exact hx
  · exact h a b
theorem nI_suc (c : Nat) : nI c + 1 = nI (c + 1) := by rw [li 1, nI_add]
theorem fresh {M : mw_M} {n t : Nat} (h : zr M n) (p : ptb M n) (ht : Tg n = t) (h0 : 0 < n) (h9 : n < 900) : mw_fresh n M t := ⟨ht, h0, h9, h n (Nat.le_refl _), p⟩
theorem isn {n k t : Nat} (ht : Tg k = t) (h0 : 0 < k) (hn : k < n) : mw_is n k t := ⟨ht, h0, hn⟩
theorem bs_T {s i : Nat} (h : bs s) (hi : i < 39) : Tg (s + i) = knd i := (bs_is h hi).1
/-- a track -/
def trk (N : mw_M) (a : Nat) : Prop := (mP N a 5 = a + 1 ∧ mP N a 6 = a + 2 ∧ mP N a 7 = a + 3) ∧ ∀ f, mI N a f = if f = 0 then 1000 else if f = 8 then -1 else 0
theorem s_X6_init {N : mw_M} {a : Nat} {Q : Nat → mw_M → Prop} (h0 : 0 < a) (h9 : a + 4 < 900) (t0 : Tg a = 6) (t1 : Tg (a + 1) = 10) (t2 : Tg (a + 2) = 10) (t3 : Tg (a + 3) = 12) (l1 : Ln (a + 1) = 8) (l2 : Ln (a + 2) = 8) (l3 : Ln (a + 3) = 8) (hz : zr N a) (hp : ptb N (a + 1)) (hq : ∀ N1, fo (fun b => b = a) N N1 → trk N1 a → zr N1 (a + 1) → ptb N1 (a + 4) → Q (a + 4) N1) : w_X6_init (a + 1) N a Q := by
  unfold w_X6_init
  have z1 : zr N (a + 1) := hz.le (by omega)
  refine ⟨h0, isn t0 h0 (by omega), ?_⟩
  rintro _ rfl
  refine ⟨fresh (z1.si (by omega)) hp.si t1 (by omega) (by omega), l1, by decide, by decide, Or.inl (by omega), isn t0 h0 (by omega), ?_⟩
  rintro _ rfl
  have p2 : ptb (sP (sI N a 0 1000) a 5 (a + 1)) (a + 2) := (hp.si.le (by omega)).sp (by omega)
  have z2 : zr (sP (sI N a 0 1000) a 5 (a + 1)) (a + 1) := (z1.si (by omega)).sp (by omega)
  refine ⟨fresh (z2.le (by omega)) p2 t2 (by omega) (by omega), l2, by decide, by decide, Or.inl (by omega), isn t0 h0 (by omega), ?_⟩
  rintro _ rfl
  have p3 := (p2.le (show a + 2 ≤ a + 3 by omega)).sp (k := a) (j := 6) (x := a + 2) (by omega)
  have z3 := z2.sp (k := a) (j := 6) (x := a + 2) (by omega)
  refine ⟨fresh (z3.le (by omega)) p3 t3 (by omega) (by omega), l3, by decide, by decide, Or.inl (by omega), isn t0 h0 (by omega), ?_⟩
  rintro _ rfl
  rintro _ rfl
  have p4 := ((p3.le (show a + 3 ≤ a + 4 by omega)).sp (k := a) (j := 7) (x := a + 3) (by omega)).si (k := a) (j := 8) (x := -1)
  have z4 := (z3.sp (k := a) (j := 7) (x := a + 3) (by omega)).si (k := a) (j := 8) (x := -1) (by omega)
  refine ⟨by decide, by decide, hq _ (((((fo.si (S := fun b => b = a) rfl).tr (fo.sp rfl)).tr (fo.sp rfl)).tr (fo.sp rfl)).tr (fo.si rfl)) ⟨⟨?_, ?_, ?_⟩, fun f => ?_⟩ z4 p4⟩
  · rw [mP_sI, mP_ne (Or.inr (by decide)), mP_ne (Or.inr (by decide)), mP_at]
  · rw [mP_sI, mP_ne (Or.inr (by decide)), mP_at]
  · rw [mP_sI, mP_at]
  · by_cases e8 : f = 8
    · rw [e8, mI_at]; rfl
    · rw [mI_ne (Or.inr e8), mI_sP, mI_sP, mI_sP]
      by_cases e0 : f = 0
      · rw [e0, mI_at]; rfl
      · rw [mI_ne (Or.inr e0), if_neg e0, if_neg e8]
        exact (hz a (Nat.le_refl _) f).1
theorem trk_fo {S : Nat → Prop} {N N1 : mw_M} {a : Nat} (f : fo S N N1) (hs : ¬ S a) (h : trk N a) : trk N1 a := by
  obtain ⟨⟨a1, a2, a3⟩, a4⟩ := h
  exact ⟨⟨((f a hs 5).2.2).trans a1, ((f a hs 6).2.2).trans a2, ((f a hs 7).2.2).trans a3⟩, fun g => ((f a hs g).1).trans (a4 g)⟩
theorem kn_t {t : Nat} (ht : t < 4) : knd (23 + 4 * t) = 6 ∧ knd (24 + 4 * t) = 10 ∧ knd (25 + 4 * t) = 10 ∧ knd (26 + 4 * t) = 12 := by
  rcases (show t = 0 ∨ t = 1 ∨ t = 2 ∨ t = 3 by omega) with rfl | rfl | rfl | rfl <;> decide
theorem s_X5_b117 {Mh : mw_M} {s : Nat} {Q : Nat → mw_M → Prop} (hb : bs s) (h3 : mP Mh s 3 = s + 3) (hz : zr Mh (s + 23)) (hp : ptb Mh (s + 23)) (hq : ∀ N, fo (fun a => a = s + 3 ∨ (s + 23 ≤ a ∧ a < s + 39)) Mh N → (∀ t, t < 4 → mP N (s + 3) t = s + 23 + 4 * t ∧ trk N (s + 23 + 4 * t)) → zr N (s + 39) → ptb N (s + 39) → Q (s + 39) N) : w_X5_init_b117 22 159 (s + 23) Mh s 0 Q := by
  have hs := bs_le hb
  unfold w_X5_init_b117
  refine ⟨fun k sl n N x => ∃ c, x = nI c ∧ c ≤ 4 ∧ k = 22 + 4 * c ∧ sl = 159 + 37 * c ∧ n = s + 23 + 4 * c ∧ fo (fun a => a = s + 3 ∨ (s + 23 ≤ a ∧ a < s + 39)) Mh N ∧ (∀ t, t < c → mP N (s + 3) t = s + 23 + 4 * t ∧ trk N (s + 23 + 4 * t)) ∧ zr N n ∧ ptb N n, fun _ _ _ _ x => 4 - x.toInt.toNat, ⟨0, rfl, by omega, rfl, rfl, rfl, fo.rf, fun t ht => absurd ht (Nat.not_lt_zero t), hz, hp⟩, ?_⟩
  rintro k sl n N _ ⟨c, rfl, hc, rfl, rfl, rfl, f, g, z, p⟩
  have e3 : mP N s 3 = s + 3 := ((f s (by omega) 3).2.2).trans h3
  have lT : Ln (s + 3) = 4 := bs_ln (i := 3) hb (by decide) (by decide)
  rw [e3, lT, nI_leI (by decide) (by omega)]
  refine ⟨isn (bs_T (i := 0) hb (by decide)) (by omega) (by omega), isn (bs_T (i := 3) hb (by decide)) (by omega) (by omega), fun hle => ?_, fun hlt => ?_⟩
  · have : c = 4 := by omega
    subst this
    exact ⟨by omega, by omega, hq N f g z p⟩
  · have hc4 : c < 4 := by omega
    obtain ⟨k0, k1, k2, k3⟩ := kn_t hc4
    have tg : ∀ i, i < 4 → Tg (s + 23 + 4 * c + i) = knd (23 + i + 4 * c) := fun i hi => by
      have := bs_T (i := 23 + i + 4 * c) hb (by omega)
      rw [show s + 23 + 4 * c + i = s + (23 + i + 4 * c) by omega]
      exact this
    have ln : ∀ i, 1 ≤ i → i < 4 → Ln (s + 23 + 4 * c + i) = 8 := fun i hi1 hi => by
      have := bs_ln (i := 23 + i + 4 * c) hb (by omega) (by omega)
      rw [show s + 23 + 4 * c + i = s + (23 + i + 4 * c) by omega, this]
      unfold lnd
      rw [if_neg (by omega), if_neg (by omega), if_neg (by omega)]
    have t0 : Tg (s + 23 + 4 * c) = 6 := (tg 0 (by decide)).trans k0
    refine ⟨fresh z p t0 (by omega) (by omega), by omega, by omega, Or.inl (by omega), Or.inl (by omega), by omega, by omega, by omega, Or.inl (by omega), Or.inl (by omega), Or.inl (by omega), s_X6_init (by omega) (by omega) t0 ((tg 1 (by decide)).trans k1) ((tg 2 (by decide)).trans k2) ((tg 3 (by decide)).trans k3) (ln 1 (by decide) (by decide)) (ln 2 (by decide) (by decide)) (ln 3 (by decide) (by decide)) z (p.le (by omega)) (fun N1 f1 tr1 z1 p1 => ?_)⟩
    refine ⟨isn (bs_T (i := 3) hb (by decide)) (by omega) (by omega), isn t0 (by omega) (by omega), vp_n hc4 (by decide), ?_⟩
    rintro _ rfl
    rintro _ rfl
    rw [nI_clamp (by omega), nI_suc]
    refine ⟨⟨c + 1, rfl, by omega, by omega, by omega, by omega, (f.tr (f1.mono (fun a q => Or.inr (by omega)))).tr (fo.sp (Or.inl rfl)), fun t ht => ?_, ((z1.le (by omega)).sp (by omega)), p1.sp (by omega)⟩, ?_⟩
    · by_cases e : t = c
      · rw [e, mP_at]
        exact ⟨rfl, trk_fo (fo.sp (S := fun a => a = s + 3) rfl) (by omega) tr1⟩
      · obtain ⟨g1, g2⟩ := g t (by omega)
        rw [mP_ne (Or.inr e), (f1 (s + 3) (by omega) t).2.2]
        exact ⟨g1, trk_fo (fo.sp (S := fun a => a = s + 3) rfl) (by omega) (trk_fo f1 (by omega) g2)⟩
    · rw [← nI_suc]
      exact mu_dec hc4 (by decide)
def src0 (N : mw_M) (a : Nat) : Prop := ∀ f, f < 4 → mI N a f = if f = 2 then 1 else if f = 3 then 4000 else 0
theorem src0_fo {S : Nat → Prop} {N N1 : mw_M} {a : Nat} (f : fo S N N1) (hs : ¬ S a) (h : src0 N a) : src0 N1 a := fun g hg => ((f a hs g).1).trans (h g hg)
theorem s_X5_b87 {Mh : mw_M} {s : Nat} {Q : Nat → mw_M → Prop} (hb : bs s) (h1 : mP Mh s 1 = s + 2) (h3 : mP Mh s 3 = s + 3) (hz : zr Mh (s + 11)) (hp : ptb Mh (s + 11)) (hq : ∀ N, fo (fun a => a = s + 2 ∨ a = s + 3 ∨ (s + 11 ≤ a ∧ a < s + 39)) Mh N → (∀ i, i < 12 → mP N (s + 2) i = s + 11 + i) → (∀ t, t < 4 → mP N (s + 3) t = s + 23 + 4 * t ∧ trk N (s + 23 + 4 * t)) → zr N (s + 39) → ptb N (s + 39) → Q (s + 39) N) : w_X5_init_b87 10 51 (s + 11) Mh s 0 Q := by
  have hs := bs_le hb
  unfold w_X5_init_b87
  refine ⟨fun k sl n N x => ∃ c, x = nI c ∧ c ≤ 12 ∧ k = 10 + c ∧ sl = 51 + 9 * c ∧ n = s + 11 + c ∧ fo (fun a => a = s + 2 ∨ (s + 11 ≤ a ∧ a < s + 23)) Mh N ∧ (∀ i, i < c → mP N (s + 2) i = s + 11 + i) ∧ zr N n ∧ ptb N n, fun _ _ _ _ x => 12 - x.toInt.toNat, ⟨0, rfl, by omega, rfl, rfl, rfl, fo.rf, fun t ht => absurd ht (Nat.not_lt_zero t), hz, hp⟩, ?_⟩
  rintro k sl n N _ ⟨c, rfl, hc, rfl, rfl, rfl, f, g, z, p⟩
  have e1 : mP N s 1 = s + 2 := ((f s (by omega) 1).2.2).trans h1
  have lT : Ln (s + 2) = 12 := bs_ln (i := 2) hb (by decide) (by decide)
  rw [e1, lT, nI_leI (by decide) (by omega)]
  refine ⟨isn (bs_T (i := 0) hb (by decide)) (by omega) (by omega), isn (bs_T (i := 2) hb (by decide)) (by omega) (by omega), fun hle => ?_, fun hlt => ?_⟩
  · have : c = 12 := by omega
    subst this
    exact s_X5_b117 hb (((f s (by omega) 3).2.2).trans h3) z p (fun N2 f2 g2 z2 p2 => hq N2 ((f.mono (fun a q => by omega)).tr (f2.mono (fun a q => by omega))) (fun i hi => ((f2 (s + 2) (by omega) i).2.2).trans (g i hi)) g2 z2 p2)
  · have hc4 : c < 12 := by omega
    have t0 : Tg (s + 11 + c) = 0 := by
      rw [Nat.add_assoc, bs_T hb (by omega)]
      unfold knd
      repeat rw [if_neg (by omega)]
      rw [if_pos (by omega)]
    refine ⟨fresh z p t0 (by omega) (by omega), by omega, by omega, Or.inl (by omega), Or.inl (by omega), by omega, by omega, by omega, ?_⟩
    unfold w_X0_init
    refine ⟨by omega, isn (bs_T (i := 2) hb (by decide)) (by omega) (by omega), isn t0 (by omega) (by omega), vp_n hc4 (by decide), ?_⟩
    rintro _ rfl
    rintro _ rfl
    rw [nI_clamp (by omega), nI_suc]
    refine ⟨⟨c + 1, rfl, by omega, by omega, by omega, by omega, f.tr (fo.sp (Or.inl rfl)), fun t ht => ?_, ((z.le (by omega)).sp (by omega)), (p.le (by omega)).sp (by omega)⟩, ?_⟩
    · by_cases e : t = c
      · rw [e, mP_at]
      · rw [mP_ne (Or.inr e)]
        exact g t (by omega)
    · rw [← nI_suc]
      exact mu_dec hc4 (by decide)
theorem s_X5_b57 {Mh : mw_M} {s : Nat} {Q : Nat → mw_M → Prop} (hb : bs s) (h0 : mP Mh s 0 = s + 1) (h1 : mP Mh s 1 = s + 2) (h3 : mP Mh s 3 = s + 3) (hz : zr Mh (s + 5)) (hp : ptb Mh (s + 5)) (hq : ∀ N, fo (fun a => a = s + 1 ∨ a = s + 2 ∨ a = s + 3 ∨ (s + 5 ≤ a ∧ a < s + 39)) Mh N → (∀ i, i < 6 → mP N (s + 1) i = s + 5 + i ∧ src0 N (s + 5 + i)) → (∀ i, i < 12 → mP N (s + 2) i = s + 11 + i) → (∀ t, t < 4 → mP N (s + 3) t = s + 23 + 4 * t ∧ trk N (s + 23 + 4 * t)) → zr N (s + 39) → ptb N (s + 39) → Q (s + 39) N) : w_X5_init_b57 4 27 (s + 5) Mh s 0 Q := by
  have hs := bs_le hb
  unfold w_X5_init_b57
  refine ⟨fun k sl n N x => ∃ c, x = nI c ∧ c ≤ 6 ∧ k = 4 + c ∧ sl = 27 + 4 * c ∧ n = s + 5 + c ∧ fo (fun a => a = s + 1 ∨ (s + 5 ≤ a ∧ a < s + 11)) Mh N ∧ (∀ i, i < c → mP N (s + 1) i = s + 5 + i ∧ src0 N (s + 5 + i)) ∧ zr N n ∧ ptb N n, fun _ _ _ _ x => 6 - x.toInt.toNat, ⟨0, rfl, by omega, rfl, rfl, rfl, fo.rf, fun t ht => absurd ht (Nat.not_lt_zero t), hz, hp⟩, ?_⟩
  rintro k sl n N _ ⟨c, rfl, hc, rfl, rfl, rfl, f, g, z, p⟩
  have e0 : mP N s 0 = s + 1 := ((f s (by omega) 0).2.2).trans h0
  have lT : Ln (s + 1) = 6 := bs_ln (i := 1) hb (by decide) (by decide)
  rw [e0, lT, nI_leI (by decide) (by omega)]
  refine ⟨isn (bs_T (i := 0) hb (by decide)) (by omega) (by omega), isn (bs_T (i := 1) hb (by decide)) (by omega) (by omega), fun hle => ?_, fun hlt => ?_⟩
  · have : c = 6 := by omega
    subst this
    exact s_X5_b87 hb (((f s (by omega) 1).2.2).trans h1) (((f s (by omega) 3).2.2).trans h3) z p (fun N2 f2 g1 g2 z2 p2 => hq N2 ((f.mono (fun a q => by omega)).tr (f2.mono (fun a q => by omega))) (fun i hi => ⟨((f2 (s + 1) (by omega) i).2.2).trans (g i hi).1, src0_fo f2 (by omega) (g i hi).2⟩) g1 g2 z2 p2)
  · have hc4 : c < 6 := by omega
    have t0 : Tg (s + 5 + c) = 4 := by
      rw [Nat.add_assoc, bs_T hb (by omega)]
      unfold knd
      repeat rw [if_neg (by omega)]
      rw [if_pos (by omega)]
    refine ⟨fresh z p t0 (by omega) (by omega), by omega, by omega, Or.inl (by omega), Or.inl (by omega), by omega, by omega, by omega, ?_⟩
    unfold w_X4_init
    refine ⟨by omega, isn t0 (by omega) (by omega), ?_⟩
    rintro _ rfl
    rintro _ rfl
    rintro _ rfl
    refine ⟨isn (bs_T (i := 1) hb (by decide)) (by omega) (by omega), isn t0 (by omega) (by omega), vp_n hc4 (by decide), ?_⟩
    rintro _ rfl
    rintro _ rfl
    rw [nI_clamp (by omega), nI_suc]
    have f1 : fo (fun a => a = s + 5 + c) N (sI (sI (sI N (s + 5 + c) 0 0) (s + 5 + c) 2 1) (s + 5 + c) 3 4000) := ((fo.si (S := fun a => a = s + 5 + c) rfl).tr (fo.si rfl)).tr (fo.si rfl)
    have n1 : src0 (sI (sI (sI N (s + 5 + c) 0 0) (s + 5 + c) 2 1) (s + 5 + c) 3 4000) (s + 5 + c) := fun j hj => by
      rcases (show j = 0 ∨ j = 1 ∨ j = 2 ∨ j = 3 by omega) with rfl | rfl | rfl | rfl
      · rw [mI_ne (Or.inr (by decide)), mI_ne (Or.inr (by decide)), mI_at]; rfl
      · rw [mI_ne (Or.inr (by decide)), mI_ne (Or.inr (by decide)), mI_ne (Or.inr (by decide))]
        exact (z (s + 5 + c) (Nat.le_refl _) 1).1
      · rw [mI_ne (Or.inr (by decide)), mI_at]; rfl
      · rw [mI_at]; rfl
    have z1 := (((z.le (show s + 5 + c ≤ s + 5 + (c + 1) by omega)).si (k := s + 5 + c) (j := 0) (x := 0) (by omega)).si (k := s + 5 + c) (j := 2) (x := 1) (by omega)).si (k := s + 5 + c) (j := 3) (x := 4000) (by omega)
    refine ⟨⟨c + 1, rfl, by omega, by omega, by omega, by omega, (f.tr (f1.mono (fun a q => Or.inr (by omega)))).tr (fo.sp (Or.inl rfl)), fun t ht => ?_, z1.sp (by omega), (((p.le (by omega)).si).si).si.sp (by omega)⟩, ?_⟩
    · by_cases e : t = c
      · rw [e, mP_at]
        exact ⟨rfl, src0_fo (fo.sp (S := fun a => a = s + 1) rfl) (by omega) n1⟩
      · obtain ⟨g1, g2⟩ := g t (by omega)
        rw [mP_ne (Or.inr e), (f1 (s + 1) (by omega) t).2.2]
        exact ⟨g1, src0_fo (fo.sp (S := fun a => a = s + 1) rfl) (by omega) (src0_fo f1 (by omega) g2)⟩
    · rw [← nI_suc]
      exact mu_dec hc4 (by decide)
def rowP (a b : Nat) : Row := fun j => if j = 2 then 4000 else if j = 3 then 1000 else if 9 ≤ j ∧ j < 9 + 4 * a then (if (j - 9) % 4 = 2 then 1 else if (j - 9) % 4 = 3 then 4000 else 0) else if 141 ≤ j ∧ j < 141 + 34 * b then (if (j - 141) % 34 = 0 then 1000 else if (j - 141) % 34 = 29 then -1 else 0) else 0
def row0 : Row := rowP 6 4
theorem row0_S {i f : Nat} (hi : i < 6) (hf : f < 4) : rS row0 i f = if f = 2 then 1 else if f = 3 then 4000 else 0 := by
  unfold rS row0 rowP
  rw [if_neg (by omega), if_neg (by omega), if_pos (by omega), show (9 + 4 * i + f - 9) % 4 = f by omega]
theorem row0_T {t f : Nat} (ht : t < 4) (hf : f < 34) : rT row0 t f = if f = 0 then 1000 else if f = 29 then -1 else 0 := by
  unfold rT row0 rowP
  rw [if_neg (by omega), if_neg (by omega), if_neg (by omega), if_pos (by omega), show (141 + 34 * t + f - 141) % 34 = f by omega]
theorem row0_V : VAL row0 := by
  have c0 : cn row0 = 0 := by decide
  have p0 : ∀ t, t < 4 → pn row0 t = 0 := fun t ht => by
    unfold pn
    rw [row0_T ht (by decide)]
    decide
  refine ⟨fun i hi => ?_, ⟨by decide, fun c hc => by omega⟩, fun t ht => ?_, fun t ht => ⟨fun k hk => ?_, fun k hk => ?_⟩, by unfold VX; decide, ⟨fun c hc => by omega, fun c hc => by omega⟩⟩
  · rw [row0_S hi (by decide), row0_S hi (by decide), row0_S hi (by decide), row0_S hi (by decide)]
    decide
  · rw [row0_T ht (by decide), row0_T ht (by decide), row0_T ht (by decide), row0_T ht (by decide), row0_T ht (by decide), row0_T ht (by decide), row0_T ht (by decide), row0_T ht (by decide), row0_T ht (by decide), row0_T ht (by decide)]
    decide
  · rw [p0 t ht] at hk; omega
  · rw [p0 t ht] at hk; omega
theorem s_X5_init {M : mw_M} {s : Nat} {Q : Nat → mw_M → Prop} (hb : bs s) (hz : zr M s) (hp : ptb M (s + 1)) (hq : ∀ N, fo (blk s) M N → sk N s → rep N s row0 7 → zr N (s + 39) → ptb N (s + 39) → Q (s + 39) N) : w_X5_init (s + 1) M s Q := by
  have hs := bs_le hb
  have T := fun i (hi : i < 39) => bs_T (s := s) (i := i) hb hi
  unfold w_X5_init
  have z1 : zr M (s + 1) := hz.le (by omega)
  refine ⟨by omega, fresh z1 hp (T 1 (by decide)) (by omega) (by omega), bs_ln (i := 1) hb (by decide) (by decide), by decide, by decide, Or.inl (by omega), isn (T 0 (by decide)) (by omega) (by omega), ?_⟩
  rintro _ rfl
  have p2 := (hp.le (show s + 1 ≤ s + 2 by omega)).sp (k := s) (j := 0) (x := s + 1) (by omega)
  have z2 := z1.sp (k := s) (j := 0) (x := s + 1) (by omega)
  refine ⟨fresh (z2.le (by omega)) p2 (T 2 (by decide)) (by omega) (by omega), bs_ln (i := 2) hb (by decide) (by decide), by decide, by decide, Or.inl (by omega), isn (T 0 (by decide)) (by omega) (by omega), ?_⟩
  rintro _ rfl
  have p3 := (p2.le (show s + 2 ≤ s + 3 by omega)).sp (k := s) (j := 1) (x := s + 2) (by omega)
  have z3 := z2.sp (k := s) (j := 1) (x := s + 2) (by omega)
  refine ⟨fresh (z3.le (by omega)) p3 (T 3 (by decide)) (by omega) (by omega), bs_ln (i := 3) hb (by decide) (by decide), by decide, by decide, Or.inl (by omega), isn (T 0 (by decide)) (by omega) (by omega), ?_⟩
  rintro _ rfl
  rintro _ rfl
  rintro _ rfl
  have p4 := (((p3.le (show s + 3 ≤ s + 4 by omega)).sp (k := s) (j := 3) (x := s + 3) (by omega)).si (k := s) (j := 4) (x := 1000)).si (k := s) (j := 7) (x := 4000)
  have z4 := ((z3.sp (k := s) (j := 3) (x := s + 3) (by omega)).si (k := s) (j := 4) (x := 1000) (by omega)).si (k := s) (j := 7) (x := 4000) (by omega)
  refine ⟨fresh (z4.le (by omega)) p4 (T 4 (by decide)) (by omega) (by omega), by decide, by decide, Or.inl (by omega), ?_⟩
  rintro _ rfl
  refine ⟨by omega, by decide, by decide, ?_⟩
  unfold w_X3_init
  refine ⟨by omega, isn (T 4 (by decide)) (by omega) (by omega), ?_⟩
  rintro _ rfl
  refine ⟨isn (T 0 (by decide)) (by omega) (by omega), ?_⟩
  rintro _ rfl
  have p5 := ((p4.le (show s + 4 ≤ s + 5 by omega)).sl (k := s + 4) (j := 4) (x := 7)).sp (k := s) (j := 8) (x := s + 4) (by omega)
  have z5 := ((z4.le (show s + 1 ≤ s + 5 by omega)).sl (k := s + 4) (j := 4) (x := 7) (by omega)).sp (k := s) (j := 8) (x := s + 4) (by omega)
  have ff : fo (blk s) M (sP (sL (sI (sI (sP (sP (sP M s 0 (s + 1)) s 1 (s + 2)) s 3 (s + 3)) s 4 1000) s 7 4000) (s + 4) 4 7) s 8 (s + 4)) := ((((((fo.sp ⟨by omega, by omega⟩).tr (fo.sp ⟨by omega, by omega⟩)).tr (fo.sp ⟨by omega, by omega⟩)).tr (fo.si ⟨by omega, by omega⟩)).tr (fo.si ⟨by omega, by omega⟩)).tr (fo.sl ⟨by omega, by omega⟩)).tr (fo.sp ⟨by omega, by omega⟩)
  have q0 : mP (sP (sL (sI (sI (sP (sP (sP M s 0 (s + 1)) s 1 (s + 2)) s 3 (s + 3)) s 4 1000) s 7 4000) (s + 4) 4 7) s 8 (s + 4)) s 0 = s + 1 := by
    rw [mP_ne (Or.inr (by decide)), mP_sL, mP_sI, mP_sI, mP_ne (Or.inr (by decide)), mP_ne (Or.inr (by decide)), mP_at]
  have q1 : mP (sP (sL (sI (sI (sP (sP (sP M s 0 (s + 1)) s 1 (s + 2)) s 3 (s + 3)) s 4 1000) s 7 4000) (s + 4) 4 7) s 8 (s + 4)) s 1 = s + 2 := by
    rw [mP_ne (Or.inr (by decide)), mP_sL, mP_sI, mP_sI, mP_ne (Or.inr (by decide)), mP_at]
  have q3 : mP (sP (sL (sI (sI (sP (sP (sP M s 0 (s + 1)) s 1 (s + 2)) s 3 (s + 3)) s 4 1000) s 7 4000) (s + 4) 4 7) s 8 (s + 4)) s 3 = s + 3 := by
    rw [mP_ne (Or.inr (by decide)), mP_sL, mP_sI, mP_sI, mP_at]
  have q8 : mP (sP (sL (sI (sI (sP (sP (sP M s 0 (s + 1)) s 1 (s + 2)) s 3 (s + 3)) s 4 1000) s 7 4000) (s + 4) 4 7) s 8 (s + 4)) s 8 = s + 4 := mP_at _ _ _ _
  have qi : ∀ j, mI (sP (sL (sI (sI (sP (sP (sP M s 0 (s + 1)) s 1 (s + 2)) s 3 (s + 3)) s 4 1000) s 7 4000) (s + 4) 4 7) s 8 (s + 4)) s j = if j = 7 then 4000 else if j = 4 then 1000 else 0 := fun j => by
    rw [mI_sP, mI_sL]
    by_cases e7 : j = 7
    · rw [e7, mI_at]; rfl
    · rw [mI_ne (Or.inr e7), if_neg e7]
      by_cases e4 : j = 4
      · rw [e4, mI_at]; rfl
      · rw [mI_ne (Or.inr e4), if_neg e4]
        exact (hz s (Nat.le_refl _) j).1
  have ql : ∀ j, mL (sP (sL (sI (sI (sP (sP (sP M s 0 (s + 1)) s 1 (s + 2)) s 3 (s + 3)) s 4 1000) s 7 4000) (s + 4) 4 7) s 8 (s + 4)) (s + 4) j = if j = 4 then 7 else 0 := fun j => by
    rw [mL_sP]
    by_cases e4 : j = 4
    · rw [e4, mL_at]; rfl
    · rw [mL_ne (Or.inr e4), if_neg e4]
      exact (hz (s + 4) (by omega) j).2.1
  generalize sP (sL (sI (sI (sP (sP (sP M s 0 (s + 1)) s 1 (s + 2)) s 3 (s + 3)) s 4 1000) s 7 4000) (s + 4) 4 7) s 8 (s + 4) = Mh at *
  refine s_X5_b57 hb q0 q1 q3 z5 p5 (fun N f g1 g2 g3 z p => hq N (ff.tr (f.mono (fun a q => by show s ≤ a ∧ a < s + 39; omega))) ?_ ?_ z p)
  · have e := fun j => (f s (by omega) j).2.2
    exact ⟨⟨(e 0).trans q0, (e 1).trans q1, (e 3).trans q3, (e 8).trans q8⟩, fun i hi => (g1 i hi).1, fun t ht => ⟨(g3 t ht).1, by rw [(g3 t ht).2.1.1]; omega, by rw [(g3 t ht).2.1.2.1]; omega, by rw [(g3 t ht).2.1.2.2]; omega⟩, fun i hi => by rw [g2 i hi]; omega, fun i j hi hj => by rw [g2 i hi, g2 j hj]; omega⟩
  · have e := fun j => (f s (by omega) j).1
    have el := fun j => (f (s + 4) (by omega) j).2.1
    have c0 : cn row0 = 0 := by decide
    refine rep_g.mpr ⟨fun i fi hi hf => ?_, ⟨by rw [e, qi]; rfl, fun c fi hc => by omega⟩, fun t ht => ⟨fun fi hf => ?_, fun k hk => ?_⟩, ⟨by rw [e, qi]; rfl, by rw [e, qi]; rfl, by rw [e, qi]; rfl, by rw [e, qi]; rfl⟩, fun j hj => ?_, by rw [el, ql]; rfl⟩
    · rw [row0_S hi hf]; exact (g1 i hi).2 fi hf
    · rw [row0_T ht (by omega), row0_T ht (by omega), (g3 t ht).2.2 fi, (g3 t ht).2.2 (8 + fi)]
      rcases (show fi = 0 ∨ fi = 1 ∨ fi = 2 ∨ fi = 3 ∨ fi = 4 by omega) with rfl | rfl | rfl | rfl | rfl <;> decide
    · have : pn row0 t = 0 := by
        unfold pn
        rw [row0_T ht (by decide)]
        decide
      omega
    · rw [el, ql, if_neg (by omega)]
      rcases (show j = 0 ∨ j = 1 ∨ j = 2 ∨ j = 3 by omega) with rfl | rfl | rfl | rfl <;> rfl
