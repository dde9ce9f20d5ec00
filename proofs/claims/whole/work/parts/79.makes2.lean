/-! What the two constructors make, and the invariant at the law's start -/
/-- a duck's curve -/
def crv (N : mw_M) (a : Nat) : Prop := mP N a 0 = a + 1 ∧ mI N a 1 = 1 ∧ mI N (a + 1) 0 = 1000 ∧ mI N (a + 1) 1 = 1000
theorem crv_fo {S : Nat → Prop} {N N1 : mw_M} {a : Nat} (f : fo S N N1) (h1 : ¬ S a) (h2 : ¬ S (a + 1)) (h : crv N a) : crv N1 a := ⟨((f a h1 0).2.2).trans h.1, ((f a h1 1).1).trans h.2.1, ((f _ h2 0).1).trans h.2.2.1, ((f _ h2 1).1).trans h.2.2.2⟩
theorem s_X1_init {N : mw_M} {a : Nat} {Q : Nat → mw_M → Prop} (h0 : 0 < a) (h9 : a + 2 < 900) (t0 : Tg a = 1) (t1 : Tg (a + 1) = 10) (l1 : Ln (a + 1) = 101) (hz : zr N a) (hp : ptb N (a + 1)) (hq : ∀ N1, fo (fun b => a ≤ b ∧ b < a + 2) N N1 → crv N1 a → zr N1 (a + 2) → ptb N1 (a + 2) → Q (a + 2) N1) : w_X1_init (a + 1) N a Q := by
  unfold w_X1_init
  have z1 : zr N (a + 1) := hz.le (by omega)
  refine ⟨h0, fresh z1 hp t1 (by omega) (by omega), l1, by decide, by decide, Or.inl (by omega), isn t0 h0 (by omega), ?_⟩
  rintro _ rfl
  rintro _ rfl
  have e1 : mP (sI (sP N a 0 (a + 1)) a 1 1) a 0 = a + 1 := mP_at _ _ _ _
  rw [e1, l1]
  refine ⟨isn t1 (by omega) (by omega), vp_n (j := 0) (by decide) (by decide), ?_⟩
  rintro _ rfl
  have e2 : mP (sI (sI (sP N a 0 (a + 1)) a 1 1) (a + 1) (Int32.toNatClampNeg 0) 1000) a 0 = a + 1 := mP_at _ _ _ _
  rw [e2, l1]
  refine ⟨isn t1 (by omega) (by omega), vp_n (j := 1) (by decide) (by decide), ?_⟩
  rintro _ rfl
  have c0 : Int32.toNatClampNeg 0 = 0 := by decide
  have c1 : Int32.toNatClampNeg 1 = 1 := by decide
  rw [c0, c1]
  refine ⟨by decide, by decide, hq _ ((((fo.sp (S := fun b => a ≤ b ∧ b < a + 2) ⟨by omega, by omega⟩).tr (fo.si ⟨by omega, by omega⟩)).tr (fo.si ⟨by omega, by omega⟩)).tr (fo.si ⟨by omega, by omega⟩)) ⟨mP_at _ _ _ _, ?_, ?_, mI_at _ _ _ _⟩ (((((hz.le (by omega)).sp (by omega)).si (by omega)).si (by omega)).si (by omega)) ((((hp.le (by omega)).sp (by omega)).si).si).si⟩
  · rw [mI_ne (Or.inl (by omega)), mI_ne (Or.inl (by omega)), mI_at]
  · rw [mI_ne (Or.inr (by decide)), mI_at]
theorem s_X7_b85 {Mh : mw_M} {Q : Nat → mw_M → Prop} (h4 : mP Mh 1 4 = 81) (hz : zr Mh 239) (hp : ptb Mh 239) (hq : ∀ N, fo (fun a => a = 81 ∨ (239 ≤ a ∧ a < 247)) Mh N → (∀ t, t < 4 → mP N 81 t = 239 + 2 * t ∧ crv N (239 + 2 * t)) → zr N 247 → ptb N 247 → Q 247 N) : w_X7_init_b85 237 1907 239 Mh 1 0 Q := by
  unfold w_X7_init_b85
  refine ⟨fun k sl n N x => ∃ c, x = nI c ∧ c ≤ 4 ∧ k = 237 + 2 * c ∧ sl = 1907 + 103 * c ∧ n = 239 + 2 * c ∧ fo (fun a => a = 81 ∨ (239 ≤ a ∧ a < 247)) Mh N ∧ (∀ t, t < c → mP N 81 t = 239 + 2 * t ∧ crv N (239 + 2 * t)) ∧ zr N n ∧ ptb N n, fun _ _ _ _ x => 4 - x.toInt.toNat, ⟨0, rfl, by omega, rfl, rfl, rfl, fo.rf, fun t ht => absurd ht (Nat.not_lt_zero t), hz, hp⟩, ?_⟩
  rintro k sl n N _ ⟨c, rfl, hc, rfl, rfl, rfl, f, g, z, p⟩
  have e4 : mP N 1 4 = 81 := ((f 1 (by omega) 4).2.2).trans h4
  have lT : Ln 81 = 4 := by decide +kernel
  rw [e4, lT, nI_leI (by decide) (by omega)]
  refine ⟨isn (by decide +kernel) (by omega) (by omega), isn (by decide +kernel) (by omega) (by omega), fun hle => ?_, fun hlt => ?_⟩
  · have : c = 4 := by omega
    subst this
    exact ⟨by omega, by omega, hq N f g z p⟩
  · have hc4 : c < 4 := by omega
    have tt : Tg (239 + 2 * c) = 1 ∧ Tg (239 + 2 * c + 1) = 10 ∧ Ln (239 + 2 * c + 1) = 101 := by
      rcases (show c = 0 ∨ c = 1 ∨ c = 2 ∨ c = 3 by omega) with rfl | rfl | rfl | rfl <;> decide +kernel
    refine ⟨fresh z p tt.1 (by omega) (by omega), by omega, by omega, Or.inl (by omega), Or.inl (by omega), by omega, by omega, by omega, Or.inl (by omega), Or.inl (by omega), Or.inl (by omega), s_X1_init (by omega) (by omega) tt.1 tt.2.1 tt.2.2 z (p.le (by omega)) (fun N1 f1 tr1 z1 p1 => ?_)⟩
    refine ⟨isn (by decide +kernel) (by omega) (by omega), isn tt.1 (by omega) (by omega), vp_n hc4 (by decide), ?_⟩
    rintro _ rfl
    rintro _ rfl
    rw [nI_clamp (by omega), nI_suc]
    refine ⟨⟨c + 1, rfl, by omega, by omega, by omega, by omega, (f.tr (f1.mono (fun a q => Or.inr (by omega)))).tr (fo.sp (Or.inl rfl)), fun t ht => ?_, z1.sp (by omega), p1.sp (by omega)⟩, ?_⟩
    · have fs : fo (fun a => a = 81) N1 (sP N1 81 c (239 + 2 * c)) := fo.sp rfl
      by_cases e : t = c
      · rw [e, mP_at]
        exact ⟨rfl, crv_fo fs (by omega) (by omega) tr1⟩
      · obtain ⟨g1, g2⟩ := g t (by omega)
        rw [mP_ne (Or.inr e), (f1 81 (by omega) t).2.2]
        exact ⟨g1, crv_fo fs (by omega) (by omega) (crv_fo f1 (by omega) (by omega) g2)⟩
    · rw [← nI_suc]
      exact mu_dec hc4 (by decide)
/-- a state as it is made -/
def nsx (N : mw_M) (s : Nat) : Prop := sk N s ∧ rep N s row0 7
theorem nsx_fo {S : Nat → Prop} {N N1 : mw_M} {s : Nat} (f : fo S N N1) (hs : ∀ a, blk s a → ¬ S a) (h : nsx N s) : nsx N1 s := ⟨sk_fo f hs h.1, rep_fo f hs h.1 row0_V.2.1 row0_V.2.2.1 h.2⟩
theorem bsv (c : Nat) (hc : c < 4) : bs (83 + 39 * c) := by
  unfold bs
  omega
theorem s_X7_b55 {Mh : mw_M} {Q : Nat → mw_M → Prop} (h2 : mP Mh 1 2 = 80) (h4 : mP Mh 1 4 = 81) (hz : zr Mh 83) (hp : ptb Mh 83) (hq : ∀ N, fo (fun a => a = 80 ∨ a = 81 ∨ (83 ≤ a ∧ a < 247)) Mh N → (∀ i, i < 4 → mP N 80 i = 83 + 39 * i ∧ nsx N (83 + 39 * i)) → (∀ t, t < 4 → mP N 81 t = 239 + 2 * t ∧ crv N (239 + 2 * t)) → zr N 247 → ptb N 247 → Q 247 N) : w_X7_init_b55 81 643 83 Mh 1 0 Q := by
  unfold w_X7_init_b55
  refine ⟨fun k sl n N x => ∃ c, x = nI c ∧ c ≤ 4 ∧ k = 81 + 39 * c ∧ sl = 643 + 316 * c ∧ n = 83 + 39 * c ∧ fo (fun a => a = 80 ∨ (83 ≤ a ∧ a < 239)) Mh N ∧ (∀ i, i < c → mP N 80 i = 83 + 39 * i ∧ nsx N (83 + 39 * i)) ∧ zr N n ∧ ptb N n, fun _ _ _ _ x => 4 - x.toInt.toNat, ⟨0, rfl, by omega, rfl, rfl, rfl, fo.rf, fun t ht => absurd ht (Nat.not_lt_zero t), hz, hp⟩, ?_⟩
  rintro k sl n N _ ⟨c, rfl, hc, rfl, rfl, rfl, f, g, z, p⟩
  have e2 : mP N 1 2 = 80 := ((f 1 (by omega) 2).2.2).trans h2
  have lT : Ln 80 = 4 := by decide +kernel
  rw [e2, lT, nI_leI (by decide) (by omega)]
  refine ⟨isn (by decide +kernel) (by omega) (by omega), isn (by decide +kernel) (by omega) (by omega), fun hle => ?_, fun hlt => ?_⟩
  · have : c = 4 := by omega
    subst this
    exact s_X7_b85 (((f 1 (by omega) 4).2.2).trans h4) z p (fun N2 f2 g2 z2 p2 => hq N2 ((f.mono (fun a q => by omega)).tr (f2.mono (fun a q => by omega))) (fun i hi => ⟨((f2 80 (by omega) i).2.2).trans (g i hi).1, nsx_fo f2 (fun a ha => by have := (bs_nb (bsv i hi) ha); omega) (g i hi).2⟩) g2 z2 p2)
  · have hc4 : c < 4 := by omega
    have hb := bsv c hc4
    have t0 : Tg (83 + 39 * c) = 5 := bs_T (i := 0) hb (by decide)
    refine ⟨fresh z p t0 (by omega) (by omega), by omega, by omega, Or.inl (by omega), Or.inl (by omega), by omega, by omega, by omega, Or.inl (by omega), Or.inl (by omega), Or.inl (by omega), s_X5_init hb z (p.le (by omega)) (fun N1 f1 k1 r1 z1 p1 => ?_)⟩
    refine ⟨isn (by decide +kernel) (by omega) (by omega), isn t0 (by omega) (by omega), vp_n hc4 (by decide), ?_⟩
    rintro _ rfl
    rintro _ rfl
    rw [nI_clamp (by omega), nI_suc]
    refine ⟨⟨c + 1, rfl, by omega, by omega, by omega, by omega, (f.tr (f1.mono (fun a q => Or.inr (by obtain ⟨q1, q2⟩ := q; omega)))).tr (fo.sp (Or.inl rfl)), fun t ht => ?_, z1.sp (by omega), p1.sp (by omega)⟩, ?_⟩
    · have fs : fo (fun a => a = 80) N1 (sP N1 80 c (83 + 39 * c)) := fo.sp rfl
      by_cases e : t = c
      · rw [e, mP_at]
        exact ⟨rfl, nsx_fo fs (fun a ha => (bs_nb hb ha).2.1) ⟨k1, r1⟩⟩
      · obtain ⟨g1, g2⟩ := g t (by omega)
        rw [mP_ne (Or.inr e), (f1 80 (fun q => by obtain ⟨q1, q2⟩ := q; omega) t).2.2]
        have hbt := bsv t (by omega)
        exact ⟨g1, nsx_fo fs (fun a ha => (bs_nb hbt ha).2.1) (nsx_fo f1 (fun a ha q => by obtain ⟨q1, q2⟩ := q; obtain ⟨q3, q4⟩ := ha; omega) g2)⟩
    · rw [← nI_suc]
      exact mu_dec hc4 (by decide)
def bq (i : Nat) : Nat := if i = 0 then 2 else if i = 1 then 41 else 83 + 39 * (i - 2)
/-- the class as it is made -/
def CF0 (N : mw_M) : Prop := CF N bq 0 row0 7 (fun _ => row0) (fun _ => 7)
theorem s_X7_init {M : mw_M} {Q : Nat → mw_M → Prop} (hz : zr M 1) (hp : ptb M 2) (hq : ∀ N, CF0 N → zr N 247 → ptb N 247 → Q 247 N) : w_X7_init 2 M 1 Q := by
  have b2 : bs 2 := Or.inl rfl
  have b41 : bs 41 := Or.inr (Or.inl rfl)
  unfold w_X7_init
  refine ⟨by decide, fresh (hz.le (by decide)) hp (bs_T (i := 0) b2 (by decide)) (by decide) (by decide), by decide, by decide, Or.inl (by decide), by decide, by decide, by decide, Or.inl (by decide), Or.inl (by decide), s_X5_init b2 (hz.le (by decide)) (hp.le (by decide)) (fun N f1 k1 r1 z1 p1 => ?_)⟩
  refine ⟨isn (by decide +kernel) (by decide) (by decide), ?_⟩
  rintro _ rfl
  have z2 : zr (sP N 1 0 2) 41 := z1.sp (by decide)
  have p2 : ptb (sP N 1 0 2) 41 := p1.sp (by decide)
  refine ⟨fresh z2 p2 (bs_T (i := 0) b41 (by decide)) (by decide) (by decide), by decide, by decide, Or.inl (by decide), by decide, by decide, by decide, Or.inl (by decide), Or.inl (by decide), s_X5_init b41 z2 (p2.le (by decide)) (fun N2 f2 k2 r2 z3 p3 => ?_)⟩
  refine ⟨isn (by decide +kernel) (by decide) (by decide), ?_⟩
  rintro _ rfl
  have z4 : zr (sP N2 1 1 41) 80 := z3.sp (by decide)
  have p4 : ptb (sP N2 1 1 41) 80 := p3.sp (by decide)
  refine ⟨fresh z4 p4 (by decide +kernel) (by decide) (by decide), by decide +kernel, by decide, by decide, Or.inl (by decide), isn (by decide +kernel) (by decide) (by decide), ?_⟩
  rintro _ rfl
  have z5 : zr (sP (sP N2 1 1 41) 1 2 80) 81 := (z4.le (by decide)).sp (by decide)
  have p5 : ptb (sP (sP N2 1 1 41) 1 2 80) 81 := (p4.le (by decide)).sp (by decide)
  refine ⟨fresh z5 p5 (by decide +kernel) (by decide) (by decide), by decide +kernel, by decide, by decide, Or.inl (by decide), isn (by decide +kernel) (by decide) (by decide), ?_⟩
  rintro _ rfl
  have z6 : zr (sP (sP (sP N2 1 1 41) 1 2 80) 1 4 81) 82 := (z5.le (by decide)).sp (by decide)
  have p6 : ptb (sP (sP (sP N2 1 1 41) 1 2 80) 1 4 81) 82 := (p5.le (by decide)).sp (by decide)
  refine ⟨fresh z6 p6 (by decide +kernel) (by decide) (by decide), by decide, by decide, Or.inl (by decide), ?_⟩
  rintro _ rfl
  refine ⟨by decide, by decide, by decide, ?_⟩
  unfold w_X2_init
  refine ⟨by decide, isn (by decide +kernel) (by decide) (by decide), ?_⟩
  rintro _ rfl
  have z7 : zr (sP (sP (sP (sP N2 1 1 41) 1 2 80) 1 4 81) 1 5 82) 83 := (z6.le (by decide)).sp (by decide)
  have p7 : ptb (sP (sP (sP (sP N2 1 1 41) 1 2 80) 1 4 81) 1 5 82) 83 := (p6.le (by decide)).sp (by decide)
  have fA : fo (fun a => a = 1) N2 (sP (sP (sP (sP N2 1 1 41) 1 2 80) 1 4 81) 1 5 82) := (((fo.sp (S := fun a => a = 1) rfl).tr (fo.sp rfl)).tr (fo.sp rfl)).tr (fo.sp rfl)
  have fB : fo (fun a => a = 1) N (sP N 1 0 2) := fo.sp rfl
  have q0 : mP (sP (sP (sP (sP N2 1 1 41) 1 2 80) 1 4 81) 1 5 82) 1 0 = 2 := by
    rw [mP_ne (Or.inr (by decide)), mP_ne (Or.inr (by decide)), mP_ne (Or.inr (by decide)), mP_ne (Or.inr (by decide)), (f2 1 (fun q => absurd q.1 (by decide)) 0).2.2, mP_at]
  have q1 : mP (sP (sP (sP (sP N2 1 1 41) 1 2 80) 1 4 81) 1 5 82) 1 1 = 41 := by
    rw [mP_ne (Or.inr (by decide)), mP_ne (Or.inr (by decide)), mP_ne (Or.inr (by decide)), mP_at]
  have q2 : mP (sP (sP (sP (sP N2 1 1 41) 1 2 80) 1 4 81) 1 5 82) 1 2 = 80 := by
    rw [mP_ne (Or.inr (by decide)), mP_ne (Or.inr (by decide)), mP_at]
  have q4 : mP (sP (sP (sP (sP N2 1 1 41) 1 2 80) 1 4 81) 1 5 82) 1 4 = 81 := by
    rw [mP_ne (Or.inr (by decide)), mP_at]
  have q5 : mP (sP (sP (sP (sP N2 1 1 41) 1 2 80) 1 4 81) 1 5 82) 1 5 = 82 := mP_at _ _ _ _
  have q3 : mI (sP (sP (sP (sP N2 1 1 41) 1 2 80) 1 4 81) 1 5 82) 1 3 = 0 := by
    show mI N2 1 3 = 0
    rw [(f2 1 (fun q => absurd q.1 (by decide)) 3).1]
    show mI N 1 3 = 0
    rw [(f1 1 (fun q => absurd q.1 (by decide)) 3).1]
    exact (hz 1 (by decide) 3).1
  have n2 : nsx (sP (sP (sP (sP N2 1 1 41) 1 2 80) 1 4 81) 1 5 82) 2 := nsx_fo fA (fun a ha => (bs_nb b2 ha).1) (nsx_fo f2 (fun a ha q => by obtain ⟨q1, q2⟩ := q; obtain ⟨q3, q4⟩ := ha; omega) (nsx_fo fB (fun a ha => (bs_nb b2 ha).1) ⟨k1, r1⟩))
  have n41 : nsx (sP (sP (sP (sP N2 1 1 41) 1 2 80) 1 4 81) 1 5 82) 41 := nsx_fo fA (fun a ha => (bs_nb b41 ha).1) ⟨k2, r2⟩
  generalize sP (sP (sP (sP N2 1 1 41) 1 2 80) 1 4 81) 1 5 82 = Mh at *
  refine s_X7_b55 q2 q4 z7 p7 (fun O f g1 g2 z p => hq O ?_ z p)
  have hf : ∀ a, a < 80 → ¬ (a = 80 ∨ a = 81 ∨ (83 ≤ a ∧ a < 247)) := fun a ha => by omega
  have e := fun j => (f 1 (by omega) j).2.2
  have hst : ∀ i, i < 6 → bs (bq i) ∧ nsx O (bq i) := fun i hi => by
    unfold bq
    by_cases e0 : i = 0
    · rw [if_pos e0]
      exact ⟨b2, nsx_fo f (fun a ha => hf a (by obtain ⟨_, q⟩ := ha; omega)) n2⟩
    · rw [if_neg e0]
      by_cases e1 : i = 1
      · rw [if_pos e1]
        exact ⟨b41, nsx_fo f (fun a ha => hf a (by obtain ⟨_, q⟩ := ha; omega)) n41⟩
      · rw [if_neg e1]
        exact ⟨bsv (i - 2) (by omega), (g1 (i - 2) (by omega)).2⟩
  refine ⟨⟨⟨(e 0).trans q0, (e 1).trans q1, (e 2).trans q2, (e 5).trans q5, fun i hi => (g1 i hi).1.trans ?_⟩, ⟨(e 4).trans q4, fun t ht => ⟨(g2 t ht).1, ?_⟩⟩, ⟨((f 1 (by omega) 3).1).trans q3, by decide⟩, fun i hi => ⟨(hst i hi).1, (hst i hi).2.1⟩, fun i j hi hj => ?_⟩, ⟨⟨(hst 0 (by decide)).2.2, row0_V⟩, fun i hi => absurd hi (Nat.not_lt_zero i)⟩, fun t ht => ?_⟩
  · unfold bq
    rw [if_neg (by omega), if_neg (by omega), show 2 + i - 2 = i by omega]
  · rw [(g2 t ht).2.1]; omega
  · unfold bq
    (repeat' split) <;> omega
  · obtain ⟨c1, c2, c3, c4⟩ := (g2 t ht).2
    rw [show 239 + 2 * t + 1 = 240 + 2 * t by omega] at c3 c4
    refine ⟨1, by decide, by decide, c2, c3, c4, fun hne => ?_⟩
    rw [row0_T ht (by decide)] at hne
    exact absurd rfl hne
