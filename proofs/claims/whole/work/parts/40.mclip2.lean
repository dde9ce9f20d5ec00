/-! The reference: addClip, trimClip, splitClip -/
theorem Tr.len {N : mw_M} {m m' : Nat} {T : Arr} {x : Int32} (h : Tr N m T) (hx : x = nI m') (hm : m' ≤ 13) : sm St N (sI N 247 6 x) ∧ Tr (sI N 247 6 x) m' T := by
  subst hx
  have s1 : sm St N (sI N 247 6 (nI m')) := sm.si (Or.inr (Or.inr ⟨rfl, rfl⟩))
  exact ⟨s1, s1.MK h.1, mI_at _ _ _ _, hm, fun c f hf => (mI_ne (Or.inl (by decide))).trans (h.2.2.2 c f hf)⟩
def nrow (t s a o l g : Int32) : Nat → Int32 := fun f => if f = 0 then t else if f = 1 then s else if f = 2 then a else if f = 3 then o else if f = 4 then l else if f = 5 then g else 0
def fAdd (t s a o l g : Int32) : Prop := isTr t ∧ isSrc s ∧ isPl a ∧ isPl o ∧ (1 ≤ l.toInt ∧ l.toInt ≤ 4000 - a.toInt) ∧ 0 ≤ g.toInt ∧ g.toInt ≤ 2000
theorem s_X8_addClip {M : mw_M} {k : Nat} {x1 x2 x3 x4 x5 x6 : Int32} {Q : mw_M → Int32 → Prop} (hI : IK M k) (hC : VC (nw M)) (h1 : ¬ fAdd x1 x2 x3 x4 x5 x6 → ∀ M1, sm S5t M M1 → mI M1 247 5 = 1 → Q M1 0) (h2 : fAdd x1 x2 x3 x4 x5 x6 → cn (nw M) = 12 → ∀ M1, sm S5t M M1 → mI M1 247 5 = 2 → Q M1 0) (h3 : fAdd x1 x2 x3 x4 x5 x6 → cn (nw M) ≠ 12 → ∀ T T' n, agr (cn (nw M)) T (rC (nw M)) → T' = upr T (cn (nw M)) (nrow x1 x2 x3 x4 x5 x6) → n = cntA T' (cn (nw M)) (cn (nw M) + 1) → (¬ fine (crry T' (cn (nw M)) n) (cn (nw M) + 1) → ∀ M1, sm S5t M M1 → mI M1 247 5 = 3 → Q M1 0) ∧ (fine (crry T' (cn (nw M)) n) (cn (nw M) + 1) → ∀ N, Ck M k N → nw N = tov (nw M) (cn (nw M) + 1) (crry T' (cn (nw M)) n) → Q N (nI n))) : w_X8_addClip 255 M 247 x1 x2 x3 x4 x5 x6 Q := by
  obtain ⟨e8, h12⟩ := hC.cn
  obtain ⟨i1, j1⟩ := ix_is (x := 8) (j := 8) rfl (by decide)
  have e8' : mI M 248 8 = nI (cn (nw M)) := e8
  have b93 : ∀ c, c = 1 ∨ c = 2 → (∀ M1, sm S5t M M1 → mI M1 247 5 = nI c → Q M1 0) → w_X8_addClip_b93 255 M (nI c) 247 Q := by
    intro c hc q
    unfold w_X8_addClip_b93 w_X8_addClip_b104
    exact ⟨is247, s_no1 (c := c) (by omega) (by omega) rfl (fun M1 s1 e1 => q M1 (s1.mono (fun a b q => Or.inl q)) e1)⟩
  have bad : ¬ fAdd x1 x2 x3 x4 x5 x6 → w_X8_addClip_b62 255 M 247 x1 x2 x3 x4 x5 x6 Q := by
    intro h
    unfold w_X8_addClip_b62 w_X8_addClip_b63 w_X8_addClip_b82
    exact ⟨fun _ => ⟨fun _ => b93 1 (Or.inl rfl) (h1 h), fun q => absurd rfl q⟩, fun q => absurd rfl q⟩
  have b63 : fAdd x1 x2 x3 x4 x5 x6 → w_X8_addClip_b63 255 M 247 x1 x2 x3 x4 x5 x6 1 Q := by
    intro h
    unfold w_X8_addClip_b63 w_X8_addClip_b82
    rw [hI.1.1, j1, e8', li 12, nI_eq (by omega) (by decide)]
    refine ⟨fun q => absurd q (by decide), fun _ => ⟨is247, is248, i1, fun h5 => ?_, fun h5 => ⟨fun q => absurd q (by decide), fun _ => b93 2 (Or.inr rfl) (h2 h h5)⟩⟩⟩
    refine s_X8_tries hI.1 hC (fun N T s0 t0 g0 => ?_)
    have h3 := h3 h h5 T _ _ g0 rfl rfl
    generalize cn (nw M) = m at *
    unfold w_X8_addClip_b112
    refine ⟨fun N1 z => ∃ k, z = nI k ∧ k ≤ 9 ∧ sm St N N1 ∧ Tr N1 m (fun i f => if i = m ∧ f < k then 0 else T i f), fun _ z => 9 - z.toInt.toNat, ⟨0, rfl, by decide, sm.rf, t0.c (fun c f _ => if_neg (by omega))⟩, ?_⟩
    rintro N1 _ ⟨k1, rfl, hk, s1, t1⟩
    rw [li 9, nI_leI (by decide) (by omega)]
    refine ⟨fun g => ⟨is247, ?_⟩, fun g => ⟨is247, ?_⟩⟩
    · have : k1 = 9 := by omega
      subst this
      have hm14 : m < 14 := by omega
      rw [t1.2.1]
      refine s_set t1 hm14 (f := 0) (by decide) rfl (fun Na sa ta => ?_)
      rw [ta.2.1]
      refine s_set ta hm14 (f := 1) (by decide) rfl (fun Nb sb tb => ?_)
      rw [tb.2.1]
      refine s_set tb hm14 (f := 2) (by decide) rfl (fun Nc sc tc => ?_)
      rw [tc.2.1]
      refine s_set tc hm14 (f := 3) (by decide) rfl (fun Nd sd td => ?_)
      rw [td.2.1]
      refine s_set td hm14 (f := 4) (by decide) rfl (fun Ne se te => ?_)
      rw [te.2.1]
      refine s_set te hm14 (f := 5) (by decide) rfl (fun Nf sf tf => ?_)
      rintro _ rfl
      rw [tf.2.1]
      obtain ⟨sg, tg⟩ := tf.len (x := nI m + 1) (nI_1 m) (by omega)
      have tg' : Tr (sI Nf 247 6 (nI m + 1)) (m + 1) (upr T m (nrow x1 x2 x3 x4 x5 x6)) := tg.c (fun i f hf => by
        unfold upr nrow up2
        by_cases e : i = m
        · subst e
          have hf9 : f = 0 ∨ f = 1 ∨ f = 2 ∨ f = 3 ∨ f = 4 ∨ f = 5 ∨ f = 6 ∨ f = 7 ∨ f = 8 := by omega
          rcases hf9 with rfl | rfl | rfl | rfl | rfl | rfl | rfl | rfl | rfl <;> simp
        · simp [e])
      have sz := ((((((((s0.tr s1).tr sa).tr sb).tr sc).tr sd).tr se).tr sf).tr sg)
      generalize sI Nf 247 6 (nI m + 1) = Ng at sz tg' ⊢
      rw [tg'.2.1, nI_pred]
      refine s_settles tg' (by omega) rfl (fun Nh sh th => ?_)
      generalize cntA (upr T m (nrow x1 x2 x3 x4 x5 x6)) m (m + 1) = n at *
      have b234 : ∀ c, (c = 0 ∨ c = 3) → (c ≠ 0 → ∀ M1, sm S5t M M1 → mI M1 247 5 = nI c → Q M1 0) → (c = 0 → ∀ N1, Ck M k N1 → nw N1 = tov (nw M) (m + 1) (crry (upr T m (nrow x1 x2 x3 x4 x5 x6)) m n) → Q N1 (nI n)) → w_X8_addClip_b234 255 Nh 247 (nI n) (nI c) 247 Q := by
        intro c hc q1 q0
        unfold w_X8_addClip_b234
        exact ⟨is247, s_tail hI (sz.tr sh) th (Or.inl (by omega)) (by omega) rfl q1 q0⟩
      exact s_isFine th ⟨fun e => b234 3 (Or.inr rfl) (fun _ => h3.1 (bl_0.mp e)) (fun q => absurd q (by decide)), fun e => b234 0 (Or.inl rfl) (fun q => absurd rfl q) (fun _ => h3.2 (Classical.not_not.mp (fun r => e (bl_0.mpr r))))⟩
    · rw [t1.2.1]
      refine s_set t1 (by omega) (f := k1) (by omega) rfl (fun N2 s2 t2 => ?_)
      rintro _ rfl
      refine ⟨⟨k1 + 1, nI_1 k1, by omega, s1.tr s2, t2.c (fun i f _ => ?_)⟩, mu_dec (by omega) (by decide)⟩
      try dsimp only [up2, upr, crry]
      repeat' split
      all_goals first | rfl | (exfalso; omega) | (congr 2 <;> omega)
  have o4 : (4000 : Int32).toInt = 4000 := rfl
  unfold w_X8_addClip
  refine s_X8_isTrack ⟨fun h => bad (fun q => bl_0.mp h q.1), fun g1 => s_X8_isSource ⟨fun h => bad (fun q => bl_0.mp h q.2.1), fun g2 => s_X8_isPlace ⟨fun h => bad (fun q => bl_0.mp h q.2.2.1), fun g3 => s_X8_isPlace ⟨fun h => bad (fun q => bl_0.mp h q.2.2.2.1), fun g4 => ?_⟩⟩⟩⟩
  rw [bl_0, Classical.not_not] at g1 g2 g3 g4
  have e4 : (Int32.toInt64 (4000 - x3)).toInt = 4000 - x3.toInt := by rw [ti_l, ti_sub (by rw [o4]; omega) (by rw [o4]; omega), o4]
  exact s_inc 1 (4000 - x3.toInt) rfl e4 (fun h => bad (fun q => h q.2.2.2.2.1)) (fun g5 => s_inc 0 2000 rfl rfl (fun h => bad (fun q => h q.2.2.2.2.2)) (fun g6 => b63 ⟨g1, g2, g3, g4, g5, g6⟩))
def fTrim (r : Nat → Int32) (fr bk : Int32) : Prop := 0 ≤ fr.toInt ∧ 0 ≤ bk.toInt ∧ fr.toInt + bk.toInt < (r 4).toInt ∧ (r 3).toInt + fr.toInt ≤ 3999
theorem s_X8_trimClip {M : mw_M} {k : Nat} {x1 x2 x3 : Int32} {Q : mw_M → Int32 → Prop} (hI : IK M k) (hC : VC (nw M)) (h1 : ¬ isCl (nw M) x1 → ∀ M1, sm S5t M M1 → mI M1 247 5 = 1 → Q M1 0) (h2 : isCl (nw M) x1 → ¬ fTrim (rC (nw M) (nx x1)) x2 x3 → ∀ M1, sm S5t M M1 → mI M1 247 5 = 2 → Q M1 0) (h3 : isCl (nw M) x1 → fTrim (rC (nw M) (nx x1)) x2 x3 → ∀ T T' n, agr (cn (nw M)) T (rC (nw M)) → T' = upr T (nx x1) (cut1 (T (nx x1)) x2 x3) → n = cntA T' (nx x1) (cn (nw M)) → (¬ fine (crry T' (nx x1) n) (cn (nw M)) → ∀ M1, sm S5t M M1 → mI M1 247 5 = 3 → Q M1 0) ∧ (fine (crry T' (nx x1) n) (cn (nw M)) → ∀ N, Ck M k N → nw N = tov (nw M) (cn (nw M)) (crry T' (nx x1) n) → Q N (rC (nw M) (nx x1) 4 - x2 - x3))) : w_X8_trimClip 255 M 247 x1 x2 x3 Q := by
  unfold w_X8_trimClip
  refine ⟨is247, s_X8_isClip hI.1 hC ⟨fun g => ?_, fun g => ?_⟩⟩
  · rw [bl_0, Classical.not_not] at g
    obtain ⟨ex, hcn, h12⟩ := cl_s hC g
    have hcn12 := hC.cn.2
    replace h2 := h2 g
    replace h3 := h3 g
    have hV := hC.2 _ hcn
    generalize nx x1 = c at *
    subst ex
    clear g h1
    refine s_X8_tries hI.1 hC (fun N T s1 t1 g1 => ?_)
    obtain ⟨-, -, ⟨a1, o1, o2⟩, ⟨l1, l2⟩, -⟩ := hV
    have bad : ¬ fTrim (rC (nw M) c) x2 x3 → w_X8_trimClip_b68 255 N 247 (nI c) x2 x3 Q := by
      intro h
      unfold w_X8_trimClip_b68 w_X8_trimClip_b69 w_X8_trimClip_b89
      exact ⟨fun q => absurd rfl q, fun _ => ⟨is247, s_no1 (c := 2) (by decide) (by decide) rfl (fun M1 s2 e1 => h2 h M1 ((s1.mono (fun a b q => Or.inr q)).tr (s2.mono (fun a b q => Or.inl q))) e1)⟩⟩
    have good : fTrim (rC (nw M) c) x2 x3 → w_X8_trimClip_b69 255 N 247 (nI c) x2 x3 1 Q := by
      intro h
      have h3 := h3 h T _ _ g1 rfl rfl
      unfold w_X8_trimClip_b69
      refine ⟨fun _ => ⟨is247, s_cuts t1 (by omega) rfl (fun N1 s2 t2 => ?_)⟩, fun q => absurd q (by decide)⟩
      refine s_of t2 (by omega) (f := 4) (by decide) rfl (s_settles t2 hcn rfl (fun N2 s3 t3 => ?_))
      have e4 : upr T c (cut1 (T c) x2 x3) c 4 = rC (nw M) c 4 - x2 - x3 := by
        unfold upr cut1
        rw [if_pos rfl, if_neg (by decide), if_neg (by decide), if_pos rfl, g1 c 4 hcn]
      rw [e4]
      generalize upr T c (cut1 (T c) x2 x3) = T' at *
      generalize cntA T' c (cn (nw M)) = n at *
      have b125 : ∀ cd, (cd = 0 ∨ cd = 3) → (cd ≠ 0 → ∀ M1, sm S5t M M1 → mI M1 247 5 = nI cd → Q M1 0) → (cd = 0 → ∀ N1, Ck M k N1 → nw N1 = tov (nw M) (cn (nw M)) (crry T' c n) → Q N1 (rC (nw M) c 4 - x2 - x3)) → w_X8_trimClip_b125 255 N2 247 (rC (nw M) c 4 - x2 - x3) (nI cd) 247 Q := by
        intro cd hc q1 q0
        unfold w_X8_trimClip_b125
        exact ⟨is247, s_tail hI ((s1.tr s2).tr s3) t3 (Or.inl hcn12) (by omega) rfl q1 q0⟩
      exact s_isFine t3 ⟨fun e => b125 3 (Or.inr rfl) (fun _ => h3.1 (bl_0.mp e)) (fun q => absurd q (by decide)), fun e => b125 0 (Or.inl rfl) (fun q => absurd rfl q) (fun _ => h3.2 (Classical.not_not.mp (fun r => e (bl_0.mpr r))))⟩
    have z0 : (0 : Int32).toInt = 0 := rfl
    rw [ti_lt, ti_lt, z0]
    have hb2 := ti_bound x2
    have hb3 := ti_bound x3
    refine ⟨fun g2 => bad (fun q => by have := q.1; omega), fun g2 => ⟨fun g3 => bad (fun q => by have := q.2.1; omega), fun g3 => s_of t1 (by omega) (f := 4) (by decide) rfl ?_⟩⟩
    rw [g1 c 4 hcn, tl_le, ti_l, tl_add (by rw [ti_l, ti_l]; omega) (by rw [ti_l, ti_l]; omega), ti_l, ti_l]
    refine ⟨fun g4 => bad (fun q => by have := q.2.2.1; omega), fun g4 => s_of t1 (by omega) (f := 3) (by decide) rfl ?_⟩
    rw [g1 c 3 hcn]
    have ea : (rC (nw M) c 3 + x2).toInt = (rC (nw M) c 3).toInt + x2.toInt := ti_add (by omega) (by omega)
    refine s_X8_isPlace ?_
    rw [ea]
    refine ⟨fun g5 => bad (fun q => bl_0.mp g5 ⟨by omega, q.2.2.2⟩), fun g5 => good ⟨by omega, by omega, by omega, ?_⟩⟩
    rw [bl_0, Classical.not_not] at g5
    exact g5.2
  · rw [bl_0] at g
    unfold w_X8_trimClip_b21
    exact s_no1 (c := 1) (by decide) (by decide) rfl (fun M1 s1 e1 => h1 g M1 (s1.mono (fun a b q => Or.inl q)) e1)
def fSplit (r : Nat → Int32) (p : Int32) : Prop := (r 2).toInt < p.toInt ∧ p.toInt < (r 2).toInt + (r 4).toInt ∧ (r 3).toInt + (p.toInt - (r 2).toInt) ≤ 3999
def zat (r : Nat → Int32) (f : Nat) : Nat → Int32 := fun g => if g = f then 0 else r g
/-- the two parts of clip c: itself and the last one -/
noncomputable def spl (T : Arr) (c m : Nat) (d : Int32) : Arr := upr (upr T m (zat (cut1 (T c) d 0) 6)) c (zat (cut1 (T c) 0 (T c 4 - d)) 7)
theorem s_X8_splitClip {M : mw_M} {k : Nat} {x1 x2 : Int32} {Q : mw_M → Int32 → Prop} (hI : IK M k) (hC : VC (nw M)) (h1 : ¬ isCl (nw M) x1 → ∀ M1, sm S5t M M1 → mI M1 247 5 = 1 → Q M1 0) (h2 : isCl (nw M) x1 → ¬ fSplit (rC (nw M) (nx x1)) x2 → ∀ M1, sm S5t M M1 → mI M1 247 5 = 2 → Q M1 0) (h3 : isCl (nw M) x1 → fSplit (rC (nw M) (nx x1)) x2 → cn (nw M) = 12 → ∀ M1, sm S5t M M1 → mI M1 247 5 = 3 → Q M1 0) (h4 : isCl (nw M) x1 → fSplit (rC (nw M) (nx x1)) x2 → cn (nw M) ≠ 12 → ∀ T T' n, agr (cn (nw M)) T (rC (nw M)) → T' = spl T (nx x1) (cn (nw M)) (x2 - rC (nw M) (nx x1) 2) → n = cntA T' (cn (nw M)) (cn (nw M) + 1) → (¬ fine (crry T' (cn (nw M)) n) (cn (nw M) + 1) → ∀ M1, sm S5t M M1 → mI M1 247 5 = 4 → Q M1 0) ∧ (fine (crry T' (cn (nw M)) n) (cn (nw M) + 1) → ∀ N, Ck M k N → nw N = tov (nw M) (cn (nw M) + 1) (crry T' (cn (nw M)) n) → Q N (nI n))) : w_X8_splitClip 255 M 247 x1 x2 Q := by
  unfold w_X8_splitClip
  refine ⟨is247, s_X8_isClip hI.1 hC ⟨fun g => ?_, fun g => ?_⟩⟩
  · rw [bl_0, Classical.not_not] at g
    obtain ⟨ex, hcn, h12⟩ := cl_s hC g
    have hcn12 := hC.cn.2
    replace h2 := h2 g
    replace h3 := h3 g
    replace h4 := h4 g
    have hV := hC.2 _ hcn
    generalize nx x1 = c at *
    subst ex
    clear g h1
    refine s_X8_tries hI.1 hC (fun N T s1 t1 g1 => ?_)
    obtain ⟨-, -, ⟨a1, o1, o2⟩, ⟨l1, l2⟩, -⟩ := hV
    have no : ∀ cd, (cd = 2 ∨ cd = 3) → (∀ M1, sm S5t M M1 → mI M1 247 5 = nI cd → Q M1 0) → w_X8_splitClip_b100 255 N (nI cd) 247 Q := by
      intro cd hc q
      unfold w_X8_splitClip_b100 w_X8_splitClip_b111
      exact ⟨is247, s_no1 (c := cd) (by omega) (by omega) rfl (fun M1 s2 e1 => q M1 ((s1.mono (fun a b q => Or.inr q)).tr (s2.mono (fun a b q => Or.inl q))) e1)⟩
    have bad : ¬ fSplit (rC (nw M) c) x2 → w_X8_splitClip_b72 255 N 247 (nI c) (x2 - rC (nw M) c 2) Q := by
      intro h
      unfold w_X8_splitClip_b72 w_X8_splitClip_b73 w_X8_splitClip_b89
      exact ⟨fun _ => ⟨fun _ => no 2 (Or.inl rfl) (h2 h), fun q => absurd rfl q⟩, fun q => absurd rfl q⟩
    have good : fSplit (rC (nw M) c) x2 → w_X8_splitClip_b73 255 N 247 (nI c) (x2 - rC (nw M) c 2) 1 Q := by
      intro h
      unfold w_X8_splitClip_b73 w_X8_splitClip_b89
      rw [t1.2.1, li 12, nI_eq (by omega) (by decide)]
      refine ⟨fun q => absurd q (by decide), fun _ => ⟨is247, fun h5 => s_of t1 (by omega) (f := 4) (by decide) rfl ?_, fun h5 => ⟨fun q => absurd q (by decide), fun _ => no 3 (Or.inr rfl) (h3 h h5)⟩⟩⟩
      rintro _ rfl
      have h4 := h4 h h5 T _ _ g1 rfl rfl
      generalize x2 - rC (nw M) c 2 = d at *
      generalize cn (nw M) = m at *
      refine s_shifts t1 (a := c) (b := m) (by omega) (by omega) rfl rfl (fun N1 s2 t2 _ => ?_)
      rintro _ rfl
      rw [t2.2.1]
      obtain ⟨s3, t3⟩ := t2.len (x := nI m + 1) (nI_1 m) (by omega)
      generalize sI N1 247 6 (nI m + 1) = N2 at s3 t3 ⊢
      rw [t3.2.1, nI_pred]
      refine s_cuts t3 (c := m) (by omega) rfl (fun N3 s4 t4 => ?_)
      rw [t4.2.1, nI_pred]
      refine s_set t4 (by omega) (f := 6) (by decide) rfl (fun N4 s5 t5 => ?_)
      refine s_cuts t5 (c := c) (by omega) rfl (fun N5 s6 t6 => s_set t6 (by omega) (f := 7) (by decide) rfl (fun N6 s7 t7 => ?_))
      have t8 : Tr N6 (m + 1) (spl T c m d) := t7.c (fun i f hf => by
        unfold spl upr zat up2 cut1
        have hne : ¬ c = m := by omega
        have hne2 : ¬ m = c := by omega
        by_cases e : i = c
        · subst e
          have hf9 : f = 0 ∨ f = 1 ∨ f = 2 ∨ f = 3 ∨ f = 4 ∨ f = 5 ∨ f = 6 ∨ f = 7 ∨ f = 8 := by omega
          rcases hf9 with rfl | rfl | rfl | rfl | rfl | rfl | rfl | rfl | rfl <;> simp [hne, hne2]
        · by_cases e2 : i = m
          · subst e2
            have hf9 : f = 0 ∨ f = 1 ∨ f = 2 ∨ f = 3 ∨ f = 4 ∨ f = 5 ∨ f = 6 ∨ f = 7 ∨ f = 8 := by omega
            rcases hf9 with rfl | rfl | rfl | rfl | rfl | rfl | rfl | rfl | rfl <;> simp [hne, hne2]
          · simp [e, e2])
      rw [t8.2.1, nI_pred]
      have sz := (((((s1.tr s2).tr s3).tr s4).tr s5).tr s6).tr s7
      refine s_settles t8 (by omega) rfl (fun N7 s9 t9 => ?_)
      generalize spl T c m d = T' at *
      generalize cntA T' m (m + 1) = n at *
      have b207 : ∀ cd, (cd = 0 ∨ cd = 4) → (cd ≠ 0 → ∀ M1, sm S5t M M1 → mI M1 247 5 = nI cd → Q M1 0) → (cd = 0 → ∀ N1, Ck M k N1 → nw N1 = tov (nw M) (m + 1) (crry T' m n) → Q N1 (nI n)) → w_X8_splitClip_b207 255 N7 247 (nI n) (nI cd) 247 Q := by
        intro cd hc q1 q0
        unfold w_X8_splitClip_b207
        exact ⟨is247, s_tail hI (sz.tr s9) t9 (Or.inl (by omega)) (by omega) rfl q1 q0⟩
      exact s_isFine t9 ⟨fun e => b207 4 (Or.inr rfl) (fun _ => h4.1 (bl_0.mp e)) (fun q => absurd q (by decide)), fun e => b207 0 (Or.inl rfl) (fun q => absurd rfl q) (fun _ => h4.2 (Classical.not_not.mp (fun r => e (bl_0.mpr r))))⟩
    refine s_of t1 (by omega) (f := 2) (by decide) rfl ?_
    rintro _ rfl
    have hb := ti_bound x2
    have ee : (rC (nw M) c 2 + rC (nw M) c 4).toInt = (rC (nw M) c 2).toInt + (rC (nw M) c 4).toInt := ti_add (by omega) (by omega)
    rw [g1 c 2 hcn]
    refine s_of t1 (by omega) (f := 2) (by decide) rfl ?_
    rw [g1 c 2 hcn]
    refine ⟨fun g2 => bad (fun q => by rw [ti_le] at g2; have := q.1; omega), fun g2 => s_endOf t1 (by omega) ?_⟩
    rw [g1 c 2 hcn, g1 c 4 hcn]
    refine ⟨fun g3 => bad (fun q => by rw [ti_le, ee] at g3; have := q.2.1; omega), fun g3 => s_of t1 (by omega) (f := 3) (by decide) rfl ?_⟩
    rw [ti_le] at g2
    rw [ti_le, ee] at g3
    rw [g1 c 3 hcn]
    have es : (x2 - rC (nw M) c 2).toInt = x2.toInt - (rC (nw M) c 2).toInt := ti_sub (by omega) (by omega)
    have ea : (rC (nw M) c 3 + (x2 - rC (nw M) c 2)).toInt = (rC (nw M) c 3).toInt + (x2.toInt - (rC (nw M) c 2).toInt) := by rw [ti_add (by rw [es]; omega) (by rw [es]; omega), es]
    refine s_X8_isPlace ?_
    rw [ea]
    refine ⟨fun g5 => bad (fun q => bl_0.mp g5 ⟨by omega, q.2.2⟩), fun g5 => good ⟨by omega, by omega, ?_⟩⟩
    rw [bl_0, Classical.not_not] at g5
    exact g5.2
  · rw [bl_0] at g
    unfold w_X8_splitClip_b21
    exact s_no1 (c := 1) (by decide) (by decide) rfl (fun M1 s1 e1 => h1 g M1 (s1.mono (fun a b q => Or.inl q)) e1)
