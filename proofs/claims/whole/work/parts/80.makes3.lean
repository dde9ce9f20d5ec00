/-! What the reference's constructor makes; the invariant at the law's start -/
theorem rowP_a (c : Nat) (hc : c < 6) : up (up (rowP c 0) (9 + 4 * c + 2) 1) (9 + 4 * c + 3) 4000 = rowP (c + 1) 0 := by
  funext j
  unfold up rowP
  by_cases e3 : j = 9 + 4 * c + 3
  · rw [if_pos e3, if_neg (by omega), if_neg (by omega), if_pos (by omega), if_neg (by omega), if_pos (by omega)]
  · rw [if_neg e3]
    by_cases e2 : j = 9 + 4 * c + 2
    · rw [if_pos e2, if_neg (by omega), if_neg (by omega), if_pos (by omega), if_pos (by omega)]
    · rw [if_neg e2]
      by_cases g2 : j = 2
      · rw [if_pos g2, if_pos g2]
      · rw [if_neg g2, if_neg g2]
        by_cases g3 : j = 3
        · rw [if_pos g3, if_pos g3]
        · rw [if_neg g3, if_neg g3]
          by_cases h : 9 ≤ j ∧ j < 9 + 4 * c
          · rw [if_pos h, if_pos (show 9 ≤ j ∧ j < 9 + 4 * (c + 1) by omega)]
          · rw [if_neg h, if_neg (by omega)]
            by_cases h2 : 9 ≤ j ∧ j < 9 + 4 * (c + 1)
            · rw [if_pos h2, if_neg (by omega), if_neg (by omega)]
            · rw [if_neg h2]
theorem rowP_b (c : Nat) (hc : c < 4) : up (up (rowP 6 c) (141 + 34 * c) 1000) (141 + 34 * c + 29) (-1) = rowP 6 (c + 1) := by
  funext j
  unfold up rowP
  by_cases e3 : j = 141 + 34 * c + 29
  · rw [if_pos e3, if_neg (by omega), if_neg (by omega), if_neg (by omega), if_pos (by omega), if_neg (by omega), if_pos (by omega)]
  · rw [if_neg e3]
    by_cases e2 : j = 141 + 34 * c
    · rw [if_pos e2, if_neg (by omega), if_neg (by omega), if_neg (by omega), if_pos (by omega), if_pos (by omega)]
    · rw [if_neg e2]
      by_cases g2 : j = 2
      · rw [if_pos g2, if_pos g2]
      · rw [if_neg g2, if_neg g2]
        by_cases g3 : j = 3
        · rw [if_pos g3, if_pos g3]
        · rw [if_neg g3, if_neg g3]
          by_cases h : 9 ≤ j ∧ j < 9 + 4 * 6
          · rw [if_pos h, if_pos h]
          · rw [if_neg h, if_neg h]
            by_cases h2 : 141 ≤ j ∧ j < 141 + 34 * c
            · rw [if_pos h2, if_pos (show 141 ≤ j ∧ j < 141 + 34 * (c + 1) by omega)]
            · rw [if_neg h2]
              by_cases h3 : 141 ≤ j ∧ j < 141 + 34 * (c + 1)
              · rw [if_pos h3, if_neg (by omega), if_neg (by omega)]
              · rw [if_neg h3]
theorem ln248 : Ln 248 = 277 := by decide +kernel
theorem tg247 : Tg 247 = 8 ∧ Tg 248 = 10 ∧ Tg 249 = 10 ∧ Tg 250 = 11 ∧ Tg 251 = 10 ∧ Tg 252 = 10 ∧ Tg 253 = 10 ∧ Tg 254 = 11 := by decide +kernel
theorem ln247 : Ln 249 = 1108 ∧ Ln 250 = 4 ∧ Ln 251 = 126 ∧ Ln 252 = 9 ∧ Ln 253 = 400 := by decide +kernel
def S248 : Nat → Nat → Prop := fun a _ => a = 248
theorem s_X8_b125 {Mh : mw_M} {Q : Nat → mw_M → Prop} (h0 : mP Mh 247 0 = 248) (hr : nw Mh = rowP 6 0) (hq : ∀ N, sm S248 Mh N → nw N = row0 → Q 254 N) : w_X8_init_b125 6 1924 254 Mh 247 0 Q := by
  unfold w_X8_init_b125
  refine ⟨fun k sl n N x => ∃ c, x = nI c ∧ c ≤ 4 ∧ k = 6 ∧ sl = 1924 ∧ n = 254 ∧ sm S248 Mh N ∧ nw N = rowP 6 c, fun _ _ _ _ x => 4 - x.toInt.toNat, ⟨0, rfl, by omega, rfl, rfl, rfl, sm.rf, hr⟩, ?_⟩
  rintro k sl n N _ ⟨c, rfl, hc, rfl, rfl, rfl, f, g⟩
  rw [li 4, nI_leI (by decide) (by omega)]
  refine ⟨fun hle => ?_, fun hlt => ?_⟩
  · have : c = 4 := by omega
    subst this
    exact ⟨by decide, by decide, hq N f g⟩
  · have hc4 : c < 4 := by omega
    have e0 : mP N 247 0 = 248 := (f.1 247 0).trans h0
    unfold w_X8_trackAt
    have ex : (141 : Int32) + 34 * nI c = nI (141 + 34 * c) := by rw [li 141, li 34, pk_mul, nI_add]
    refine ⟨isn tg247.1 (by decide) (by decide), by decide, by decide, ?_⟩
    rw [ex, e0, ln248]
    refine ⟨isn tg247.2.1 (by decide) (by decide), vp_n (by omega) (by decide), ?_⟩
    rintro _ rfl
    rw [nI_clamp (by omega)]
    have e1 : mP (sI N 248 (141 + 34 * c) 1000) 247 0 = 248 := e0
    rw [e1, ln248, li 29, nI_add]
    refine ⟨isn tg247.2.1 (by decide) (by decide), vp_n (by omega) (by decide), ?_⟩
    rintro _ rfl
    rintro _ rfl
    rw [nI_clamp (by omega), nI_suc]
    refine ⟨⟨c + 1, rfl, by omega, rfl, rfl, rfl, (f.tr (sm.si (S := S248) rfl)).tr (sm.si (S := S248) rfl), ?_⟩, ?_⟩
    · rw [nw_sI, nw_sI, g]
      exact rowP_b c hc4
    · rw [← nI_suc]
      exact mu_dec hc4 (by decide)
theorem s_X8_b81 {Mh : mw_M} {Q : Nat → mw_M → Prop} (h0 : mP Mh 247 0 = 248) (hr : nw Mh = rowP 0 0) (hq : ∀ N, sm S248 Mh N → nw N = row0 → Q 254 N) : w_X8_init_b81 6 1924 254 Mh 247 0 Q := by
  unfold w_X8_init_b81
  refine ⟨fun k sl n N x => ∃ c, x = nI c ∧ c ≤ 6 ∧ k = 6 ∧ sl = 1924 ∧ n = 254 ∧ sm S248 Mh N ∧ nw N = rowP c 0, fun _ _ _ _ x => 6 - x.toInt.toNat, ⟨0, rfl, by omega, rfl, rfl, rfl, sm.rf, hr⟩, ?_⟩
  rintro k sl n N _ ⟨c, rfl, hc, rfl, rfl, rfl, f, g⟩
  have e0 : mP N 247 0 = 248 := (f.1 247 0).trans h0
  rw [li 6, nI_leI (by decide) (by omega)]
  refine ⟨fun hle => ?_, fun hlt => ?_⟩
  · have : c = 6 := by omega
    subst this
    exact s_X8_b125 e0 g (fun N2 f2 g2 => hq N2 (f.tr f2) g2)
  · have hc4 : c < 6 := by omega
    have ex : ((9 : Int32) + 4 * nI c) + 2 = nI (9 + 4 * c + 2) := by rw [li 9, li 4, li 2, pk_mul, nI_add, nI_add]
    have ey : ((9 : Int32) + 4 * nI c) + 3 = nI (9 + 4 * c + 3) := by rw [li 9, li 4, li 3, pk_mul, nI_add, nI_add]
    rw [ex, ey, e0, ln248]
    refine ⟨isn tg247.1 (by decide) (by decide), isn tg247.2.1 (by decide) (by decide), vp_n (by omega) (by decide), ?_⟩
    rintro _ rfl
    rw [nI_clamp (by omega)]
    have e1 : mP (sI N 248 (9 + 4 * c + 2) 1) 247 0 = 248 := e0
    rw [e1, ln248]
    refine ⟨isn tg247.2.1 (by decide) (by decide), vp_n (by omega) (by decide), ?_⟩
    rintro _ rfl
    rintro _ rfl
    rw [nI_clamp (by omega), nI_suc]
    refine ⟨⟨c + 1, rfl, by omega, rfl, rfl, rfl, (f.tr (sm.si (S := S248) rfl)).tr (sm.si (S := S248) rfl), ?_⟩, ?_⟩
    · rw [nw_sI, nw_sI, g]
      exact rowP_a c hc4
    · rw [← nI_suc]
      exact mu_dec hc4 (by decide)
theorem rowP_0 : up (up (fun _ => (0 : Int32)) 2 4000) 3 1000 = rowP 0 0 := by
  funext j
  unfold up rowP
  by_cases g3 : j = 3
  · rw [if_pos g3, if_neg (by omega), if_pos g3]
  · rw [if_neg g3]
    by_cases g2 : j = 2
    · rw [if_pos g2, if_pos g2]
    · rw [if_neg g2, if_neg g2, if_neg g3, if_neg (by omega), if_neg (by omega)]
theorem s_X8_init {M : mw_M} {Q : Nat → mw_M → Prop} (hz : zr M 247) (hp : ptb M 248) (hq : ∀ N, fo T8 M N → MK N → nw N = row0 → mL N 247 1 = 7 → mI N 247 4 = 0 → zr N 254 → ptb N 254 → Q 254 N) : w_X8_init 248 M 247 Q := by
  obtain ⟨t7, t8, t9, ta, tb, tc, td, -⟩ := tg247
  obtain ⟨l9, la, lb, lc, ld⟩ := ln247
  have i7 : ∀ n, 247 < n → mw_is n 247 8 := fun n hn => isn t7 (by decide) hn
  unfold w_X8_init
  refine ⟨by decide, fresh (hz.le (by decide)) hp t8 (by decide) (by decide), ln248, by decide, by decide, Or.inl (by decide), i7 _ (by decide), ?_⟩
  rintro _ rfl
  rintro _ rfl
  have p1 : ptb (sL (sP M 247 0 248) 247 1 7) 249 := ((hp.le (by decide)).sp (by decide)).sl
  have z1 : zr (sL (sP M 247 0 248) 247 1 7) 248 := ((hz.le (by decide)).sp (by decide)).sl (by decide)
  refine ⟨fresh (z1.le (by decide)) p1 t9 (by decide) (by decide), l9, by decide, by decide, Or.inl (by decide), i7 _ (by decide), ?_⟩
  rintro _ rfl
  have p2 : ptb (sP (sL (sP M 247 0 248) 247 1 7) 247 2 249) 250 := (p1.le (by decide)).sp (by decide)
  have z2 : zr (sP (sL (sP M 247 0 248) 247 1 7) 247 2 249) 248 := z1.sp (by decide)
  refine ⟨fresh (z2.le (by decide)) p2 ta (by decide) (by decide), la, by decide, by decide, Or.inl (by decide), i7 _ (by decide), ?_⟩
  rintro _ rfl
  have p3 : ptb (sP (sP (sL (sP M 247 0 248) 247 1 7) 247 2 249) 247 3 250) 251 := (p2.le (by decide)).sp (by decide)
  have z3 : zr (sP (sP (sL (sP M 247 0 248) 247 1 7) 247 2 249) 247 3 250) 248 := z2.sp (by decide)
  refine ⟨fresh (z3.le (by decide)) p3 tb (by decide) (by decide), lb, by decide, by decide, Or.inl (by decide), i7 _ (by decide), ?_⟩
  rintro _ rfl
  have p4 : ptb (sP (sP (sP (sL (sP M 247 0 248) 247 1 7) 247 2 249) 247 3 250) 247 7 251) 252 := (p3.le (by decide)).sp (by decide)
  have z4 : zr (sP (sP (sP (sL (sP M 247 0 248) 247 1 7) 247 2 249) 247 3 250) 247 7 251) 248 := z3.sp (by decide)
  refine ⟨fresh (z4.le (by decide)) p4 tc (by decide) (by decide), lc, by decide, by decide, Or.inl (by decide), i7 _ (by decide), ?_⟩
  rintro _ rfl
  have p5 : ptb (sP (sP (sP (sP (sL (sP M 247 0 248) 247 1 7) 247 2 249) 247 3 250) 247 7 251) 247 8 252) 253 := (p4.le (by decide)).sp (by decide)
  have z5 : zr (sP (sP (sP (sP (sL (sP M 247 0 248) 247 1 7) 247 2 249) 247 3 250) 247 7 251) 247 8 252) 248 := z4.sp (by decide)
  refine ⟨fresh (z5.le (by decide)) p5 td (by decide) (by decide), ld, by decide, by decide, Or.inl (by decide), i7 _ (by decide), ?_⟩
  rintro _ rfl
  have p6 : ptb (sP (sP (sP (sP (sP (sL (sP M 247 0 248) 247 1 7) 247 2 249) 247 3 250) 247 7 251) 247 8 252) 247 9 253) 254 := (p5.le (by decide)).sp (by decide)
  have z6 : zr (sP (sP (sP (sP (sP (sL (sP M 247 0 248) 247 1 7) 247 2 249) 247 3 250) 247 7 251) 247 8 252) 247 9 253) 248 := z5.sp (by decide)
  have k6 : MK (sP (sP (sP (sP (sP (sL (sP M 247 0 248) 247 1 7) 247 2 249) 247 3 250) 247 7 251) 247 8 252) 247 9 253) := ⟨rfl, rfl, rfl, rfl, rfl, rfl⟩
  have f6 : fo T8 M (sP (sP (sP (sP (sP (sL (sP M 247 0 248) 247 1 7) 247 2 249) 247 3 250) 247 7 251) 247 8 252) 247 9 253) := by
    have t : T8 247 := Nat.le_refl _
    exact ((((((fo.sp t).tr (fo.sl t)).tr (fo.sp t)).tr (fo.sp t)).tr (fo.sp t)).tr (fo.sp t)).tr (fo.sp t)
  have sum : mL (sP (sP (sP (sP (sP (sL (sP M 247 0 248) 247 1 7) 247 2 249) 247 3 250) 247 7 251) 247 8 252) 247 9 253) 247 1 = 7 := rfl
  have cnt : mI (sP (sP (sP (sP (sP (sL (sP M 247 0 248) 247 1 7) 247 2 249) 247 3 250) 247 7 251) 247 8 252) 247 9 253) 247 4 = 0 := (hz 247 (Nat.le_refl _) 4).1
  generalize sP (sP (sP (sP (sP (sL (sP M 247 0 248) 247 1 7) 247 2 249) 247 3 250) 247 7 251) 247 8 252) 247 9 253 = N at *
  have e0 : mP N 247 0 = 248 := k6.1
  have c2 : Int32.toNatClampNeg 2 = 2 := by decide
  have c3 : Int32.toNatClampNeg 3 = 3 := by decide
  rw [e0, ln248, c2]
  refine ⟨isn t8 (by decide) (by decide), vp_n (j := 2) (by decide) (by decide), ?_⟩
  rintro _ rfl
  have e1 : mP (sI N 248 2 4000) 247 0 = 248 := e0
  rw [e1, ln248, c3]
  refine ⟨isn t8 (by decide) (by decide), vp_n (j := 3) (by decide) (by decide), ?_⟩
  rintro _ rfl
  have fN : sm S248 N (sI (sI N 248 2 4000) 248 3 1000) := (sm.si (S := S248) rfl).tr (sm.si (S := S248) rfl)
  refine s_X8_b81 e0 ?_ (fun O f g => ?_)
  · have : nw N = fun _ => 0 := funext fun j => (z6 248 (Nat.le_refl _) j).1
    rw [nw_sI, nw_sI, this]
    exact rowP_0
  · have fO := fN.tr f
    have n7 : ∀ b, ¬ S248 247 b := fun b => by unfold S248; omega
    obtain ⟨m0, m2, m3, m7, m8, m9⟩ := k6
    have e := fun j => fO.1 247 j
    refine hq O (f6.tr (fO.fo (fun a b (q : a = 248) => by show 247 ≤ a; omega))) ⟨(e 0).trans m0, (e 2).trans m2, (e 3).trans m3, (e 7).trans m7, (e 8).trans m8, (e 9).trans m9⟩ g ((fO.2.2 247 1 (n7 1)).trans sum) ((fO.2.1 247 4 (n7 4)).trans cnt) (fun a ha b => ?_) (fun a b => ?_)
    · have n : ¬ S248 a b := by unfold S248; omega
      rw [fO.2.1 a b n, fO.2.2 a b n, fO.1 a b]
      exact z6 a (by omega) b
    · rw [fO.1 a b]
      exact p6 a b
theorem li_start {N : mw_M} (h : CF0 N) (hM : MK N) (hr : nw N = row0) (hK : mL N 247 1 = 7) (h4 : mI N 247 4 = 0) : LI N 0 := by
  refine ⟨bq, 0, CF_ag h (fun j _ => by rw [hr]) hK (fun t ht => by rw [hr]; exact h.2.2 t ht) (fun i hi => absurd hi (Nat.not_lt_zero i)), ⟨hM, h4, by decide⟩, ?_, fun i hi => absurd hi (Nat.not_lt_zero i)⟩
  rw [hr]
  unfold MB
  decide
