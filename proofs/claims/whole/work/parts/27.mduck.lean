/-! Frames of memory; the reference's ducking and mix -/
def sm (S : Nat → Nat → Prop) (M M1 : mw_M) : Prop := (∀ a b, mP M1 a b = mP M a b) ∧ (∀ a b, ¬ S a b → mI M1 a b = mI M a b) ∧ ∀ a b, ¬ S a b → mL M1 a b = mL M a b
theorem sm.rf {S : Nat → Nat → Prop} {M : mw_M} : sm S M M := ⟨fun _ _ => rfl, fun _ _ _ => rfl, fun _ _ _ => rfl⟩
theorem sm.tr {S : Nat → Nat → Prop} {M M1 M2 : mw_M} (h : sm S M M1) (g : sm S M1 M2) : sm S M M2 := ⟨fun a b => (g.1 a b).trans (h.1 a b), fun a b q => (g.2.1 a b q).trans (h.2.1 a b q), fun a b q => (g.2.2 a b q).trans (h.2.2 a b q)⟩
theorem sm.mono {S S' : Nat → Nat → Prop} {M M1 : mw_M} (h : sm S M M1) (hs : ∀ a b, S a b → S' a b) : sm S' M M1 := ⟨h.1, fun a b q => h.2.1 a b (fun r => q (hs a b r)), fun a b q => h.2.2 a b (fun r => q (hs a b r))⟩
theorem sm.si {S : Nat → Nat → Prop} {M : mw_M} {k j : Nat} {x : Int32} (h : S k j) : sm S M (sI M k j x) := ⟨fun _ _ => rfl, fun a b q => by rw [mI_sI, if_neg]; rintro ⟨rfl, rfl⟩; exact q h, fun _ _ _ => rfl⟩
theorem sm.sl {S : Nat → Nat → Prop} {M : mw_M} {k j : Nat} {x : Int64} (h : S k j) : sm S M (sL M k j x) := ⟨fun _ _ => rfl, fun _ _ _ => rfl, fun a b q => by rw [mL_sL, if_neg]; rintro ⟨rfl, rfl⟩; exact q h⟩
theorem sm.MK {S : Nat → Nat → Prop} {M M1 : mw_M} (h : sm S M M1) (g : MK M) : MK M1 := by
  obtain ⟨g1, g2, g3, g4, g5, g6⟩ := g
  exact ⟨(h.1 _ _).trans g1, (h.1 _ _).trans g2, (h.1 _ _).trans g3, (h.1 _ _).trans g4, (h.1 _ _).trans g5, (h.1 _ _).trans g6⟩
theorem sm.nw {S : Nat → Nat → Prop} {M M1 : mw_M} (h : sm S M M1) (hs : ∀ b, ¬ S 248 b) : nw M1 = nw M := by
  funext b
  exact h.2.1 248 b (hs b)
theorem mI_at (M : mw_M) (k j : Nat) (x : Int32) : mI (sI M k j x) k j = x := by rw [mI_sI, if_pos ⟨rfl, rfl⟩]
theorem mL_at (M : mw_M) (k j : Nat) (x : Int64) : mL (sL M k j x) k j = x := by rw [mL_sL, if_pos ⟨rfl, rfl⟩]
theorem mI_ne {M : mw_M} {k j a b : Nat} {x : Int32} (h : a ≠ k ∨ b ≠ j) : mI (sI M k j x) a b = mI M a b := by rw [mI_sI, if_neg]; rintro ⟨rfl, rfl⟩; omega
theorem mL_ne {M : mw_M} {k j a b : Nat} {x : Int64} (h : a ≠ k ∨ b ≠ j) : mL (sL M k j x) a b = mL M a b := by rw [mL_sL, if_neg]; rintro ⟨rfl, rfl⟩; omega
theorem dk_bd {R : Row} (hT : VT R) {t : Nat} (ht : t < 4) : ∀ m, 0 ≤ (dk R t m).toInt ∧ (dk R t m).toInt ≤ 1000
  | 0 => by show 0 ≤ (1000 : Int32).toInt ∧ (1000 : Int32).toInt ≤ 1000; decide
  | 1 => by show 0 ≤ (1000 : Int32).toInt ∧ (1000 : Int32).toInt ≤ 1000; decide
  | m + 2 => by
    obtain ⟨-, -, -, -, -, -, -, ⟨f1, f2⟩, ⟨a1, a2⟩, r1, r2⟩ := hT t ht
    obtain ⟨h1, h2⟩ := dk_bd hT ht (m + 1)
    have e1 := ti_sub (x := dk R t (m + 1)) (y := rT R t 32) (by omega) (by omega)
    have e2 := ti_add (x := dk R t (m + 1)) (y := rT R t 33) (by omega) (by omega)
    have l1 : (1000 : Int32).toInt = 1000 := rfl
    show 0 ≤ (ifp _ _ _ : Int32).toInt ∧ (ifp _ _ _ : Int32).toInt ≤ 1000
    by_cases h : loudR R (keyN R t) m (rT R t 30)
    · rw [ifp_t h]
      split
      · rename_i h3
        rw [ti_lt, e1] at h3
        rw [e1]; omega
      · omega
    · rw [ifp_f h]
      split
      · rename_i h3
        rw [ti_lt, e2, l1] at h3
        rw [e2]; omega
      · omega
theorem dg_bd {R : Row} (hT : VT R) {t : Nat} (ht : t < 4) (n : Nat) : 0 ≤ (dgR R t n).toInt ∧ (dgR R t n).toInt ≤ 1000 := by
  unfold dgR
  split
  · decide
  · obtain ⟨h1, h2⟩ := dk_bd hT ht (n / 40)
    obtain ⟨h3, h4⟩ := dk_bd hT ht (n / 40 + 1)
    have hm : 0 ≤ (n : Int) - 40 * (n / 40 : Nat) ∧ (n : Int) - 40 * (n / 40 : Nat) < 40 := by omega
    have hd := mid_bd (u := (dk R t (n / 40)).toInt) (v := (dk R t (n / 40 + 1)).toInt) (a := (n : Int) - 40 * (n / 40 : Nat)) (b := 40) hm.1 hm.2 h1 (by omega) h3 (by omega)
    have hd2 : (dk R t (n / 40)).toInt + ((dk R t (n / 40 + 1)).toInt - (dk R t (n / 40)).toInt) * ((n : Int) - 40 * (n / 40 : Nat)) / 40 ≤ 1000 := by
      by_cases h : 0 ≤ (dk R t (n / 40 + 1)).toInt - (dk R t (n / 40)).toInt
      · have : ((dk R t (n / 40 + 1)).toInt - (dk R t (n / 40)).toInt) * ((n : Int) - 40 * (n / 40 : Nat)) / 40 ≤ (dk R t (n / 40 + 1)).toInt - (dk R t (n / 40)).toInt := Int.ediv_le_of_le_mul (by decide) (Int.mul_le_mul_of_nonneg_left (by omega) h)
        omega
      · have h5 : ((dk R t (n / 40 + 1)).toInt - (dk R t (n / 40)).toInt) * ((n : Int) - 40 * (n / 40 : Nat)) ≤ 0 := Int.mul_nonpos_of_nonpos_of_nonneg (by omega) hm.1
        omega
    generalize ((dk R t (n / 40 + 1)).toInt - (dk R t (n / 40)).toInt) * ((n : Int) - 40 * (n / 40 : Nat)) / 40 = z at hd hd2 ⊢
    have e := iI_toInt (z := z) (by omega) (by omega)
    rw [ti_add (by rw [e]; omega) (by rw [e]; omega), e]
    omega
theorem val_bd {R : Row} (hV : VAL R) {t : Nat} (ht : t < 4) {n : Nat} (hn : n < 4000) : -160000 ≤ (valR R t n).toInt ∧ (valR R t n).toInt ≤ 160000 := by
  obtain ⟨hS, hC, hT, hP, -, hL⟩ := hV
  have hni : (nI n).toInt = n := nI_toInt (by omega)
  obtain ⟨-, d1, d2⟩ := dryR_bd hS hC hT hP hL ht (n := nI n) (by omega) (by omega)
  obtain ⟨g1, g2⟩ := dg_bd hT ht n
  have := ap_bd (B := 160000) (D := 1000) (by omega) (by omega) g1 g2 (by omega)
  unfold valR
  omega
theorem s_X8_levelOf {M : mw_M} {t w : Nat} {Q : Int32 → Prop} (hM : MK M) (hV : VAL (nw M)) (ht : t < 4) (hw : w < 100) (hq : ∀ L : Int32, (∀ thr : Int, thr ≤ L.toInt ↔ thr ≤ 0 ∨ ∃ j, j < 40 ∧ (thr ≤ (dryR (nw M) t (nI (40 * w + j))).toInt ∨ thr ≤ -(dryR (nw M) t (nI (40 * w + j))).toInt)) → Q L) : w_X8_levelOf 255 M 247 (nI t) (nI w) Q := by
  unfold w_X8_levelOf
  rintro _ rfl
  unfold w_X8_levelOf_b8
  rw [li 40, pk_mul]
  refine ⟨fun L z => ∃ j, j ≤ 40 ∧ z = nI (40 * w + j) ∧ (0 ≤ L.toInt ∧ L.toInt ≤ 160000) ∧ ∀ thr : Int, thr ≤ L.toInt ↔ thr ≤ 0 ∨ ∃ i, i < j ∧ (thr ≤ (dryR (nw M) t (nI (40 * w + i))).toInt ∨ thr ≤ -(dryR (nw M) t (nI (40 * w + i))).toInt), fun _ z => 4000 - z.toInt.toNat, ⟨0, by decide, rfl, by decide, fun thr => ⟨fun h => Or.inl (by rw [Int32.toInt_zero] at h; exact h), fun h => by
    rcases h with h | ⟨i, hi, -⟩
    · rw [Int32.toInt_zero]; exact h
    · omega⟩⟩, ?_⟩
  rintro L _ ⟨j, hj, rfl, hb, hI⟩
  rw [li 1, nI_add, pk_mul, nI_leI (by omega) (by omega)]
  refine ⟨fun h => ?_, fun h => ?_⟩
  · have : j = 40 := by omega
    subst this
    exact hq L hI
  · obtain ⟨hS, hC, hT, hP, hX, hL⟩ := id hV
    have hni : (nI (40 * w + j)).toInt = ((40 * w + j : Nat) : Int) := nI_toInt (by omega)
    obtain ⟨-, d1, d2⟩ := dryR_bd hS hC hT hP hL ht (n := nI (40 * w + j)) (by omega) (by omega)
    refine ⟨is247, s_X8_dry hM hV ht (by omega) (by omega) ?_⟩
    have hb41 : ∀ s : Int32, 0 ≤ s.toInt → s.toInt ≤ 160000 → (∀ thr : Int, 0 < thr → (thr ≤ s.toInt ↔ thr ≤ (dryR (nw M) t (nI (40 * w + j))).toInt ∨ thr ≤ -(dryR (nw M) t (nI (40 * w + j))).toInt)) → w_X8_levelOf_b41 255 M 247 (nI t) (nI w) L (nI (40 * w + j)) s Q (fun (x3_ : Int32) (x4_ : Int32) => (∃ j, j ≤ 40 ∧ x4_ = nI (40 * w + j) ∧ (0 ≤ x3_.toInt ∧ x3_.toInt ≤ 160000) ∧ ∀ thr : Int, thr ≤ x3_.toInt ↔ thr ≤ 0 ∨ ∃ i, i < j ∧ (thr ≤ (dryR (nw M) t (nI (40 * w + i))).toInt ∨ thr ≤ -(dryR (nw M) t (nI (40 * w + i))).toInt)) ∧ 4000 - x4_.toInt.toNat < 4000 - (nI (40 * w + j)).toInt.toNat) := by
      intro s h1 h2 h3
      unfold w_X8_levelOf_b41 w_X8_levelOf_b55
      refine ⟨fun h4 => ?_, fun h4 => ?_⟩
      · rintro _ rfl
        rw [ti_le] at h4
        refine ⟨⟨j + 1, by omega, by rw [nI_1]; rfl, hb, fun thr => ?_⟩, mu_dec (by omega) (by decide)⟩
        rw [hI thr]
        constructor
        · rintro (h5 | ⟨i, h5, h6⟩)
          · exact Or.inl h5
          · exact Or.inr ⟨i, by omega, h6⟩
        · rintro (h5 | ⟨i, h5, h6⟩)
          · exact Or.inl h5
          · by_cases e : i = j
            · by_cases h7 : thr ≤ 0
              · exact Or.inl h7
              · have h8 := (h3 thr (by omega)).mpr (by rw [← e]; exact h6)
                exact (hI thr).mp (by omega)
            · exact Or.inr ⟨i, by omega, h6⟩
      · rintro _ rfl
        rw [ti_le] at h4
        refine ⟨⟨j + 1, by omega, by rw [nI_1]; rfl, ⟨h1, h2⟩, fun thr => ?_⟩, mu_dec (by omega) (by decide)⟩
        constructor
        · intro h5
          by_cases h7 : thr ≤ 0
          · exact Or.inl h7
          · exact Or.inr ⟨j, by omega, (h3 thr (by omega)).mp h5⟩
        · rintro (h5 | ⟨i, h5, h6⟩)
          · omega
          · by_cases h7 : thr ≤ 0
            · omega
            · by_cases e : i = j
              · exact (h3 thr (by omega)).mpr (by rw [← e]; exact h6)
              · have := (hI thr).mpr (Or.inr ⟨i, by omega, h6⟩)
                omega
    rw [ti_le, Int32.toInt_zero]
    refine ⟨fun h0 => hb41 _ h0 (by omega) (fun thr h9 => by omega), fun h0 => ?_⟩
    have hneg : (-(dryR (nw M) t (nI (40 * w + j)))).toInt = -(dryR (nw M) t (nI (40 * w + j))).toInt := ti_neg (by omega)
    exact hb41 _ (by omega) (by omega) (fun thr h9 => by rw [hneg]; omega)
/-- the reference's laid gains: of track t, for windows up to last -/
def laid (M : mw_M) (t last : Nat) : Prop := rT (nw M) t 29 ≠ -1 → ∀ m, m ≤ last → mI M 253 (100 * t + m) = dk (nw M) t (m + 1)
def S253 : Nat → Nat → Prop := fun a _ => a = 253
theorem keyN_s {R : Row} (hT : VT R) {t : Nat} (ht : t < 4) (h : rT R t 29 ≠ -1) : rT R t 29 = nI (keyN R t) ∧ keyN R t < 4 := by
  obtain ⟨-, -, -, -, -, ⟨k1, k2⟩, -⟩ := hT t ht
  have m1 : (-1 : Int32).toInt = -1 := rfl
  have h0 : 0 ≤ (rT R t 29).toInt := by
    by_cases e : (rT R t 29).toInt = -1
    · exact absurd (ti_inj (e.trans m1.symm)) h
    · omega
  exact ⟨nI_of_toInt h0, by unfold keyN; omega⟩
theorem e_ix {t m : Nat} (ht : t < 4) (hm : m < 100) {x : Int32} (hx : x = nI (100 * t + m)) : vp_in x (Ln 253) ∧ Int32.toNatClampNeg x = 100 * t + m := by
  subst hx
  exact ⟨by rw [Ln253]; exact vp_n (by omega) (by decide), nI_clamp (by omega)⟩
theorem s_X8_laysDuck {M : mw_M} {t last : Nat} {Q : mw_M → Prop} (hM : MK M) (hV : VAL (nw M)) (ht : t < 4) (hl : last < 100) (hq : ∀ M1, sm S253 M M1 → laid M1 t last → (∀ j, (j < 100 * t ∨ 100 * t + 100 ≤ j) → mI M1 253 j = mI M 253 j) → Q M1) : w_X8_laysDuck 255 M 247 (nI t) (nI last) Q := by
  unfold w_X8_laysDuck
  refine s_X8_trackAt ?_
  obtain ⟨h1, -, -, -, -, h6⟩ := id hM
  obtain ⟨i29, j29⟩ := trk_ix (M := M) (f := 29) ht (by decide) (x := nI (141 + 34 * t) + 29) (by rw [li 29, nI_add])
  obtain ⟨iE, jE⟩ := e_ix (m := 0) ht (by decide) (x := 100 * nI t) (by rw [li 100, pk_mul]; rfl)
  rw [h1, h6]
  refine ⟨is247, is248, i29, ?_⟩
  rintro _ rfl
  refine ⟨is253, iE, ?_⟩
  rintro _ rfl
  rw [j29, jE]
  obtain ⟨hS, hC, hT, hP, hX, hL⟩ := id hV
  have s0 : sm S253 M (sI M 253 (100 * t + 0) 1000) := sm.si rfl
  generalize hMa : sI M 253 (100 * t + 0) 1000 = Ma at s0
  have eR : nw Ma = nw M := s0.nw (fun b h => by cases h)
  have hMa0 : mI Ma 253 (100 * t + 0) = 1000 := by rw [← hMa]; exact mI_at _ _ _ _
  have hMar : ∀ j, (j < 100 * t ∨ 100 * t + 100 ≤ j) → mI Ma 253 j = mI M 253 j := fun j hj => by rw [← hMa]; exact mI_ne (Or.inr (by omega))
  obtain ⟨DK, hDK⟩ : ∃ P, P = (rT (nw M) t 29 ≠ -1) := ⟨_, rfl⟩
  unfold w_X8_laysDuck_b31 w_X8_laysDuck_b186
  refine ⟨fun N z => ∃ m, z = nI m ∧ 1 ≤ m ∧ m ≤ last + 1 ∧ sm S253 M N ∧ (∀ i, i < m → DK → mI N 253 (100 * t + i) = dk (nw M) t (i + 1)) ∧ (mI N 253 (100 * t + 0) = 1000) ∧ ∀ j, (j < 100 * t ∨ 100 * t + 100 ≤ j) → mI N 253 j = mI M 253 j, fun _ z => 200 - z.toInt.toNat, ⟨1, rfl, Nat.le_refl _, by omega, s0, fun i hi _ => ?_, hMa0, hMar⟩, ?_⟩
  · have : i = 0 := by omega
    subst this
    exact hMa0
  rintro N _ ⟨m, rfl, hm1, hm2, sN, hE, hE0, hr⟩
  have eRN : nw N = nw M := sN.nw (fun b h => by cases h)
  have hMN := sN.MK hM
  obtain ⟨g1, -, -, -, -, g6⟩ := id hMN
  rw [nI_ltI (by omega) (by omega)]
  have m1 : (-1 : Int32).toInt = -1 := rfl
  refine ⟨fun h => ?_, fun h => ⟨fun hk => ?_, fun hk => ?_⟩⟩
  · refine hq N sN (fun hne i hi => ?_) hr
    rw [eRN] at hne ⊢
    exact hE i (by omega) (hDK ▸ hne)
  · refine hq N sN (fun hne i hi => ?_) hr
    rw [eRN] at hne
    exact absurd hk hne
  · obtain ⟨ek, hk4⟩ := keyN_s hT ht hk
    obtain ⟨m', rfl⟩ : ∃ m', m = m' + 1 := ⟨m - 1, by omega⟩
    obtain ⟨ia, ja⟩ := e_ix (m := m') ht (by omega) (x := 100 * nI t + nI (m' + 1) - 1) (by rw [li 100, li 1, pk_mul, nI_add, pk_sub (by omega)]; exact congrArg nI (by omega))
    rw [g1, g6, ja, hE m' (by omega) (hDK ▸ hk)]
    refine ⟨is247, is253, ia, ?_⟩
    rintro _ rfl
    rw [ek]
    have ew : nI (m' + 1) - 1 = nI m' := nI_pred m'
    rw [ew]
    refine s_X8_levelOf hMN (by rw [eRN]; exact hV) hk4 (by omega) (fun Lv hLv => ?_)
    rw [eRN] at hLv
    obtain ⟨i30, j30⟩ := trk_ix (M := N) (f := 30) ht (by decide) (x := nI (141 + 34 * t) + 30) (by rw [li 30, nI_add])
    obtain ⟨i31, j31⟩ := trk_ix (M := N) (f := 31) ht (by decide) (x := nI (141 + 34 * t) + 31) (by rw [li 31, nI_add])
    obtain ⟨i32, j32⟩ := trk_ix (M := N) (f := 32) ht (by decide) (x := nI (141 + 34 * t) + 32) (by rw [li 32, nI_add])
    obtain ⟨i33, j33⟩ := trk_ix (M := N) (f := 33) ht (by decide) (x := nI (141 + 34 * t) + 33) (by rw [li 33, nI_add])
    rw [eRN] at j30 j31 j32 j33
    rw [j30, ti_lt]
    have hloud : loudR (nw M) (keyN (nw M) t) m' (rT (nw M) t 30) ↔ (rT (nw M) t 30).toInt ≤ Lv.toInt := (hLv _).symm
    obtain ⟨ib, jb⟩ := e_ix (m := m' + 1) ht (by omega) (x := 100 * nI t + nI (m' + 1)) (by rw [li 100, pk_mul, nI_add])
    have fin : ∀ v : Int32, v = dk (nw M) t (m' + 2) → w_X8_laysDuck_b179 255 N 247 (nI t) (nI last) (nI (141 + 34 * t)) (nI (keyN (nw M) t)) (nI (m' + 1)) v (100 * nI t + nI (m' + 1)) 253 Q (fun (M_ : mw_M) (x5_ : Int32) => (∃ m, x5_ = nI m ∧ 1 ≤ m ∧ m ≤ last + 1 ∧ sm S253 M M_ ∧ (∀ i, i < m → DK → mI M_ 253 (100 * t + i) = dk (nw M) t (i + 1)) ∧ (mI M_ 253 (100 * t + 0) = 1000) ∧ ∀ j, (j < 100 * t ∨ 100 * t + 100 ≤ j) → mI M_ 253 j = mI M 253 j) ∧ 200 - x5_.toInt.toNat < 200 - (nI (m' + 1)).toInt.toNat) := by
      intro v hv
      unfold w_X8_laysDuck_b179
      refine ⟨is253, ib, ?_⟩
      rintro _ rfl
      rintro _ rfl
      rw [jb]
      refine ⟨⟨m' + 2, by rw [nI_1], by omega, by omega, sN.tr (sm.si rfl), fun i hi hne => ?_, ?_, fun j hj => ?_⟩, mu_dec (by omega) (by decide)⟩
      · by_cases e : i = m' + 1
        · rw [e, mI_at]; exact hv
        · rw [mI_ne (Or.inr (by omega))]
          exact hE i (by omega) hne
      · rw [mI_ne (Or.inr (by omega))]; exact hE0
      · rw [mI_ne (Or.inr (by omega))]; exact hr j hj
    have b86 : ∀ s : Int32, (s = 0 ↔ ¬ loudR (nw M) (keyN (nw M) t) m' (rT (nw M) t 30)) → w_X8_laysDuck_b86 255 N 247 (nI t) (nI last) (nI (141 + 34 * t)) (nI (keyN (nw M) t)) (nI (m' + 1)) (dk (nw M) t (m' + 1)) s Q (fun (M_ : mw_M) (x5_ : Int32) => (∃ m, x5_ = nI m ∧ 1 ≤ m ∧ m ≤ last + 1 ∧ sm S253 M M_ ∧ (∀ i, i < m → DK → mI M_ 253 (100 * t + i) = dk (nw M) t (i + 1)) ∧ (mI M_ 253 (100 * t + 0) = 1000) ∧ ∀ j, (j < 100 * t ∨ 100 * t + 100 ≤ j) → mI M_ 253 j = mI M 253 j) ∧ 200 - x5_.toInt.toNat < 200 - (nI (m' + 1)).toInt.toNat) := by
      intro s hs
      unfold w_X8_laysDuck_b86
      rw [g1, g6, j31, j32, j33]
      refine ⟨is247, is248, i32, ?_⟩
      rintro _ rfl
      refine ⟨i33, ?_⟩
      rintro _ rfl
      refine ⟨fun h0 => ⟨fun h2 => fin _ ?_, fun h2 => fin _ ?_⟩, fun h0 => ⟨i31, fun h2 => fin _ ?_, fun h2 => fin _ ?_⟩⟩
      · show (1000 : Int32) = ifp _ _ _
        rw [ifp_f (hs.mp h0), if_neg (fun q => by rw [ti_lt] at q; rw [ti_le] at h2; omega)]
      · show _ = ifp _ _ _
        rw [ifp_f (hs.mp h0), if_pos (by rw [ti_le] at h2; rw [ti_lt]; omega)]
      · show _ = ifp _ _ _
        rw [ifp_t (Classical.not_not.mp (fun q => h0 (hs.mpr q))), if_neg (fun q => by rw [ti_lt] at q; rw [ti_le] at h2; omega)]
      · show _ = ifp _ _ _
        rw [ifp_t (Classical.not_not.mp (fun q => h0 (hs.mpr q))), if_pos (by rw [ti_le] at h2; rw [ti_lt]; omega)]
    refine ⟨is248, i30, fun h2 => b86 0 ⟨fun _ q => ?_, fun _ => rfl⟩, fun h2 => b86 1 ⟨fun q => absurd q (by decide), fun q => ?_⟩⟩
    · rw [hloud] at q; omega
    · rw [hloud] at q; omega
