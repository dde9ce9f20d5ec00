/-! The class: whether a key reaches a threshold -/
theorem dry_0 {R : Row} {t : Nat} {x : Int32} (h : ∀ c, c < cn R → ¬ on R t x c) : dryR R t x = 0 := by
  have hf : fc R t x = cn R := fc_is (Nat.le_refl _) h (fun q => absurd q (Nat.lt_irrefl _))
  unfold dryR sumR
  rw [if_pos hf, ap_0, ap_0]
theorem s_X5_within {M : mw_M} {s t a b : Nat} {R : Row} {K : Int64} {Q : Int32 → Prop} (hb : bs s) (hsk : sk M s) (hr : rep M s R K) (hC : VC R) (hab : b ≤ 4000) (h1 : Q 1) (h0 : (∀ c, c < cn R → ∀ x : Int32, (a : Int) ≤ x.toInt → x.toInt < (b : Int) → ¬ on R t x c) → Q 0) (ha : a ≤ 4000) : w_X5_hasClipWithin 255 M s (nI t) (nI a) (nI b) Q := by
  obtain ⟨e8, h12⟩ := hC.cn
  obtain ⟨⟨-, p1, -⟩, -⟩ := id hsk
  unfold w_X5_hasClipWithin w_X5_hasClipWithin_b3 w_X5_hasClipWithin_b50
  refine ⟨fun z => ∃ c, z = nI c ∧ c ≤ cn R ∧ ∀ j, j < c → ∀ x : Int32, (a : Int) ≤ x.toInt → x.toInt < (b : Int) → ¬ on R t x j, fun z => 12 - z.toInt.toNat, ⟨0, rfl, Nat.zero_le _, fun j hj => absurd hj (Nat.not_lt_zero j)⟩, ?_⟩
  rintro _ ⟨c, rfl, hc, hj⟩
  have el : lnd 2 = 12 := rfl
  rw [hr.2.1, e8, nI_leI (by omega) (by omega), p1, bs_ln hb (by decide) (Or.inr (Or.inl rfl)), nI_clamp (by omega), el]
  refine ⟨kS hb, fun h => ?_, fun h => ⟨kA2 hb, vp_n (by omega) (by decide), ?_⟩⟩
  · have : c = cn R := by omega
    subst this
    exact h0 hj
  · rintro _ rfl
    have hcn : c < cn R := by omega
    obtain ⟨-, -, ⟨v1, -⟩, ⟨v2, v3⟩, -⟩ := hC.2 c hcn
    have ee : (rC R c 2 + rC R c 4).toInt = (rC R c 2).toInt + (rC R c 4).toInt := ti_add (by omega) (by omega)
    have hta : (nI a).toInt = (a : Int) := nI_toInt (by omega)
    have htb : (nI b).toInt = (b : Int) := nI_toInt (by omega)
    have nx1 : (∀ x : Int32, (a : Int) ≤ x.toInt → x.toInt < (b : Int) → ¬ on R t x c) → ∀ v1 : Int32, v1 = nI c + 1 → (∃ c, v1 = nI c ∧ c ≤ cn R ∧ ∀ j, j < c → ∀ x : Int32, (a : Int) ≤ x.toInt → x.toInt < (b : Int) → ¬ on R t x j) ∧ 12 - v1.toInt.toNat < 12 - (nI c).toInt.toNat := by
      rintro hno _ rfl
      refine ⟨⟨c + 1, nI_1 c, by omega, fun j h2 => ?_⟩, mu_dec (by omega) (by decide)⟩
      by_cases e : j = c
      · rw [e]; exact hno
      · exact hj j (by omega)
    rw [vC hr hcn (f := 0) (by decide), vC hr hcn (f := 2) (by decide)]
    refine ⟨kC hb hsk (by omega), fun g => nx1 (fun x _ _ q => g q.1), fun g => ⟨fun g2 => nx1 (fun x _ x2 q => ?_), fun g2 => s_X0_end (kC hb hsk (by omega)) ?_⟩⟩
    · have := q.2.1
      rw [ti_le] at this g2
      omega
    · rw [vC hr hcn (f := 2) (by decide), vC hr hcn (f := 4) (by decide)]
      refine ⟨fun g3 => nx1 (fun x x1 _ q => ?_), fun _ => h1⟩
      have := q.2.2
      rw [ti_lt, ee] at this
      rw [ti_le, ee] at g3
      omega
theorem s_X5_reaches {M : mw_M} {s t w : Nat} {R : Row} {K : Int64} {thr : Int32} {Q : Int32 → Prop} (hb : bs s) (hsk : sk M s) (hr : rep M s R K) (hV : VAL R) (ht : t < 4) (hw : w < 100) (hq : Q (bl (loudR R t w thr))) : w_X5_reaches 255 M s (nI t) (nI w) thr Q := by
  obtain ⟨hS, hC, hT, hP, hX, hL⟩ := id hV
  unfold w_X5_reaches
  have z0 : (0 : Int32).toInt = 0 := Int32.toInt_zero
  refine ⟨fun h => ?_, fun h => ?_⟩
  · rintro _ rfl
    rw [ti_lt, z0] at h
    have e1 : nI w * 40 = nI (40 * w) := by rw [li 40, pk_mul, Nat.mul_comm]
    have e2 : nI (40 * w) + 40 = nI (40 * w + 40) := by rw [li 40, nI_add]
    rw [e1, e2]
    have b33 : w_X5_reaches_b33 255 M s (nI t) thr (nI (40 * w)) (nI (40 * w)) Q := by
      unfold w_X5_reaches_b33
      refine ⟨fun z => ∃ j, z = nI (40 * w + j) ∧ j ≤ 40 ∧ ∀ i, i < j → ¬ (thr.toInt ≤ (dryR R t (nI (40 * w + i))).toInt ∨ thr.toInt ≤ -(dryR R t (nI (40 * w + i))).toInt), fun z => 4000 - z.toInt.toNat, ⟨0, rfl, by decide, fun i hi => absurd hi (Nat.not_lt_zero i)⟩, ?_⟩
      rintro _ ⟨j, rfl, hj, hI⟩
      rw [e2, nI_leI (by omega) (by omega)]
      refine ⟨fun g => ?_, fun g => ⟨kS hb, ?_⟩⟩
      · have : j = 40 := by omega
        subst this
        rw [bl_f (fun q => q.elim (fun q => by omega) (fun ⟨i, hi, q⟩ => hI i hi q))] at hq
        exact hq
      · have hni : (nI (40 * w + j)).toInt = ((40 * w + j : Nat) : Int) := nI_toInt (by omega)
        obtain ⟨-, d1, d2⟩ := dryR_bd hS hC hT hP hL ht (n := nI (40 * w + j)) (by omega) (by omega)
        refine s_X5_dryValue hb hsk hr hV ht (by omega) (by omega) ?_
        generalize hd : dryR R t (nI (40 * w + j)) = d at d1 d2
        rintro _ rfl
        have hneg : (0 - d).toInt = -d.toInt := by rw [ti_sub (by rw [z0]; omega) (by rw [z0]; omega), z0]; omega
        have key : (if 0 ≤ d then d else 0 - d) < thr ↔ ¬ (thr.toInt ≤ d.toInt ∨ thr.toInt ≤ -d.toInt) := by
          by_cases h0 : 0 ≤ d
          · rw [if_pos h0, ti_lt]
            rw [ti_le, z0] at h0
            omega
          · rw [if_neg h0, ti_lt, hneg]
            rw [ti_le, z0] at h0
            omega
        rw [key]
        refine ⟨fun g2 => ?_, fun g2 => ?_⟩
        · rintro _ rfl
          refine ⟨⟨j + 1, by rw [nI_1]; rfl, by omega, fun i hi => ?_⟩, mu_dec (by omega) (by decide)⟩
          by_cases e : i = j
          · rw [e, hd]; exact g2
          · exact hI i (by omega)
        · rw [bl_t (P := loudR R t w thr) (Or.inr ⟨j, by omega, by rw [hd]; exact Classical.not_not.mp g2⟩)] at hq
          exact hq
    refine ⟨kS hb, s_X5_within hb hsk hr hC (by omega) ⟨fun _ => b33, fun g => absurd g (by decide)⟩ (fun hno => ⟨fun g => absurd rfl g, fun _ => ?_⟩) (by omega)⟩
    have hn : ¬ loudR R t w thr := by
      rintro (q | ⟨i, hi, q⟩)
      · omega
      · have hni : (nI (40 * w + i)).toInt = ((40 * w + i : Nat) : Int) := nI_toInt (by omega)
        rw [dry_0 (fun c hc => hno c hc _ (by omega) (by omega)), z0] at q
        omega
    rw [bl_f hn] at hq
    exact hq
  · rw [ti_lt, z0] at h
    rw [bl_t (P := loudR R t w thr) (Or.inl (by omega))] at hq
    exact hq
