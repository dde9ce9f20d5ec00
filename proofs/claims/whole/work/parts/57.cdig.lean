/-! The class: the digest -/
theorem nx_n {c : Nat} (h : c < 2147483648) : nx (nI c) = c := by
  unfold nx
  rw [nI_toInt (by omega)]
  rfl
theorem s_X5_hashTransport {M : mw_M} {s : Nat} {R : Row} {K l : Int64} {Q : Int64 → Prop} (hb : bs s) (hsk : sk M s) (hp : rep M s R K) (hq : Q (31 * hr R 0 8 l + K)) : w_X5_hashTransport 255 M s l Q := by
  unfold w_X5_hashTransport w_X7_hashed
  obtain ⟨-, -, -, -, ⟨e3, e0, e1, e2⟩, -⟩ := id hp
  rw [e3, e0, e1, e2]
  refine ⟨kS hb, ?_⟩
  unfold w_X5_hashTransport_b41
  refine ⟨fun y z => ∃ c, z = nI c ∧ c ≤ 5 ∧ y = (if c ≤ 4 then hr R 0 (4 + c) l else 31 * hr R 0 8 l + K), fun _ z => 5 - z.toInt.toNat, ⟨0, rfl, by decide, by rw [if_pos (by decide)]; rfl⟩, ?_⟩
  rintro _ _ ⟨c, rfl, hc, rfl⟩
  rw [li 4, nI_ltI (by decide) (by omega), hsk.1.2.2.2]
  refine ⟨fun g => ?_, fun g => ⟨kS hb, kM hb, s_X3_reading hb hp (by rw [nI_toInt (by omega)]; omega) (by rw [nI_toInt (by omega)]; omega) ?_⟩⟩
  · have : c = 5 := by omega
    subst this
    rw [if_neg (by decide)]
    exact hq
  · rw [nx_n (by omega)]
    unfold w_X7_hashed
    rintro _ rfl
    refine ⟨⟨c + 1, nI_1 c, by omega, ?_⟩, mu_dec (by omega) (by decide)⟩
    unfold mtR
    by_cases h4 : c < 4
    · rw [if_pos h4, if_pos (by omega), if_pos (by omega)]
      show _ = 31 * hr R 0 (4 + c) l + Int32.toInt64 (R (0 + (4 + c)))
      rw [Nat.zero_add]
    · have : c = 4 := by omega
      subst this
      rw [if_neg h4, if_pos (Nat.le_refl 4), if_neg (by decide)]
theorem s_X5_hashSources {M : mw_M} {s : Nat} {R : Row} {K l : Int64} {Q : Int64 → Prop} (hb : bs s) (hsk : sk M s) (hp : rep M s R K) (hq : Q (hr R 9 24 l)) : w_X5_hashSources 255 M s l Q := by
  have el : lnd 1 = 6 := rfl
  unfold w_X5_hashSources
  refine ⟨kS hb, ?_⟩
  rw [hsk.1.1]
  rintro _ rfl
  rw [bs_ln hb (by decide) (Or.inl rfl), el]
  refine ⟨kA1 hb, ?_⟩
  rintro _ rfl
  unfold w_X5_hashSources_b16 w_X7_hashed
  refine ⟨fun y z => ∃ c, z = nI c ∧ c ≤ 6 ∧ y = hr R 9 (4 * c) l, fun _ z => 6 - z.toInt.toNat, ⟨0, rfl, by decide, rfl⟩, ?_⟩
  rintro _ _ ⟨c, rfl, hc, rfl⟩
  rw [nI_leI (by decide) (by omega), bs_ln hb (by decide) (Or.inl rfl), el, nI_clamp (by omega)]
  refine ⟨fun g => ?_, fun g => ⟨kA1 hb, vp_n (by omega) (by decide), ?_⟩⟩
  · have : c = 6 := by omega
    subst this
    exact hq
  · have h6 : c < 6 := by omega
    rw [hsk.2.1 c h6]
    rintro _ rfl
    rw [hp.1 c 0 h6 (by decide), hp.1 c 1 h6 (by decide), hp.1 c 2 h6 (by decide), hp.1 c 3 h6 (by decide)]
    refine ⟨kSrc hb h6, ?_⟩
    rintro _ rfl
    exact ⟨⟨c + 1, nI_1 c, by omega, rfl⟩, mu_dec (by omega) (by decide)⟩
theorem s_X5_hashClips {M : mw_M} {s : Nat} {R : Row} {K l : Int64} {Q : Int64 → Prop} (hb : bs s) (hsk : sk M s) (hp : rep M s R K) (hC : VC R) (hq : Q (hr R 33 (9 * cn R) (hr R 8 1 l))) : w_X5_hashClips 255 M s l Q := by
  obtain ⟨e8, h12⟩ := hC.cn
  have el : lnd 2 = 12 := rfl
  unfold w_X5_hashClips w_X7_hashed w_X5_hashClips_b13
  refine ⟨kS hb, ?_⟩
  refine ⟨fun y z => ∃ c, z = nI c ∧ c ≤ cn R ∧ y = hr R 33 (9 * c) (hr R 8 1 l), fun _ z => 12 - z.toInt.toNat, ⟨0, rfl, Nat.zero_le _, by rw [hp.2.1]; rfl⟩, ?_⟩
  rintro _ _ ⟨c, rfl, hc, rfl⟩
  rw [hp.2.1, e8, nI_leI (by omega) (by omega)]
  refine ⟨kS hb, fun g => ?_, fun g => ?_⟩
  · have : c = cn R := by omega
    subst this
    exact hq
  · have hcn : c < cn R := by omega
    unfold w_X5_hashClips_b25 w_X7_hashed
    refine ⟨fun y z => ∃ f, z = nI f ∧ f ≤ 9 ∧ y = hr R 33 (9 * c + f) (hr R 8 1 l), fun _ z => 9 - z.toInt.toNat, ⟨0, rfl, by decide, rfl⟩, ?_⟩
    rintro _ _ ⟨f, rfl, hf, rfl⟩
    rw [li 8, nI_ltI (by decide) (by omega), hsk.1.2.1, bs_ln hb (by decide) (Or.inr (Or.inl rfl)), el, nI_clamp (by omega)]
    refine ⟨fun g2 => ?_, fun g2 => ⟨kS hb, kA2 hb, vp_n (by omega) (by decide), kC hb hsk (by omega), s_X0_property (kC hb hsk (by omega)) (fun f hf => vC hp hcn hf) (by rw [nI_toInt (by omega)]; omega) (by rw [nI_toInt (by omega)]; omega) ?_⟩⟩
    · have : f = 9 := by omega
      subst this
      rintro _ rfl
      exact ⟨⟨c + 1, nI_1 c, by omega, rfl⟩, mu_dec (by omega) (by decide)⟩
    · rw [nx_n (by omega)]
      rintro _ rfl
      refine ⟨⟨f + 1, nI_1 f, by omega, ?_⟩, mu_dec (by omega) (by decide)⟩
      show _ = 31 * hr R 33 (9 * c + f) _ + Int32.toInt64 (R (33 + (9 * c + f)))
      rw [← Nat.add_assoc]
      rfl
theorem s_X6_hashTrack {M : mw_M} {s t : Nat} {R : Row} {K l : Int64} {Q : Int64 → Prop} (hb : bs s) (hsk : sk M s) (hp : rep M s R K) (hT : VT R) (hP : VP R) (ht : t < 4) (hq : Q (dTr R t l)) : w_X6_hashTrack 255 M (s + 23 + 4 * t) l Q := by
  obtain ⟨e4, h8⟩ := hT.pn ht
  obtain ⟨l1, l2, l3⟩ := ln8 hb ht
  obtain ⟨k6, k10, k10b, k12⟩ := kTr hb ht
  obtain ⟨-, q5, q6, q7⟩ := hsk.2.2.1 t ht
  have z0 : Int32.toInt64 0 = 0 := rfl
  have z1 : Int32.toInt64 1 = 1 := rfl
  obtain ⟨f2, g2⟩ := b01T hp hT ht (f := 2) (Or.inl rfl)
  obtain ⟨f3, g3⟩ := b01T hp hT ht (f := 3) (Or.inr rfl)
  have b63 : w_X6_hashTrack_b63 255 M (s + 23 + 4 * t) (hr R (141 + 34 * t) 5 l) 0 Q := by
    unfold w_X6_hashTrack_b63 w_X7_hashed w_X6_hashTrack_b176
    refine ⟨fun y z => ∃ c, z = nI c ∧ c ≤ pn R t ∧ y = hr R (141 + 34 * t) (5 + 3 * c) l, fun _ z => 8 - z.toInt.toNat, ⟨0, rfl, Nat.zero_le _, rfl⟩, ?_⟩
    rintro _ _ ⟨c, rfl, hc, rfl⟩
    rw [vT hp ht (f := 4) (by decide), e4, nI_leI (by omega) (by omega), q5, q6, q7, l1, l2, l3, nI_clamp (by omega)]
    refine ⟨k6, fun g => ?_, fun g => ⟨k10, vp_n (by omega) (by decide), k10b, vp_n (by omega) (by decide), k12, vp_n (by omega) (by decide), ?_⟩⟩
    · have : c = pn R t := by omega
      subst this
      have e8 : mI M (s + 23 + 4 * t) 8 = rT R t 29 := vT2 hp ht (f := 0) (by decide)
      have e9 : mI M (s + 23 + 4 * t) 9 = rT R t 30 := vT2 hp ht (f := 1) (by decide)
      have e10 : mI M (s + 23 + 4 * t) 10 = rT R t 31 := vT2 hp ht (f := 2) (by decide)
      have e11 : mI M (s + 23 + 4 * t) 11 = rT R t 32 := vT2 hp ht (f := 3) (by decide)
      have e12 : mI M (s + 23 + 4 * t) 12 = rT R t 33 := vT2 hp ht (f := 4) (by decide)
      rw [e8, e9, e10, e11, e12]
      unfold dTr at hq
      refine ⟨fun h => ?_, fun h => ?_⟩
      · rw [if_pos h] at hq; exact hq
      · rw [if_neg h] at hq; exact hq
    · obtain ⟨v1, v2, v3⟩ := vP hp ht (k := c) (by omega)
      rw [v1, v2, v3]
      unfold w_X6_hashTrack_b112 w_X7_hashed
      obtain ⟨-, -, b0, b1⟩ := (hP t ht).1 c (by omega)
      have e3 : hr R (141 + 34 * t) (5 + 3 * (c + 1)) l = 31 * (31 * (31 * hr R (141 + 34 * t) (5 + 3 * c) l + Int32.toInt64 (rT R t (5 + 3 * c))) + Int32.toInt64 (rT R t (5 + 3 * c + 1))) + Int32.toInt64 (rT R t (5 + 3 * c + 2)) := rfl
      refine ⟨fun h => ?_, fun h => ?_⟩
      · rintro _ rfl
        rw [h, z0] at e3
        exact ⟨⟨c + 1, nI_1 c, by omega, e3.symm⟩, mu_dec (by omega) (by decide)⟩
      · rintro _ rfl
        rw [(b01_i b0 b1).resolve_left h, z1] at e3
        exact ⟨⟨c + 1, nI_1 c, by omega, e3.symm⟩, mu_dec (by omega) (by decide)⟩
  have b46 : ∀ (x : Int64), x = Int32.toInt64 (rT R t 3) → w_X6_hashTrack_b46 255 M (s + 23 + 4 * t) x (hr R (141 + 34 * t) 3 l) Q := by
    rintro _ rfl
    unfold w_X6_hashTrack_b46 w_X7_hashed
    rw [vT hp ht (f := 4) (by decide)]
    exact ⟨k6, b63⟩
  have b31 : ∀ (x : Int64), x = Int32.toInt64 (rT R t 2) → w_X6_hashTrack_b31 255 M (s + 23 + 4 * t) x (hr R (141 + 34 * t) 2 l) Q := by
    rintro _ rfl
    unfold w_X6_hashTrack_b31 w_X7_hashed
    rw [f3]
    exact ⟨k6, fun h => b46 0 (by rw [h, z0]), fun h => b46 1 (by rw [g3.resolve_left h, z1])⟩
  unfold w_X6_hashTrack w_X7_hashed
  rw [vT hp ht (f := 0) (by decide), vT hp ht (f := 1) (by decide), f2]
  exact ⟨k6, fun h => b31 0 (by rw [h, z0]), fun h => b31 1 (by rw [g2.resolve_left h, z1])⟩
theorem s_X7_digest {M : mw_M} {s k : Nat} {R : Row} {K : Int64} {Q : mw_M → Int64 → Prop} (h : CX M s R K) (hk3 : mI M 1 3 = nI k) (hq : ∀ M1, sm Smi M M1 → (∀ t, t < 4 → cv M1 R t) → Q M1 (dig R k K)) : w_X7_digest 255 M 1 Q := by
  obtain ⟨⟨h0, h5, hb⟩, hsk, hp, hV, hk, hc⟩ := h
  have el : lnd 3 = 4 := rfl
  unfold w_X7_digest w_X7_hashed
  rw [h0, hk3]
  refine ⟨is1, kS hb, s_X5_hashTransport hb hsk hp (s_X5_hashSources hb hsk hp (s_X5_hashClips hb hsk hp hV.2.1 ?_))⟩
  unfold dig at hq
  generalize hr R 33 (9 * cn R) _ = H at hq ⊢
  unfold w_X7_digest_b39
  refine ⟨fun N y z => ∃ t, N = M ∧ z = nI t ∧ t ≤ 4 ∧ y = dT R t H, fun _ _ z => 4 - z.toInt.toNat, ⟨0, rfl, rfl, by decide, rfl⟩, ?_⟩
  rintro N _ _ ⟨t, rfl, rfl, ht, rfl⟩
  rw [li 4, nI_leI (by decide) (by omega)]
  refine ⟨fun g => ?_, fun g => ?_⟩
  · have : t = 4 := by omega
    subst this
    unfold w_X7_digest_b66 w_X7_hashed
    refine ⟨fun N2 y z => ∃ i, z = nI (50 * i) ∧ i ≤ 80 ∧ sm Smi N N2 ∧ (∀ t, t < 4 → cv N2 R t) ∧ y = dM R i (dT R 4 H), fun _ _ z => 4000 - z.toInt.toNat, ⟨0, rfl, by decide, sm.rf, hc, rfl⟩, ?_⟩
    rintro N2 _ _ ⟨i, rfl, hi, s2, c2, rfl⟩
    rw [li 4000, nI_leI (by decide) (by omega)]
    refine ⟨fun g2 => ?_, fun g2 => ⟨is1, ?_⟩⟩
    · have : i = 80 := by omega
      subst this
      exact hq N2 s2 c2
    · have h52 : mP N2 1 5 = 82 := (s2.1 _ _).trans h5
      rw [h52]
      refine s_X7_mixInto ((s2.1 _ _).trans h0) hb (sm_sk s2 hsk) (sm_rep s2 hsk hV.2.1 (fun a b h1 h2 => Smi_lo hb h1 h2) hp) hV (sm_cvk s2 hk) c2 (by omega) (fun M1 s1 c1 e0 e1 _ => ?_)
      have h51 : mP M1 1 5 = 82 := (s1.1 _ _).trans h52
      rw [h51, e0, e1]
      refine ⟨is82, ?_⟩
      rintro _ rfl
      refine ⟨⟨i + 1, by rw [li 50, nI_add]; rfl, by omega, s2.tr s1, c1, rfl⟩, ?_⟩
      show 4000 - (nI (50 * i) + nI 50).toInt.toNat < 4000 - (nI (50 * i)).toInt.toNat
      rw [nI_add, nI_toInt (by omega), nI_toInt (by omega)]
      omega
  · have ht4 : t < 4 := by omega
    rw [h0, hsk.1.2.2.1, bs_ln hb (by decide) (Or.inr (Or.inr (Or.inl rfl))), el, nI_clamp (by omega), (hsk.2.2.1 t ht4).1]
    refine ⟨is1, kS hb, kA3 hb, vp_n ht4 (by decide), (kTr hb ht4).1, s_X6_hashTrack hb hsk hp hV.2.2.1 hV.2.2.2.1 ht4 ?_⟩
    rintro _ rfl
    exact ⟨⟨t + 1, rfl, nI_1 t, by omega, rfl⟩, mu_dec (by omega) (by decide)⟩
