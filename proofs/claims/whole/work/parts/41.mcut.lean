/-! The reference: deleteTime -/
noncomputable section
def dele1 (r : Nat → Int32) (a b : Int32) : Nat → Int32 := if r 2 < a then (if a < r 2 + r 4 then cut1 r 0 (r 2 + r 4 - a) else r) else if r 2 < b then cut1 r (b - r 2) 0 else r
def dele (r : Nat → Int32) (a b : Int32) : Nat → Int32 := fun f => if f = 2 then (if dele1 r a b 2 < b then dele1 r a b 2 else dele1 r a b 2 - (b - a)) else dele1 r a b f
def gn (r : Nat → Int32) (t a b : Int32) : Prop := r 0 = t ∧ a ≤ r 2 ∧ r 2 + r 4 ≤ b
def dl (t a b : Int32) : Nat → Arr → Nat → Arr × Nat
  | 0, T, m => (T, m)
  | c + 1, T, m => ifp (gn (T c) t a b) (dl t a b c (lv T c m) (m - 1)) (dl t a b c T m)
end
theorem upr_same (T : Arr) (c : Nat) : upr T c (T c) = T := by
  funext i f
  unfold upr
  by_cases e : i = c
  · rw [if_pos e, e]
  · rw [if_neg e]
theorem upr_upr (T : Arr) (c : Nat) (r s : Nat → Int32) : upr (upr T c r) c s = upr T c s := by
  funext i f
  unfold upr
  by_cases e : i = c
  · rw [if_pos e, if_pos e]
  · rw [if_neg e, if_neg e, if_neg e]
theorem s_deletes {N : mw_M} {m c : Nat} {T : Arr} {x a b : Int32} {Q : mw_M → Int32 → Prop} (h : Tr N m T) (hc : c < 14) (hx : x = nI c) (hq : ∀ N1, sm St N N1 → Tr N1 m (upr T c (dele (T c) a b)) → Q N1 (bl (dele (T c) a b 3 < 4000))) : w_X8_deletes 255 N 247 x a b Q := by
  subst hx
  have b62 : ∀ N1, sm St N N1 → Tr N1 m (upr T c (dele1 (T c) a b)) → w_X8_deletes_b62 255 N1 247 (nI c) a b Q := by
    intro N1 s1 t1
    have e2 : upr T c (dele1 (T c) a b) c 2 = dele1 (T c) a b 2 := if_pos rfl
    have e3 : dele (T c) a b 3 = dele1 (T c) a b 3 := if_neg (by decide)
    have b88 : ∀ N2, sm St N N2 → Tr N2 m (upr T c (dele (T c) a b)) → w_X8_deletes_b88 255 N2 247 (nI c) Q := by
      intro N2 s2 t2
      have q := hq N2 s2 t2
      unfold w_X8_deletes_b88 w_X8_deletes_b105
      refine ⟨is247, s_of t2 hc (f := 3) (by decide) rfl ?_⟩
      have e4 : upr T c (dele (T c) a b) c 3 = dele (T c) a b 3 := if_pos rfl
      rw [e4]
      refine ⟨fun g => ⟨Or.inl rfl, ?_⟩, fun g => ⟨Or.inr rfl, ?_⟩⟩
      · rw [bl_f (nlt_of_le g)] at q; exact q
      · rw [bl_t (lt_of_nle g)] at q; exact q
    unfold w_X8_deletes_b62
    refine ⟨is247, s_of t1 hc (f := 2) (by decide) rfl ?_⟩
    rw [e2]
    refine ⟨fun g => b88 N1 s1 (t1.c (fun i f hf => ?_)), fun g => s_of t1 hc (f := 2) (by decide) rfl (s_set t1 hc (f := 2) (by decide) rfl (fun N2 s2 t2 => b88 N2 (s1.tr s2) (t2.c (fun i f hf => ?_))))⟩
    · unfold upr dele
      by_cases e : i = c
      · rw [if_pos e, if_pos e]
        by_cases e5 : f = 2
        · rw [if_pos e5, if_pos g, e5]
        · rw [if_neg e5]
      · rw [if_neg e, if_neg e]
    · rw [e2]
      unfold up2
      unfold upr dele
      by_cases e : i = c
      · rw [if_pos e]
        by_cases e5 : f = 2
        · rw [if_pos e5, if_neg g, if_pos ⟨e, e5⟩]
        · rw [if_neg e5, if_neg (fun q => e5 q.2), if_pos e]
      · rw [if_neg e, if_neg (fun q => e q.1), if_neg e]
  have b40 : (T c 2 < a → ¬ a < T c 2 + T c 4) → w_X8_deletes_b40 255 N 247 (nI c) a b (T c 2) Q := by
    intro g0
    unfold w_X8_deletes_b40
    refine ⟨fun g => b62 N sm.rf (h.c (fun i f hf => ?_)), fun g => ⟨fun g2 => b62 N sm.rf (h.c (fun i f hf => ?_)), fun g2 => ⟨is247, s_cuts h hc rfl (fun N1 s1 t1 => b62 N1 s1 (t1.c (fun i f hf => ?_)))⟩⟩⟩
    · have : dele1 (T c) a b = T c := by unfold dele1; rw [if_pos g, if_neg (g0 g)]
      rw [this, upr_same]
    · have : dele1 (T c) a b = T c := by unfold dele1; rw [if_neg g, if_neg (nlt_of_le g2)]
      rw [this, upr_same]
    · have : dele1 (T c) a b = cut1 (T c) (b - T c 2) 0 := by unfold dele1; rw [if_neg g, if_pos (lt_of_nle g2)]
      rw [this]
  unfold w_X8_deletes
  refine ⟨is247, s_of h hc (f := 2) (by decide) rfl (s_endOf h hc ⟨fun g => b40 (fun q => absurd g (nle_of_lt q)), fun g => ⟨fun g2 => b40 (fun _ => nlt_of_le g2), fun g2 => s_cuts h hc rfl (fun N1 s1 t1 => b62 N1 s1 (t1.c (fun i f hf => ?_)))⟩⟩)⟩
  have : dele1 (T c) a b = cut1 (T c) 0 (T c 2 + T c 4 - a) := by unfold dele1; rw [if_pos (lt_of_nle g), if_pos (lt_of_nle g2)]
  rw [this]
def ord (T : Arr) (m : Nat) : Prop := ∀ c, c + 1 < m → T c 0 = T (c + 1) 0 → T c 2 ≤ T (c + 1) 2
theorem crry_same (T : Arr) (c : Nat) : crry T c c = T := by
  funext i f
  unfold crry
  by_cases e : i = c
  · rw [if_pos e, e]
  · rw [if_neg e, if_neg (by omega), if_neg (by omega)]
theorem s_ordersAll {N : mw_M} {m : Nat} {T : Arr} {Q : mw_M → Prop} (h : Tr N m T) (ho : ord T m) (hq : ∀ N1, sm St N N1 → Tr N1 m T → Q N1) : w_X8_ordersAll 255 N 247 Q := by
  have hm := h.2.2.1
  unfold w_X8_ordersAll w_X8_ordersAll_b2
  refine ⟨fun N1 z => ∃ c, z = nI c ∧ 1 ≤ c ∧ (c ≤ m ∨ c = 1) ∧ sm St N N1 ∧ Tr N1 m T, fun _ z => 15 - z.toInt.toNat, ⟨1, rfl, by decide, Or.inr rfl, sm.rf, h⟩, ?_⟩
  rintro N1 _ ⟨c, rfl, hc1, hc2, s1, t1⟩
  rw [t1.2.1, nI_leI (by omega) (by omega)]
  refine ⟨is247, fun g => hq N1 s1 t1, fun g => ?_⟩
  have b56 : w_X8_ordersAll_b56 255 N1 247 (nI c) (nI c) Q (fun (M_ : mw_M) (x1_ : Int32) => (∃ c, x1_ = nI c ∧ 1 ≤ c ∧ (c ≤ m ∨ c = 1) ∧ sm St N M_ ∧ Tr M_ m T) ∧ 15 - x1_.toInt.toNat < 15 - (nI c).toInt.toNat) := by
    unfold w_X8_ordersAll_b56
    refine ⟨is247, s_carries t1 (a := c) (b := c) (by omega) (by omega) rfl rfl (fun N2 s2 t2 => ?_)⟩
    rintro _ rfl
    rw [crry_same] at t2
    exact ⟨⟨c + 1, nI_1 c, by omega, by omega, s1.tr s2, t2⟩, mu_dec (by omega) (by decide)⟩
  unfold w_X8_ordersAll_b12
  refine ⟨fun N2 z => N2 = N1 ∧ z = nI c, fun _ z => z.toInt.toNat, ⟨rfl, rfl⟩, ?_⟩
  rintro N2 _ ⟨rfl, rfl⟩
  obtain ⟨d, rfl⟩ : ∃ d, c = d + 1 := ⟨c - 1, by omega⟩
  rw [nI_pred]
  refine ⟨fun _ => b56, fun _ => ⟨is247, s_of t1 (by omega) (f := 0) (by decide) rfl (s_of t1 (by omega) (f := 0) (by decide) rfl ⟨fun _ => b56, fun e0 => s_of t1 (by omega) (f := 2) (by decide) rfl (s_of t1 (by omega) (f := 2) (by decide) rfl ⟨fun _ => b56, fun e2 => absurd (ho d (by omega) e0) e2⟩)⟩)⟩⟩
def fTime (a b : Int32) : Prop := (1 ≤ b.toInt ∧ b.toInt ≤ 4000) ∧ 0 ≤ a.toInt ∧ a.toInt < b.toInt
noncomputable def cutAll (T : Arr) (m : Nat) (t a b : Int32) : Arr := fun i f => ifp (i < m ∧ T i 0 = t) (dele (T i) a b f) (T i f)
def fitAll (T : Arr) (m : Nat) (t a b : Int32) : Prop := ∀ i, i < m → T i 0 = t → dele (T i) a b 3 < 4000
theorem s_X8_deleteTime {M : mw_M} {k : Nat} {x1 x2 x3 : Int32} {Q : mw_M → Int32 → Prop} (hI : IK M k) (hC : VC (nw M)) (hO : ∀ T, fTime x2 x3 → agr (cn (nw M)) T (rC (nw M)) → ord (cutAll (dl x1 x2 x3 (cn (nw M)) T (cn (nw M))).1 (dl x1 x2 x3 (cn (nw M)) T (cn (nw M))).2 x1 x2 x3) (dl x1 x2 x3 (cn (nw M)) T (cn (nw M))).2) (h1 : ¬ isTr x1 → ∀ M1, sm S5t M M1 → mI M1 247 5 = 1 → Q M1 0) (h2 : isTr x1 → ¬ fTime x2 x3 → ∀ M1, sm S5t M M1 → mI M1 247 5 = 2 → Q M1 0) (h3 : isTr x1 → fTime x2 x3 → ∀ T T1 m1, agr (cn (nw M)) T (rC (nw M)) → dl x1 x2 x3 (cn (nw M)) T (cn (nw M)) = (T1, m1) → m1 ≤ cn (nw M) → (¬ fitAll T1 m1 x1 x2 x3 → ∀ M1, sm S5t M M1 → mI M1 247 5 = 2 → Q M1 0) ∧ (fitAll T1 m1 x1 x2 x3 → (¬ fine (cutAll T1 m1 x1 x2 x3) m1 → ∀ M1, sm S5t M M1 → mI M1 247 5 = 3 → Q M1 0) ∧ (fine (cutAll T1 m1 x1 x2 x3) m1 → ∀ N, Ck M k N → nw N = tov (nw M) m1 (cutAll T1 m1 x1 x2 x3) → Q N (nI (cn (nw M) - m1))))) : w_X8_deleteTime 255 M 247 x1 x2 x3 Q := by
  have hm12 := hC.cn.2
  have b44 : ¬ (isTr x1 ∧ fTime x2 x3) → w_X8_deleteTime_b44 255 M 247 x1 Q := by
    intro h
    unfold w_X8_deleteTime_b44 w_X8_deleteTime_b57 w_X8_deleteTime_b68
    refine s_X8_isTrack ⟨fun g => ⟨is247, s_no1 (c := 1) (by decide) (by decide) rfl (fun M1 s1 e1 => h1 (bl_0.mp g) M1 (s1.mono (fun a b q => Or.inl q)) e1)⟩, fun g => ⟨is247, s_no1 (c := 2) (by decide) (by decide) rfl (fun M1 s1 e1 => ?_)⟩⟩
    rw [bl_0, Classical.not_not] at g
    exact h2 g (fun q => h ⟨g, q⟩) M1 (s1.mono (fun a b q => Or.inl q)) e1
  have bad : ¬ fTime x2 x3 → w_X8_deleteTime_b29 255 M 247 x1 x2 x3 Q := by
    intro h
    unfold w_X8_deleteTime_b29 w_X8_deleteTime_b30
    exact s_X8_isTrack ⟨fun _ => b44 (fun q => h q.2), fun _ => ⟨fun q => absurd rfl q, fun _ => b44 (fun q => h q.2)⟩⟩
  have b30 : fTime x2 x3 → w_X8_deleteTime_b30 255 M 247 x1 x2 x3 1 Q := by
    intro hF
    unfold w_X8_deleteTime_b30
    refine s_X8_isTrack ⟨fun g => b44 (fun q => bl_0.mp g q.1), fun g => ⟨fun _ => ⟨is247, ?_⟩, fun q => absurd q (by decide)⟩⟩
    rw [bl_0, Classical.not_not] at g
    refine s_X8_tries hI.1 hC (fun N T s0 t0 g0 => ?_)
    replace h3 := h3 g hF T
    replace hO := hO T hF g0
    generalize cn (nw M) = m at *
    obtain ⟨T1, m1, hd⟩ : ∃ T1 m1, dl x1 x2 x3 m T m = (T1, m1) := ⟨_, _, rfl⟩
    rw [hd] at hO
    replace h3 := fun q => h3 T1 m1 g0 hd q
    rintro _ rfl
    rw [t0.2.1]
    unfold w_X8_deleteTime_b84
    have l1 : (-1 : Int32).toInt = -1 := rfl
    have o1 : (1 : Int32).toInt = 1 := rfl
    have ev : ∀ c, c ≤ 13 → (nI c - 1).toInt = (c : Int) - 1 := fun c hc => by
      rw [ti_sub (by rw [nI_toInt (by omega), o1]; omega) (by rw [nI_toInt (by omega), o1]; omega), nI_toInt (by omega), o1]
    refine ⟨fun N1 y z => ∃ c T' m', z = nI c - 1 ∧ c ≤ m' ∧ m' ≤ m ∧ y = nI (m - m') ∧ sm St M N1 ∧ Tr N1 m' T' ∧ dl x1 x2 x3 c T' m' = (T1, m1), fun _ _ z => (z.toInt + 1).toNat, ⟨m, T, m, rfl, Nat.le_refl _, Nat.le_refl _, by rw [Nat.sub_self]; rfl, s0, t0, hd⟩, ?_⟩
    rintro N1 _ _ ⟨c, T', m', rfl, hc, hm', rfl, s1, t1, hd1⟩
    have z0 : (0 : Int32).toInt = 0 := rfl
    rw [ti_lt, ev c (by omega), z0]
    refine ⟨fun gc => ?_, fun gc => ⟨is247, ?_⟩⟩
    · have : c = 0 := by omega
      subst this
      obtain ⟨rfl, rfl⟩ : T' = T1 ∧ m' = m1 := by
        have := hd1
        unfold dl at this
        exact ⟨congrArg Prod.fst this, congrArg Prod.snd this⟩
      obtain ⟨q2, q3⟩ := h3 hm'
      unfold w_X8_deleteTime_b142
      refine ⟨fun N2 y z => ∃ c, z = nI c ∧ c ≤ m' ∧ y = bl (∀ i, i < c → T' i 0 = x1 → dele (T' i) x2 x3 3 < 4000) ∧ sm St M N2 ∧ Tr N2 m' (cutAll T' c x1 x2 x3), fun _ _ z => 14 - z.toInt.toNat, ⟨0, rfl, Nat.zero_le _, (bl_t (fun i hi => absurd hi (Nat.not_lt_zero i))).symm, s1, t1.c (fun i f hf => ifp_f (fun q => absurd q.1 (Nat.not_lt_zero i)))⟩, ?_⟩
      rintro N2 _ _ ⟨c, rfl, hc2, rfl, s2, t2⟩
      rw [t2.2.1, nI_leI (by omega) (by omega)]
      refine ⟨is247, fun gg => ?_, fun gg => ?_⟩
      · have : c = m' := by omega
        subst this
        refine s_ordersAll t2 hO (fun N3 s3 t3 => ?_)
        have b217 : ∀ cd, (cd = 0 ∨ cd = 2 ∨ cd = 3) → (cd ≠ 0 → ∀ M1, sm S5t M M1 → mI M1 247 5 = nI cd → Q M1 0) → (cd = 0 → ∀ N1, Ck M k N1 → nw N1 = tov (nw M) c (cutAll T' c x1 x2 x3) → Q N1 (nI (m - c))) → w_X8_deleteTime_b217 255 N3 247 (nI (m - c)) (nI cd) 247 Q := by
          intro cd hcd r1 r0
          unfold w_X8_deleteTime_b217
          exact ⟨is247, s_tail hI (s2.tr s3) t3 (Or.inl (by omega)) (by omega) rfl r1 r0⟩
        refine ⟨fun f => ?_, fun f => b217 2 (by decide) (fun _ => q2 (bl_0.mp f)) (fun q => absurd q (by decide))⟩
        obtain ⟨r1, r0⟩ := q3 (Classical.not_not.mp (fun r => f (bl_0.mpr r)))
        exact s_isFine t3 ⟨fun e => b217 3 (by decide) (fun _ => r1 (bl_0.mp e)) (fun q => absurd q (by decide)), fun e => b217 0 (by decide) (fun q => absurd rfl q) (fun _ => r0 (Classical.not_not.mp (fun r => e (bl_0.mpr r))))⟩
      · have hcc : ∀ f, cutAll T' c x1 x2 x3 c f = T' c f := fun f => ifp_f (fun q => absurd q.1 (Nat.lt_irrefl c))
        have hcf : cutAll T' c x1 x2 x3 c = T' c := funext hcc
        obtain ⟨A, hA⟩ : ∃ A : Prop, A = (∀ i, i < c → T' i 0 = x1 → dele (T' i) x2 x3 3 < 4000) := ⟨_, rfl⟩
        rw [← hA]
        have fin : ∀ (N3 : mw_M) (v : Int32), v = bl (A ∧ (T' c 0 = x1 → dele (T' c) x2 x3 3 < 4000)) → sm St M N3 → Tr N3 m' (cutAll T' (c + 1) x1 x2 x3) → ∀ w : Int32, w = nI c + 1 → (∃ c, w = nI c ∧ c ≤ m' ∧ v = bl (∀ i, i < c → T' i 0 = x1 → dele (T' i) x2 x3 3 < 4000) ∧ sm St M N3 ∧ Tr N3 m' (cutAll T' c x1 x2 x3)) ∧ 14 - w.toInt.toNat < 14 - (nI c).toInt.toNat := by
          rintro N3 _ rfl s3 t3 _ rfl
          rw [hA]
          refine ⟨⟨c + 1, nI_1 c, by omega, bl_c ⟨fun q i hi h0 => ?_, fun q => ⟨fun i hi h0 => q i (by omega) h0, q c (by omega)⟩⟩, s3, t3⟩, mu_dec (by omega) (by decide)⟩
          by_cases e : i = c
          · rw [e] at h0 ⊢; exact q.2 h0
          · exact q.1 i (by omega) h0
        have b173 : ∀ N3, sm St M N3 → Tr N3 m' (cutAll T' (c + 1) x1 x2 x3) → (T' c 0 = x1 → dele (T' c) x2 x3 3 < 4000) → w_X8_deleteTime_b173 255 N3 247 x1 x2 x3 (nI (m - m')) (bl A) (nI c) Q (fun (M_ : mw_M) (x6_ : Int32) (x7_ : Int32) => (∃ c, x7_ = nI c ∧ c ≤ m' ∧ x6_ = bl (∀ i, i < c → T' i 0 = x1 → dele (T' i) x2 x3 3 < 4000) ∧ sm St M M_ ∧ Tr M_ m' (cutAll T' c x1 x2 x3)) ∧ 14 - x7_.toInt.toNat < 14 - (nI c).toInt.toNat) := by
          intro N3 s3 t3 hf
          unfold w_X8_deleteTime_b173 w_X8_deleteTime_b182 w_X8_deleteTime_b183
          rw [bl_0]
          exact ⟨fun nA => fin N3 0 (bl_f (fun q => nA q.1)).symm s3 t3, fun nA => fin N3 1 (bl_t ⟨Classical.not_not.mp nA, hf⟩).symm s3 t3⟩
        refine s_of t2 (by omega) (f := 0) (by decide) rfl ?_
        rw [hcc]
        refine ⟨fun e => b173 N2 s2 (t2.c (fun i f hf => ?_)) (fun q => absurd q e), fun e => s_deletes t2 (by omega) rfl (fun N3 s3 t3 => ?_)⟩
        · unfold cutAll
          by_cases e2 : i < c ∧ T' i 0 = x1
          · rw [ifp_t e2, ifp_t ⟨by omega, e2.2⟩]
          · rw [ifp_f e2, ifp_f (fun q => e2 ⟨by
              by_cases e3 : i = c
              · exact absurd (e3 ▸ q.2) e
              · omega, q.2⟩)]
        · rw [hcf] at t3 ⊢
          have t4 : Tr N3 m' (cutAll T' (c + 1) x1 x2 x3) := t3.c (fun i f hf => by
            unfold upr cutAll
            by_cases e3 : i = c
            · rw [if_pos e3, ifp_t ⟨by omega, e3 ▸ e⟩, e3]
            · rw [if_neg e3]
              by_cases e2 : i < c ∧ T' i 0 = x1
              · rw [ifp_t e2, ifp_t ⟨by omega, e2.2⟩]
              · rw [ifp_f e2, ifp_f (fun q => e2 ⟨by omega, q.2⟩)])
          refine ⟨fun f => ?_, fun f => b173 N3 (s2.tr s3) t4 (fun _ => Classical.not_not.mp (fun r => f (bl_0.mpr r)))⟩
          unfold w_X8_deleteTime_b182 w_X8_deleteTime_b183
          exact fin N3 0 (bl_f (fun q => bl_0.mp f (q.2 e))).symm (s2.tr s3) t4
    · obtain ⟨d, rfl⟩ : ∃ d, c = d + 1 := ⟨c - 1, by omega⟩
      rw [nI_pred]
      have hdl : dl x1 x2 x3 (d + 1) T' m' = ifp (gn (T' d) x1 x2 x3) (dl x1 x2 x3 d (lv T' d m') (m' - 1)) (dl x1 x2 x3 d T' m') := rfl
      rw [hdl] at hd1
      have ed : nI d + -1 = nI d - 1 := (Int32.sub_eq_add_neg ..).symm
      have dec : ((nI d - 1).toInt + 1).toNat < ((nI d).toInt + 1).toNat := by
        rw [ev d (by omega), nI_toInt (by omega)]
        omega
      have stay : ¬ gn (T' d) x1 x2 x3 → w_X8_deleteTime_b130 255 N1 247 x1 x2 x3 (nI (m - m')) (nI d) Q (fun (M_ : mw_M) (x5_ : Int32) (x6_ : Int32) => (∃ c T' m', x6_ = nI c - 1 ∧ c ≤ m' ∧ m' ≤ m ∧ x5_ = nI (m - m') ∧ sm St M M_ ∧ Tr M_ m' T' ∧ dl x1 x2 x3 c T' m' = (T1, m1)) ∧ (x6_.toInt + 1).toNat < ((nI d).toInt + 1).toNat) := by
        intro hg
        unfold w_X8_deleteTime_b130
        rintro _ rfl
        rw [ed]
        rw [ifp_f hg] at hd1
        exact ⟨⟨d, T', m', rfl, by omega, hm', rfl, s1, t1, hd1⟩, dec⟩
      have hd14 : d < 14 := by omega
      refine s_of t1 hd14 (f := 0) (by decide) rfl ⟨fun e => stay (fun q => e q.1), fun e => s_of t1 hd14 (f := 2) (by decide) rfl ⟨fun e2 => stay (fun q => nlt_of_le q.2.1 e2), fun e2 => s_endOf t1 hd14 ⟨fun e3 => stay (fun q => nlt_of_le q.2.2 e3), fun e3 => s_leaves t1 (by omega) rfl (fun N2 s2 t2 => ?_)⟩⟩⟩
      rintro _ rfl
      unfold w_X8_deleteTime_b130
      rintro _ rfl
      rw [ed]
      rw [ifp_t ⟨e, le_of_nlt e2, le_of_nlt e3⟩] at hd1
      exact ⟨⟨d, lv T' d m', m' - 1, rfl, by omega, by omega, by rw [nI_1]; exact congrArg nI (by omega), s1.tr s2, t2, hd1⟩, dec⟩
  have o1 : (1 : Int32).toInt = 1 := rfl
  unfold w_X8_deleteTime
  refine s_inc 1 4000 rfl rfl (fun h => bad (fun q => h q.1)) (fun g1 => ?_)
  have e3 : (Int32.toInt64 (x3 - 1)).toInt = x3.toInt - 1 := by rw [ti_l, ti_sub (by rw [o1]; omega) (by rw [o1]; omega), o1]
  exact s_inc 0 (x3.toInt - 1) rfl e3 (fun h => bad (fun q => h ⟨q.2.1, by have := q.2.2; omega⟩)) (fun g2 => b30 ⟨g1, g2.1, by have := g2.2; omega⟩)
