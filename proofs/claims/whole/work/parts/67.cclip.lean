/-! The class: its row of clips -/
def Cw (s : Nat) : Nat → Prop := fun a => a = s ∨ a = s + 2 ∨ (s + 11 ≤ a ∧ a < s + 23)
/-- a frame that touches the clips of a state alone -/
def Fc (s : Nat) (M N : mw_M) : Prop := fo (Cw s) M N ∧ (∀ b, b ≠ 2 → mI N s b = mI M s b) ∧ ∀ b, mP N s b = mP M s b
theorem Fc.rf {s : Nat} {M : mw_M} : Fc s M M := ⟨fo.rf, fun _ _ => rfl, fun _ => rfl⟩
theorem Fc.tr {s : Nat} {M N N1 : mw_M} (h : Fc s M N) (g : Fc s N N1) : Fc s M N1 := ⟨h.1.tr g.1, fun b hb => (g.2.1 b hb).trans (h.2.1 b hb), fun b => (g.2.2 b).trans (h.2.2 b)⟩
/-- the state s shows m clips T -/
def Cl (N : mw_M) (s m : Nat) (T : Arr) : Prop := sk N s ∧ mI N s 2 = nI m ∧ m ≤ 12 ∧ ∀ c f, c < m → f < 9 → mI N (mP N (s + 2) c) f = T c f
theorem Cl.c {N : mw_M} {s m : Nat} {T T1 : Arr} (h : Cl N s m T) (e : ∀ c f, c < m → f < 9 → T1 c f = T c f) : Cl N s m T1 := ⟨h.1, h.2.1, h.2.2.1, fun c f hc hf => (h.2.2.2 c f hc hf).trans (e c f hc hf).symm⟩
theorem Cl_of {N : mw_M} {s : Nat} {R : Row} {K : Int64} (hsk : sk N s) (hC : VC R) (h : rep N s R K) : Cl N s (cn R) (rC R) := ⟨hsk, h.2.1.trans hC.cn.1, hC.cn.2, h.2.2.1⟩
def swp (T : Arr) (i j : Nat) : Arr := fun c f => if c = j then T i f else if c = i then T j f else T c f
theorem s_X5_swap {N : mw_M} {s m i j : Nat} {T : Arr} {Q : mw_M → Prop} (hb : bs s) (h : Cl N s m T) (hi : i < m) (hj : j < m) (hq : ∀ N1, Fc s N N1 → Cl N1 s m (swp T i j) → Q N1) : w_X5_swap 255 N s (nI i) (nI j) Q := by
  obtain ⟨hsk, h2, h12, hT⟩ := h
  obtain ⟨⟨k0, k1, k3, k8⟩, ka, kt, kr, ki⟩ := id hsk
  have el : lnd 2 = 12 := rfl
  have kk : ∀ c, c < 12 → mw_is 255 (mP N (s + 2) c) 0 := fun c hc => kC hb hsk hc
  unfold w_X5_swap
  rw [k1, bs_ln hb (by decide) (Or.inr (Or.inl rfl)), el, nI_clamp (by omega), nI_clamp (by omega)]
  refine ⟨kS hb, kA2 hb, vp_n (by omega) (by decide), ?_⟩
  rintro _ rfl
  refine ⟨vp_n (by omega) (by decide), kk j (by omega), ?_⟩
  rintro _ rfl
  have k1' : mP (sP N (s + 2) i (mP N (s + 2) j)) s 1 = s + 2 := by rw [mP_ne (Or.inl (by omega))]; exact k1
  rw [k1', bs_ln hb (by decide) (Or.inr (Or.inl rfl)), el]
  refine ⟨kA2 hb, kk i (by omega), vp_n (by omega) (by decide), ?_⟩
  rintro _ rfl
  have eP : ∀ c, mP (sP (sP N (s + 2) i (mP N (s + 2) j)) (s + 2) j (mP N (s + 2) i)) (s + 2) c = if c = j then mP N (s + 2) i else if c = i then mP N (s + 2) j else mP N (s + 2) c := by
    intro c
    by_cases e : c = j
    · rw [e, mP_at, if_pos rfl]
    · rw [mP_ne (Or.inr e), if_neg e]
      by_cases e2 : c = i
      · rw [e2, mP_at, if_pos rfl]
      · rw [mP_ne (Or.inr e2), if_neg e2]
  have eO : ∀ a b, a ≠ s + 2 → mP (sP (sP N (s + 2) i (mP N (s + 2) j)) (s + 2) j (mP N (s + 2) i)) a b = mP N a b := fun a b ha => by rw [mP_ne (Or.inl ha), mP_ne (Or.inl ha)]
  have eI : ∀ a b, mI (sP (sP N (s + 2) i (mP N (s + 2) j)) (s + 2) j (mP N (s + 2) i)) a b = mI N a b := fun a b => rfl
  have f1 : Fc s N (sP (sP N (s + 2) i (mP N (s + 2) j)) (s + 2) j (mP N (s + 2) i)) := ⟨(fo.sp (Or.inr (Or.inl rfl))).tr (fo.sp (Or.inr (Or.inl rfl))), fun b _ => rfl, fun b => eO _ _ (by omega)⟩
  refine hq _ f1 ⟨⟨⟨(eO _ _ (by omega)).trans k0, (eO _ _ (by omega)).trans k1, (eO _ _ (by omega)).trans k3, (eO _ _ (by omega)).trans k8⟩, fun c hc => (eO _ _ (by omega)).trans (ka c hc), fun t ht => ?_, fun c hc => ?_, fun c d hc hd e => ?_⟩, h2, h12, fun c f hc hf => ?_⟩
  · obtain ⟨g1, g2, g3, g4⟩ := kt t ht
    exact ⟨(eO _ _ (by omega)).trans g1, (eO _ _ (by omega)).trans g2, (eO _ _ (by omega)).trans g3, (eO _ _ (by omega)).trans g4⟩
  · rw [eP]
    (repeat' split) <;> first | exact kr i (by omega) | exact kr j (by omega) | exact kr c hc
  · rw [eP, eP] at e
    (repeat' split at e) <;> first
      | omega
      | (have := ki _ _ (by omega) (by omega) e; omega)
  · rw [eI, eP]
    unfold swp
    (repeat' split) <;> first | exact hT _ f (by omega) hf
/-- one clip is strictly ahead of another -/
def ahr (r u : Nat → Int32) : Prop := r 0 < u 0 ∨ (r 0 = u 0 ∧ r 2 < u 2)
theorem s_X0_isBefore {M : mw_M} {p q : Nat} {r u : Nat → Int32} {Q : Int32 → Prop} (kp : mw_is 255 p 0) (kq : mw_is 255 q 0) (hr : ∀ f, f < 9 → mI M p f = r f) (hu : ∀ f, f < 9 → mI M q f = u f) (hq : Q (bl (ahr r u))) : w_X0_isBefore 255 M p q Q := by
  unfold w_X0_isBefore w_X0_isBefore_b46
  rw [hr 0 (by decide), hr 2 (by decide), hu 0 (by decide), hu 2 (by decide)]
  refine ⟨kp, kq, fun e => ⟨fun g => ⟨Or.inl rfl, ?_⟩, fun g => ⟨Or.inr rfl, ?_⟩⟩, fun e => ⟨fun g => ⟨Or.inl rfl, ?_⟩, fun g => ⟨Or.inr rfl, ?_⟩⟩⟩
  · rw [bl_f (P := ahr r u) (by
      rintro (q | ⟨-, q⟩)
      · rw [e, ti_lt] at q; omega
      · exact nlt_of_le g q)] at hq
    exact hq
  · rw [bl_t (P := ahr r u) (Or.inr ⟨e, lt_of_nle g⟩)] at hq
    exact hq
  · rw [bl_f (P := ahr r u) (by
      rintro (q | ⟨q, -⟩)
      · exact nlt_of_le g q
      · exact e q)] at hq
    exact hq
  · rw [bl_t (P := ahr r u) (Or.inl (lt_of_nle g))] at hq
    exact hq
/-- where settling ends -/
def stl (T : Arr) (c m k : Nat) : Prop := k < m ∧ (∀ j, k ≤ j → j < c → ahr (T c) (T j)) ∧ (∀ j, c < j → j ≤ k → ahr (T j) (T c)) ∧ (k ≤ c → k = 0 ∨ ¬ ahr (T c) (T (k - 1))) ∧ (c ≤ k → k + 1 = m ∨ ¬ ahr (T (k + 1)) (T c))
theorem ahr_as {r u : Nat → Int32} (h : ahr r u) : ¬ ahr u r := by
  rcases h with h | ⟨h1, h2⟩
  · rintro (g | ⟨g, -⟩)
    · rw [ti_lt] at h g; omega
    · rw [g, ti_lt] at h; omega
  · rintro (g | ⟨-, g⟩)
    · rw [h1, ti_lt] at g; omega
    · rw [ti_lt] at h2 g; omega
theorem s_X5_settle {N : mw_M} {s m c : Nat} {T : Arr} {Q : mw_M → Int32 → Prop} (hb : bs s) (h : Cl N s m T) (hc : c < m) (hq : ∀ N1 k, Fc s N N1 → Cl N1 s m (crry T c k) → stl T c m k → Q N1 (nI k)) : w_X5_settle 255 N s (nI c) Q := by
  have h12 := h.2.2.1
  have el : lnd 2 = 12 := rfl
  have b40 : ∀ N1 k, k ≤ c → Fc s N N1 → Cl N1 s m (crry T c k) → (∀ j, k ≤ j → j < c → ahr (T c) (T j)) → (k = 0 ∨ ¬ ahr (T c) (T (k - 1))) → w_X5_settle_b40 255 N1 s (nI k) Q := by
    intro N1 k hk f1 c1 g1 g2
    unfold w_X5_settle_b40 w_X5_settle_b84
    refine ⟨fun N2 z => ∃ i, z = nI i ∧ k ≤ i ∧ i < m ∧ (i = k ∨ k = c) ∧ Fc s N N2 ∧ Cl N2 s m (crry T c i) ∧ ∀ j, c < j → j ≤ i → ahr (T j) (T c), fun _ z => 12 - z.toInt.toNat, ⟨k, rfl, Nat.le_refl _, by omega, Or.inl rfl, f1, c1, fun j h1 h2 => by omega⟩, ?_⟩
    rintro N2 _ ⟨i, rfl, hi1, hi2, hi3, f2, c2, g3⟩
    obtain ⟨hsk, e2, -, hT⟩ := id c2
    obtain ⟨d, rfl⟩ : ∃ d, m = d + 1 := ⟨m - 1, by omega⟩
    rw [e2, nI_pred, nI_leI (by omega) (by omega), hsk.1.2.1, bs_ln hb (by decide) (Or.inr (Or.inl rfl)), el, nI_1, nI_clamp (by omega), nI_clamp (by omega)]
    refine ⟨kS hb, fun g => hq N2 i f2 c2 ⟨hi2, fun j h1 h2 => g1 j (by omega) h2, g3, fun h1 => ?_, fun h1 => Or.inl (by omega)⟩, fun g => ⟨kA2 hb, vp_n (by omega) (by decide), vp_n (by omega) (by decide), kC hb hsk (by omega), ?_⟩⟩
    · have : i = k := by omega
      rw [this]; exact g2
    · refine s_X0_isBefore (r := crry T c i (i + 1)) (u := crry T c i i) (kC hb hsk (by omega)) (kC hb hsk (by omega)) (fun f hf => hT (i + 1) f (by omega) hf) (fun f hf => hT i f (by omega) hf) ?_
      have eu : crry T c i i = T c := by
        funext f
        exact if_pos rfl
      have er : k = c → crry T c i (i + 1) = T (i + 1) := fun e => by
        funext f
        unfold crry
        rw [if_neg (by omega), if_neg (by omega), if_neg (by omega)]
      have er2 : k < c → crry T c i (i + 1) = T i := fun e => by
        funext f
        unfold crry
        rw [if_neg (by omega), if_neg (by omega), if_pos (by omega)]
        rfl
      rw [eu, bl_0, Classical.not_not]
      by_cases e : k = c
      · rw [er e]
        refine ⟨fun q => hq N2 i f2 c2 ⟨hi2, fun j h1 h2 => g1 j (by omega) h2, g3, fun h1 => ?_, fun _ => Or.inr q⟩, fun q => s_X5_swap hb c2 (by omega) (by omega) (fun N3 f3 c3 => ?_)⟩
        · have : i = k := by omega
          rw [this]; exact g2
        · rintro _ rfl
          refine ⟨⟨i + 1, rfl, by omega, by omega, Or.inr e, f2.tr f3, c3.c (fun a f ha hf => ?_), fun j h1 h2 => ?_⟩, ?_⟩
          · have hic : c ≤ i := by omega
            unfold swp crry
            repeat' split
            all_goals first | rfl | (exfalso; omega) | (congr 2 <;> omega)
          · by_cases e3 : j = i + 1
            · rw [e3]; exact q
            · exact g3 j h1 (by omega)
          · show 12 - (nI (i + 1)).toInt.toNat < 12 - (nI i).toInt.toNat
            rw [nI_toInt (by omega), nI_toInt (by omega)]
            omega
      · have hik : i = k := by omega
        rw [er2 (by omega)]
        have hn : ¬ ahr (T i) (T c) := ahr_as (g1 i (by omega) (by omega))
        exact ⟨fun _ => hq N2 i f2 c2 ⟨hi2, fun j h1 h2 => g1 j (by omega) h2, g3, fun _ => by rw [hik]; exact g2, fun h1 => by omega⟩, fun q => absurd q hn⟩
  unfold w_X5_settle w_X5_settle_b2
  refine ⟨fun N1 z => ∃ k, z = nI k ∧ k ≤ c ∧ Fc s N N1 ∧ Cl N1 s m (crry T c k) ∧ ∀ j, k ≤ j → j < c → ahr (T c) (T j), fun _ z => z.toInt.toNat, ⟨c, rfl, Nat.le_refl _, Fc.rf, by rw [crry_same]; exact h, fun j h1 h2 => by omega⟩, ?_⟩
  rintro N1 _ ⟨k, rfl, hk, f1, c1, g1⟩
  obtain ⟨hsk, e2, -, hT⟩ := id c1
  have z0 : (0 : Int32) = nI 0 := rfl
  rw [z0, nI_leI (by omega) (by decide)]
  refine ⟨fun g => b40 N1 k hk f1 c1 g1 (Or.inl (by omega)), fun g => ?_⟩
  obtain ⟨d, rfl⟩ : ∃ d, k = d + 1 := ⟨k - 1, by omega⟩
  rw [nI_pred, hsk.1.2.1, bs_ln hb (by decide) (Or.inr (Or.inl rfl)), el, nI_clamp (by omega), nI_clamp (by omega)]
  refine ⟨kS hb, kA2 hb, vp_n (by omega) (by decide), vp_n (by omega) (by decide), kC hb hsk (by omega), s_X0_isBefore (r := crry T c (d + 1) (d + 1)) (u := crry T c (d + 1) d) (kC hb hsk (by omega)) (kC hb hsk (by omega)) (fun f hf => hT (d + 1) f (by omega) hf) (fun f hf => hT d f (by omega) hf) ?_⟩
  have eu : crry T c (d + 1) (d + 1) = T c := by
    funext f
    exact if_pos rfl
  have er : crry T c (d + 1) d = T d := by
    funext f
    unfold crry
    rw [if_neg (by omega), if_neg (by omega), if_neg (by omega)]
  rw [eu, er, ← z0, bl_0, Classical.not_not]
  refine ⟨fun q => b40 N1 (d + 1) hk f1 c1 g1 (Or.inr q), fun q => s_X5_swap hb c1 (by omega) (by omega) (fun N3 f3 c3 => ?_)⟩
  rintro _ rfl
  have ed : nI (d + 1) + -1 = nI d := by
    rw [← nI_1, Int32.add_assoc]
    exact Int32.add_zero _
  rw [ed]
  refine ⟨⟨d, rfl, by omega, f1.tr f3, c3.c (fun a f ha hf => ?_), fun j h1 h2 => ?_⟩, ?_⟩
  · unfold swp crry
    repeat' split
    all_goals first | rfl | (exfalso; omega) | (congr 2 <;> omega)
  · by_cases e3 : j = d
    · rw [e3]; exact q
    · exact g1 j (by omega) h2
  · show (nI d).toInt.toNat < (nI (d + 1)).toInt.toNat
    rw [nI_toInt (by omega), nI_toInt (by omega)]
    omega
theorem s_X5_drop {N : mw_M} {s m c : Nat} {T : Arr} {Q : mw_M → Prop} (hb : bs s) (h : Cl N s m T) (hc : c < m) (hq : ∀ N1, Fc s N N1 → Cl N1 s (m - 1) (lv T c m) → Q N1) : w_X5_drop 255 N s (nI c) Q := by
  have h12 := h.2.2.1
  obtain ⟨d, rfl⟩ : ∃ d, m = d + 1 := ⟨m - 1, by omega⟩
  unfold w_X5_drop w_X5_drop_b2
  refine ⟨fun N1 z => ∃ k, z = nI k ∧ c ≤ k ∧ k ≤ d ∧ Fc s N N1 ∧ Cl N1 s (d + 1) (crry T c k), fun _ z => 12 - z.toInt.toNat, ⟨c, rfl, Nat.le_refl _, by omega, Fc.rf, by rw [crry_same]; exact h⟩, ?_⟩
  rintro N1 _ ⟨k, rfl, hk1, hk2, f1, c1⟩
  obtain ⟨hsk, e2, -, hT⟩ := id c1
  rw [e2, nI_pred, nI_leI (by omega) (by omega)]
  refine ⟨kS hb, fun g => ?_, fun g => ?_⟩
  · have : k = d := by omega
    subst this
    rintro _ rfl
    refine hq _ (f1.tr ⟨fo.si (Or.inl rfl), fun b hb2 => mI_ne (Or.inr hb2), fun b => rfl⟩) ⟨sm_sk (sm.si (S := fun _ _ => True) trivial) hsk, mI_at _ _ _ _, by omega, fun a f ha hf => ?_⟩
    obtain ⟨q1, q2⟩ := hsk.2.2.2.1 a (by omega)
    show mI (sI N1 s 2 (nI k)) (mP N1 (s + 2) a) f = _
    rw [mI_ne (Or.inl (by omega)), hT a f (by omega) hf]
    unfold crry lv
    repeat' split
    all_goals first | rfl | (exfalso; omega) | (congr 2 <;> omega)
  · rw [nI_1]
    refine s_X5_swap hb c1 (by omega) (by omega) (fun N3 f3 c3 => ?_)
    rintro _ rfl
    refine ⟨⟨k + 1, rfl, by omega, by omega, f1.tr f3, c3.c (fun a f ha hf => ?_)⟩, ?_⟩
    · unfold swp crry
      repeat' split
      all_goals first | rfl | (exfalso; omega) | (congr 2 <;> omega)
    · show 12 - (nI (k + 1)).toInt.toNat < 12 - (nI k).toInt.toNat
      rw [nI_toInt (by omega), nI_toInt (by omega)]
      omega
theorem mn_c (f s : Int32) : (if s < f then s else f) = mn f s := by
  unfold mn
  by_cases h : s < f
  · rw [if_pos h, if_pos (by rw [ti_lt] at h; rw [ti_le]; omega)]
  · rw [if_neg h]
    by_cases g : s ≤ f
    · rw [if_pos g]
      rw [ti_lt] at h
      rw [ti_le] at g
      exact ti_inj (by omega)
    · rw [if_neg g]
theorem s_X0_trim {M : mw_M} {q : Nat} {r : Nat → Int32} {fr bk : Int32} {Q : mw_M → Prop} (kq : mw_is 255 q 0) (hv : ∀ f, f < 9 → mI M q f = r f) (hq : ∀ M1, sm (So q) M M1 → (∀ f, f < 9 → mI M1 q f = cut1 r fr bk f) → Q M1) : w_X0_trim 255 M q fr bk Q := by
  have w : ∀ {N : mw_M} {b : Nat} {x : Int32}, sm (So q) N (sI N q b x) := sm.si rfl
  unfold w_X0_trim
  refine ⟨kq, ?_⟩
  rw [hv 2 (by decide)]
  rintro _ rfl
  rw [mI_ne (Or.inr (by decide)), hv 3 (by decide)]
  rintro _ rfl
  rw [mI_ne (Or.inr (by decide)), mI_ne (Or.inr (by decide)), hv 4 (by decide), ← Int32.sub_sub]
  rintro _ rfl
  rw [mI_at, mI_ne (Or.inr (by decide)), mI_ne (Or.inr (by decide)), mI_ne (Or.inr (by decide)), hv 6 (by decide), mn_c]
  rintro _ rfl _ rfl
  rw [mI_ne (Or.inr (by decide)), mI_at, mI_ne (Or.inr (by decide)), mI_ne (Or.inr (by decide)), mI_ne (Or.inr (by decide)), mI_ne (Or.inr (by decide)), hv 7 (by decide), mn_c]
  rintro _ rfl _ rfl
  refine hq _ ((((w.tr w).tr w).tr w).tr w) (fun f hf => ?_)
  unfold cut1
  have hf9 : f = 0 ∨ f = 1 ∨ f = 2 ∨ f = 3 ∨ f = 4 ∨ f = 5 ∨ f = 6 ∨ f = 7 ∨ f = 8 := by omega
  rcases hf9 with rfl | rfl | rfl | rfl | rfl | rfl | rfl | rfl | rfl <;> simp [mI_sI] <;> exact hv _ (by decide)
/-- one clip written -/
theorem Cl.u {N N1 : mw_M} {s m c : Nat} {T : Arr} {r : Nat → Int32} (h : Cl N s m T) (hc : c < m) (s1 : sm (So (mP N (s + 2) c)) N N1) (e : ∀ f, f < 9 → mI N1 (mP N (s + 2) c) f = r f) : Fc s N N1 ∧ Cl N1 s m (upr T c r) := by
  obtain ⟨hsk, h2, h12, hT⟩ := h
  obtain ⟨q1, q2⟩ := hsk.2.2.2.1 c (by omega)
  have ns : ∀ b, ¬ So (mP N (s + 2) c) s b := fun b => show ¬ s = mP N (s + 2) c by omega
  refine ⟨⟨s1.fo (fun a b (q : a = _) => Or.inr (Or.inr ⟨by omega, by omega⟩)), fun b _ => s1.2.1 _ _ (ns b), fun b => s1.1 _ _⟩, sm_sk s1 hsk, (s1.2.1 _ _ (ns 2)).trans h2, h12, fun a f ha hf => ?_⟩
  rw [s1.1]
  unfold upr
  by_cases g : a = c
  · rw [if_pos g, g]; exact e f hf
  · rw [if_neg g, s1.2.1 _ _ (show ¬ mP N (s + 2) a = mP N (s + 2) c from fun w => g (hsk.2.2.2.2 a c (by omega) (by omega) w))]
    exact hT a f ha hf
