/-! The class: a state copied -/
def Str (s t : Nat) : Nat → Nat → Prop := fun a _ => s + 23 + 4 * t ≤ a ∧ a < s + 27 + 4 * t
def Sb (s : Nat) : Nat → Nat → Prop := fun a _ => s ≤ a ∧ a < s + 39
theorem bs_dj {s u : Nat} (h : bs s) (g : bs u) (hne : s ≠ u) : s + 39 ≤ u ∨ u + 39 ≤ s := by
  unfold bs at h g
  omega
theorem s_X6_takeFrom {M : mw_M} {s0 s1 t : Nat} {R : Row} {Q : mw_M → Prop} (hb0 : bs s0) (hb1 : bs s1) (hne : s1 ≠ s0) (hsk0 : sk M s0) (hsk1 : sk M s1) (hT : VT R) (hP : VP R) (hp : repD M s0 R) (ht : t < 4) (hq : ∀ M1, sm (Str s1 t) M M1 → repD1 M1 s1 R t → Q M1) : w_X6_takeFrom 255 M (s1 + 23 + 4 * t) (s0 + 23 + 4 * t) Q := by
  have dj := bs_dj hb1 hb0 hne
  obtain ⟨k6, k10, k10b, k12⟩ := kTr hb1 ht
  obtain ⟨j6, j10, j10b, j12⟩ := kTr hb0 ht
  obtain ⟨l1, l2, l3⟩ := ln8 hb0 ht
  obtain ⟨-, q5, q6, q7⟩ := hsk0.2.2.1 t ht
  obtain ⟨e4, h8⟩ := hT.pn ht
  obtain ⟨-, -, ⟨m0, m1⟩, ⟨n0, n1⟩, -⟩ := hT t ht
  have hw : ∀ {N : mw_M} {b : Nat} {x : Int32}, sm (Str s1 t) M N → sm (Str s1 t) M (sI N (s1 + 23 + 4 * t) b x) := fun h => h.tr (sm.si (S := Str s1 t) ⟨by omega, by omega⟩)
  have rd : ∀ {N : mw_M} {a b : Nat}, s0 ≤ a → a < s0 + 39 → sm (Str s1 t) M N → mI N a b = mI M a b := fun h1 h2 h => h.2.1 _ _ (by rintro ⟨a1, a2⟩; omega)
  have rF : ∀ {N : mw_M} {f : Nat}, f < 5 → sm (Str s1 t) M N → mI N (s0 + 23 + 4 * t) f = rT R t f := fun hf h => (rd (by omega) (by omega) h).trans (((hp t ht).1 _ hf).1)
  have rG : ∀ {N : mw_M} {f : Nat}, f < 5 → sm (Str s1 t) M N → mI N (s0 + 23 + 4 * t) (8 + f) = rT R t (29 + f) := fun hf h => (rd (by omega) (by omega) h).trans (((hp t ht).1 _ hf).2)
  unfold w_X6_takeFrom
  refine ⟨j6, k6, ?_⟩
  rw [rF (f := 0) (by decide) (sm.rf (M := M))]
  rintro _ rfl
  have t1 := hw (b := 0) (x := rT R t 0) sm.rf
  rw [rF (f := 1) (by decide) t1]
  rintro _ rfl
  have t2 := hw (b := 1) (x := rT R t 1) t1
  rw [rF (f := 2) (by decide) t2]
  refine ⟨b01_i m0 m1, ?_⟩
  rintro _ rfl
  have t3 := hw (b := 2) (x := rT R t 2) t2
  rw [rF (f := 3) (by decide) t3]
  refine ⟨b01_i n0 n1, ?_⟩
  rintro _ rfl
  have t4 := hw (b := 3) (x := rT R t 3) t3
  rw [rF (f := 4) (by decide) t4]
  rintro _ rfl
  have t5 := hw (b := 4) (x := rT R t 4) t4
  have g0 : ∀ f, f < 5 → mI (sI (sI (sI (sI (sI M (s1 + 23 + 4 * t) 0 (rT R t 0)) (s1 + 23 + 4 * t) 1 (rT R t 1)) (s1 + 23 + 4 * t) 2 (rT R t 2)) (s1 + 23 + 4 * t) 3 (rT R t 3)) (s1 + 23 + 4 * t) 4 (rT R t 4)) (s1 + 23 + 4 * t) f = rT R t f := by
    intro f hf
    have hf9 : f = 0 ∨ f = 1 ∨ f = 2 ∨ f = 3 ∨ f = 4 := by omega
    rcases hf9 with rfl | rfl | rfl | rfl | rfl <;> simp [mI_sI]
  generalize sI (sI (sI (sI (sI M (s1 + 23 + 4 * t) 0 (rT R t 0)) (s1 + 23 + 4 * t) 1 (rT R t 1)) (s1 + 23 + 4 * t) 2 (rT R t 2)) (s1 + 23 + 4 * t) 3 (rT R t 3)) (s1 + 23 + 4 * t) 4 (rT R t 4) = N0 at t5 g0 ⊢
  clear t1 t2 t3 t4
  unfold w_X6_takeFrom_b42
  refine ⟨fun N z => ∃ c, z = nI c ∧ c ≤ pn R t ∧ sm (Str s1 t) M N ∧ (∀ f, f < 5 → mI N (s1 + 23 + 4 * t) f = rT R t f) ∧ ∀ j, j < c → mI N (s1 + 24 + 4 * t) j = rT R t (5 + 3 * j) ∧ mI N (s1 + 25 + 4 * t) j = rT R t (5 + 3 * j + 1) ∧ mI N (s1 + 26 + 4 * t) j = rT R t (5 + 3 * j + 2), fun _ z => 8 - z.toInt.toNat, ⟨0, rfl, Nat.zero_le _, t5, g0, fun j hj => absurd hj (Nat.not_lt_zero j)⟩, ?_⟩
  rintro N _ ⟨c, rfl, hc, sN, g, gp⟩
  rw [g 4 (by decide), e4, nI_leI (by omega) (by omega)]
  refine ⟨k6, fun h => ⟨j6, ?_⟩, fun h => ?_⟩
  · have : c = pn R t := by omega
    subst this
    have w8 : mI N (s0 + 23 + 4 * t) 8 = rT R t 29 := rG (f := 0) (by decide) sN
    rw [w8]
    rintro _ rfl
    have u1 := hw (b := 8) (x := rT R t 29) sN
    have w9 : mI (sI N (s1 + 23 + 4 * t) 8 (rT R t 29)) (s0 + 23 + 4 * t) 9 = rT R t 30 := rG (f := 1) (by decide) u1
    rw [w9]
    rintro _ rfl
    have u2 := hw (b := 9) (x := rT R t 30) u1
    have w10 : mI (sI (sI N (s1 + 23 + 4 * t) 8 (rT R t 29)) (s1 + 23 + 4 * t) 9 (rT R t 30)) (s0 + 23 + 4 * t) 10 = rT R t 31 := rG (f := 2) (by decide) u2
    rw [w10]
    rintro _ rfl
    have u3 := hw (b := 10) (x := rT R t 31) u2
    have w11 : mI (sI (sI (sI N (s1 + 23 + 4 * t) 8 (rT R t 29)) (s1 + 23 + 4 * t) 9 (rT R t 30)) (s1 + 23 + 4 * t) 10 (rT R t 31)) (s0 + 23 + 4 * t) 11 = rT R t 32 := rG (f := 3) (by decide) u3
    rw [w11]
    rintro _ rfl
    have u4 := hw (b := 11) (x := rT R t 32) u3
    have w12 : mI (sI (sI (sI (sI N (s1 + 23 + 4 * t) 8 (rT R t 29)) (s1 + 23 + 4 * t) 9 (rT R t 30)) (s1 + 23 + 4 * t) 10 (rT R t 31)) (s1 + 23 + 4 * t) 11 (rT R t 32)) (s0 + 23 + 4 * t) 12 = rT R t 33 := rG (f := 4) (by decide) u4
    rw [w12]
    rintro _ rfl
    refine hq _ (hw u4) ⟨fun f hf => ⟨?_, ?_⟩, fun k hk => ⟨?_, ?_, ?_⟩⟩
    · rw [mI_ne (Or.inr (by omega)), mI_ne (Or.inr (by omega)), mI_ne (Or.inr (by omega)), mI_ne (Or.inr (by omega)), mI_ne (Or.inr (by omega))]
      exact g f hf
    · have hf9 : f = 0 ∨ f = 1 ∨ f = 2 ∨ f = 3 ∨ f = 4 := by omega
      rcases hf9 with rfl | rfl | rfl | rfl | rfl <;> simp [mI_sI]
    · rw [mI_ne (Or.inl (by omega)), mI_ne (Or.inl (by omega)), mI_ne (Or.inl (by omega)), mI_ne (Or.inl (by omega)), mI_ne (Or.inl (by omega))]
      exact (gp k hk).1
    · rw [mI_ne (Or.inl (by omega)), mI_ne (Or.inl (by omega)), mI_ne (Or.inl (by omega)), mI_ne (Or.inl (by omega)), mI_ne (Or.inl (by omega))]
      exact (gp k hk).2.1
    · rw [mI_ne (Or.inl (by omega)), mI_ne (Or.inl (by omega)), mI_ne (Or.inl (by omega)), mI_ne (Or.inl (by omega)), mI_ne (Or.inl (by omega))]
      exact (gp k hk).2.2
  · have hcp : c < pn R t := by omega
    obtain ⟨v1, v2, v3⟩ := (hp t ht).2 c hcp
    obtain ⟨-, -, b0, b1⟩ := (hP t ht).1 c hcp
    rw [sN.1 (s0 + 23 + 4 * t) 5, sN.1 (s0 + 23 + 4 * t) 6, sN.1 (s0 + 23 + 4 * t) 7, q5, q6, q7, l1, l2, l3, nI_clamp (by omega), rd (by omega) (by omega) sN, rd (by omega) (by omega) sN, rd (by omega) (by omega) sN, v1, v2, v3]
    refine ⟨j6, j10, vp_n (by omega) (by decide), j10b, vp_n (by omega) (by decide), j12, vp_n (by omega) (by decide), s_X6_setPlace hb1 (sm_sk sN hsk1) ht (by omega) (b01_i b0 b1) (fun N2 s2 h1 h2 h3 => ?_)⟩
    rintro _ rfl
    refine ⟨⟨c + 1, nI_1 c, by omega, sN.tr (s2.mono (fun a b q => ⟨by have := q.1.1; omega, q.1.2⟩)), fun f hf => (s2.2.1 _ _ (by rintro ⟨⟨a1, -⟩, -⟩; omega)).trans (g f hf), fun j hj => ?_⟩, mu_dec (by omega) (by decide)⟩
    by_cases e : j = c
    · rw [e]; exact ⟨h1, h2, h3⟩
    · obtain ⟨p1, p2, p3⟩ := gp j (by omega)
      exact ⟨(s2.2.1 _ _ (fun q => e q.2)).trans p1, (s2.2.1 _ _ (fun q => e q.2)).trans p2, (s2.2.1 _ _ (fun q => e q.2)).trans p3⟩
theorem s_X5_takeFrom {M : mw_M} {s0 s1 : Nat} {R : Row} {K : Int64} {Q : mw_M → Prop} (hb0 : bs s0) (hb1 : bs s1) (hne : s1 ≠ s0) (hsk0 : sk M s0) (hsk1 : sk M s1) (hV : VAL R) (hp : rep M s0 R K) (hq : ∀ M1, sm (Sb s1) M M1 → rep M1 s1 R K → Q M1) : w_X5_takeFrom 255 M s1 s0 Q := by
  have dj := bs_dj hb1 hb0 hne
  obtain ⟨hS, hC, hT, hP, hX, hL⟩ := id hV
  obtain ⟨e8, h12⟩ := hC.cn
  have el1 : lnd 1 = 6 := rfl
  have el2 : lnd 2 = 12 := rfl
  have el3 : lnd 3 = 4 := rfl
  have rd : ∀ {N : mw_M} {a b : Nat}, s0 ≤ a → a < s0 + 39 → sm (Sb s1) M N → mI N a b = mI M a b := fun h1 h2 h => h.2.1 _ _ (by rintro ⟨a1, a2⟩; omega)
  have rk : ∀ {N : mw_M}, sm (Sb s1) M N → rep N s0 R K := fun h => sm_rep h hsk0 hC (fun a b h1 h2 q => by have := q.1; have := q.2; omega) hp
  have b70 : ∀ N, sm (Sb s1) M N → repA N s1 R → repC N s1 R → w_X5_takeFrom_b70 255 N s1 s0 0 Q := by
    intro N sN gA gC
    unfold w_X5_takeFrom_b70
    refine ⟨fun N z => ∃ t, z = nI t ∧ t ≤ 4 ∧ sm (Sb s1) M N ∧ repA N s1 R ∧ repC N s1 R ∧ ∀ u, u < t → repD1 N s1 R u, fun _ z => 4 - z.toInt.toNat, ⟨0, rfl, by decide, sN, gA, gC, fun u hu => absurd hu (Nat.not_lt_zero u)⟩, ?_⟩
    clear sN gA gC N
    rintro N _ ⟨t, rfl, ht, sN, gA, gC, gD⟩
    obtain ⟨⟨-, -, p3, -⟩, -, pt, -⟩ := sm_sk sN hsk1
    obtain ⟨⟨-, -, o3, -⟩, -, ot, -⟩ := sm_sk sN hsk0
    rw [li 4, nI_leI (by decide) (by omega), p3, o3, bs_ln hb1 (by decide) (Or.inr (Or.inr (Or.inl rfl))), bs_ln hb0 (by decide) (Or.inr (Or.inr (Or.inl rfl))), el3, nI_clamp (by omega)]
    refine ⟨fun g => ⟨kS hb0, kS hb1, ?_⟩, fun g => ?_⟩
    · have : t = 4 := by omega
      subst this
      have hw : ∀ {N : mw_M} {b : Nat} {x : Int32}, sm (Sb s1) M N → sm (Sb s1) M (sI N s1 b x) := fun h => h.tr (sm.si (S := Sb s1) ⟨by omega, by omega⟩)
      rw [(rk sN).2.2.2.2.1.1]
      rintro _ rfl
      have u1 := hw (b := 4) (x := R 3) sN
      rw [(rk u1).2.2.2.2.1.2.1]
      rintro _ rfl
      have u2 := hw (b := 5) (x := R 0) u1
      rw [(rk u2).2.2.2.2.1.2.2.1]
      rintro _ rfl
      have u3 := hw (b := 6) (x := R 1) u2
      rw [(rk u3).2.2.2.2.1.2.2.2]
      rintro _ rfl
      have u4 := hw (b := 7) (x := R 2) u3
      have v4 : sm (fun a b => a = s1 ∧ 4 ≤ b ∧ b < 8) N (sI (sI (sI (sI N s1 4 (R 3)) s1 5 (R 0)) s1 6 (R 1)) s1 7 (R 2)) := (((sm.si ⟨rfl, by decide, by decide⟩).tr (sm.si ⟨rfl, by decide, by decide⟩)).tr (sm.si ⟨rfl, by decide, by decide⟩)).tr (sm.si ⟨rfl, by decide, by decide⟩)
      have gE : repE (sI (sI (sI (sI N s1 4 (R 3)) s1 5 (R 0)) s1 6 (R 1)) s1 7 (R 2)) s1 R := by
        unfold repE
        simp [mI_sI]
      generalize sI (sI (sI (sI N s1 4 (R 3)) s1 5 (R 0)) s1 6 (R 1)) s1 7 (R 2) = N4 at u4 v4 gE ⊢
      clear u1 u2 u3
      have k8 : mP N4 s1 8 = s1 + 4 := (sm_sk u4 hsk1).1.2.2.2
      have o8 : mP N4 s0 8 = s0 + 4 := (sm_sk u4 hsk0).1.2.2.2
      have vF := (rk u4).2.2.2.2.2
      rw [k8, o8]
      refine ⟨kM hb1, s_X3_takeFrom (r := fun j => if j < 4 then Int32.toInt64 (R (4 + j)) else K) (kM hb1) (kM hb0) (by omega) (fun f hf => ?_) (fun N5 s5 e5 => ?_)⟩
      · by_cases h4 : f < 4
        · rw [if_pos h4]; exact vF.1 f h4
        · rw [if_neg h4]
          have : f = 4 := by omega
          rw [this]; exact vF.2
      · have n1 : ∀ {a b : Nat}, (s1 ≤ a ∧ a < s1 + 39) → a ≠ s1 + 4 → a ≠ s1 → mI N5 a b = mI N a b := fun h1 h2 h3 => (s5.2.1 _ _ h2).trans (v4.2.1 _ _ (fun q => h3 q.1))
        have hp5 : ∀ a b, mP N5 a b = mP N a b := fun a b => (s5.1 a b).trans (v4.1 a b)
        refine hq N5 (u4.tr (s5.mono (fun a b (q : a = s1 + 4) => ⟨by omega, by omega⟩))) (rep_g.mpr ⟨?_, ?_, ?_, ?_, ?_⟩)
        · exact gA.tr (fun i b h1 h2 => n1 ⟨by omega, by omega⟩ (by omega) (by omega)) (fun _ _ _ => rfl)
        · exact gC.tr (sm_sk sN hsk1) h12 ((s5.2.1 _ _ (show ¬ s1 = s1 + 4 by omega)).trans (v4.2.1 _ _ (fun q => absurd q.2.1 (by decide)))) (fun c => hp5 _ _) (fun i b h1 h2 => n1 ⟨by omega, by omega⟩ (by omega) (by omega)) (fun _ _ _ => rfl)
        · exact fun t ht => (gD t ht).tr ht (hT.pn ht).2 (fun i b h1 h2 => n1 ⟨by omega, by omega⟩ (by omega) (by omega)) (fun _ _ => rfl)
        · exact gE.tr (fun b h1 h2 => s5.2.1 _ _ (show ¬ s1 = s1 + 4 by omega)) (fun _ _ => rfl)
        · refine ⟨fun j hj => ?_, ?_⟩
          · rw [e5 j (by omega), if_pos hj]
          · rw [e5 4 (by decide), if_neg (by decide)]
    · have ht4 : t < 4 := by omega
      rw [(pt t ht4).1, (ot t ht4).1]
      refine ⟨kS hb1, kA3 hb1, vp_n ht4 (by decide), kS hb0, kA3 hb0, vp_n ht4 (by decide), (kTr hb1 ht4).1, s_X6_takeFrom hb0 hb1 hne (sm_sk sN hsk0) (sm_sk sN hsk1) hT hP (rep_g.mp (rk sN)).2.2.1 ht4 (fun N2 s2 g2 => ?_)⟩
      rintro _ rfl
      have n1 : ∀ {a b : Nat}, ¬ (s1 + 23 + 4 * t ≤ a ∧ a < s1 + 27 + 4 * t) → mI N2 a b = mI N a b := fun h1 => s2.2.1 _ _ h1
      refine ⟨⟨t + 1, nI_1 t, by omega, sN.tr (s2.mono (fun a b q => ⟨by have := q.1; omega, by have := q.2; omega⟩)), gA.tr (fun i b h1 h2 => n1 (by omega)) (fun _ _ _ => rfl), gC.tr (sm_sk sN hsk1) h12 (n1 (by omega)) (fun c => s2.1 _ _) (fun i b h1 h2 => n1 (by omega)) (fun _ _ _ => rfl), fun u hu => ?_⟩, mu_dec (by omega) (by decide)⟩
      by_cases e : u = t
      · rw [e]; exact g2
      · exact (gD u (by omega)).tr (by omega) (hT.pn (by omega)).2 (fun i b h1 h2 => n1 (by omega)) (fun _ _ => rfl)
  have b39 : ∀ N, sm (Sb s1) M N → repA N s1 R → mI N s1 2 = R 8 → w_X5_takeFrom_b39 255 N s1 s0 0 Q := by
    intro N sN gA g8
    unfold w_X5_takeFrom_b39
    refine ⟨fun N z => ∃ c, z = nI c ∧ c ≤ cn R ∧ sm (Sb s1) M N ∧ repA N s1 R ∧ mI N s1 2 = R 8 ∧ ∀ j f, j < c → f < 9 → mI N (mP N (s1 + 2) j) f = rC R j f, fun _ z => 12 - z.toInt.toNat, ⟨0, rfl, Nat.zero_le _, sN, gA, g8, fun j f hj => absurd hj (Nat.not_lt_zero j)⟩, ?_⟩
    clear sN gA g8 N
    rintro N _ ⟨c, rfl, hc, sN, gA, g8, gc⟩
    have hk1 := sm_sk sN hsk1
    have hk0 := sm_sk sN hsk0
    rw [g8, e8, nI_leI (by omega) (by omega), hk1.1.2.1, hk0.1.2.1, bs_ln hb1 (by decide) (Or.inr (Or.inl rfl)), bs_ln hb0 (by decide) (Or.inr (Or.inl rfl)), el2, nI_clamp (by omega)]
    refine ⟨kS hb1, fun g => ?_, fun g => ?_⟩
    · have : c = cn R := by omega
      subst this
      exact b70 N sN gA ⟨g8, gc⟩
    · have hcn : c < cn R := by omega
      obtain ⟨q1, q2⟩ := hk1.2.2.2.1 c (by omega)
      obtain ⟨o1, o2⟩ := hk0.2.2.2.1 c (by omega)
      refine ⟨kA2 hb1, vp_n (by omega) (by decide), kS hb0, kA2 hb0, vp_n (by omega) (by decide), kC hb1 hk1 (by omega), s_X0_takeFrom (r := rC R c) (kC hb1 hk1 (by omega)) (kC hb0 hk0 (by omega)) (by omega) (fun f hf => vC (rk sN) hcn hf) (fun N2 s2 e2 => ?_)⟩
      rintro _ rfl
      refine ⟨⟨c + 1, nI_1 c, by omega, sN.tr (s2.mono (fun a b (q : a = _) => ⟨by omega, by omega⟩)), gA.tr (fun i b h1 h2 => s2.2.1 _ _ (show ¬ s1 + i = mP N (s1 + 2) c by omega)) (fun _ _ _ => rfl), (s2.2.1 _ _ (show ¬ s1 = mP N (s1 + 2) c by omega)).trans (g8.trans e8), fun j f hj hf => ?_⟩, mu_dec (by omega) (by decide)⟩
      rw [s2.1]
      by_cases e : j = c
      · rw [e]; exact e2 f hf
      · have hne2 : ¬ mP N (s1 + 2) j = mP N (s1 + 2) c := fun q => e (hk1.2.2.2.2 j c (by omega) (by omega) q)
        exact (s2.2.1 _ _ hne2).trans (gc j f (by omega) hf)
  unfold w_X5_takeFrom w_X5_takeFrom_b2
  refine ⟨fun N z => ∃ c, z = nI c ∧ c ≤ 6 ∧ sm (Sb s1) M N ∧ ∀ i f, i < c → f < 4 → mI N (s1 + 5 + i) f = rS R i f, fun _ z => 6 - z.toInt.toNat, ⟨0, rfl, by decide, sm.rf, fun i f hi => absurd hi (Nat.not_lt_zero i)⟩, ?_⟩
  rintro N _ ⟨c, rfl, hc, sN, g⟩
  have hk1 := sm_sk sN hsk1
  have hk0 := sm_sk sN hsk0
  rw [li 6, nI_leI (by decide) (by omega), hk1.1.1, hk0.1.1, bs_ln hb1 (by decide) (Or.inl rfl), bs_ln hb0 (by decide) (Or.inl rfl), el1, nI_clamp (by omega)]
  refine ⟨fun h => ⟨kS hb0, kS hb1, ?_⟩, fun h => ?_⟩
  · have : c = 6 := by omega
    subst this
    rw [(rk sN).2.1]
    rintro _ rfl
    refine b39 _ (sN.tr (sm.si ⟨by omega, by omega⟩)) (fun i f hi hf => ?_) (mI_at _ _ _ _)
    rw [mI_ne (Or.inl (by omega))]
    exact g i f hi hf
  · have h6 : c < 6 := by omega
    rw [hk1.2.1 c h6, hk0.2.1 c h6]
    refine ⟨kS hb1, kA1 hb1, vp_n h6 (by decide), kS hb0, kA1 hb0, vp_n h6 (by decide), kSrc hb1 h6, s_X4_takeFrom (r := rS R c) (kSrc hb1 h6) (kSrc hb0 h6) (fun f hf => (rk sN).1 c f h6 hf) (fun N2 s2 e2 => ?_)⟩
    rintro _ rfl
    refine ⟨⟨c + 1, nI_1 c, by omega, sN.tr (s2.mono (fun a b (q : a = _) => ⟨by omega, by omega⟩)), fun i f hi hf => ?_⟩, mu_dec (by omega) (by decide)⟩
    by_cases e : i = c
    · rw [e]; exact e2 f hf
    · exact (s2.2.1 _ _ (show ¬ s1 + 5 + i = s1 + 5 + c by omega)).trans (g i f (by omega) hf)
