/-! The class: render, undo -/
/-- the meters of a row are not large -/
def MB (R : Row) (c : Int) : Prop := (0 ≤ (R 4).toInt ∧ (R 4).toInt ≤ c) ∧ (0 ≤ (R 5).toInt ∧ (R 5).toInt ≤ 32767) ∧ (0 ≤ (R 6).toInt ∧ (R 6).toInt ≤ 32767) ∧ 0 ≤ (R 7).toInt ∧ (R 7).toInt ≤ 2 * c
theorem MB.le {R : Row} {c d : Int} (h : MB R c) (hc : c ≤ d) : MB R d := ⟨⟨h.1.1, by have := h.1.2; omega⟩, h.2.1, h.2.2.1, h.2.2.2.1, by have := h.2.2.2.2; omega⟩
theorem lim_bd (x : Int32) : -32767 ≤ (lim x).toInt ∧ (lim x).toInt ≤ 32767 := by
  have a : (32767 : Int32).toInt = 32767 := rfl
  have b : (-32767 : Int32).toInt = -32767 := rfl
  unfold lim
  simp only [ti_lt, a, b]
  by_cases h1 : 32767 < x.toInt
  · rw [if_pos h1, a]; omega
  · rw [if_neg h1]
    by_cases h2 : x.toInt < -32767
    · rw [if_pos h2, b]; omega
    · rw [if_neg h2]; omega
theorem limN_bd (x : Int32) : 0 ≤ limN x ∧ limN x ≤ 1 := by
  unfold limN
  split <;> decide
theorem ab_bd {x : Int32} (h : -32767 ≤ x.toInt ∧ x.toInt ≤ 32767) : 0 ≤ (ab x).toInt ∧ (ab x).toInt ≤ 32767 := by
  unfold ab
  by_cases h0 : 0 ≤ x
  · rw [if_pos h0]
    rw [ti_le, Int32.toInt_zero] at h0
    omega
  · rw [if_neg h0]
    rw [ti_le, Int32.toInt_zero] at h0
    rw [ti_neg (by omega)]; omega
theorem mx_bd {x y : Int32} (h : 0 ≤ x.toInt ∧ x.toInt ≤ 32767) (g : 0 ≤ y.toInt ∧ y.toInt ≤ 32767) : 0 ≤ (mx x y).toInt ∧ (mx x y).toInt ≤ 32767 := by
  unfold mx
  split
  · exact g
  · exact h
theorem mixN_bd (R : Row) (n : Nat) : 0 ≤ mixN R n ∧ mixN R n ≤ 2 := by
  have a := limN_bd (mst R (sumL R n 4))
  have b := limN_bd (mst R (sumRt R n 4))
  unfold mixN
  omega
theorem iI_N (R : Row) (n : Nat) : (iI (mixN R n)).toInt = mixN R n := by
  have := mixN_bd R n
  exact iI_toInt (by omega) (by omega)
theorem rnd_s (R : Row) : rnd R 4 = R 4 + 1 ∧ rnd R 5 = mx (ab (mixL R (nx (R 0)))) (R 5) ∧ rnd R 6 = mx (ab (mixRt R (nx (R 0)))) (R 6) ∧ rnd R 7 = R 7 + iI (mixN R (nx (R 0))) := by
  unfold rnd
  refine ⟨?_, ?_, ?_, ?_⟩
  · rw [up_ne (by decide), up_ne (by decide), up_ne (by decide), up_ne (by decide), up_ne (by decide), up_at]
  · rw [up_ne (by decide), up_ne (by decide), up_ne (by decide), up_ne (by decide), up_at]
  · rw [up_ne (by decide), up_ne (by decide), up_ne (by decide), up_at]
  · rw [up_ne (by decide), up_ne (by decide), up_at]
theorem MB_rnd {R : Row} {c : Int} (h : MB R c) (hc : c ≤ 1000000) : MB (rnd R) (c + 1) := by
  obtain ⟨e4, e5, e6, e7⟩ := rnd_s R
  obtain ⟨⟨a1, a2⟩, b, d, g1, g2⟩ := h
  have o1 : (1 : Int32).toInt = 1 := rfl
  have n1 := mixN_bd R (nx (R 0))
  have n2 := iI_N R (nx (R 0))
  unfold MB
  rw [e4, e5, e6, e7, ti_add (by rw [o1]; omega) (by rw [o1]; omega), o1, ti_add (by rw [n2]; omega) (by rw [n2]; omega), n2]
  exact ⟨by omega, mx_bd (ab_bd (lim_bd _)) b, mx_bd (ab_bd (lim_bd _)) d, by omega⟩
theorem MB_rndN {R : Row} {c : Int} (h : MB R c) (hc : c ≤ 900000) : ∀ m : Nat, m ≤ 1000 → MB (rndN R m) (c + m)
  | 0, _ => by
    show MB R (c + ((0 : Nat) : Int))
    exact h.le (by omega)
  | m + 1, hm => by
    have := MB_rnd (MB_rndN h hc m (by omega)) (by omega)
    show MB (rnd (rndN R m)) (c + ((m + 1 : Nat) : Int))
    exact this.le (by omega)
theorem rndN_eqv (R : Row) : ∀ c, eqv R (rndN R c)
  | 0 => fun _ _ => rfl
  | c + 1 => fun j hj => (rnd_eqv _ j hj).trans (rndN_eqv R c j hj)
theorem l_add {a b : Int32} (h1 : -2147483648 ≤ a.toInt + b.toInt) (h2 : a.toInt + b.toInt ≤ 2147483647) : Int32.toInt64 a + Int32.toInt64 b = Int32.toInt64 (a + b) := by
  rw [tl_eq, ti_l, ti_add h1 h2, tl_add (by rw [ti_l, ti_l]; omega) (by rw [ti_l, ti_l]; omega), ti_l, ti_l]
theorem l_mx (v r : Int32) : (if Int32.toInt64 v < Int32.toInt64 r then Int32.toInt64 r else Int32.toInt64 v) = Int32.toInt64 (mx v r) := by
  unfold mx
  have hl : Int32.toInt64 v < Int32.toInt64 r ↔ v.toInt < r.toInt := by rw [tl_lt, ti_l, ti_l]
  by_cases h : v ≤ r
  · rw [if_pos h]
    rw [ti_le] at h
    by_cases h2 : Int32.toInt64 v < Int32.toInt64 r
    · rw [if_pos h2]
    · rw [if_neg h2, tl_eq, ti_l, ti_l]
      rw [hl] at h2
      omega
  · rw [if_neg h]
    rw [ti_le] at h
    rw [if_neg (by rw [hl]; omega)]
theorem ab_0 (x : Int32) : (if 0 ≤ x then x else 0 - x) = ab x := by
  unfold ab
  rw [Int32.zero_sub]
theorem s_X3_take {M : mw_M} {s : Nat} {R : Row} {K : Int64} {L Rr : Int32} {Nn c : Int} {Q : mw_M → Prop} (hb : bs s) (hF : repF M s R K) (e0 : mI M 82 0 = L) (e1 : mI M 82 1 = Rr) (e2 : mI M 82 2 = iI Nn) (hN : 0 ≤ Nn ∧ Nn ≤ 2) (hB : MB R c) (hc : c ≤ 1000000) (hq : ∀ M1, sm (So (s + 4)) M M1 → (∀ b, mI M1 (s + 4) b = mI M (s + 4) b) → mL M1 (s + 4) 0 = Int32.toInt64 (R 4 + 1) → mL M1 (s + 4) 1 = Int32.toInt64 (mx (ab L) (R 5)) → mL M1 (s + 4) 2 = Int32.toInt64 (mx (ab Rr) (R 6)) → mL M1 (s + 4) 3 = Int32.toInt64 (R 7 + iI Nn) → mL M1 (s + 4) 4 = 31 * (31 * K + Int32.toInt64 L) + Int32.toInt64 Rr → Q M1) : w_X3_take 255 M (s + 4) 82 Q := by
  obtain ⟨hl, hK⟩ := hF
  obtain ⟨⟨a1, a2⟩, b, d, g1, g2⟩ := hB
  have f0 : mL M (s + 4) 0 = Int32.toInt64 (R 4) := hl 0 (by decide)
  have f1 : mL M (s + 4) 1 = Int32.toInt64 (R 5) := hl 1 (by decide)
  have f2 : mL M (s + 4) 2 = Int32.toInt64 (R 6) := hl 2 (by decide)
  have f3 : mL M (s + 4) 3 = Int32.toInt64 (R 7) := hl 3 (by decide)
  have o1 : (1 : Int32).toInt = 1 := rfl
  have o1l : (1 : Int64) = Int32.toInt64 1 := rfl
  have n2 : (iI Nn).toInt = Nn := iI_toInt (by omega) (by omega)
  have w : ∀ {N : mw_M} {b : Nat} {x : Int64}, sm (So (s + 4)) N (sL N (s + 4) b x) := sm.sl rfl
  unfold w_X3_take w_X7_hashed
  rw [f0, o1l, l_add (by rw [o1]; omega) (by rw [o1]; omega)]
  refine ⟨kM hb, ?_⟩
  rintro _ rfl
  refine ⟨is82, ?_⟩
  rw [mI_sL, e0, ab_0, mL_ne (Or.inr (by decide)), f1]
  rintro _ rfl
  rw [l_mx]
  rintro _ rfl _ rfl
  rw [mI_sL, mI_sL, e1, ab_0, mL_ne (Or.inr (by decide)), mL_ne (Or.inr (by decide)), f2]
  rintro _ rfl
  rw [l_mx]
  rintro _ rfl _ rfl
  rw [mI_sL, mI_sL, mI_sL, e2, mL_ne (Or.inr (by decide)), mL_ne (Or.inr (by decide)), mL_ne (Or.inr (by decide)), f3, l_add (by rw [n2]; omega) (by rw [n2]; omega)]
  rintro _ rfl
  rw [mI_sL, mI_sL, mI_sL, mI_sL, e0, mI_sL, mI_sL, mI_sL, mI_sL, e1, mL_ne (Or.inr (by decide)), mL_ne (Or.inr (by decide)), mL_ne (Or.inr (by decide)), mL_ne (Or.inr (by decide)), hK]
  rintro _ rfl
  refine hq _ ((((w.tr w).tr w).tr w).tr w) (fun b => rfl) ?_ ?_ ?_ ?_ ?_
  all_goals simp [mL_sL]
theorem s_X5_advance {M : mw_M} {s : Nat} {R : Row} {Q : mw_M → Prop} (hb : bs s) (hE : repE M s R) (hX : 0 ≤ (R 0).toInt ∧ (R 0).toInt ≤ 3999) (hq : ∀ M1, sm (fun a b => a = s ∧ b = 5) M M1 → mI M1 s 5 = nxt R → Q M1) : w_X5_advance 255 M s Q := by
  obtain ⟨h4, h5, h6, h7⟩ := hE
  have o1 : (1 : Int32).toInt = 1 := rfl
  have o4 : (4000 : Int32).toInt = 4000 := rfl
  have e := ti_add (x := R 0) (y := 1) (by rw [o1]; omega) (by rw [o1]; omega)
  unfold w_X5_advance w_X5_advance_b31 w_X5_advance_b39
  rw [h5]
  refine ⟨kS hb, ?_⟩
  rintro _ rfl
  rw [mI_at, mI_ne (Or.inr (by decide)), mI_ne (Or.inr (by decide)), h7, h6]
  have s1 : sm (fun a b => a = s ∧ b = 5) M (sI M s 5 (R 0 + 1)) := sm.si ⟨rfl, rfl⟩
  have s2 : sm (fun a b => a = s ∧ b = 5) M (sI (sI M s 5 (R 0 + 1)) s 5 (R 1)) := s1.tr (sm.si ⟨rfl, rfl⟩)
  refine ⟨fun g => ⟨kS hb, ?_⟩, fun g => ⟨fun g2 => hq _ s1 ?_, fun g2 => ⟨kS hb, ?_⟩⟩⟩
  · rintro _ rfl
    exact hq _ s2 ((mI_at _ _ _ _).trans (if_pos (Or.inl g)).symm)
  · refine (mI_at _ _ _ _).trans (if_neg (fun q => q.elim g (fun q => ?_))).symm
    rw [ti_lt, q] at g2
    omega
  · rintro _ rfl
    refine hq _ s2 ((mI_at _ _ _ _).trans (if_pos (Or.inr (ti_inj ?_))).symm)
    rw [ti_lt, e, o1, o4] at g2
    rw [e, o1, o4]
    omega
def Srn (s : Nat) : Nat → Prop := fun a => blk s a ∨ a = 82 ∨ (239 ≤ a ∧ a ≤ 246)
theorem s_X7_render {M : mw_M} {σ : Nat → Nat} {k : Nat} {R : Row} {K : Int64} {P : Nat → Row} {PK : Nat → Int64} {c : Int} {x1 : Int32} {Q : mw_M → Int32 → Prop} {X : mw_M → String → Prop} (h : CF M σ k R K P PK) (hB : MB R c) (hc9 : c ≤ 900000) (h1 : ¬ isAt 1 1000 x1 → X M "java/lang/IllegalArgumentException") (hq : isAt 1 1000 x1 → ∀ M1 σ1, fo ST M M1 → CF M1 σ1 (nk k) (rndN R (nx x1)) (rsumN R K (nx x1)) (psh k P R) (psh k PK K) → Q M1 (rndN R (nx x1) 0)) : w_X7_render 255 M 1 x1 Q X := by
  obtain ⟨⟨h0, h5, hb⟩, hsk, hp, hV, hk, hc⟩ := h.cx
  have b1 := (h.1.2.2.2.1 1 (by decide)).1
  have dj := bs_dj hb b1 (fun e => absurd (h.1.2.2.2.2 0 1 (by decide) (by decide) e) (by decide))
  unfold w_X7_render
  refine s_out 1 1000 rfl rfl (fun g => ⟨is1, s_draft h (fun M1 s1 k1 _ r1 => ?_)⟩) (fun g => h1 g)
  replace hq := hq g
  have hx : x1 = nI (nx x1) := nx_s (by have := g.1; omega)
  have hm : nx x1 ≤ 1000 := by have := g.2; unfold nx; omega
  clear h1 g
  generalize nx x1 = m at *
  subst hx
  have fo1 : fo (Srn (σ 1)) M M1 := s1.fo (fun a b q => Or.inl q)
  have pp1 : ∀ a b, mP M1 a b = mP M a b := s1.1
  have cv1 : ∀ t, t < 4 → cv M1 R t := fun t ht => cv_fo (s1.fo (S1 := blk (σ 1)) (fun a b q => q)) (fun q => by have := (bs_nb b1 q).2.2.2.2; omega) (fun q => by have := (bs_nb b1 q).2.2.2.2; omega) (fun _ _ => rfl) (hc t ht)
  unfold w_X7_render_b29
  refine ⟨fun N z => ∃ c, z = nI c ∧ c ≤ m ∧ fo (Srn (σ 1)) M N ∧ (∀ a b, mP N a b = mP M a b) ∧ rep N (σ 1) (rndN R c) (rsumN R K c) ∧ ∀ t, t < 4 → cv N R t, fun _ z => 1000 - z.toInt.toNat, ⟨0, rfl, Nat.zero_le _, fo1, pp1, r1, cv1⟩, ?_⟩
  rintro N _ ⟨i, rfl, hi, fN, pN, rN, cN⟩
  have sN0 : sm (fun _ _ => True) M N := ⟨pN, fun _ _ q => absurd trivial q, fun _ _ q => absurd trivial q⟩
  have kN := sm_sk sN0 (h.1.2.2.2.1 1 (by decide)).2
  have kN0 := sm_sk sN0 hsk
  have cvN := sm_cvk sN0 hk
  have h0N : mP N 1 0 = σ 0 := (pN 1 0).trans h0
  have h5N : mP N 1 5 = 82 := (pN 1 5).trans h5
  have hV1 := rndN_VAL hV i
  have hE := rndN_eqv R i
  rw [nI_leI (by omega) (by omega)]
  refine ⟨fun g => ⟨is1, ?_⟩, fun g => ⟨is1, kS b1, ?_⟩⟩
  · have : i = m := by omega
    subst this
    refine s_keepPlain h fN (fun a q => by rcases q with q | q | q; exact Or.inl q; exact Or.inr (Or.inl q); exact Or.inr (Or.inr q.1)) (fun a q => by rcases q with q | q | q; exact ST_blk b1 q; (show a < 247; omega); (show a < 247; omega)) cvN kN rN hV1 (fun t ht => ?_) (fun M3 σ3 f3 c3 => ?_)
    · exact cv_fo (S := fun _ => False) (fun a _ b => ⟨rfl, rfl, rfl⟩) (fun q => q) (fun q => q) (fun j hj => hE j (Or.inl hj)) (cN t ht)
    · obtain ⟨⟨z0, -, zb⟩, -, zp, -⟩ := c3.cx
      rw [z0, zp.2.2.2.2.1.2.1]
      exact ⟨kS zb, hq M3 σ3 f3 c3⟩
  · have hpl := rN.2.2.2.2.1.2.1
    obtain ⟨hX, -⟩ := hV1.2.2.2.2.1
    obtain ⟨hx0, hn⟩ := pl_s hX
    rw [h5N, hpl, hx0]
    have rN0 : rep N (σ 0) R K := rep_fo fN (fun a ha q => by
      have := bs_nb hb ha
      obtain ⟨a1, a2⟩ := ha
      rcases q with ⟨q1, q2⟩ | q | q <;> omega) hsk hV.2.1 hV.2.2.1 hp
    refine s_X7_mixInto h0N hb kN0 rN0 hV cvN cN hn (fun N1 t1 c1 e0 e1 e2 => ?_)
    rw [t1.1 (σ 1) 8, kN.1.2.2.2, t1.1 1 5, h5N]
    have rN1 : rep N1 (σ 1) (rndN R i) (rsumN R K i) := sm_rep t1 kN hV1.2.1 (fun a b h1 h2 => Smi_lo b1 h1 h2) rN
    obtain ⟨-, -, -, gE, gF⟩ := rep_g.mp rN1
    have hB1 := MB_rndN hB hc9 i (by omega)
    refine ⟨kM b1, s_X3_take b1 gF e0 e1 e2 (mixN_bd R _) hB1 (by omega) (fun N2 t2 i2 l0 l1 l2 l3 l4 => ?_)⟩
    have gE2 : repE N2 (σ 1) (rndN R i) := gE.tr (fun b _ _ => t2.2.1 _ _ (show ¬ σ 1 = σ 1 + 4 by omega)) (fun _ _ => rfl)
    refine s_X5_advance b1 gE2 hX (fun N3 t3 p3 => ?_)
    rintro _ rfl
    have mL1 : mixL (rndN R i) (nx (rndN R i 0)) = mixL R (nx (rndN R i 0)) := hE.mixL _
    have mR1 : mixRt (rndN R i) (nx (rndN R i 0)) = mixRt R (nx (rndN R i 0)) := hE.mixRt _
    have mN1 : mixN (rndN R i) (nx (rndN R i 0)) = mixN R (nx (rndN R i 0)) := hE.mixN _
    have hr1 : rndN R (i + 1) = rnd (rndN R i) := rfl
    have hk1 : rsumN R K (i + 1) = rsum (rndN R i) (rsumN R K i) := rfl
    have l5 : ∀ b, mL N3 (σ 1 + 4) b = mL N2 (σ 1 + 4) b := fun b => t3.2.2 _ _ (by rintro ⟨q, -⟩; omega)
    refine ⟨⟨i + 1, nI_1 i, by omega, ?_, fun a b => ((t3.1 a b).trans (t2.1 a b)).trans ((t1.1 a b).trans (pN a b)), ?_, fun t ht => ?_⟩, mu_dec (by omega) (by decide)⟩
    · exact ((fN.tr (t1.fo (fun a b q => Or.inr q))).tr (t2.fo (fun a b (q : a = _) => Or.inl ⟨by omega, by omega⟩))).tr (t3.fo (fun a b q => Or.inl ⟨by omega, by omega⟩))
    · rw [hr1, hk1]
      refine rep_stU (sm_sk t1 kN) hV1 rN1 (fun a b n1 n2 n3 => ?_) ?_ (fun a b => (t3.1 a b).trans (t2.1 a b)) ?_ ?_ (fun j hj => rnd_eqv _ j (Or.inl hj))
      · refine (t3.2.1 _ _ (fun q => n1 q.1)).trans ?_
        by_cases e : a = σ 1 + 4
        · rw [e]; exact i2 b
        · exact t2.2.1 _ _ e
      · exact (t3.2.1 _ _ (fun q => absurd q.2 (by decide))).trans (t2.2.1 _ _ (show ¬ σ 1 = σ 1 + 4 by omega))
      · obtain ⟨q4, q5, q6, q7⟩ := gE2
        exact ⟨(t3.2.1 _ _ (fun q => absurd q.2 (by decide))).trans q4, p3, (t3.2.1 _ _ (fun q => absurd q.2 (by decide))).trans q6, (t3.2.1 _ _ (fun q => absurd q.2 (by decide))).trans q7⟩
      · obtain ⟨w4, w5, w6, w7⟩ := rnd_s (rndN R i)
        rw [mL1] at w5
        rw [mR1] at w6
        rw [mN1] at w7
        refine ⟨fun j hj => ?_, ?_⟩
        · rw [l5]
          have hj9 : j = 0 ∨ j = 1 ∨ j = 2 ∨ j = 3 := by omega
          rcases hj9 with rfl | rfl | rfl | rfl
          · exact l0.trans (congrArg Int32.toInt64 w4.symm)
          · exact l1.trans (congrArg Int32.toInt64 w5.symm)
          · exact l2.trans (congrArg Int32.toInt64 w6.symm)
          · exact l3.trans (congrArg Int32.toInt64 w7.symm)
        · rw [l5, l4]
          unfold rsum
          rw [mL1, mR1]
    · have n2 : ∀ q, 239 ≤ q → ∀ b, mI N3 q b = mI N1 q b := fun q hq9 b => (t3.2.1 _ _ (by rintro ⟨w, -⟩; have := (bs_nb b1 (a := σ 1) ⟨by omega, by omega⟩).2.2.2.2; omega)).trans (t2.2.1 _ _ (by intro w; have := (bs_nb b1 (a := σ 1 + 4) ⟨by omega, by omega⟩).2.2.2.2; have w2 : q = σ 1 + 4 := w; omega))
      obtain ⟨w, w1, w2, ew, z0, z1, hd⟩ := c1 t ht
      exact ⟨w, w1, w2, (n2 _ (by omega) _).trans ew, (n2 _ (by omega) _).trans z0, (n2 _ (by omega) _).trans z1, fun hne j hj => (n2 _ (by omega) _).trans (hd hne j hj)⟩
theorem s_X7_undo {M : mw_M} {σ : Nat → Nat} {k : Nat} {R : Row} {K : Int64} {P : Nat → Row} {PK : Nat → Int64} {Q : mw_M → Int32 → Prop} {X : mw_M → String → Prop} (h : CF M σ k R K P PK) (h1 : k = 0 → X M "java/lang/IllegalStateException") (hq : ∀ d, k = d + 1 → ∀ M1 σ1, fo ST M M1 → CF M1 σ1 d (P d) (PK d) P PK → (∀ R1 t, t < 4 → cv M1 R1 t) → Q M1 (nI d)) : w_X7_undo 255 M 1 Q X := by
  obtain ⟨hc, hg, hv⟩ := h
  obtain ⟨⟨h0, h1', h2, h5, h4⟩, hcv, ⟨h3, hk4⟩, hs, hi⟩ := id hc
  have z0 : (0 : Int32) = nI 0 := rfl
  unfold w_X7_undo
  rw [h3, z0, nI_ltI (by decide) (by omega)]
  refine ⟨is1, fun g => ?_, fun g => h1 (by omega)⟩
  obtain ⟨d, rfl⟩ : ∃ d, k = d + 1 := ⟨k - 1, by omega⟩
  rw [nI_pred]
  rintro _ rfl
  have e0 : mP (sI M 1 3 (nI d)) 1 0 = σ 0 := h0
  have e2 : mP (sI M 1 3 (nI d)) 1 2 = 80 := h2
  have e3 : mI (sI M 1 3 (nI d)) 1 3 = nI d := mI_at _ _ _ _
  have e8 : mP (sI M 1 3 (nI d)) 80 d = σ (2 + d) := h4 d (by omega)
  rw [e0]
  rintro _ rfl
  rw [e2, e3, Ln80, nI_clamp (by omega), e8]
  refine ⟨is80, vp_n (by omega) (by decide), ?_⟩
  rintro _ rfl
  have f2 : mP (sP (sI M 1 3 (nI d)) 1 0 (σ (2 + d))) 1 2 = 80 := by rw [mP_ne (Or.inr (by decide))]; exact h2
  rw [f2, mI_sP, e3, Ln80, nI_clamp (by omega)]
  refine ⟨is80, kS (hs 0 (by decide)).1, vp_n (by omega) (by decide), ?_⟩
  rintro _ rfl
  have f : fo S180 M (sP (sP (sI M 1 3 (nI d)) 1 0 (σ (2 + d))) 80 d (σ 0)) := ((fo.si (Or.inl rfl)).tr (fo.sp (Or.inl rfl))).tr (fo.sp (Or.inr rfl))
  have n1 : ∀ b, b ≠ 0 → mP (sP (sP (sI M 1 3 (nI d)) 1 0 (σ (2 + d))) 80 d (σ 0)) 1 b = mP M 1 b := fun b hb => by
    rw [mP_ne (Or.inl (by decide)), mP_ne (Or.inr hb), mP_sI]
  have hc2 := cst_perm (k1 := d) (fun i => if i = 0 then 2 + d else if i = 2 + d then 0 else i) hc f (fun a q => q) (fun i hi => by (repeat' split) <;> omega) (fun i j hi hj e => by (repeat' split at e) <;> omega)
    (by rw [mP_ne (Or.inl (by decide)), mP_at]; rfl) (by rw [n1 1 (by decide), if_neg (by decide), if_neg (by omega)]; exact h1') ((n1 2 (by decide)).trans h2) ((n1 5 (by decide)).trans h5) ((n1 4 (by decide)).trans hcv.1)
    (fun i hi => by
      by_cases e : i = d
      · rw [e, mP_at, if_neg (by omega), if_pos rfl]
      · rw [mP_ne (Or.inr e), mP_ne (Or.inl (by decide)), mP_sI, if_neg (by omega), if_neg (by omega)]; exact h4 i hi)
    (by rw [mI_sP, mI_sP, e3]) (by omega)
  have hr : ∀ i, i < 6 → ∀ {R1 : Row} {K1 : Int64}, VAL R1 → rep M (σ i) R1 K1 → rep (sP (sP (sI M 1 3 (nI d)) 1 0 (σ (2 + d))) 80 d (σ 0)) (σ i) R1 K1 := fun i hi6 _ _ hV1 hp1 => rep_1 (hs i hi6).1 (hs i hi6).2 f (fun a q => q) hV1 hp1
  have hg2 : shw (sP (sP (sI M 1 3 (nI d)) 1 0 (σ (2 + d))) 80 d (σ 0)) (fun i => σ (if i = 0 then 2 + d else if i = 2 + d then 0 else i)) d (P d) (PK d) P PK := by
    obtain ⟨-, g2⟩ := hg
    refine ⟨?_, fun i hik => ?_⟩
    · obtain ⟨g3, v3⟩ := g2 d (by omega)
      exact ⟨hr (2 + d) (by omega) v3 g3, v3⟩
    · obtain ⟨g3, v3⟩ := g2 i (by omega)
      dsimp only
      rw [if_neg (show ¬ 2 + i = 0 by omega), if_neg (show ¬ 2 + i = 2 + d by omega)]
      exact ⟨hr (2 + i) (by omega) v3 g3, v3⟩
  have e9 : mI (sP (sP (sI M 1 3 (nI d)) 1 0 (σ (2 + d))) 80 d (σ 0)) 1 3 = nI d := by rw [mI_sP, mI_sP, e3]
  generalize sP (sP (sI M 1 3 (nI d)) 1 0 (σ (2 + d))) 80 d (σ 0) = N at *
  refine s_X7_forget hc2.2.1 (fun t ht => ?_) (fun M4 s4 c4 => ?_)
  · obtain ⟨w, -, -, -, w0, w1, -⟩ := hv t ht
    have n3 : ¬ S180 (240 + 2 * t) := by rintro (q | q) <;> omega
    exact ⟨((f _ n3 0).1).trans w0, ((f _ n3 1).1).trans w1⟩
  · have f4 : fo (fun a => 239 ≤ a ∧ a ≤ 246) N M4 := s4.fo (fun a b q => q)
    rw [s4.2.1 1 3 (by omega), e9]
    exact hq d rfl M4 _ ((f.mono (fun a q => by show a < 247; rcases q with q | q <;> omega)).tr (f4.mono (fun a q => by show a < 247; omega))) ⟨cst_fo hc2 f4 (fun a q => Or.inr (Or.inr q.1)) (sm_sk s4 (hc2.2.2.2.1 1 (by decide)).2) (sm_cvk s4 hc2.2.1), shw_fo hc2 hg2 f4 (fun a q => Or.inr (Or.inr q.1)), fun t ht => c4 (P d) t ht⟩ c4
