/-! The class: its six states, a draft kept -/
def fo (S : Nat → Prop) (M M1 : mw_M) : Prop := ∀ a, ¬ S a → ∀ b, mI M1 a b = mI M a b ∧ mL M1 a b = mL M a b ∧ mP M1 a b = mP M a b
theorem fo.rf {S : Nat → Prop} {M : mw_M} : fo S M M := fun _ _ _ => ⟨rfl, rfl, rfl⟩
theorem fo.tr {S : Nat → Prop} {M M1 M2 : mw_M} (h : fo S M M1) (g : fo S M1 M2) : fo S M M2 := fun a q b => ⟨((g a q b).1).trans (h a q b).1, ((g a q b).2.1).trans (h a q b).2.1, ((g a q b).2.2).trans (h a q b).2.2⟩
theorem fo.mono {S S1 : Nat → Prop} {M M1 : mw_M} (h : fo S M M1) (hs : ∀ a, S a → S1 a) : fo S1 M M1 := fun a q b => h a (fun r => q (hs a r)) b
theorem sm.fo {S : Nat → Nat → Prop} {S1 : Nat → Prop} {M M1 : mw_M} (h : sm S M M1) (hs : ∀ a b, S a b → S1 a) : fo S1 M M1 := fun a q b => ⟨h.2.1 a b (fun r => q (hs a b r)), h.2.2 a b (fun r => q (hs a b r)), h.1 a b⟩
theorem mP_at (M : mw_M) (k j x : Nat) : mP (sP M k j x) k j = x := by rw [mP_sP, if_pos ⟨rfl, rfl⟩]
theorem mP_ne {M : mw_M} {k j a b x : Nat} (h : a ≠ k ∨ b ≠ j) : mP (sP M k j x) a b = mP M a b := by rw [mP_sP, if_neg]; rintro ⟨rfl, rfl⟩; omega
theorem fo.sp {S : Nat → Prop} {M : mw_M} {k j x : Nat} (h : S k) : fo S M (sP M k j x) := fun a q b => ⟨rfl, rfl, mP_ne (Or.inl (fun e => q (e ▸ h)))⟩
theorem fo.si {S : Nat → Prop} {M : mw_M} {k j : Nat} {x : Int32} (h : S k) : fo S M (sI M k j x) := fun a q b => ⟨mI_ne (Or.inl (fun e => q (e ▸ h))), rfl, rfl⟩
theorem fo.sl {S : Nat → Prop} {M : mw_M} {k j : Nat} {x : Int64} (h : S k) : fo S M (sL M k j x) := fun a q b => ⟨rfl, mL_ne (Or.inl (fun e => q (e ▸ h))), rfl⟩
def blk (s : Nat) : Nat → Prop := fun a => s ≤ a ∧ a < s + 39
theorem sk_fo {S : Nat → Prop} {M M1 : mw_M} {s : Nat} (f : fo S M M1) (hs : ∀ a, blk s a → ¬ S a) (h : sk M s) : sk M1 s := by
  have e : ∀ i b, i < 39 → mP M1 (s + i) b = mP M (s + i) b := fun i b hi => (f _ (hs _ ⟨by omega, by omega⟩) b).2.2
  have e' : ∀ t k b, k + 4 * t < 39 → mP M1 (s + k + 4 * t) b = mP M (s + k + 4 * t) b := fun t k b hi => by rw [Nat.add_assoc]; exact e _ b hi
  obtain ⟨⟨h1, h2, h3, h4⟩, h5, h6, h7, h8⟩ := h
  refine ⟨⟨(e 0 0 (by decide)).trans h1, (e 0 1 (by decide)).trans h2, (e 0 3 (by decide)).trans h3, (e 0 8 (by decide)).trans h4⟩, fun i hi => (e 1 i (by decide)).trans (h5 i hi), fun t ht => ?_, fun i hi => ?_, fun i j hi hj => ?_⟩
  · obtain ⟨g1, g2, g3, g4⟩ := h6 t ht
    exact ⟨(e 3 t (by decide)).trans g1, (e' t 23 5 (by omega)).trans g2, (e' t 23 6 (by omega)).trans g3, (e' t 23 7 (by omega)).trans g4⟩
  · rw [e 2 i (by decide)]; exact h7 i hi
  · rw [e 2 i (by decide), e 2 j (by decide)]; exact h8 i j hi hj
theorem rep_fo {S : Nat → Prop} {M M1 : mw_M} {s : Nat} {R : Row} {K : Int64} (f : fo S M M1) (hs : ∀ a, blk s a → ¬ S a) (hsk : sk M s) (hC : VC R) (hT : VT R) (h : rep M s R K) : rep M1 s R K := by
  have e : ∀ i b, i < 39 → mI M1 (s + i) b = mI M (s + i) b := fun i b hi => (f _ (hs _ ⟨by omega, by omega⟩) b).1
  obtain ⟨a, c, d, g, l⟩ := rep_g.mp h
  exact rep_g.mpr ⟨a.tr (fun i b _ _ => e i b (by omega)) (fun _ _ _ => rfl), c.tr hsk hC.cn.2 (e 0 2 (by decide)) (fun c => (f _ (hs _ ⟨by omega, by omega⟩) c).2.2) (fun i b _ _ => e i b (by omega)) (fun _ _ _ => rfl), d.tr hT (fun i b _ _ => e i b (by omega)) (fun _ _ _ => rfl), g.tr (fun b _ _ => e 0 b (by decide)) (fun _ _ => rfl), l.tr (fun b => (f _ (hs _ ⟨by omega, by omega⟩) b).2.1) (fun _ _ _ => rfl)⟩
/-- the six states: now, spare, saved; how many are saved -/
def cst (M : mw_M) (σ : Nat → Nat) (k : Nat) : Prop := (mP M 1 0 = σ 0 ∧ mP M 1 1 = σ 1 ∧ mP M 1 2 = 80 ∧ mP M 1 5 = 82 ∧ ∀ i, i < 4 → mP M 80 i = σ (2 + i)) ∧ cvk M ∧ (mI M 1 3 = nI k ∧ k ≤ 4) ∧ (∀ i, i < 6 → bs (σ i) ∧ sk M (σ i)) ∧ ∀ i j, i < 6 → j < 6 → σ i = σ j → i = j
def shw (M : mw_M) (σ : Nat → Nat) (k : Nat) (R : Row) (K : Int64) (P : Nat → Row) (PK : Nat → Int64) : Prop := (rep M (σ 0) R K ∧ VAL R) ∧ ∀ i, i < k → rep M (σ (2 + i)) (P i) (PK i) ∧ VAL (P i)
def CF (M : mw_M) (σ : Nat → Nat) (k : Nat) (R : Row) (K : Int64) (P : Nat → Row) (PK : Nat → Int64) : Prop := cst M σ k ∧ shw M σ k R K P PK ∧ ∀ t, t < 4 → cv M R t
theorem CF.cx {M : mw_M} {σ : Nat → Nat} {k : Nat} {R : Row} {K : Int64} {P : Nat → Row} {PK : Nat → Int64} (h : CF M σ k R K P PK) : CX M (σ 0) R K := by
  obtain ⟨⟨⟨h0, -, -, h5, -⟩, hk, -, hs, -⟩, ⟨⟨hp, hV⟩, -⟩, hc⟩ := h
  exact ⟨⟨h0, h5, (hs 0 (by decide)).1⟩, (hs 0 (by decide)).2, hp, hV, hk, hc⟩
theorem bs_nb {s a : Nat} (h : bs s) (hb : blk s a) : a ≠ 1 ∧ a ≠ 80 ∧ a ≠ 81 ∧ a ≠ 82 ∧ a < 239 := by
  obtain ⟨h1, h2⟩ := hb
  unfold bs at h
  omega
/-- other memory, the six states as before but for the spare one -/
theorem cst_fo {S : Nat → Prop} {M M1 : mw_M} {σ : Nat → Nat} {k : Nat} (h : cst M σ k) (f : fo S M M1) (hS : ∀ a, S a → blk (σ 1) a ∨ a = 82 ∨ 239 ≤ a) (hsk : sk M1 (σ 1)) (hk : cvk M1) : cst M1 σ k := by
  obtain ⟨⟨h0, h1, h2, h5, h4⟩, -, ⟨h3, hk4⟩, hs, hi⟩ := h
  have b1 := (hs 1 (by decide)).1
  have n1 : ¬ S 1 := fun q => by rcases hS 1 q with q | q | q; exact (bs_nb b1 q).1 rfl; omega; omega
  have n80 : ¬ S 80 := fun q => by rcases hS 80 q with q | q | q; exact (bs_nb b1 q).2.1 rfl; omega; omega
  refine ⟨⟨((f 1 n1 0).2.2).trans h0, ((f 1 n1 1).2.2).trans h1, ((f 1 n1 2).2.2).trans h2, ((f 1 n1 5).2.2).trans h5, fun i hi => ((f 80 n80 i).2.2).trans (h4 i hi)⟩, hk, ⟨((f 1 n1 3).1).trans h3, hk4⟩, fun i hi6 => ⟨(hs i hi6).1, ?_⟩, hi⟩
  by_cases e : i = 1
  · rw [e]; exact hsk
  · refine sk_fo f (fun a ha q => ?_) (hs i hi6).2
    have bi := (hs i hi6).1
    have := bs_nb bi ha
    have dj := bs_dj bi b1 (fun q => e (hi i 1 hi6 (by decide) q))
    obtain ⟨a1, a2⟩ := ha
    rcases hS a q with ⟨r1, r2⟩ | r | r <;> omega
theorem shw_fo {S : Nat → Prop} {M M1 : mw_M} {σ : Nat → Nat} {k : Nat} {R : Row} {K : Int64} {P : Nat → Row} {PK : Nat → Int64} (h : cst M σ k) (g : shw M σ k R K P PK) (f : fo S M M1) (hS : ∀ a, S a → blk (σ 1) a ∨ a = 82 ∨ 239 ≤ a) : shw M1 σ k R K P PK := by
  obtain ⟨-, -, ⟨-, hk4⟩, hs, hi⟩ := h
  have b1 := (hs 1 (by decide)).1
  have nn : ∀ i, i < 6 → i ≠ 1 → ∀ a, blk (σ i) a → ¬ S a := fun i hi6 e a ha q => by
    have bi := (hs i hi6).1
    have := bs_nb bi ha
    have dj := bs_dj bi b1 (fun q => e (hi i 1 hi6 (by decide) q))
    obtain ⟨a1, a2⟩ := ha
    rcases hS a q with ⟨r1, r2⟩ | r | r <;> omega
  obtain ⟨⟨g1, v1⟩, g2⟩ := g
  refine ⟨⟨rep_fo f (nn 0 (by decide) (by decide)) (hs 0 (by decide)).2 v1.2.1 v1.2.2.1 g1, v1⟩, fun i hik => ?_⟩
  obtain ⟨g3, v3⟩ := g2 i hik
  exact ⟨rep_fo f (nn (2 + i) (by omega) (by omega)) (hs (2 + i) (by omega)).2 v3.2.1 v3.2.2.1 g3, v3⟩
/-- the six states in another order -/
theorem cst_perm {S : Nat → Prop} {M M1 : mw_M} {σ : Nat → Nat} {k k1 : Nat} (τ : Nat → Nat) (h : cst M σ k) (f : fo S M M1) (hS : ∀ a, S a → a = 1 ∨ a = 80) (ht : ∀ i, i < 6 → τ i < 6) (ht2 : ∀ i j, i < 6 → j < 6 → τ i = τ j → i = j) (e0 : mP M1 1 0 = σ (τ 0)) (e1 : mP M1 1 1 = σ (τ 1)) (e2 : mP M1 1 2 = 80) (e5 : mP M1 1 5 = 82) (e8 : mP M1 1 4 = 81) (e4 : ∀ i, i < 4 → mP M1 80 i = σ (τ (2 + i))) (e3 : mI M1 1 3 = nI k1) (hk1 : k1 ≤ 4) : cst M1 (fun i => σ (τ i)) k1 := by
  obtain ⟨-, hk, -, hs, hi⟩ := h
  have nS : ∀ a, a ≠ 1 → a ≠ 80 → ¬ S a := fun a n1 n2 q => (hS a q).elim n1 n2
  refine ⟨⟨e0, e1, e2, e5, e4⟩, ⟨e8, fun t ht => ⟨((f 81 (nS 81 (by decide) (by decide)) t).2.2).trans (hk.2 t ht).1, ((f (239 + 2 * t) (nS _ (by omega) (by omega)) 0).2.2).trans (hk.2 t ht).2⟩⟩, ⟨e3, hk1⟩, fun i hi6 => ⟨(hs _ (ht i hi6)).1, sk_fo f (fun a ha => ?_) (hs _ (ht i hi6)).2⟩, fun i j hi6 hj6 e => ht2 i j hi6 hj6 (hi _ _ (ht i hi6) (ht j hj6) e)⟩
  obtain ⟨n1, n2, -⟩ := bs_nb (hs _ (ht i hi6)).1 ha
  exact nS a n1 n2
theorem rep_1 {S : Nat → Prop} {M M1 : mw_M} {s : Nat} {R : Row} {K : Int64} (hb : bs s) (hsk : sk M s) (f : fo S M M1) (hS : ∀ a, S a → a = 1 ∨ a = 80) (hV : VAL R) (h : rep M s R K) : rep M1 s R K := rep_fo f (fun a ha q => by
  obtain ⟨n1, n2, -⟩ := bs_nb hb ha
  exact (hS a q).elim n1 n2) hsk hV.2.1 hV.2.2.1 h
theorem is80 : mw_is 255 80 16 := ⟨by decide +kernel, by decide, by decide⟩
theorem Ln80 : Ln 80 = 4 := by decide +kernel
def S180 : Nat → Prop := fun a => a = 1 ∨ a = 80
theorem s_keep_b12 {M : mw_M} {σ : Nat → Nat} {k : Nat} {R R1 : Row} {K K1 : Int64} {P : Nat → Row} {PK : Nat → Int64} {Q : mw_M → Prop} (h : cst M σ k) (g : shw M σ k R K P PK) (hk : k < 4) (hp : rep M (σ 1) R1 K1) (hV : VAL R1) (hq : ∀ M1 σ1, fo S180 M M1 → cst M1 σ1 (k + 1) → shw M1 σ1 (k + 1) R1 K1 (fun i => if i < k then P i else R) (fun i => if i < k then PK i else K) → Q M1) : w_X7_keepDraft_b12 255 M 1 Q := by
  obtain ⟨⟨h0, h1, h2, h5, h4⟩, hcv, ⟨h3, -⟩, hs, hi⟩ := id h
  unfold w_X7_keepDraft_b12
  rw [h2, Ln80, h3, nI_clamp (by omega), h4 k hk, h0]
  refine ⟨is1, is80, vp_n hk (by decide), ?_⟩
  rintro _ rfl
  refine ⟨kS (hs 0 (by decide)).1, ?_⟩
  rintro _ rfl
  rw [mI_sP, h3, nI_1]
  rintro _ rfl
  have e1 : mP (sI (sP M 80 k (σ 0)) 1 3 (nI (k + 1))) 1 1 = σ 1 := by rw [mP_sI, mP_ne (Or.inl (by decide))]; exact h1
  rw [e1]
  rintro _ rfl _ rfl
  have f : fo S180 M (sP (sP (sI (sP M 80 k (σ 0)) 1 3 (nI (k + 1))) 1 0 (σ 1)) 1 1 (σ (2 + k))) := (((fo.sp (Or.inr rfl)).tr (fo.si (Or.inl rfl))).tr (fo.sp (Or.inl rfl))).tr (fo.sp (Or.inl rfl))
  have hc := cst_perm (k1 := k + 1) (fun i => if i = 0 then 1 else if i = 1 then 2 + k else if i = 2 + k then 0 else i) h f (fun a q => q) (fun i hi => by (repeat' split) <;> omega) (fun i j hi hj e => by (repeat' split at e) <;> omega)
    (by rw [mP_ne (Or.inr (by decide)), mP_at]; rfl) (by rw [mP_at]; rfl) (by rw [mP_ne (Or.inr (by decide)), mP_ne (Or.inr (by decide)), mP_sI, mP_ne (Or.inl (by decide))]; exact h2) (by rw [mP_ne (Or.inr (by decide)), mP_ne (Or.inr (by decide)), mP_sI, mP_ne (Or.inl (by decide))]; exact h5) (by rw [mP_ne (Or.inr (by decide)), mP_ne (Or.inr (by decide)), mP_sI, mP_ne (Or.inl (by decide))]; exact hcv.1)
    (fun i hi => by
      rw [mP_ne (Or.inl (by decide)), mP_ne (Or.inl (by decide)), mP_sI]
      by_cases e : i = k
      · rw [e, mP_at, if_neg (by omega), if_neg (by omega), if_pos rfl]
      · rw [mP_ne (Or.inr e), if_neg (by omega), if_neg (by omega), if_neg (by omega)]; exact h4 i hi)
    (by rw [mI_sP, mI_sP, mI_at]) (by omega)
  refine hq _ _ f hc ⟨⟨rep_1 (hs 1 (by decide)).1 (hs 1 (by decide)).2 f (fun a q => q) hV hp, hV⟩, fun i hik => ?_⟩
  obtain ⟨⟨g1, v1⟩, g2⟩ := g
  dsimp only
  rw [if_neg (show ¬ 2 + i = 0 by omega), if_neg (show ¬ 2 + i = 1 by omega)]
  by_cases e : i = k
  · rw [e, if_pos rfl, if_neg (Nat.lt_irrefl k), if_neg (Nat.lt_irrefl k)]
    exact ⟨rep_1 (hs 0 (by decide)).1 (hs 0 (by decide)).2 f (fun a q => q) v1 g1, v1⟩
  · rw [if_neg (show ¬ 2 + i = 2 + k by omega), if_pos (show i < k by omega), if_pos (show i < k by omega)]
    obtain ⟨g3, v3⟩ := g2 i (by omega)
    exact ⟨rep_1 (hs (2 + i) (by omega)).1 (hs (2 + i) (by omega)).2 f (fun a q => q) v3 g3, v3⟩
theorem s_X7_dropOldest {M : mw_M} {σ : Nat → Nat} {R : Row} {K : Int64} {P : Nat → Row} {PK : Nat → Int64} {Q : mw_M → Prop} (h : cst M σ 4) (g : shw M σ 4 R K P PK) (hq : ∀ M1 σ1, fo S180 M M1 → cst M1 σ1 3 → shw M1 σ1 3 R K (fun i => P (i + 1)) (fun i => PK (i + 1)) → σ1 0 = σ 0 → σ1 1 = σ 1 → Q M1) : w_X7_dropOldest 255 M 1 Q := by
  obtain ⟨⟨h0, h1, h2, h5, h4⟩, hcv, ⟨h3, -⟩, hs, hi⟩ := id h
  have z0 : (0 : Int32) = nI 0 := rfl
  unfold w_X7_dropOldest
  rw [h2, Ln80, z0, nI_clamp (by decide), h4 0 (by decide)]
  refine ⟨is1, is80, vp_n (by decide) (by decide), ?_⟩
  rintro _ rfl
  unfold w_X7_dropOldest_b9
  refine ⟨fun N z => ∃ c, z = nI c ∧ 1 ≤ c ∧ c ≤ 4 ∧ fo (fun a => a = 80) M N ∧ ∀ i, i < 4 → mP N 80 i = if i + 1 < c then σ (3 + i) else σ (2 + i), fun _ z => 4 - z.toInt.toNat, ⟨1, rfl, by decide, by decide, fo.rf, fun i hi => by rw [if_neg (by omega)]; exact h4 i hi⟩, ?_⟩
  rintro N _ ⟨c, rfl, hc1, hc4, fN, gN⟩
  have h2N : mP N 1 2 = 80 := ((fN 1 (by decide) 2).2.2).trans h2
  rw [h2N, Ln80, nI_leI (by decide) (by omega)]
  refine ⟨is1, is80, fun q => ⟨kS (hs 2 (by decide)).1, vp_n (j := 3) (by decide) (by decide), ?_⟩, fun q => ?_⟩
  · have : c = 4 := by omega
    subst this
    have e3 : Int32.toNatClampNeg 3 = 3 := rfl
    rw [e3]
    rintro _ rfl _ rfl
    have f : fo S180 M (sI (sP N 80 3 (σ (2 + 0))) 1 3 3) := ((fN.mono (fun a q => Or.inr q)).tr (fo.sp (Or.inr rfl))).tr (fo.si (Or.inl rfl))
    have n1 : ∀ b, mP (sI (sP N 80 3 (σ (2 + 0))) 1 3 3) 1 b = mP M 1 b := fun b => by rw [mP_sI, mP_ne (Or.inl (by decide))]; exact (fN 1 (by decide) b).2.2
    have hc := cst_perm (k1 := 3) (fun i => if i < 2 then i else if i = 5 then 2 else i + 1) h f (fun a q => q) (fun i hi => by (repeat' split) <;> omega) (fun i j hi hj e => by (repeat' split at e) <;> omega)
      ((n1 0).trans h0) ((n1 1).trans h1) ((n1 2).trans h2) ((n1 5).trans h5) ((n1 4).trans hcv.1)
      (fun i hi => by
        rw [mP_sI]
        by_cases e : i = 3
        · rw [e, mP_at]; rfl
        · rw [mP_ne (Or.inr e), gN i hi, if_pos (by omega), if_neg (by omega), if_neg (by omega)]
          congr 1
          omega)
      (by rw [mI_at]; rfl) (by decide)
    obtain ⟨⟨g1, v1⟩, g2⟩ := g
    refine hq _ _ f hc ⟨⟨rep_1 (hs 0 (by decide)).1 (hs 0 (by decide)).2 f (fun a q => q) v1 g1, v1⟩, fun i hik => ?_⟩ rfl rfl
    dsimp only
    rw [if_neg (by omega), if_neg (by omega)]
    obtain ⟨g3, v3⟩ := g2 (i + 1) (by omega)
    rw [show 2 + i + 1 = 2 + (i + 1) by omega]
    exact ⟨rep_1 (hs (2 + (i + 1)) (by omega)).1 (hs (2 + (i + 1)) (by omega)).2 f (fun a q => q) v3 g3, v3⟩
  · obtain ⟨d, rfl⟩ : ∃ d, c = d + 1 := ⟨c - 1, by omega⟩
    have ev : mP N 80 (d + 1) = σ (3 + d) := by
      rw [gN (d + 1) (by omega), if_neg (by omega)]
      congr 1
      omega
    rw [nI_pred, nI_clamp (by omega), nI_clamp (by omega), ev]
    refine ⟨vp_n (by omega) (by decide), kS (hs (3 + d) (by omega)).1, vp_n (by omega) (by decide), ?_⟩
    rintro _ rfl _ rfl
    refine ⟨⟨d + 2, nI_1 _, by omega, by omega, fN.tr (fo.sp rfl), fun i hi => ?_⟩, mu_dec (by omega) (by decide)⟩
    by_cases e : i = d
    · rw [e, mP_at, if_pos (by omega)]
    · rw [mP_ne (Or.inr e), gN i hi]
      by_cases e2 : i + 1 < d + 1
      · rw [if_pos e2, if_pos (by omega)]
      · rw [if_neg e2, if_neg (by omega)]
def nk (k : Nat) : Nat := k - kd k + 1
def psh {α : Type} (k : Nat) (P : Nat → α) (R : α) : Nat → α := fun i => if i < k - kd k then P (i + kd k) else R
theorem s_X7_keepDraft {M : mw_M} {σ : Nat → Nat} {k : Nat} {R R1 : Row} {K K1 : Int64} {P : Nat → Row} {PK : Nat → Int64} {Q : mw_M → Prop} (h : cst M σ k) (g : shw M σ k R K P PK) (hp : rep M (σ 1) R1 K1) (hV : VAL R1) (hq : ∀ M1 σ1, fo S180 M M1 → cst M1 σ1 (nk k) → shw M1 σ1 (nk k) R1 K1 (psh k P R) (psh k PK K) → Q M1) : w_X7_keepDraft 255 M 1 Q := by
  obtain ⟨⟨h0, h1, h2, h5, h4⟩, hcv, ⟨h3, hk4⟩, hs, hi⟩ := id h
  unfold w_X7_keepDraft
  rw [h3, li 4, nI_ltI (by omega) (by decide)]
  unfold nk psh at hq
  refine ⟨is1, fun q => ?_, fun q => ?_⟩
  · have ek : kd k = 0 := by unfold kd; rw [if_neg (by omega)]
    rw [ek] at hq
    exact s_keep_b12 h g q hp hV hq
  · have : k = 4 := by omega
    subst this
    have ek : kd 4 = 1 := rfl
    rw [ek] at hq
    refine s_X7_dropOldest h g (fun M1 σ1 f1 c1 g1 e0 e1 => ?_)
    refine s_keep_b12 c1 g1 (by decide) ?_ hV (fun M2 σ2 f2 c2 g2 => hq M2 σ2 (f1.tr f2) c2 g2)
    rw [e1]
    exact rep_1 (hs 1 (by decide)).1 (hs 1 (by decide)).2 f1 (fun a q => q) hV hp
/-- the curves are forgotten -/
theorem s_X7_forget {M : mw_M} {Q : mw_M → Prop} (hk : cvk M) (hz : ∀ t, t < 4 → mI M (240 + 2 * t) 0 = 1000 ∧ mI M (240 + 2 * t) 1 = 1000) (hq : ∀ M1, sm (fun a b => 239 ≤ a ∧ a ≤ 246) M M1 → (∀ R t, t < 4 → cv M1 R t) → Q M1) : w_X7_forgetDucking 255 M 1 Q := by
  unfold w_X7_forgetDucking w_X7_forgetDucking_b2
  refine ⟨fun N z => ∃ c, z = nI c ∧ c ≤ 4 ∧ sm (fun a b => (∃ t, t < 4 ∧ a = 239 + 2 * t) ∧ b = 1) M N ∧ ∀ t, t < c → mI N (239 + 2 * t) 1 = 1, fun _ z => 4 - z.toInt.toNat, ⟨0, rfl, by decide, sm.rf, fun t ht => absurd ht (Nat.not_lt_zero t)⟩, ?_⟩
  rintro N _ ⟨c, rfl, hc, sN, g⟩
  rw [li 4, nI_leI (by decide) (by omega)]
  refine ⟨fun q => ?_, fun q => ⟨is1, ?_⟩⟩
  · have : c = 4 := by omega
    subst this
    refine hq N (sN.mono (fun a b q => by obtain ⟨⟨t, h1, h2⟩, -⟩ := q; omega)) (fun R t ht => ⟨1, by decide, by decide, g t ht, ?_, ?_, fun _ j hj => ?_⟩)
    · rw [sN.2.1 _ _ (by rintro ⟨-, q⟩; cases q)]; exact (hz t ht).1
    · rw [sN.2.1 _ _ (by rintro ⟨⟨u, h1, h2⟩, -⟩; omega)]; exact (hz t ht).2
    · have hj2 : j = 0 ∨ j = 1 := by omega
      rcases hj2 with rfl | rfl
      · rw [sN.2.1 _ _ (by rintro ⟨-, q⟩; cases q)]; exact (hz t ht).1
      · rw [sN.2.1 _ _ (by rintro ⟨⟨u, h1, h2⟩, -⟩; omega)]; exact (hz t ht).2
  · have hc4 : c < 4 := by omega
    obtain ⟨k1, k2⟩ := sm_cvk sN hk
    rw [k1, Ln81, nI_clamp (by omega), (k2 c hc4).1]
    unfold w_X1_forget
    refine ⟨is81, vp_n hc4 (by decide), (isCv hc4).1, (isCv hc4).1, ?_⟩
    rintro _ rfl _ rfl
    refine ⟨⟨c + 1, nI_1 c, by omega, sN.tr (sm.si ⟨⟨c, hc4, rfl⟩, rfl⟩), fun t ht => ?_⟩, mu_dec (by omega) (by decide)⟩
    by_cases e : t = c
    · rw [e, mI_at]
    · rw [mI_ne (Or.inl (by omega))]; exact g t (by omega)
