/-! The reference: arrangements of clips that are tried -/
abbrev Arr : Type := Nat → Nat → Int32
def trd (N : mw_M) (T : Arr) : Prop := ∀ c f, f < 9 → mI N 251 (9 * c + f) = T c f
def St : Nat → Nat → Prop := fun a b => a = 251 ∨ a = 252 ∨ (a = 247 ∧ b = 6)
theorem St8 : ∀ b, ¬ St 248 b := by
  rintro b (q | q | ⟨q, -⟩) <;> cases q
def up2 (T : Arr) (c f : Nat) (x : Int32) : Arr := fun i g => if i = c ∧ g = f then x else T i g
def upr (T : Arr) (b : Nat) (r : Nat → Int32) : Arr := fun i f => if i = b then r f else T i f
theorem up2_at (T : Arr) (c f : Nat) (x : Int32) : up2 T c f x c f = x := if_pos ⟨rfl, rfl⟩
theorem up2_ne {T : Arr} {c f i g : Nat} {x : Int32} (h : i ≠ c ∨ g ≠ f) : up2 T c f x i g = T i g := if_neg (fun q => h.elim (fun r => r q.1) (fun r => r q.2))
theorem t_ix {c f : Nat} (hc : c < 14) (hf : f < 9) {x : Int32} (hx : x = nI (9 * c + f)) : vp_in x (Ln 251) ∧ Int32.toNatClampNeg x = 9 * c + f := by
  subst hx
  exact ⟨by rw [Ln251]; exact vp_n (by omega) (by decide), nI_clamp (by omega)⟩
theorem u_ix {f : Nat} (hf : f < 9) {x : Int32} (hx : x = nI f) : vp_in x (Ln 252) ∧ Int32.toNatClampNeg x = f := by
  subst hx
  exact ⟨by rw [Ln252]; exact vp_n (by omega) (by decide), nI_clamp (by omega)⟩
/-- m clips of T are tried -/
def Tr (N : mw_M) (m : Nat) (T : Arr) : Prop := MK N ∧ mI N 247 6 = nI m ∧ m ≤ 13 ∧ trd N T
theorem Tr.c {N : mw_M} {m : Nat} {T T' : Arr} (h : Tr N m T) (e : ∀ c f, f < 9 → T' c f = T c f) : Tr N m T' := ⟨h.1, h.2.1, h.2.2.1, fun c f hf => (h.2.2.2 c f hf).trans (e c f hf).symm⟩
theorem Tr.w {N : mw_M} {m c f : Nat} {T : Arr} (h : Tr N m T) (hf : f < 9) (x : Int32) : Tr (sI N 251 (9 * c + f) x) m (up2 T c f x) := by
  obtain ⟨h1, h2, h3, h4⟩ := h
  refine ⟨(sm.si (S := St) (Or.inl rfl)).MK h1, (mI_ne (Or.inl (by decide))).trans h2, h3, fun i g hg => ?_⟩
  by_cases e : i = c ∧ g = f
  · rw [e.1, e.2, mI_at, up2_at]
  · rw [mI_ne (Or.inr (by omega)), up2_ne (by omega)]
    exact h4 i g hg
theorem s_of {N : mw_M} {m c f : Nat} {T : Arr} {x : Int32} {Q : Int32 → Prop} (h : Tr N m T) (hc : c < 14) (hf : f < 9) (hx : x = nI f) (hq : Q (T c f)) : w_X8_of 255 N 247 (nI c) x Q := by
  subst hx
  unfold w_X8_of
  obtain ⟨i1, j1⟩ := t_ix hc hf (x := 9 * nI c + nI f) (by rw [li 9, pk_mul, nI_add])
  rw [h.1.2.2.2.1, j1, h.2.2.2 c f hf]
  exact ⟨is247, is251, i1, hq⟩
theorem s_set {N : mw_M} {m c f : Nat} {T : Arr} {x v : Int32} {Q : mw_M → Prop} (h : Tr N m T) (hc : c < 14) (hf : f < 9) (hx : x = nI f) (hq : ∀ N1, sm St N N1 → Tr N1 m (up2 T c f v) → Q N1) : w_X8_set 255 N 247 (nI c) x v Q := by
  subst hx
  unfold w_X8_set
  obtain ⟨i1, j1⟩ := t_ix hc hf (x := 9 * nI c + nI f) (by rw [li 9, pk_mul, nI_add])
  rw [h.1.2.2.2.1, j1]
  refine ⟨is247, is251, i1, ?_⟩
  rintro _ rfl
  exact hq _ (sm.si (Or.inl rfl)) (h.w hf v)
theorem s_endOf {N : mw_M} {m c : Nat} {T : Arr} {Q : Int32 → Prop} (h : Tr N m T) (hc : c < 14) (hq : Q (T c 2 + T c 4)) : w_X8_endOf 255 N 247 (nI c) Q := by
  unfold w_X8_endOf
  exact ⟨is247, s_of h hc (f := 2) (by decide) rfl (s_of h hc (f := 4) (by decide) rfl hq)⟩
/-- clip a taken out and put at place b -/
def crry (T : Arr) (a b : Nat) : Arr := fun i f => if i = b then T a f else if a ≤ i ∧ i < b then T (i + 1) f else if b < i ∧ i ≤ a then T (i - 1) f else T i f
theorem s_shifts {N : mw_M} {m a b : Nat} {T : Arr} {x1 x2 : Int32} {Q : mw_M → Prop} (h : Tr N m T) (ha : a < 14) (hb : b < 14) (h1 : x1 = nI a) (h2 : x2 = nI b) (hq : ∀ N1, sm St N N1 → Tr N1 m (upr T b (T a)) → (∀ j, mI N1 252 j = mI N 252 j) → Q N1) : w_X8_shifts 255 N 247 x1 x2 Q := by
  subst h1
  subst h2
  unfold w_X8_shifts w_X8_shifts_b2
  refine ⟨fun N1 z => ∃ k, z = nI k ∧ k ≤ 9 ∧ sm St N N1 ∧ Tr N1 m (fun i f => if i = b ∧ f < k then T a f else T i f) ∧ ∀ j, mI N1 252 j = mI N 252 j, fun _ z => 9 - z.toInt.toNat, ⟨0, rfl, by decide, sm.rf, h.c (fun c f _ => if_neg (by omega)), fun _ => rfl⟩, ?_⟩
  rintro N1 _ ⟨k, rfl, hk, sN, hT, h5⟩
  rw [li 9, nI_leI (by decide) (by omega)]
  refine ⟨fun g => ?_, fun g => ⟨is247, ?_⟩⟩
  · have : k = 9 := by omega
    subst this
    refine hq N1 sN (hT.c (fun c f hf => ?_)) h5
    try dsimp only [up2, upr, crry]
    repeat' split
    all_goals first | rfl | (exfalso; omega) | (congr 2 <;> omega)
  · obtain ⟨i1, j1⟩ := t_ix ha (f := k) (by omega) (x := nI 9 * nI a + nI k) (by rw [pk_mul, nI_add])
    obtain ⟨i2, j2⟩ := t_ix hb (f := k) (by omega) (x := nI 9 * nI b + nI k) (by rw [pk_mul, nI_add])
    have ev : mI N1 251 (9 * a + k) = T a k := (hT.2.2.2 a k (by omega)).trans (if_neg (by omega))
    rw [hT.1.2.2.2.1, j1, j2, ev]
    refine ⟨is251, i1, i2, ?_⟩
    rintro _ rfl
    rintro _ rfl
    refine ⟨⟨k + 1, nI_1 k, by omega, sN.tr (sm.si (Or.inl rfl)), (hT.w (by omega) _).c (fun c f hf => ?_), fun j => (mI_ne (Or.inl (by decide))).trans (h5 j)⟩, mu_dec (by omega) (by decide)⟩
    try dsimp only [up2, upr, crry]
    repeat' split
    all_goals first | rfl | (exfalso; omega) | (congr 2 <;> omega)
theorem s_carries {N : mw_M} {m a b : Nat} {T : Arr} {x1 x2 : Int32} {Q : mw_M → Prop} (h : Tr N m T) (ha : a < 13) (hb : b < 13) (h1 : x1 = nI a) (h2 : x2 = nI b) (hq : ∀ N1, sm St N N1 → Tr N1 m (crry T a b) → Q N1) : w_X8_carries 255 N 247 x1 x2 Q := by
  subst h1
  subst h2
  have b75 : ∀ N1, sm St N N1 → Tr N1 m (fun i f => if a ≤ i ∧ i < b then T (i + 1) f else if b < i ∧ i ≤ a then T (i - 1) f else T i f) → (∀ f, f < 9 → mI N1 252 f = T a f) → w_X8_carries_b75 255 N1 247 (nI b) 0 Q := by
    intro N1 s1 t1 g1
    unfold w_X8_carries_b75
    refine ⟨fun N2 z => ∃ k, z = nI k ∧ k ≤ 9 ∧ sm St N N2 ∧ Tr N2 m (fun i f => if i = b ∧ f < k then T a f else if a ≤ i ∧ i < b then T (i + 1) f else if b < i ∧ i ≤ a then T (i - 1) f else T i f) ∧ (∀ f, f < 9 → mI N2 252 f = T a f), fun _ z => 9 - z.toInt.toNat, ⟨0, rfl, by decide, s1, t1.c (fun c f _ => if_neg (by omega)), g1⟩, ?_⟩
    rintro N2 _ ⟨k, rfl, hk, s2, t2, g2⟩
    rw [li 9, nI_leI (by decide) (by omega)]
    refine ⟨fun g => ?_, fun g => ⟨is247, ?_⟩⟩
    · have : k = 9 := by omega
      subst this
      refine hq N2 s2 (t2.c (fun c f hf => ?_))
      try dsimp only [up2, upr, crry]
      repeat' split
      all_goals first | rfl | (exfalso; omega) | (congr 2 <;> omega)
    · obtain ⟨i1, j1⟩ := u_ix (f := k) (by omega) (x := nI k) rfl
      obtain ⟨i2, j2⟩ := t_ix (c := b) (f := k) (by omega) (by omega) (x := nI 9 * nI b + nI k) (by rw [pk_mul, nI_add])
      rw [t2.1.2.2.2.1, t2.1.2.2.2.2.1, j1, j2, g2 k (by omega)]
      refine ⟨is252, i1, is251, i2, ?_⟩
      rintro _ rfl
      rintro _ rfl
      refine ⟨⟨k + 1, nI_1 k, by omega, s2.tr (sm.si (Or.inl rfl)), (t2.w (by omega) _).c (fun c f hf => ?_), fun f hf => (mI_ne (Or.inl (by decide))).trans (g2 f hf)⟩, mu_dec (by omega) (by decide)⟩
      try dsimp only [up2, upr, crry]
      repeat' split
      all_goals first | rfl | (exfalso; omega) | (congr 2 <;> omega)
  have b54 : ∀ N1, sm St N N1 → Tr N1 m (fun i f => if a ≤ i ∧ i < b then T (i + 1) f else T i f) → (∀ f, f < 9 → mI N1 252 f = T a f) → w_X8_carries_b54 255 N1 247 (nI b) (nI a) Q := by
    intro N1 s1 t1 g1
    unfold w_X8_carries_b54
    refine ⟨fun N2 z => ∃ c, z = nI c ∧ c ≤ a ∧ (b ≤ c ∨ c = a) ∧ sm St N N2 ∧ Tr N2 m (fun i f => if a ≤ i ∧ i < b then T (i + 1) f else if c < i ∧ i ≤ a then T (i - 1) f else T i f) ∧ (∀ f, f < 9 → mI N2 252 f = T a f), fun _ z => z.toInt.toNat, ⟨a, rfl, Nat.le_refl _, Or.inr rfl, s1, t1.c (fun c f _ => ?_), g1⟩, ?_⟩
    · try dsimp only [up2, upr, crry]
      repeat' split
      all_goals first | rfl | (exfalso; omega) | (congr 2 <;> omega)
    · rintro N2 _ ⟨c, rfl, hc, hbc, s2, t2, g2⟩
      rw [nI_leI (by omega) (by omega)]
      refine ⟨fun g => b75 N2 s2 (t2.c (fun i f _ => ?_)) g2, fun g => ⟨is247, ?_⟩⟩
      · try dsimp only [up2, upr, crry]
        repeat' split
        all_goals first | rfl | (exfalso; omega) | (congr 2 <;> omega)
      · obtain ⟨d, rfl⟩ : ∃ d, c = d + 1 := ⟨c - 1, by omega⟩
        refine s_shifts t2 (a := d) (b := d + 1) (by omega) (by omega) (nI_pred d) rfl (fun N3 s3 t3 g3 => ?_)
        rintro _ rfl
        have ed : nI (d + 1) + -1 = nI d := by
          rw [← nI_1, Int32.add_assoc]
          exact Int32.add_zero _
        rw [ed]
        refine ⟨⟨d, rfl, by omega, by omega, s2.tr s3, t3.c (fun i f _ => ?_), fun f hf => (g3 f).trans (g2 f hf)⟩, ?_⟩
        · try dsimp only [up2, upr, crry]
          repeat' split
          all_goals first | rfl | (exfalso; omega) | (congr 2 <;> omega)
        · show (nI d).toInt.toNat < (nI (d + 1)).toInt.toNat
          rw [nI_toInt (by omega), nI_toInt (by omega)]
          omega
  have b33 : ∀ N1, sm St N N1 → Tr N1 m T → (∀ f, f < 9 → mI N1 252 f = T a f) → w_X8_carries_b33 255 N1 247 (nI a) (nI b) (nI a) Q := by
    intro N1 s1 t1 g1
    unfold w_X8_carries_b33
    refine ⟨fun N2 z => ∃ c, z = nI c ∧ a ≤ c ∧ (c ≤ b ∨ c = a) ∧ sm St N N2 ∧ Tr N2 m (fun i f => if a ≤ i ∧ i < c then T (i + 1) f else T i f) ∧ (∀ f, f < 9 → mI N2 252 f = T a f), fun _ z => 14 - z.toInt.toNat, ⟨a, rfl, Nat.le_refl _, Or.inr rfl, s1, t1.c (fun c f _ => if_neg (by omega)), g1⟩, ?_⟩
    rintro N2 _ ⟨c, rfl, hc, hbc, s2, t2, g2⟩
    rw [nI_leI (by omega) (by omega)]
    refine ⟨fun g => b54 N2 s2 (t2.c (fun i f _ => ?_)) g2, fun g => ⟨is247, ?_⟩⟩
    · try dsimp only [up2, upr, crry]
      repeat' split
      all_goals first | rfl | (exfalso; omega) | (congr 2 <;> omega)
    · refine s_shifts t2 (a := c + 1) (b := c) (by omega) (by omega) (nI_1 c) rfl (fun N3 s3 t3 g3 => ?_)
      rintro _ rfl
      refine ⟨⟨c + 1, nI_1 c, by omega, by omega, s2.tr s3, t3.c (fun i f _ => ?_), fun f hf => (g3 f).trans (g2 f hf)⟩, mu_dec (by omega) (by decide)⟩
      try dsimp only [up2, upr, crry]
      repeat' split
      all_goals first | rfl | (exfalso; omega) | (congr 2 <;> omega)
  unfold w_X8_carries w_X8_carries_b2
  refine ⟨fun N2 z => ∃ k, z = nI k ∧ k ≤ 9 ∧ sm St N N2 ∧ Tr N2 m T ∧ (∀ f, f < k → mI N2 252 f = T a f), fun _ z => 9 - z.toInt.toNat, ⟨0, rfl, by decide, sm.rf, h, fun f hf => absurd hf (Nat.not_lt_zero f)⟩, ?_⟩
  rintro N2 _ ⟨k, rfl, hk, s2, t2, g2⟩
  rw [li 9, nI_leI (by decide) (by omega)]
  refine ⟨fun g => ?_, fun g => ⟨is247, ?_⟩⟩
  · have : k = 9 := by omega
    subst this
    exact b33 N2 s2 t2 g2
  · obtain ⟨i1, j1⟩ := u_ix (f := k) (by omega) (x := nI k) rfl
    obtain ⟨i2, j2⟩ := t_ix (c := a) (f := k) (by omega) (by omega) (x := nI 9 * nI a + nI k) (by rw [pk_mul, nI_add])
    rw [t2.1.2.2.2.1, t2.1.2.2.2.2.1, j1, j2, t2.2.2.2 a k (by omega)]
    refine ⟨is251, i2, is252, i1, ?_⟩
    rintro _ rfl
    rintro _ rfl
    have s3 : sm St N2 (sI N2 252 k (T a k)) := sm.si (Or.inr (Or.inl rfl))
    refine ⟨⟨k + 1, nI_1 k, by omega, s2.tr s3, ⟨s3.MK t2.1, (mI_ne (Or.inl (by decide))).trans t2.2.1, t2.2.2.1, fun c f hf => (mI_ne (Or.inl (by decide))).trans (t2.2.2.2 c f hf)⟩, fun f hf => ?_⟩, mu_dec (by omega) (by decide)⟩
    by_cases e : f = k
    · rw [e, mI_at]
    · rw [mI_ne (Or.inr e)]
      exact g2 f (by omega)
