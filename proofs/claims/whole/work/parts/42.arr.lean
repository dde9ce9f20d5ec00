/-! Arrangements: what deleteTime keeps of the order -/
def emb (T : Arr) (m : Nat) (R : Row) : Prop := ∃ e : Nat → Nat, (∀ i, i < m → e i < cn R ∧ ∀ f, T i f = rC R (e i) f) ∧ ∀ i j, i < j → j < m → e i < e j
theorem emb_0 {T : Arr} {R : Row} (h : agr (cn R) T (rC R)) : emb T (cn R) R := ⟨fun i => i, fun i hi => ⟨hi, fun f => h i f hi⟩, fun _ _ h _ => h⟩
theorem emb.lv {T : Arr} {m c : Nat} {R : Row} (h : emb T m R) (hc : c < m) : emb (lv T c m) (m - 1) R := by
  obtain ⟨e, h1, h2⟩ := h
  refine ⟨fun i => if c ≤ i then e (i + 1) else e i, fun i hi => ?_, fun i j hij hj => ?_⟩
  · unfold _root_.Jvm.Pilot.@@N@@.lv
    dsimp only
    by_cases g : c ≤ i
    · rw [if_pos g]
      refine ⟨(h1 (i + 1) (by omega)).1, fun f => ?_⟩
      rw [if_pos ⟨g, by omega⟩]
      exact (h1 (i + 1) (by omega)).2 f
    · rw [if_neg g]
      refine ⟨(h1 i (by omega)).1, fun f => ?_⟩
      rw [if_neg (by omega)]
      exact (h1 i (by omega)).2 f
  · show (if c ≤ i then e (i + 1) else e i) < (if c ≤ j then e (j + 1) else e j)
    by_cases g : c ≤ i
    · rw [if_pos g, if_pos (by omega)]
      exact h2 _ _ (by omega) (by omega)
    · rw [if_neg g]
      by_cases g2 : c ≤ j
      · rw [if_pos g2]; exact h2 _ _ (by omega) (by omega)
      · rw [if_neg g2]; exact h2 _ _ hij (by omega)
theorem dl_s (t a b : Int32) (c : Nat) (T : Arr) (m : Nat) : (gn (T c) t a b → dl t a b (c + 1) T m = dl t a b c (lv T c m) (m - 1)) ∧ (¬ gn (T c) t a b → dl t a b (c + 1) T m = dl t a b c T m) := ⟨fun h => ifp_t h, fun h => ifp_f h⟩
theorem dl_emb {t a b : Int32} {R : Row} : ∀ (c : Nat) (T : Arr) (m : Nat), c ≤ m → emb T m R → emb (dl t a b c T m).1 (dl t a b c T m).2 R ∧ (dl t a b c T m).2 ≤ m
  | 0, T, m, _, h => ⟨h, Nat.le_refl _⟩
  | c + 1, T, m, hc, h => by
    have hs := dl_s t a b c T m
    by_cases g : gn (T c) t a b
    · rw [hs.1 g]
      have := dl_emb (t := t) (a := a) (b := b) c (lv T c m) (m - 1) (by omega) (h.lv (by omega))
      exact ⟨this.1, by have := this.2; omega⟩
    · rw [hs.2 g]
      exact dl_emb c T m (by omega) h
theorem dele1_0 (r : Nat → Int32) (a b : Int32) {f : Nat} (hf : f = 0 ∨ f = 1 ∨ f = 5 ∨ f = 8) : dele1 r a b f = r f := by
  have h : ∀ x y : Int32, cut1 r x y f = r f := by
    intro x y
    unfold cut1
    rw [if_neg (by omega), if_neg (by omega), if_neg (by omega), if_neg (by omega), if_neg (by omega)]
  unfold dele1
  by_cases h1 : r 2 < a
  · rw [if_pos h1]
    by_cases h2 : a < r 2 + r 4
    · rw [if_pos h2]; exact h _ _
    · rw [if_neg h2]
  · rw [if_neg h1]
    by_cases h2 : r 2 < b
    · rw [if_pos h2]; exact h _ _
    · rw [if_neg h2]
theorem dele_0 (r : Nat → Int32) (a b : Int32) {f : Nat} (hf : f = 0 ∨ f = 1 ∨ f = 5 ∨ f = 8) : dele r a b f = r f := by
  unfold dele
  rw [if_neg (by omega)]
  exact dele1_0 r a b hf
/-- where a clip begins after the stretch is gone -/
def nst (s a b : Int) : Int := if s < a then s else if s < b then a else s - (b - a)
theorem dele_2 {r : Nat → Int32} {a b : Int32} (hF : fTime a b) (h0 : 0 ≤ (r 2).toInt) (h1 : (r 2).toInt ≤ 4000) : (dele r a b 2).toInt = nst (r 2).toInt a.toInt b.toInt := by
  obtain ⟨⟨b1, b2⟩, a1, a2⟩ := hF
  have e1 : (b - a).toInt = b.toInt - a.toInt := ti_sub (by omega) (by omega)
  have hd : dele r a b 2 = if dele1 r a b 2 < b then dele1 r a b 2 else dele1 r a b 2 - (b - a) := if_pos rfl
  have c2 : ∀ x y : Int32, cut1 r x y 2 = r 2 + x := fun x y => if_pos rfl
  unfold nst
  by_cases g1 : r 2 < a
  · have e2 : dele1 r a b 2 = r 2 := by
      unfold dele1
      rw [if_pos g1]
      by_cases g2 : a < r 2 + r 4
      · rw [if_pos g2, c2]; exact Int32.add_zero _
      · rw [if_neg g2]
    rw [ti_lt] at g1
    rw [hd, e2, if_pos (by rw [ti_lt]; omega), if_pos g1]
  · by_cases g2 : r 2 < b
    · have e3 : (b - r 2).toInt = b.toInt - (r 2).toInt := ti_sub (by omega) (by omega)
      have e2 : (dele1 r a b 2).toInt = b.toInt := by
        unfold dele1
        rw [if_neg g1, if_pos g2, c2, ti_add (by rw [e3]; omega) (by rw [e3]; omega), e3]
        omega
      rw [ti_lt] at g1 g2
      rw [hd, if_neg (by rw [ti_lt, e2]; omega), ti_sub (by rw [e2, e1]; omega) (by rw [e2, e1]; omega), e2, e1, if_neg g1, if_pos g2]
      omega
    · have e2 : dele1 r a b 2 = r 2 := by
        unfold dele1
        rw [if_neg g1, if_neg g2]
      rw [hd, e2, if_neg g2]
      rw [ti_lt] at g1 g2
      rw [ti_sub (by rw [e1]; omega) (by rw [e1]; omega), e1, if_neg g1, if_neg g2]
theorem nst_mono {s s' a b : Int} (h : s ≤ s') (hab : a < b) : nst s a b ≤ nst s' a b := by
  unfold nst
  split <;> split <;> (try split) <;> (try split) <;> omega
theorem cutAll_y {T : Arr} {m i : Nat} {t a b : Int32} (h : i < m) (h0 : T i 0 = t) (f : Nat) : cutAll T m t a b i f = dele (T i) a b f := ifp_t ⟨h, h0⟩
theorem cutAll_n {T : Arr} {m i : Nat} {t a b : Int32} (h0 : ¬ (i < m ∧ T i 0 = t)) (f : Nat) : cutAll T m t a b i f = T i f := ifp_f h0
theorem cutAll_0 {T : Arr} {m i : Nat} {t a b : Int32} : cutAll T m t a b i 0 = T i 0 := by
  by_cases h : i < m ∧ T i 0 = t
  · rw [cutAll_y h.1 h.2, dele_0 _ _ _ (Or.inl rfl)]
  · rw [cutAll_n h]
theorem ord_cut {R : Row} {T : Arr} {m : Nat} {t a b : Int32} (hC : VC R) (hL : VL R) (hF : fTime a b) (hE : emb T m R) : ord (cutAll T m t a b) m := by
  obtain ⟨e, h1, h2⟩ := hE
  intro c hc h0
  rw [cutAll_0, cutAll_0] at h0
  obtain ⟨i1, j1⟩ := h1 c (by omega)
  obtain ⟨i2, j2⟩ := h1 (c + 1) hc
  have hlt := (VL_lt hL (h2 c (c + 1) (by omega) hc) i2).2 (by rw [← j1, ← j2]; exact h0)
  rw [← j1, ← j2] at hlt
  obtain ⟨-, -, ⟨p1, -⟩, ⟨p2, p3⟩, -⟩ := hC.2 _ i1
  obtain ⟨-, -, ⟨q1, -⟩, ⟨q2, q3⟩, -⟩ := hC.2 _ i2
  rw [← j1] at p1 p2 p3
  rw [← j1] at p3
  rw [← j2] at q1 q2 q3
  rw [← j2] at q3
  rw [ti_le]
  by_cases ht : T c 0 = t
  · rw [cutAll_y (by omega) ht, cutAll_y hc (h0 ▸ ht), dele_2 hF p1 (by omega), dele_2 hF q1 (by omega)]
    exact nst_mono (by omega) hF.2.2
  · rw [cutAll_n (fun q => ht q.2), cutAll_n (fun q => ht (h0.trans q.2))]
    omega
