/-! The class: what a state shows, in groups; the draft -/
def repA (M : mw_M) (s : Nat) (R : Row) : Prop := ∀ i f, i < 6 → f < 4 → mI M (s + 5 + i) f = rS R i f
def repC (M : mw_M) (s : Nat) (R : Row) : Prop := mI M s 2 = R 8 ∧ ∀ c f, c < cn R → f < 9 → mI M (mP M (s + 2) c) f = rC R c f
def repD1 (M : mw_M) (s : Nat) (R : Row) (t : Nat) : Prop := (∀ f, f < 5 → mI M (s + 23 + 4 * t) f = rT R t f ∧ mI M (s + 23 + 4 * t) (8 + f) = rT R t (29 + f)) ∧ ∀ k, k < pn R t → mI M (s + 24 + 4 * t) k = rT R t (5 + 3 * k) ∧ mI M (s + 25 + 4 * t) k = rT R t (5 + 3 * k + 1) ∧ mI M (s + 26 + 4 * t) k = rT R t (5 + 3 * k + 2)
def repD (M : mw_M) (s : Nat) (R : Row) : Prop := ∀ t, t < 4 → repD1 M s R t
def repE (M : mw_M) (s : Nat) (R : Row) : Prop := mI M s 4 = R 3 ∧ mI M s 5 = R 0 ∧ mI M s 6 = R 1 ∧ mI M s 7 = R 2
def repF (M : mw_M) (s : Nat) (R : Row) (K : Int64) : Prop := (∀ j, j < 4 → mL M (s + 4) j = Int32.toInt64 (R (4 + j))) ∧ mL M (s + 4) 4 = K
theorem rep_g {M : mw_M} {s : Nat} {R : Row} {K : Int64} : rep M s R K ↔ repA M s R ∧ repC M s R ∧ repD M s R ∧ repE M s R ∧ repF M s R K :=
  ⟨fun ⟨a, b, c, d, e, f, g⟩ => ⟨a, ⟨b, c⟩, d, e, f, g⟩, fun ⟨a, ⟨b, c⟩, d, e, f, g⟩ => ⟨a, b, c, d, e, f, g⟩⟩
theorem repA.tr {M M1 : mw_M} {s : Nat} {R R1 : Row} (g : repA M s R) (h : ∀ i b, 5 ≤ i → i < 11 → mI M1 (s + i) b = mI M (s + i) b) (e : ∀ j, 9 ≤ j → j < 33 → R1 j = R j) : repA M1 s R1 := by
  intro i f hi hf
  have e1 : rS R1 i f = rS R i f := e _ (by omega) (by omega)
  rw [e1, Nat.add_assoc, h _ _ (by omega) (by omega), ← Nat.add_assoc]
  exact g i f hi hf
theorem repC.tr {M M1 : mw_M} {s : Nat} {R R1 : Row} (g : repC M s R) (hsk : sk M s) (h12 : cn R ≤ 12) (h2 : mI M1 s 2 = mI M s 2) (hp : ∀ c, mP M1 (s + 2) c = mP M (s + 2) c) (h : ∀ i b, 11 ≤ i → i < 23 → mI M1 (s + i) b = mI M (s + i) b) (e : ∀ j, (j = 8 ∨ 33 ≤ j) → j < 141 → R1 j = R j) : repC M1 s R1 := by
  have e8 : R1 8 = R 8 := e 8 (Or.inl rfl) (by decide)
  have ec : cn R1 = cn R := by unfold cn; rw [e8]
  refine ⟨by rw [h2, e8]; exact g.1, fun c f hc hf => ?_⟩
  rw [ec] at hc
  have e1 : rC R1 c f = rC R c f := e _ (Or.inr (by omega)) (by omega)
  obtain ⟨q1, q2⟩ := hsk.2.2.2.1 c (by omega)
  have eq : mP M (s + 2) c = s + (mP M (s + 2) c - s) := by omega
  rw [e1, hp, ← g.2 c f hc hf, eq]
  exact h _ _ (by omega) (by omega)
theorem repD1.tr {M M1 : mw_M} {s t : Nat} {R R1 : Row} (g : repD1 M s R t) (ht : t < 4) (h8 : pn R t ≤ 8) (h : ∀ i b, 23 + 4 * t ≤ i → i < 27 + 4 * t → mI M1 (s + i) b = mI M (s + i) b) (e : ∀ f, f < 34 → rT R1 t f = rT R t f) : repD1 M1 s R1 t := by
  have ep : pn R1 t = pn R t := by unfold pn; rw [e 4 (by decide)]
  have hh : ∀ a b, s + 23 + 4 * t ≤ a → a < s + 27 + 4 * t → mI M1 a b = mI M a b := fun a b h1 h2 => by
    have := h (a - s) b (by omega) (by omega)
    rwa [show s + (a - s) = a by omega] at this
  refine ⟨fun f hf => ?_, fun k hk => ?_⟩
  · rw [e f (by omega), e (29 + f) (by omega), hh _ _ (by omega) (by omega), hh _ _ (by omega) (by omega)]
    exact g.1 f hf
  · rw [ep] at hk
    rw [e _ (by omega), e _ (by omega), e _ (by omega), hh _ _ (by omega) (by omega), hh _ _ (by omega) (by omega), hh _ _ (by omega) (by omega)]
    exact g.2 k hk
theorem repD.tr {M M1 : mw_M} {s : Nat} {R R1 : Row} (g : repD M s R) (hT : VT R) (h : ∀ i b, 23 ≤ i → i < 39 → mI M1 (s + i) b = mI M (s + i) b) (e : ∀ j, 141 ≤ j → j < 277 → R1 j = R j) : repD M1 s R1 := fun t ht => (g t ht).tr ht (hT.pn ht).2 (fun i b h1 h2 => h i b (by omega) (by omega)) (fun f hf => e _ (by omega) (by omega))
theorem repE.tr {M M1 : mw_M} {s : Nat} {R R1 : Row} (g : repE M s R) (h : ∀ b, 4 ≤ b → b < 8 → mI M1 s b = mI M s b) (e : ∀ j, j < 4 → R1 j = R j) : repE M1 s R1 := by
  obtain ⟨g1, g2, g3, g4⟩ := g
  unfold repE
  rw [h 4 (by decide) (by decide), h 5 (by decide) (by decide), h 6 (by decide) (by decide), h 7 (by decide) (by decide), e 0 (by decide), e 1 (by decide), e 2 (by decide), e 3 (by decide)]
  exact ⟨g1, g2, g3, g4⟩
theorem repF.tr {M M1 : mw_M} {s : Nat} {R R1 : Row} {K : Int64} (g : repF M s R K) (h : ∀ b, mL M1 (s + 4) b = mL M (s + 4) b) (e : ∀ j, 4 ≤ j → j < 8 → R1 j = R j) : repF M1 s R1 K := by
  refine ⟨fun j hj => ?_, by rw [h]; exact g.2⟩
  rw [h, e _ (by omega) (by omega)]
  exact g.1 j hj
/-- rows that agree are shown alike -/
def ag (R R1 : Row) : Prop := ∀ j, j < 277 → R1 j = R j
theorem rep_ag {M : mw_M} {s : Nat} {R R1 : Row} {K : Int64} (h : rep M s R K) (hsk : sk M s) (hC : VC R) (hT : VT R) (e : ag R R1) : rep M s R1 K := by
  obtain ⟨a, c, d, f, g⟩ := rep_g.mp h
  exact rep_g.mpr ⟨a.tr (fun _ _ _ _ => rfl) (fun j h1 h2 => e j (by omega)), c.tr hsk hC.cn.2 rfl (fun _ => rfl) (fun _ _ _ _ => rfl) (fun j h1 h2 => e j (by omega)), d.tr hT (fun _ _ _ _ => rfl) (fun j h1 h2 => e j (by omega)), f.tr (fun _ _ _ => rfl) (fun j h1 => e j (by omega)), g.tr (fun _ => rfl) (fun j h1 h2 => e j (by omega))⟩
theorem VAL_ag {R R1 : Row} (h : VAL R) (e : ag R R1) : VAL R1 := by
  obtain ⟨hS, hC, hT, hP, hX, hL⟩ := h
  have e8 : R1 8 = R 8 := e 8 (by decide)
  have ec : cn R1 = cn R := by unfold cn; rw [e8]
  have h12 := hC.cn.2
  have eC : ∀ c f, c < cn R → f < 9 → rC R1 c f = rC R c f := fun c f hc hf => e _ (by omega)
  have eS : ∀ c f, c < 6 → f < 4 → rS R1 c f = rS R c f := fun c f hc hf => e _ (by omega)
  have eT : ∀ t f, t < 4 → f < 34 → rT R1 t f = rT R t f := fun c f hc hf => e _ (by omega)
  refine ⟨fun s hs => ?_, ⟨by rw [e8]; exact hC.1, fun c hc => ?_⟩, fun t ht => ?_, fun t ht => ?_, ?_, ?_, ?_⟩
  · rw [eS s 0 hs (by decide), eS s 1 hs (by decide), eS s 2 hs (by decide), eS s 3 hs (by decide)]
    exact hS s hs
  · rw [ec] at hc
    unfold VC1
    rw [eC c 0 hc (by decide), eC c 1 hc (by decide), eC c 2 hc (by decide), eC c 3 hc (by decide), eC c 4 hc (by decide), eC c 5 hc (by decide), eC c 6 hc (by decide), eC c 7 hc (by decide), eC c 8 hc (by decide)]
    exact hC.2 c hc
  · rw [eT t 0 ht (by decide), eT t 1 ht (by decide), eT t 2 ht (by decide), eT t 3 ht (by decide), eT t 4 ht (by decide), eT t 29 ht (by decide), eT t 30 ht (by decide), eT t 31 ht (by decide), eT t 32 ht (by decide), eT t 33 ht (by decide)]
    exact hT t ht
  · have ep : pn R1 t = pn R t := by unfold pn; rw [eT t 4 ht (by decide)]
    have h8 := (hT.pn ht).2
    refine ⟨fun k hk => ?_, fun k hk => ?_⟩
    · rw [ep] at hk
      rw [eT t _ ht (by omega), eT t _ ht (by omega), eT t _ ht (by omega)]
      exact (hP t ht).1 k hk
    · rw [ep] at hk
      rw [eT t _ ht (by omega), eT t _ ht (by omega)]
      exact (hP t ht).2 k hk
  · unfold VX
    rw [e 0 (by decide), e 1 (by decide), e 2 (by decide), e 3 (by decide)]
    exact hX
  · intro c hc
    rw [ec] at hc
    rw [eC c 0 (by omega) (by decide), eC c 2 (by omega) (by decide), eC c 4 (by omega) (by decide), eC (c + 1) 0 (by omega) (by decide), eC (c + 1) 2 (by omega) (by decide), eC (c + 1) 4 (by omega) (by decide)]
    exact hL.1 c hc
  · intro c hc
    rw [ec] at hc
    rw [eC c 0 (by omega) (by decide), eC c 2 (by omega) (by decide), eC c 4 (by omega) (by decide), eC (c + 2) 0 (by omega) (by decide), eC (c + 2) 2 (by omega) (by decide)]
    exact hL.2 c hc
/-- a frame that touches one object -/
def So (q : Nat) : Nat → Nat → Prop := fun a _ => a = q
theorem s_X0_takeFrom {M : mw_M} {q p : Nat} {r : Nat → Int32} {Q : mw_M → Prop} (kq : mw_is 255 q 0) (kp : mw_is 255 p 0) (hne : q ≠ p) (hv : ∀ f, f < 9 → mI M p f = r f) (hq : ∀ M1, sm (So q) M M1 → (∀ f, f < 9 → mI M1 q f = r f) → Q M1) : w_X0_takeFrom 255 M q p Q := by
  have n : ¬ p = q := fun e => hne e.symm
  have hw : ∀ {N : mw_M} {b : Nat} {x : Int32}, sm (So q) M N → sm (So q) M (sI N q b x) := fun h => h.tr (sm.si (S := So q) rfl)
  have rd : ∀ {N : mw_M} {f : Nat}, sm (So q) M N → f < 9 → mI N p f = r f := fun h hf => (h.2.1 p _ n).trans (hv _ hf)
  unfold w_X0_takeFrom w_X0_place w_X0_play w_X0_fade
  refine ⟨kp, kq, kq, ?_⟩
  rintro _ rfl _ rfl _ rfl
  refine ⟨kq, ?_⟩
  rintro _ rfl _ rfl _ rfl
  refine ⟨kq, ?_⟩
  rintro _ rfl _ rfl _ rfl
  rw [rd (sm.rf (M := M)) (f := 0) (by decide), rd (sm.rf (M := M)) (f := 2) (by decide), rd (sm.rf (M := M)) (f := 4) (by decide)]
  have s3 := hw (b := 4) (x := r 4) (hw (b := 2) (x := r 2) (hw (b := 0) (x := r 0) sm.rf))
  rw [rd s3 (f := 1) (by decide), rd s3 (f := 3) (by decide), rd s3 (f := 5) (by decide)]
  have s6 := hw (b := 5) (x := r 5) (hw (b := 3) (x := r 3) (hw (b := 1) (x := r 1) s3))
  rw [rd s6 (f := 6) (by decide), rd s6 (f := 7) (by decide), rd s6 (f := 8) (by decide)]
  refine hq _ (hw (hw (hw s6))) (fun f hf => ?_)
  have hf9 : f = 0 ∨ f = 1 ∨ f = 2 ∨ f = 3 ∨ f = 4 ∨ f = 5 ∨ f = 6 ∨ f = 7 ∨ f = 8 := by omega
  rcases hf9 with rfl | rfl | rfl | rfl | rfl | rfl | rfl | rfl | rfl <;> simp [mI_sI]
theorem s_X4_takeFrom {M : mw_M} {q p : Nat} {r : Nat → Int32} {Q : mw_M → Prop} (kq : mw_is 255 q 4) (kp : mw_is 255 p 4) (hv : ∀ f, f < 4 → mI M p f = r f) (hq : ∀ M1, sm (So q) M M1 → (∀ f, f < 4 → mI M1 q f = r f) → Q M1) : w_X4_takeFrom 255 M q p Q := by
  have hw : ∀ {N : mw_M} {b : Nat} {x : Int32}, sm (So q) M N → sm (So q) M (sI N q b x) := fun h => h.tr (sm.si (S := So q) rfl)
  unfold w_X4_takeFrom w_X4_define
  refine ⟨kp, kq, kq, ?_⟩
  rintro _ rfl _ rfl _ rfl _ rfl
  rw [hv 0 (by decide), hv 1 (by decide), hv 2 (by decide), hv 3 (by decide)]
  refine hq _ (hw (hw (hw (hw sm.rf)))) (fun f hf => ?_)
  have hf9 : f = 0 ∨ f = 1 ∨ f = 2 ∨ f = 3 := by omega
  rcases hf9 with rfl | rfl | rfl | rfl <;> simp [mI_sI]
theorem s_X3_takeFrom {M : mw_M} {q p : Nat} {r : Nat → Int64} {Q : mw_M → Prop} (kq : mw_is 255 q 3) (kp : mw_is 255 p 3) (hne : q ≠ p) (hv : ∀ f, f < 5 → mL M p f = r f) (hq : ∀ M1, sm (So q) M M1 → (∀ f, f < 5 → mL M1 q f = r f) → Q M1) : w_X3_takeFrom 255 M q p Q := by
  have n : ¬ p = q := fun e => hne e.symm
  have hw : ∀ {N : mw_M} {b : Nat} {x : Int64}, sm (So q) M N → sm (So q) M (sL N q b x) := fun h => h.tr (sm.sl (S := So q) rfl)
  have rd : ∀ {N : mw_M} {f : Nat}, sm (So q) M N → f < 5 → mL N p f = r f := fun h hf => (h.2.2 p _ n).trans (hv _ hf)
  unfold w_X3_takeFrom
  refine ⟨kp, kq, ?_⟩
  rintro _ rfl _ rfl _ rfl _ rfl _ rfl
  rw [rd (sm.rf (M := M)) (f := 0) (by decide)]
  have s1 := hw (b := 0) (x := r 0) sm.rf
  rw [rd s1 (f := 1) (by decide)]
  have s2 := hw (b := 1) (x := r 1) s1
  rw [rd s2 (f := 2) (by decide)]
  have s3 := hw (b := 2) (x := r 2) s2
  rw [rd s3 (f := 3) (by decide)]
  have s4 := hw (b := 3) (x := r 3) s3
  rw [rd s4 (f := 4) (by decide)]
  refine hq _ (hw s4) (fun f hf => ?_)
  have hf9 : f = 0 ∨ f = 1 ∨ f = 2 ∨ f = 3 ∨ f = 4 := by omega
  rcases hf9 with rfl | rfl | rfl | rfl | rfl <;> simp [mL_sL]
/-- one place of a track's lane -/
theorem s_X6_setPlace {M : mw_M} {s t k : Nat} {x v h : Int32} {Q : mw_M → Prop} (hb : bs s) (hsk : sk M s) (ht : t < 4) (hk : k < 8) (hh : mw_b01 h) (hq : ∀ M1, sm (fun a b => (s + 24 + 4 * t ≤ a ∧ a < s + 27 + 4 * t) ∧ b = k) M M1 → mI M1 (s + 24 + 4 * t) k = x → mI M1 (s + 25 + 4 * t) k = v → mI M1 (s + 26 + 4 * t) k = h → Q M1) : w_X6_setPlace 255 M (s + 23 + 4 * t) (nI k) x v h Q := by
  obtain ⟨k6, k10, k10b, k12⟩ := kTr hb ht
  obtain ⟨l1, l2, l3⟩ := ln8 hb ht
  obtain ⟨-, q5, q6, q7⟩ := hsk.2.2.1 t ht
  unfold w_X6_setPlace
  rw [q5, l1, nI_clamp (by omega)]
  refine ⟨k6, k10, vp_n hk (by decide), ?_⟩
  rintro _ rfl
  have q6' : mP (sI M (s + 24 + 4 * t) k x) (s + 23 + 4 * t) 6 = s + 25 + 4 * t := q6
  rw [q6', l2]
  refine ⟨k10b, vp_n hk (by decide), ?_⟩
  rintro _ rfl
  have q7' : mP (sI (sI M (s + 24 + 4 * t) k x) (s + 25 + 4 * t) k v) (s + 23 + 4 * t) 7 = s + 26 + 4 * t := q7
  rw [q7', l3]
  refine ⟨k12, vp_n hk (by decide), hh, ?_⟩
  rintro _ rfl
  refine hq _ (((sm.si ⟨⟨by omega, by omega⟩, rfl⟩).tr (sm.si ⟨⟨by omega, by omega⟩, rfl⟩)).tr (sm.si ⟨⟨by omega, by omega⟩, rfl⟩)) ?_ ?_ ?_
  · rw [mI_ne (Or.inl (by omega)), mI_ne (Or.inl (by omega)), mI_at]
  · rw [mI_ne (Or.inl (by omega)), mI_at]
  · rw [mI_at]
