/-! The class: its curves -/
/-- the pointers of the curves -/
def cvk (M : mw_M) : Prop := mP M 1 4 = 81 ∧ ∀ t, t < 4 → mP M 81 t = 239 + 2 * t ∧ mP M (239 + 2 * t) 0 = 240 + 2 * t
/-- the curve of track t knows the gains up to its last window -/
def cv (M : mw_M) (R : Row) (t : Nat) : Prop := ∃ w, 1 ≤ w ∧ w ≤ 100 ∧ mI M (239 + 2 * t) 1 = nI w ∧ mI M (240 + 2 * t) 0 = 1000 ∧ mI M (240 + 2 * t) 1 = 1000 ∧ (rT R t 29 ≠ -1 → ∀ j, j ≤ w → mI M (240 + 2 * t) j = dk R t j)
theorem k_cv : ∀ t, t < 4 → Tg (239 + 2 * t) = 1 ∧ Tg (240 + 2 * t) = 10 ∧ Ln (240 + 2 * t) = 101 := by decide +kernel
theorem is81 : mw_is 255 81 17 := ⟨by decide +kernel, by decide, by decide⟩
theorem is1 : mw_is 255 1 7 := ⟨by decide +kernel, by decide, by decide⟩
theorem Ln81 : Ln 81 = 4 := by decide +kernel
theorem isCv {t : Nat} (ht : t < 4) : mw_is 255 (239 + 2 * t) 1 ∧ mw_is 255 (240 + 2 * t) 10 ∧ Ln (240 + 2 * t) = 101 := by
  obtain ⟨a, b, c⟩ := k_cv t ht
  exact ⟨⟨a, by omega, by omega⟩, ⟨b, by omega, by omega⟩, c⟩
def Scv (t : Nat) : Nat → Nat → Prop := fun a _ => a = 239 + 2 * t ∨ a = 240 + 2 * t
theorem sm_sk {S : Nat → Nat → Prop} {M M1 : mw_M} {s : Nat} (h : sm S M M1) (g : sk M s) : sk M1 s := by
  have e : ∀ a b, mP M1 a b = mP M a b := h.1
  unfold sk
  simp only [e]
  exact g
theorem sm_cvk {S : Nat → Nat → Prop} {M M1 : mw_M} (h : sm S M M1) (g : cvk M) : cvk M1 := by
  have e : ∀ a b, mP M1 a b = mP M a b := h.1
  unfold cvk
  simp only [e]
  exact g
/-- a frame that leaves a state alone -/
theorem sm_rep {S : Nat → Nat → Prop} {M M1 : mw_M} {s : Nat} {R : Row} {K : Int64} (h : sm S M M1) (hsk : sk M s) (hC : VC R) (hs : ∀ a b, s ≤ a → a < s + 39 → ¬ S a b) (g : rep M s R K) : rep M1 s R K := by
  obtain ⟨g1, g2, g3, g4, ⟨g5, g6, g7, g8⟩, g9, g0⟩ := g
  have eI : ∀ i b, i < 39 → mI M1 (s + i) b = mI M (s + i) b := fun i b hi => h.2.1 _ _ (hs _ b (by omega) (by omega))
  have eL : ∀ b, mL M1 (s + 4) b = mL M (s + 4) b := fun b => h.2.2 _ _ (hs _ b (by omega) (by omega))
  have h12 := hC.cn.2
  refine ⟨fun i f hi hf => ?_, ?_, fun c f hc hf => ?_, fun t ht => ⟨fun f hf => ⟨?_, ?_⟩, fun k hk => ⟨?_, ?_, ?_⟩⟩, ⟨?_, ?_, ?_, ?_⟩, fun j hj => (eL j).trans (g9 j hj), (eL 4).trans g0⟩
  · rw [Nat.add_assoc, eI _ _ (by omega), ← Nat.add_assoc]; exact g1 i f hi hf
  · have := eI 0 2 (by decide); exact this.trans g2
  · rw [h.1]
    obtain ⟨q1, q2⟩ := hsk.2.2.2.1 c (by omega)
    rw [h.2.1 _ _ (hs _ f (by omega) (by omega))]
    exact g3 c f hc hf
  · rw [Nat.add_assoc, eI _ _ (by omega), ← Nat.add_assoc]; exact ((g4 t ht).1 f hf).1
  · rw [Nat.add_assoc, eI _ _ (by omega), ← Nat.add_assoc]; exact ((g4 t ht).1 f hf).2
  · rw [Nat.add_assoc, eI _ _ (by omega), ← Nat.add_assoc]; exact ((g4 t ht).2 k hk).1
  · rw [Nat.add_assoc, eI _ _ (by omega), ← Nat.add_assoc]; exact ((g4 t ht).2 k hk).2.1
  · rw [Nat.add_assoc, eI _ _ (by omega), ← Nat.add_assoc]; exact ((g4 t ht).2 k hk).2.2
  · have := eI 0 4 (by decide); exact this.trans g5
  · have := eI 0 5 (by decide); exact this.trans g6
  · have := eI 0 6 (by decide); exact this.trans g7
  · have := eI 0 7 (by decide); exact this.trans g8
theorem s_X1_follow {M : mw_M} {s t w : Nat} {R : Row} {K : Int64} {x : Int32} {Q : mw_M → Prop} (hb : bs s) (hr : rep M s R K) (hk : cvk M) (ht : t < 4) (hw : w ≤ 99) (ew : mI M (239 + 2 * t) 1 = nI w) (hq : ∀ M1, sm (Scv t) M M1 → mI M1 (239 + 2 * t) 1 = nI (w + 1) → mI M1 (240 + 2 * t) (w + 1) = (if x = 0 then (if mI M (240 + 2 * t) w + rT R t 33 < 1000 then mI M (240 + 2 * t) w + rT R t 33 else 1000) else (if rT R t 31 < mI M (240 + 2 * t) w - rT R t 32 then mI M (240 + 2 * t) w - rT R t 32 else rT R t 31)) → (∀ j, j ≠ w + 1 → mI M1 (240 + 2 * t) j = mI M (240 + 2 * t) j) → Q M1) : w_X1_follow 255 M (239 + 2 * t) (s + 23 + 4 * t) x Q := by
  obtain ⟨k1, k10, kl⟩ := isCv ht
  have ep := (hk.2 t ht).2
  have hbl := bs_le hb
  unfold w_X1_follow
  rw [ep, ew, kl, nI_1, nI_ltI (by omega) (by decide), nI_clamp (by omega)]
  refine ⟨k1, k10, fun _ => ⟨vp_n (by omega) (by decide), ?_⟩, fun q => absurd q (by omega)⟩
  rintro _ rfl _ rfl
  have eT : ∀ f, mI (sI M (239 + 2 * t) 1 (nI (w + 1))) (s + 23 + 4 * t) f = mI M (s + 23 + 4 * t) f := fun f => mI_ne (Or.inl (by omega))
  have e10 : mI M (s + 23 + 4 * t) 10 = rT R t 31 := vT2 hr ht (f := 2) (by decide)
  have e11 : mI M (s + 23 + 4 * t) 11 = rT R t 32 := vT2 hr ht (f := 3) (by decide)
  have e12 : mI M (s + 23 + 4 * t) 12 = rT R t 33 := vT2 hr ht (f := 4) (by decide)
  rw [eT, eT, eT, e10, e11, e12, mI_at]
  have b75 : ∀ v : Int32, v = (if x = 0 then (if mI M (240 + 2 * t) w + rT R t 33 < 1000 then mI M (240 + 2 * t) w + rT R t 33 else 1000) else (if rT R t 31 < mI M (240 + 2 * t) w - rT R t 32 then mI M (240 + 2 * t) w - rT R t 32 else rT R t 31)) → w_X1_follow_b75 255 (sI M (239 + 2 * t) 1 (nI (w + 1))) v (nI (w + 1)) (mP (sI M (239 + 2 * t) 1 (nI (w + 1))) (239 + 2 * t) 0) Q := by
    intro v hv
    unfold w_X1_follow_b75
    have ep2 : mP (sI M (239 + 2 * t) 1 (nI (w + 1))) (239 + 2 * t) 0 = 240 + 2 * t := ep
    rw [ep2, kl, nI_clamp (by omega)]
    refine ⟨k10, vp_n (by omega) (by decide), ?_⟩
    rintro _ rfl
    refine hq _ ((sm.si (S := Scv t) (Or.inl rfl)).tr (sm.si (S := Scv t) (Or.inr rfl))) ?_ ?_ (fun j hj => ?_)
    · rw [mI_ne (Or.inl (by omega)), mI_at]
    · rw [mI_at]; exact hv
    · rw [mI_ne (Or.inr hj), mI_ne (Or.inl (by omega))]
  refine ⟨fun h => ⟨(kTr hb ht).1, ?_⟩, fun h => ⟨(kTr hb ht).1, ?_⟩⟩
  · rintro _ rfl
    exact b75 _ (by rw [if_pos h])
  · rintro _ rfl
    exact b75 _ (by rw [if_neg h])
