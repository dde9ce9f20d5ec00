/-! The reference's clip changes, over the rows of its own list -/
theorem agr_up2 {m : Nat} {T T' : Arr} (h : agr m T T') (c f : Nat) (x : Int32) : agr m (up2 T c f x) (up2 T' c f x) := fun i g hi => by
  unfold up2
  split
  · rfl
  · exact h i g hi
theorem agr_upr {m m1 : Nat} {T T' : Arr} {r r' : Nat → Int32} (h : agr m T T') (hr : r = r') (c : Nat) (hm : ∀ i, i < m1 → i = c ∨ i < m) : agr m1 (upr T c r) (upr T' c r') := fun i g hi => by
  unfold upr
  split
  · rw [hr]
  · next e => exact h i g ((hm i hi).resolve_left e)
theorem agr_row {m c : Nat} {T T' : Arr} (h : agr m T T') (hc : c < m) : T c = T' c := funext fun f => h c f hc
theorem agr_lv {m : Nat} {T T' : Arr} (h : agr m T T') (c : Nat) : agr m (lv T c m) (lv T' c m) := fun i g hi => by
  unfold lv
  split
  · next e => exact h _ g e.2
  · exact h i g hi
theorem agr_le {m m1 : Nat} {T T' : Arr} (h : agr m T T') (hm : m1 ≤ m) : agr m1 T T' := fun i g hi => h i g (by omega)
theorem agr_ahd {m o c : Nat} {T T' : Arr} (h : agr m T T') (ho : o < m) (hc : c < m) : ahd T o c ↔ ahd T' o c := by
  unfold ahd
  rw [h o 0 ho, h o 2 ho, h c 0 hc, h c 2 hc]
theorem agr_cntA {m c : Nat} {T T' : Arr} (h : agr m T T') (hc : c < m) : ∀ o, o ≤ m → cntA T c o = cntA T' c o
  | 0, _ => rfl
  | o + 1, ho => by
    have ih := agr_cntA h hc o (by omega)
    have e := agr_ahd h (o := o) (by omega) hc
    have s1 := cntA_s T c o
    have s2 := cntA_s T' c o
    by_cases g : o ≠ c ∧ ahd T o c
    · rw [s1.1 g, s2.1 ⟨g.1, e.mp g.2⟩, ih]
    · rw [s1.2 g, s2.2 (fun y => g ⟨y.1, e.mpr y.2⟩), ih]
theorem agr_crry {m a b : Nat} {T T' : Arr} (h : agr m T T') (ha : a < m) (hb : b < m) : agr m (crry T a b) (crry T' a b) := fun i g hi => by
  unfold crry
  repeat' split
  · exact h a g ha
  · exact h _ g (by omega)
  · exact h _ g (by omega)
  · exact h i g hi
theorem agr_fine {m : Nat} {T T' : Arr} (h : agr m T T') (hf : fine T m) : fine T' m := fun c hc e => by
  have h0 := h c 0 (by omega)
  have h2 := h c 2 (by omega)
  have h4 := h c 4 (by omega)
  have i0 := h (c + 1) 0 hc
  have i2 := h (c + 1) 2 hc
  have i4 := h (c + 1) 4 hc
  have f := hf c hc (by rw [h0, i0, e])
  refine ⟨by rw [← h2, ← h4, ← i2, ← i4]; exact f.1, fun k e2 => ?_⟩
  have j0 := h (c + 2) 0 k
  have j2 := h (c + 2) 2 k
  have y := f.2 k (by rw [j0, h0, e2])
  rw [← h2, ← h4, ← j2]
  exact y
theorem agr_s {m : Nat} {T T' : Arr} (h : agr m T T') : agr m T' T := fun i f hi => (h i f hi).symm
theorem agr_tov {m : Nat} {T T' : Arr} (h : agr m T T') (R : Row) : tov R m T = tov R m T' := by
  funext j
  unfold tov
  repeat' split
  · rfl
  · exact h _ _ (by omega)
  · rfl
theorem agr_dl {t a b : Int32} : ∀ (c m : Nat) (T T' : Arr), c ≤ m → agr m T T' → (dl t a b c T m).2 = (dl t a b c T' m).2 ∧ agr (dl t a b c T m).2 (dl t a b c T m).1 (dl t a b c T' m).1
  | 0, m, T, T', _, h => ⟨rfl, h⟩
  | c + 1, m, T, T', hc, h => by
    have e : T c = T' c := agr_row h (by omega)
    have s1 := dl_s t a b c T m
    have s2 := dl_s t a b c T' m
    by_cases g : gn (T c) t a b
    · rw [s1.1 g, s2.1 (e ▸ g)]
      exact agr_dl c (m - 1) _ _ (by omega) (agr_le (agr_lv h c) (by omega))
    · rw [s1.2 g, s2.2 (e ▸ g)]
      exact agr_dl c m _ _ (by omega) h
theorem agr_cut {m : Nat} {T T' : Arr} {t a b : Int32} (h : agr m T T') : agr m (cutAll T m t a b) (cutAll T' m t a b) := fun i f hi => by
  unfold cutAll
  rw [agr_row h hi]
theorem agr_fit {m : Nat} {T T' : Arr} {t a b : Int32} (h : agr m T T') (hf : fitAll T m t a b) : fitAll T' m t a b := fun i hi e => by
  have y := agr_row h hi
  rw [← y]
  exact hf i hi (by rw [y]; exact e)
theorem agr_emb {R : Row} {T : Arr} (h : agr (cn R) T (rC R)) : emb T (cn R) R := ⟨fun i => i, fun i hi => ⟨hi, fun f => h i f hi⟩, fun _ _ h _ => h⟩
theorem agr_u {m : Nat} {R : Row} {S S' : Arr} (h : agr m S S') : (¬ fine S m → ¬ fine S' m) ∧ (fine S m → fine S' m) ∧ tov R m S = tov R m S' := ⟨fun y z => y (agr_fine (agr_s h) z), agr_fine h, agr_tov h R⟩
theorem isCl_nx {R : Row} {x : Int32} (hC : VC R) (h : isCl R x) : nx x < cn R := by
  have e := h.2
  have := h.1
  unfold nx
  omega
theorem y_addClip {M : mw_M} {k : Nat} {x1 x2 x3 x4 x5 x6 : Int32} {Q : mw_M → Int32 → Prop} (hI : IK M k) (hC : VC (nw M)) (h1 : ¬ fAdd x1 x2 x3 x4 x5 x6 → ∀ M1, sm S5t M M1 → mI M1 247 5 = 1 → Q M1 0) (h2 : fAdd x1 x2 x3 x4 x5 x6 → cn (nw M) = 12 → ∀ M1, sm S5t M M1 → mI M1 247 5 = 2 → Q M1 0) (h3 : fAdd x1 x2 x3 x4 x5 x6 → cn (nw M) ≠ 12 → ¬ fine (addS (nw M) x1 x2 x3 x4 x5 x6) (cn (nw M) + 1) → ∀ M1, sm S5t M M1 → mI M1 247 5 = 3 → Q M1 0) (hq : fAdd x1 x2 x3 x4 x5 x6 → cn (nw M) ≠ 12 → fine (addS (nw M) x1 x2 x3 x4 x5 x6) (cn (nw M) + 1) → ∀ N, Ck M k N → nw N = tov (nw M) (cn (nw M) + 1) (addS (nw M) x1 x2 x3 x4 x5 x6) → Q N (nI (addN (nw M) x1 x2 x3 x4 x5 x6))) : w_X8_addClip 255 M 247 x1 x2 x3 x4 x5 x6 Q := by
  refine s_X8_addClip hI hC h1 h2 (fun a b T T' n hT hT' hn => ?_)
  have g : agr (cn (nw M) + 1) T' (addT (nw M) x1 x2 x3 x4 x5 x6) := hT' ▸ agr_upr hT rfl _ (fun i hi => by omega)
  have en : n = addN (nw M) x1 x2 x3 x4 x5 x6 := hn.trans (agr_cntA g (by omega) _ (Nat.le_refl _))
  have hl : n < cn (nw M) + 1 := hn ▸ (cntA_le T' (cn (nw M)) (cn (nw M) + 1)).2 (by omega)
  have u := agr_u (R := nw M) (agr_crry g (show cn (nw M) < cn (nw M) + 1 by omega) hl)
  rw [en] at u ⊢
  exact ⟨fun f => h3 a b (u.1 f), fun f N hN e => hq a b (u.2.1 f) N hN (e.trans u.2.2)⟩
theorem y_moveClip {M : mw_M} {k : Nat} {x1 x2 : Int32} {Q : mw_M → Int32 → Prop} (hI : IK M k) (hC : VC (nw M)) (h1 : ¬ isCl (nw M) x1 → ∀ M1, sm S5t M M1 → mI M1 247 5 = 1 → Q M1 0) (h2 : isCl (nw M) x1 → ¬ isAt 0 (4000 - (rC (nw M) (nx x1) 4).toInt) x2 → ∀ M1, sm S5t M M1 → mI M1 247 5 = 2 → Q M1 0) (h3 : isCl (nw M) x1 → isAt 0 (4000 - (rC (nw M) (nx x1) 4).toInt) x2 → ¬ fine (movS (nw M) (nx x1) x2) (cn (nw M)) → ∀ M1, sm S5t M M1 → mI M1 247 5 = 3 → Q M1 0) (hq : isCl (nw M) x1 → isAt 0 (4000 - (rC (nw M) (nx x1) 4).toInt) x2 → fine (movS (nw M) (nx x1) x2) (cn (nw M)) → ∀ N, Ck M k N → nw N = tov (nw M) (cn (nw M)) (movS (nw M) (nx x1) x2) → Q N (nI (movN (nw M) (nx x1) x2))) : w_X8_moveClip 255 M 247 x1 x2 Q := by
  refine s_X8_moveClip hI hC h1 h2 (fun a b T hT => ?_)
  have hc := isCl_nx hC a
  have g : agr (cn (nw M)) (up2 T (nx x1) 2 x2) (movT (nw M) (nx x1) x2) := agr_up2 hT _ _ _
  have en : cntA (up2 T (nx x1) 2 x2) (nx x1) (cn (nw M)) = movN (nw M) (nx x1) x2 := agr_cntA g hc _ (Nat.le_refl _)
  have hl : movN (nw M) (nx x1) x2 < cn (nw M) := (cntA_le _ (nx x1) (cn (nw M))).2 hc
  have u := agr_u (R := nw M) (agr_crry g hc hl)
  rw [en]
  exact ⟨fun f => h3 a b (u.1 f), fun f N hN e => hq a b (u.2.1 f) N hN (e.trans u.2.2)⟩
theorem y_trimClip {M : mw_M} {k : Nat} {x1 x2 x3 : Int32} {Q : mw_M → Int32 → Prop} (hI : IK M k) (hC : VC (nw M)) (h1 : ¬ isCl (nw M) x1 → ∀ M1, sm S5t M M1 → mI M1 247 5 = 1 → Q M1 0) (h2 : isCl (nw M) x1 → ¬ fTrim (rC (nw M) (nx x1)) x2 x3 → ∀ M1, sm S5t M M1 → mI M1 247 5 = 2 → Q M1 0) (h3 : isCl (nw M) x1 → fTrim (rC (nw M) (nx x1)) x2 x3 → ¬ fine (triS (nw M) (nx x1) x2 x3) (cn (nw M)) → ∀ M1, sm S5t M M1 → mI M1 247 5 = 3 → Q M1 0) (hq : isCl (nw M) x1 → fTrim (rC (nw M) (nx x1)) x2 x3 → fine (triS (nw M) (nx x1) x2 x3) (cn (nw M)) → ∀ N, Ck M k N → nw N = tov (nw M) (cn (nw M)) (triS (nw M) (nx x1) x2 x3) → Q N (rC (nw M) (nx x1) 4 - x2 - x3)) : w_X8_trimClip 255 M 247 x1 x2 x3 Q := by
  refine s_X8_trimClip hI hC h1 h2 (fun a b T T' n hT hT' hn => ?_)
  have hc := isCl_nx hC a
  have g : agr (cn (nw M)) T' (triT (nw M) (nx x1) x2 x3) := hT' ▸ agr_upr hT (by rw [agr_row hT hc]) _ (fun i hi => Or.inr hi)
  have en : n = triN (nw M) (nx x1) x2 x3 := hn.trans (agr_cntA g hc _ (Nat.le_refl _))
  have hl : n < cn (nw M) := hn ▸ (cntA_le T' (nx x1) (cn (nw M))).2 hc
  have u := agr_u (R := nw M) (agr_crry g hc hl)
  rw [en] at u ⊢
  exact ⟨fun f => h3 a b (u.1 f), fun f N hN e => hq a b (u.2.1 f) N hN (e.trans u.2.2)⟩
theorem y_splitClip {M : mw_M} {k : Nat} {x1 x2 : Int32} {Q : mw_M → Int32 → Prop} (hI : IK M k) (hC : VC (nw M)) (h1 : ¬ isCl (nw M) x1 → ∀ M1, sm S5t M M1 → mI M1 247 5 = 1 → Q M1 0) (h2 : isCl (nw M) x1 → ¬ fSplit (rC (nw M) (nx x1)) x2 → ∀ M1, sm S5t M M1 → mI M1 247 5 = 2 → Q M1 0) (h3 : isCl (nw M) x1 → fSplit (rC (nw M) (nx x1)) x2 → cn (nw M) = 12 → ∀ M1, sm S5t M M1 → mI M1 247 5 = 3 → Q M1 0) (h4 : isCl (nw M) x1 → fSplit (rC (nw M) (nx x1)) x2 → cn (nw M) ≠ 12 → ¬ fine (splS (nw M) (nx x1) x2) (cn (nw M) + 1) → ∀ M1, sm S5t M M1 → mI M1 247 5 = 4 → Q M1 0) (hq : isCl (nw M) x1 → fSplit (rC (nw M) (nx x1)) x2 → cn (nw M) ≠ 12 → fine (splS (nw M) (nx x1) x2) (cn (nw M) + 1) → ∀ N, Ck M k N → nw N = tov (nw M) (cn (nw M) + 1) (splS (nw M) (nx x1) x2) → Q N (nI (splN (nw M) (nx x1) x2))) : w_X8_splitClip 255 M 247 x1 x2 Q := by
  refine s_X8_splitClip hI hC h1 h2 h3 (fun a b d T T' n hT hT' hn => ?_)
  have hc := isCl_nx hC a
  have g : agr (cn (nw M) + 1) T' (splT (nw M) (nx x1) x2) := by
    rw [hT']
    unfold splT spl
    rw [agr_row hT hc]
    exact agr_upr (agr_upr (m1 := cn (nw M) + 1) hT rfl _ (fun i hi => by omega)) rfl _ (fun i hi => Or.inr hi)
  have en : n = splN (nw M) (nx x1) x2 := hn.trans (agr_cntA g (by omega) _ (Nat.le_refl _))
  have hl : n < cn (nw M) + 1 := hn ▸ (cntA_le T' (cn (nw M)) (cn (nw M) + 1)).2 (by omega)
  have u := agr_u (R := nw M) (agr_crry g (show cn (nw M) < cn (nw M) + 1 by omega) hl)
  rw [en] at u ⊢
  exact ⟨fun f => h4 a b d (u.1 f), fun f N hN e => hq a b d (u.2.1 f) N hN (e.trans u.2.2)⟩
theorem y_removeClip {M : mw_M} {k : Nat} {x1 : Int32} {Q : mw_M → Int32 → Prop} (hI : IK M k) (hC : VC (nw M)) (h1 : ¬ isCl (nw M) x1 → ∀ M1, sm S5t M M1 → mI M1 247 5 = 1 → Q M1 0) (hq : isCl (nw M) x1 → ∀ N, Ck M k N → nw N = tov (nw M) (cn (nw M) - 1) (lv (rC (nw M)) (nx x1) (cn (nw M))) → Q N (nI (cn (nw M) - 1))) : w_X8_removeClip 255 M 247 x1 Q := by
  refine s_X8_removeClip hI hC h1 (fun a T N hT hN e => hq a N hN (e.trans (agr_tov (agr_le (agr_lv hT _) (by omega)) _)))
theorem y_deleteTime {M : mw_M} {k : Nat} {x1 x2 x3 : Int32} {Q : mw_M → Int32 → Prop} (hI : IK M k) (hC : VC (nw M)) (hL : VL (nw M)) (h1 : ¬ isTr x1 → ∀ M1, sm S5t M M1 → mI M1 247 5 = 1 → Q M1 0) (h2 : isTr x1 → ¬ fTime x2 x3 → ∀ M1, sm S5t M M1 → mI M1 247 5 = 2 → Q M1 0) (h2' : isTr x1 → fTime x2 x3 → ¬ fitAll (delD (nw M) x1 x2 x3).1 (delD (nw M) x1 x2 x3).2 x1 x2 x3 → ∀ M1, sm S5t M M1 → mI M1 247 5 = 2 → Q M1 0) (h3 : isTr x1 → fTime x2 x3 → fitAll (delD (nw M) x1 x2 x3).1 (delD (nw M) x1 x2 x3).2 x1 x2 x3 → ¬ fine (delS (nw M) x1 x2 x3) (delD (nw M) x1 x2 x3).2 → ∀ M1, sm S5t M M1 → mI M1 247 5 = 3 → Q M1 0) (hq : isTr x1 → fTime x2 x3 → fitAll (delD (nw M) x1 x2 x3).1 (delD (nw M) x1 x2 x3).2 x1 x2 x3 → fine (delS (nw M) x1 x2 x3) (delD (nw M) x1 x2 x3).2 → ∀ N, Ck M k N → nw N = tov (nw M) (delD (nw M) x1 x2 x3).2 (delS (nw M) x1 x2 x3) → Q N (nI (cn (nw M) - (delD (nw M) x1 x2 x3).2))) : w_X8_deleteTime 255 M 247 x1 x2 x3 Q := by
  refine s_X8_deleteTime hI hC (fun T hF hT => ord_cut hC hL hF (dl_emb _ T _ (Nat.le_refl _) (agr_emb hT)).1) h1 h2 (fun a b T T1 m1 hT hd hm => ?_)
  have g := agr_dl (t := x1) (a := x2) (b := x3) (cn (nw M)) (cn (nw M)) T (rC (nw M)) (Nat.le_refl _) hT
  rw [hd] at g
  obtain ⟨e, g⟩ := g
  change m1 = (delD (nw M) x1 x2 x3).2 at e
  change agr m1 T1 (delD (nw M) x1 x2 x3).1 at g
  have u := agr_u (R := nw M) (agr_cut (t := x1) (a := x2) (b := x3) g)
  have g1 : ¬ fitAll T1 m1 x1 x2 x3 → ¬ fitAll (delD (nw M) x1 x2 x3).1 m1 x1 x2 x3 := fun y z => y (agr_fit (agr_s g) z)
  have g2 : fitAll T1 m1 x1 x2 x3 → fitAll (delD (nw M) x1 x2 x3).1 m1 x1 x2 x3 := agr_fit g
  have c1 : cutAll (delD (nw M) x1 x2 x3).1 m1 x1 x2 x3 = delS (nw M) x1 x2 x3 := by rw [e]; rfl
  rw [c1] at u
  refine ⟨fun f => h2' a b (e ▸ g1 f), fun f => ⟨fun i => h3 a b (e ▸ g2 f) (e ▸ u.1 i), fun i N hN en => ?_⟩⟩
  have r := hq a b (e ▸ g2 f) (e ▸ u.2.1 i) N hN (by rw [en, u.2.2, e])
  rw [← e] at r
  exact r
