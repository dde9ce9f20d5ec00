/-! The reference: points -/
theorem At.rd {M N : mw_M} {k j : Nat} {F : Row} (h : At M k N F) : mI N 248 j = F j := congrFun h.2.2.2.2 j
theorem At.g {M N : mw_M} {k : Nat} {F : Row} (h : At M k N F) : mP N 247 0 = 248 := h.2.1.1
theorem At.c {M N : mw_M} {k : Nat} {F F' : Row} (h : At M k N F) (e : F = F') : At M k N F' := e ▸ h
def hasP (R : Row) (t : Nat) (x : Int32) : Prop := pa R t x < pn R t ∧ rT R t (5 + 3 * pa R t x) = x
theorem s_X8_hasPoint {M : mw_M} {t : Nat} {x : Int32} {Q : Int32 → Prop} (hM : MK M) (hT : VT (nw M)) (ht : t < 4) (hq : Q (bl (hasP (nw M) t x))) : w_X8_hasPoint 255 M 247 (nI t) x Q := by
  unfold w_X8_hasPoint w_X8_hasPoint_b45 w_X8_hasPoint_b46
  obtain ⟨e4, h8⟩ := hT.pn ht
  obtain ⟨h1, -⟩ := id hM
  have hp := (pa_s (R := nw M) (t := t) (n := x)).1
  refine ⟨is247, s_X8_pointsAhead hM hT ht (s_X8_trackAt ?_)⟩
  obtain ⟨i4, j4⟩ := trk_ix (M := M) (f := 4) ht (by decide) (x := nI (141 + 34 * t) + 4) (by rw [li 4, nI_add])
  rw [h1, j4, e4, nI_leI (by omega) (by omega)]
  refine ⟨is248, i4, fun h => ⟨Or.inl rfl, ?_⟩, fun h => s_X8_trackAt ?_⟩
  · rw [bl_f (fun q => by have := q.1; omega)] at hq; exact hq
  · obtain ⟨i5, j5⟩ := trk_ix (M := M) (f := 5 + 3 * pa (nw M) t x) ht (by omega) (x := nI (141 + 34 * t) + 5 + 3 * nI (pa (nw M) t x)) (by rw [li 5, li 3, pk_mul, nI_add, nI_add, Nat.add_assoc])
    rw [j5]
    refine ⟨i5, fun h2 => ⟨Or.inl rfl, ?_⟩, fun h2 => ⟨Or.inr rfl, ?_⟩⟩
    · rw [bl_f (fun q => h2 q.2)] at hq; exact hq
    · rw [bl_t ⟨by omega, h2⟩] at hq; exact hq
/-- the points from c on moved by one, up to m -/
def shR (R : Row) (A c m : Nat) : Row := fun i => if A + c + 3 ≤ i ∧ i < A + m + 3 then R (i - 3) else R i
theorem shR_0 (R : Row) (A m : Nat) : shR R A m m = R := by
  funext i
  exact if_neg (by omega)
theorem shR_s {R : Row} {A c m : Nat} (h : c < m) : up (shR R A (c + 1) m) (A + c + 3) (shR R A (c + 1) m (A + c)) = shR R A c m := by
  funext i
  unfold up shR
  by_cases e : i = A + c + 3
  · subst e
    rw [if_pos rfl, if_neg (by omega), if_pos (by omega)]
    congr 1
  · rw [if_neg e]
    by_cases g : A + (c + 1) + 3 ≤ i ∧ i < A + m + 3
    · rw [if_pos g, if_pos (by omega)]
    · rw [if_neg g, if_neg (by omega)]
noncomputable section
def hPoint (R : Row) (t : Nat) (p : Nat) (x v h : Int32) : Row := up (up (up R (146 + 34 * t + 3 * p) x) (146 + 34 * t + 3 * p + 1) v) (146 + 34 * t + 3 * p + 2) (bi h)
def iPoint (R : Row) (t : Nat) (p : Nat) (x v h : Int32) : Row := hPoint (up (shR R (146 + 34 * t) (3 * p) (3 * pn R t)) (145 + 34 * t) (nI (pn R t + 1))) t p x v h
def rPoint (R : Row) (t : Nat) (x v h : Int32) : Row := ifp (hasP R t x) (hPoint R t (pa R t x) x v h) (iPoint R t (pa R t x) x v h)
def nPoint (R : Row) (t : Nat) (x : Int32) : Int32 := nI (ifp (hasP R t x) (pn R t) (pn R t + 1))
def fPoint (x v : Int32) : Prop := isPl x ∧ 0 ≤ v.toInt ∧ v.toInt ≤ 2000
def gPoint (R : Row) (t : Nat) (x : Int32) : Prop := hasP R t x ∨ pn R t ≠ 8
end
theorem s_X8_setPoint {M : mw_M} {k : Nat} {x1 x2 x3 x4 : Int32} {Q : mw_M → Int32 → Prop} (hI : IK M k) (hT : VT (nw M)) (hq : post M k (c123 (isTr x1) (fPoint x2 x3) (gPoint (nw M) (nx x1) x2)) (rPoint (nw M) (nx x1) x2 x3 x4) (nPoint (nw M) (nx x1) x2) Q) : w_X8_setPoint 255 M 247 x1 x2 x3 x4 Q := by
  have b103 : ∀ s : Int32, (isTr x1 → fPoint x2 x3 → s = bl (hasP (nw M) (nx x1) x2)) → ∀ c, c = c123 (isTr x1) (fPoint x2 x3) (gPoint (nw M) (nx x1) x2) → w_X8_setPoint_b103 255 M 247 x1 x2 x3 x4 s (nI c) 247 Q := by
    rintro s hs _ rfl
    unfold w_X8_setPoint_b103
    refine ⟨is247, s_ref hI (c123_lt _ _ _) rfl (fun hc M1 s1 e1 => ⟨fun q => absurd q (by decide), fun _ => hq.1 hc M1 s1 e1⟩) (fun hc M1 a1 => ⟨fun _ => ?_, fun q => absurd rfl q⟩)⟩
    obtain ⟨c1, c2, c3⟩ := c123_ok hc
    have hs := hs c1 c2
    subst hs
    obtain ⟨hx, h4⟩ := nx_4 c1
    obtain ⟨e4, h8⟩ := hT.pn h4
    have hq2 := hq.2 hc
    clear hq
    have eR1 := a1.2.2.2.2
    generalize nx x1 = t at *
    subst hx
    have hp := (pa_s (R := nw M) (t := t) (n := x2)).1
    refine s_X8_trackAt ⟨is247, s_X8_pointsAhead a1.2.1 (by rw [eR1]; exact hT) h4 ?_⟩
    rw [eR1, bl_0]
    generalize hpa : pa (nw M) t x2 = p at hp
    have b199 : ∀ (N : mw_M) (F : Row), At M k N F → p < 8 → F (145 + 34 * t) = nPoint (nw M) t x2 → rPoint (nw M) t x2 x3 x4 = hPoint F t p x2 x3 x4 → w_X8_setPoint_b199 255 N 247 x2 x3 x4 (nI (141 + 34 * t)) (nI p) Q := by
      intro N F aN hp8 hF1 hF2
      rw [hF2] at hq2
      have b256 : ∀ (N2 : mw_M) (v : Int32), v = bi x4 → At M k N2 (up (up F (146 + 34 * t + 3 * p) x2) (146 + 34 * t + 3 * p + 1) x3) → w_X8_setPoint_b256 255 N2 247 (nI (141 + 34 * t)) v (nI (141 + 34 * t) + 5 + 3 * nI p + 2) (mP N2 247 0) Q := by
        rintro N2 _ rfl aN2
        unfold w_X8_setPoint_b256
        refine s_wr aN2 (j := 146 + 34 * t + 3 * p + 2) (by omega) (by rw [li 5, li 3, li 2, pk_mul, nI_add, nI_add, nI_add]; exact congrArg nI (by omega)) (fun N3 aN3 g3 => ⟨is247, ?_⟩)
        obtain ⟨i1, j1⟩ := ix_is (x := nI (141 + 34 * t) + 4) (j := 145 + 34 * t) (by rw [li 4, nI_add]; exact congrArg nI (by omega)) (by omega)
        rw [g3, j1, aN3.rd, up_ne (by omega), up_ne (by omega), up_ne (by omega), hF1]
        exact ⟨is248, i1, hq2 N3 aN3⟩
      unfold w_X8_setPoint_b199
      refine ⟨is247, s_wr aN (j := 146 + 34 * t + 3 * p) (by omega) (by rw [li 5, li 3, pk_mul, nI_add, nI_add]; exact congrArg nI (by omega)) (fun N1 aN1 g1 => s_wr aN1 (j := 146 + 34 * t + 3 * p + 1) (by omega) (by rw [li 5, li 3, li 1, pk_mul, nI_add, nI_add, nI_add]; exact congrArg nI (by omega)) (fun N2 aN2 g2 => ⟨fun h => b256 N2 0 (bl_f (fun q => q h)).symm aN2, fun h => b256 N2 1 (bl_t h).symm aN2⟩))⟩
    refine ⟨fun h => ?_, fun h => ?_⟩
    · have h' := Classical.not_not.mp h
      have hp2 : p < pn (nw M) t := hpa ▸ h'.1
      refine b199 M1 _ a1 (by omega) ?_ ?_
      · unfold nPoint
        rw [ifp_t h']
        rw [← e4]
        show nw M (145 + 34 * t) = nw M (141 + 34 * t + 4)
        congr 1
        omega
      · unfold rPoint
        rw [ifp_t h', hpa]
    · have hn8 : pn (nw M) t < 8 := by
        rcases c3 with q | q
        · exact absurd q h
        · omega
      obtain ⟨i4, j4⟩ := trk_ix (M := M1) (f := 4) h4 (by decide) (x := nI (141 + 34 * t) + 4) (by rw [li 4, nI_add])
      rw [a1.g, j4, eR1, e4]
      refine ⟨is248, i4, ?_⟩
      rintro _ rfl
      unfold w_X8_setPoint_b145
      refine ⟨fun N z => ∃ c, z = nI c - 1 ∧ 3 * p ≤ c ∧ c ≤ 3 * pn (nw M) t ∧ At M k N (shR (nw M) (146 + 34 * t) c (3 * pn (nw M) t)), fun _ z => (z + 1).toInt.toNat, ⟨3 * pn (nw M) t, by rw [li 3, pk_mul], by omega, Nat.le_refl _, by rw [shR_0]; exact a1⟩, ?_⟩
      rintro N _ ⟨c, rfl, hc1, hc2, aN⟩
      have o1 : (1 : Int32).toInt = 1 := rfl
      have ec : (nI c - 1).toInt = (c : Int) - 1 := by rw [ti_sub (by rw [nI_toInt (by omega), o1]; omega) (by rw [nI_toInt (by omega), o1]; omega), nI_toInt (by omega), o1]
      have e3 : ((3 : Int32) * nI p) = nI (3 * p) := by rw [li 3, pk_mul]
      rw [e3, ti_lt, ec, nI_toInt (by omega)]
      refine ⟨fun g => ⟨is247, ?_⟩, fun g => ⟨is247, ?_⟩⟩
      · have : c = 3 * p := by omega
        subst this
        obtain ⟨i5, j5⟩ := ix_is (x := nI (141 + 34 * t) + 4) (j := 145 + 34 * t) (by rw [li 4, nI_add]; exact congrArg nI (by omega)) (by omega)
        rw [aN.g, j5, aN.rd]
        have e5 : shR (nw M) (146 + 34 * t) (3 * p) (3 * pn (nw M) t) (145 + 34 * t) = nI (pn (nw M) t) := by
          unfold shR
          rw [if_neg (by omega), ← e4]
          show nw M (145 + 34 * t) = nw M (141 + 34 * t + 4)
          congr 1
          omega
        rw [e5, nI_1]
        refine ⟨is248, i5, ?_⟩
        rintro _ rfl
        refine b199 _ _ (aN.w (j := 145 + 34 * t) (by omega) (nI (pn (nw M) t + 1))) (by omega) ?_ ?_
        · rw [up_at]; unfold nPoint; rw [ifp_f h]
        · unfold rPoint; rw [ifp_f h, hpa]; rfl
      · obtain ⟨d, rfl⟩ : ∃ d, c = d + 1 := ⟨c - 1, by omega⟩
        rw [nI_pred]
        obtain ⟨i5, j5⟩ := ix_is (x := nI (141 + 34 * t) + 5 + nI d) (j := 146 + 34 * t + d) (by rw [li 5, nI_add, nI_add]; exact congrArg nI (by omega)) (by omega)
        obtain ⟨i6, j6⟩ := ix_is (x := nI (141 + 34 * t) + 5 + nI d + 3) (j := 146 + 34 * t + d + 3) (by rw [li 5, li 3, nI_add, nI_add, nI_add]; exact congrArg nI (by omega)) (by omega)
        rw [aN.g, j5, j6, aN.rd]
        refine ⟨is248, i5, i6, ?_⟩
        rintro _ rfl
        rintro _ rfl
        refine ⟨⟨d, (Int32.sub_eq_add_neg ..).symm, by omega, by omega, (aN.w (by omega) _).c (shR_s (by omega))⟩, ?_⟩
        have e7 : nI d + -1 + 1 = nI d := by
          rw [Int32.add_assoc]
          exact Int32.add_zero _
        show (nI d + -1 + 1).toInt.toNat < (nI d + 1).toInt.toNat
        rw [e7, nI_1, nI_toInt (by omega), nI_toInt (by omega)]
        omega
  have b56 : ∀ w s : Int32, (w = 0 ↔ ¬ fPoint x2 x3) → (isTr x1 → fPoint x2 x3 → s = bl (hasP (nw M) (nx x1) x2)) → w_X8_setPoint_b56 255 M 247 x1 x2 x3 x4 (bl (isTr x1)) w s Q := by
    intro w s hw hs
    unfold w_X8_setPoint_b56 w_X8_setPoint_b102
    refine ⟨fun h1 => ⟨fun h2 => ?_, fun h2 => b103 s hs 2 (c123_2 (Classical.not_not.mp (fun q => h1 (bl_0.mpr q))) (hw.mp h2)).symm⟩, fun h1 => b103 s hs 1 (c123_1 (bl_0.mp h1)).symm⟩
    have h1' : isTr x1 := Classical.not_not.mp (fun q => h1 (bl_0.mpr q))
    have h2' : fPoint x2 x3 := Classical.not_not.mp (fun q => h2 (hw.mpr q))
    have hs' := hs h1' h2'
    refine ⟨fun h3 => b103 s hs 0 (c123_0 h1' h2' (Or.inl ?_)).symm, fun h3 => ⟨is247, ?_⟩⟩
    · rw [hs', bl_0, Classical.not_not] at h3; exact h3
    · obtain ⟨hx, h4⟩ := nx_4 h1'
      obtain ⟨e4, h8⟩ := hT.pn h4
      obtain ⟨g1, -⟩ := id hI.1
      rw [hs', bl_0] at h3
      obtain ⟨i4, j4⟩ := trk_ix (M := M) (f := 4) h4 (by decide) (x := nI (141 + 34 * nx x1) + 4) (by rw [li 4, nI_add])
      have hT2 : mw_is 255 (mP M 247 0) 10 ∧ vp_in (nI (141 + 34 * nx x1) + (4 : Int32)) (Ln (mP M 247 0)) ∧ ((¬ (mI M (mP M 247 0) (Int32.toNatClampNeg (nI (141 + 34 * nx x1) + (4 : Int32)))) = (8 : Int32) → w_X8_setPoint_b103 255 M 247 x1 x2 x3 x4 s 0 247 Q) ∧ ((mI M (mP M 247 0) (Int32.toNatClampNeg (nI (141 + 34 * nx x1) + (4 : Int32)))) = (8 : Int32) → w_X8_setPoint_b103 255 M 247 x1 x2 x3 x4 s (3 : Int32) 247 Q)) := by
        rw [g1, j4, e4, li 8, nI_eq (by omega) (by decide)]
        exact ⟨is248, i4, fun h5 => b103 s hs 0 (c123_0 h1' h2' (Or.inr h5)).symm, fun h5 => b103 s hs 3 (c123_3 h1' h2' (fun q => q.elim h3 (fun q => q h5))).symm⟩
      conv => arg 3; rw [hx]
      exact s_X8_trackAt hT2
  have b35 : ∀ w : Int32, (w = 0 ↔ ¬ fPoint x2 x3) → (w ≠ 0 → isTr x1) → w_X8_setPoint_b35 255 M 247 x1 x2 x3 x4 (bl (isTr x1)) w Q := by
    intro w hw hw1
    unfold w_X8_setPoint_b35 w_X8_setPoint_b55
    refine ⟨fun h => b56 w 0 hw (fun _ q => absurd q (hw.mp h)), fun h => ⟨is247, ?_⟩⟩
    obtain ⟨hx, h4⟩ := nx_4 (hw1 h)
    have := s_X8_hasPoint (M := M) (t := nx x1) (x := x2) (Q := fun v47 => ((v47 = 0 → w_X8_setPoint_b56 255 M 247 x1 x2 x3 x4 (bl (isTr x1)) w 0 Q) ∧ (¬ v47 = 0 → w_X8_setPoint_b56 255 M 247 x1 x2 x3 x4 (bl (isTr x1)) w (1 : Int32) Q))) hI.1 hT h4 ⟨fun h5 => b56 w 0 hw (fun _ _ => h5 ▸ rfl), fun h5 => b56 w 1 hw (fun _ _ => ?_)⟩
    · rw [← hx] at this; exact this
    · rw [bl_0, Classical.not_not] at h5
      exact (bl_t h5).symm
  have bad : (isTr x1 → ¬ fPoint x2 x3) → w_X8_setPoint_b34 255 M 247 x1 x2 x3 x4 (bl (isTr x1)) Q := by
    intro h
    by_cases h1 : isTr x1
    · exact b35 0 ⟨fun _ => h h1, fun _ => rfl⟩ (fun q => absurd rfl q)
    · unfold w_X8_setPoint_b34 w_X8_setPoint_b35 w_X8_setPoint_b55 w_X8_setPoint_b56
      refine ⟨fun _ => ⟨fun q => absurd (bl_0.mpr h1) q, fun _ => b103 0 (fun q => absurd q h1) 1 (c123_1 h1).symm⟩, fun q => absurd rfl q⟩
  unfold w_X8_setPoint
  refine s_X8_isTrack ⟨fun h => bad (fun q => absurd q (bl_0.mp h)), fun h0 => s_X8_isPlace ⟨fun h => bad (fun _ q => bl_0.mp h q.1), fun h1 => s_inc 0 2000 rfl rfl (fun h => bad (fun _ q => h q.2)) (fun h2 => b35 1 ⟨fun q => absurd q (by decide), fun q => absurd ⟨Classical.not_not.mp (fun q => h1 (bl_0.mpr q)), h2⟩ q⟩ (fun _ => Classical.not_not.mp (fun q => h0 (bl_0.mpr q))))⟩⟩
/-- the points from c on taken from the next, up to m -/
def dnR (R : Row) (A a c : Nat) : Row := fun i => if A + a ≤ i ∧ i < A + c then R (i + 3) else R i
theorem dnR_0 (R : Row) (A a : Nat) : dnR R A a a = R := by
  funext i
  exact if_neg (by omega)
theorem dnR_s {R : Row} {A a c : Nat} (h : a ≤ c) : up (dnR R A a c) (A + c) (dnR R A a c (A + c + 3)) = dnR R A a (c + 1) := by
  funext i
  unfold up dnR
  by_cases e : i = A + c
  · subst e
    rw [if_pos rfl, if_neg (by omega), if_pos (by omega)]
  · rw [if_neg e]
    by_cases g : A + a ≤ i ∧ i < A + c
    · rw [if_pos g, if_pos (by omega)]
    · rw [if_neg g, if_neg (by omega)]
noncomputable def xPoint (R : Row) (t : Nat) (x : Int32) : Row := dnR (up R (145 + 34 * t) (nI (pn R t - 1))) (146 + 34 * t) (3 * pa R t x) (3 * (pn R t - 1))
theorem s_X8_removePoint {M : mw_M} {k : Nat} {x1 x2 : Int32} {Q : mw_M → Int32 → Prop} (hI : IK M k) (hT : VT (nw M)) (hq : post M k (c12 (isTr x1) (hasP (nw M) (nx x1) x2)) (xPoint (nw M) (nx x1) x2) (nI (pn (nw M) (nx x1) - 1)) Q) : w_X8_removePoint 255 M 247 x1 x2 Q := by
  have b26 : ∀ c, c = c12 (isTr x1) (hasP (nw M) (nx x1) x2) → w_X8_removePoint_b26 255 M 247 x1 x2 (nI c) 247 Q := by
    rintro _ rfl
    unfold w_X8_removePoint_b26
    refine ⟨is247, s_ref hI (c12_lt _ _) rfl (fun hc M1 s1 e1 => ⟨fun q => absurd q (by decide), fun _ => hq.1 hc M1 s1 e1⟩) (fun hc M1 a1 => ⟨fun _ => ?_, fun q => absurd rfl q⟩)⟩
    obtain ⟨c1, c2⟩ := c12_ok hc
    obtain ⟨hx, h4⟩ := nx_4 c1
    obtain ⟨e4, h8⟩ := hT.pn h4
    have hq2 := hq.2 hc
    clear hq
    have eR1 := a1.2.2.2.2
    unfold xPoint at hq2
    generalize nx x1 = t at *
    subst hx
    obtain ⟨p1, p2, p3⟩ := pa_s (R := nw M) (t := t) (n := x2)
    have hpn := c2.1
    have e4' : nw M (145 + 34 * t) = nI (pn (nw M) t) := by
      rw [← e4]
      show nw M (145 + 34 * t) = nw M (141 + 34 * t + 4)
      congr 1
      omega
    obtain ⟨i5, j5⟩ := ix_is (x := nI (141 + 34 * t) + 4) (j := 145 + 34 * t) (by rw [li 4, nI_add]; exact congrArg nI (by omega)) (by omega)
    refine s_X8_trackAt ⟨is247, ?_⟩
    rw [a1.g, j5, a1.rd, e4']
    refine ⟨is248, i5, ?_⟩
    rintro _ rfl
    obtain ⟨q, hq1⟩ : ∃ q, pn (nw M) t = q + 1 := ⟨pn (nw M) t - 1, by omega⟩
    have hv : nI (pn (nw M) t) - 1 = nI (pn (nw M) t - 1) := by rw [hq1]; exact nI_pred q
    rw [hv]
    have a2 := a1.w (j := 145 + 34 * t) (by omega) (nI (pn (nw M) t - 1))
    generalize sI M1 248 (145 + 34 * t) (nI (pn (nw M) t - 1)) = M2 at a2 ⊢
    generalize hF : up (nw M) (145 + 34 * t) (nI (pn (nw M) t - 1)) = F at *
    have hFn : F (145 + 34 * t) = nI (pn (nw M) t - 1) := by rw [← hF]; exact up_at _ _ _
    have hFo : ∀ j, j ≠ 145 + 34 * t → F j = nw M j := fun j hj => by rw [← hF]; exact up_ne hj
    have eR2 := a2.2.2.2.2
    have hTF : VT (nw M2) := by
      rw [eR2]
      intro s hs
      have h0 := hT s hs
      have ho : ∀ f, f < 34 → f ≠ 4 ∨ s ≠ t → rT F s f = rT (nw M) s f := fun f hf hne => hFo _ (by omega)
      rw [ho 0 (by decide) (Or.inl (by decide)), ho 1 (by decide) (Or.inl (by decide)), ho 2 (by decide) (Or.inl (by decide)), ho 3 (by decide) (Or.inl (by decide)), ho 29 (by decide) (Or.inl (by decide)), ho 30 (by decide) (Or.inl (by decide)), ho 31 (by decide) (Or.inl (by decide)), ho 32 (by decide) (Or.inl (by decide)), ho 33 (by decide) (Or.inl (by decide))]
      by_cases e : s = t
      · subst e
        have e5 : rT F s 4 = nI (pn (nw M) s - 1) := by
          rw [← hFn]
          show F (141 + 34 * s + 4) = _
          congr 1
          omega
        rw [e5, nI_toInt (by omega)]
        obtain ⟨a1, a2, a3, a4, -, a6⟩ := h0
        exact ⟨a1, a2, a3, a4, by omega, a6⟩
      · rw [ho 4 (by decide) (Or.inr e)]
        exact h0
    have hpF : pn F t = pn (nw M) t - 1 := by
      unfold pn
      have e5 : rT F t 4 = nI (pn (nw M) t - 1) := by
        rw [← hFn]
        show F (141 + 34 * t + 4) = _
        congr 1
        omega
      rw [e5, nI_toInt (by omega)]
      rfl
    have hpa : pa F t x2 = pa (nw M) t x2 := by
      refine pa_is ?_ (fun j hj => ?_) (fun h => ?_)
      · rw [hpF]; omega
      · have : rT F t (5 + 3 * j) = rT (nw M) t (5 + 3 * j) := hFo _ (by omega)
        rw [this]
        exact p2 j hj
      · have : rT F t (5 + 3 * pa (nw M) t x2) = rT (nw M) t (5 + 3 * pa (nw M) t x2) := hFo _ (by omega)
        rw [this]
        exact p3 (by omega)
    refine s_X8_pointsAhead a2.2.1 hTF h4 ?_
    rw [eR2, hpa]
    rintro _ rfl
    unfold w_X8_removePoint_b61
    refine ⟨fun N z => ∃ c, z = nI c ∧ 3 * pa (nw M) t x2 ≤ c ∧ c ≤ 3 * (pn (nw M) t - 1) ∧ At M k N (dnR F (146 + 34 * t) (3 * pa (nw M) t x2) c), fun _ z => 100 - z.toInt.toNat, ⟨3 * pa (nw M) t x2, by rw [li 3, pk_mul], Nat.le_refl _, by omega, by rw [dnR_0]; exact a2⟩, ?_⟩
    rintro N _ ⟨c, rfl, hc1, hc2, aN⟩
    have e6 : dnR F (146 + 34 * t) (3 * pa (nw M) t x2) c (145 + 34 * t) = nI (pn (nw M) t - 1) := by
      unfold dnR
      rw [if_neg (by omega)]
      exact hFn
    rw [aN.g, j5, aN.rd, e6, li 3, pk_mul, nI_leI (by omega) (by omega)]
    refine ⟨is247, is248, i5, fun h => ?_, fun h => ?_⟩
    · have : c = 3 * (pn (nw M) t - 1) := by omega
      subst this
      exact hq2 N aN
    · obtain ⟨i7, j7⟩ := ix_is (x := nI (141 + 34 * t) + 5 + nI c) (j := 146 + 34 * t + c) (by rw [li 5, nI_add, nI_add]; exact congrArg nI (by omega)) (by omega)
      obtain ⟨i8, j8⟩ := ix_is (x := nI (141 + 34 * t) + 5 + nI c + nI 3) (j := 146 + 34 * t + c + 3) (by rw [li 5, nI_add, nI_add, nI_add]; exact congrArg nI (by omega)) (by omega)
      rw [j7, j8, aN.rd]
      refine ⟨i8, i7, ?_⟩
      rintro _ rfl
      rintro _ rfl
      exact ⟨⟨c + 1, nI_1 c, by omega, by omega, (aN.w (by omega) _).c (dnR_s hc1)⟩, mu_dec (by omega) (by decide)⟩
  unfold w_X8_removePoint
  refine s_X8_isTrack ⟨fun h1 => ⟨is247, ?_⟩, fun h1 => b26 1 (c12_1 (bl_0.mp h1)).symm⟩
  have h1' : isTr x1 := Classical.not_not.mp (fun q => h1 (bl_0.mpr q))
  obtain ⟨hx, h4⟩ := nx_4 h1'
  have := s_X8_hasPoint (M := M) (t := nx x1) (x := x2) (Q := fun v23 => ((v23 = 0 → w_X8_removePoint_b26 255 M 247 x1 x2 (2 : Int32) 247 Q) ∧ (¬ v23 = 0 → w_X8_removePoint_b26 255 M 247 x1 x2 (0 : Int32) 247 Q))) hI.1 hT h4 ⟨fun h => b26 2 (c12_2 h1' (bl_0.mp h)).symm, fun h => b26 0 (c12_0 h1' (Classical.not_not.mp (fun q => h (bl_0.mpr q)))).symm⟩
  rw [← hx] at this
  exact this
