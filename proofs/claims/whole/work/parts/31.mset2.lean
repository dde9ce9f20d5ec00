/-! The reference: ducking, the meters cleared -/
noncomputable section
def c123 (P1 P2 P3 : Prop) : Nat := ifp P1 (ifp P2 (ifp P3 0 3) 2) 1
def fDuck (k th f a r : Int32) : Prop := isTr k ∧ (0 ≤ th.toInt ∧ th.toInt ≤ 100000) ∧ (0 ≤ f.toInt ∧ f.toInt ≤ 1000) ∧ (1 ≤ a.toInt ∧ a.toInt ≤ 1000) ∧ 1 ≤ r.toInt ∧ r.toInt ≤ 1000
def gDuck (R : Row) (t k : Int32) : Prop := k ≠ t ∧ rT R (nx k) 29 = -1 ∧ ¬ isK R t
def rDuck (R : Row) (t : Nat) (k th f a r : Int32) : Row := up (up (up (up (up R (141 + 34 * t + 30) th) (141 + 34 * t + 31) f) (141 + 34 * t + 32) a) (141 + 34 * t + 33) r) (141 + 34 * t + 29) k
end
theorem c123_1 {P1 P2 P3 : Prop} (h : ¬ P1) : c123 P1 P2 P3 = 1 := ifp_f h
theorem c123_2 {P1 P2 P3 : Prop} (h : P1) (h2 : ¬ P2) : c123 P1 P2 P3 = 2 := by unfold c123; rw [ifp_t h, ifp_f h2]
theorem c123_3 {P1 P2 P3 : Prop} (h : P1) (h2 : P2) (h3 : ¬ P3) : c123 P1 P2 P3 = 3 := by unfold c123; rw [ifp_t h, ifp_t h2, ifp_f h3]
theorem c123_0 {P1 P2 P3 : Prop} (h : P1) (h2 : P2) (h3 : P3) : c123 P1 P2 P3 = 0 := by unfold c123; rw [ifp_t h, ifp_t h2, ifp_t h3]
theorem c123_lt (P1 P2 P3 : Prop) : c123 P1 P2 P3 < 4 := by
  by_cases h1 : P1
  · by_cases h2 : P2
    · by_cases h3 : P3
      · rw [c123_0 h1 h2 h3]; decide
      · rw [c123_3 h1 h2 h3]; decide
    · rw [c123_2 h1 h2]; decide
  · rw [c123_1 h1]; decide
theorem c123_ok {P1 P2 P3 : Prop} (h : c123 P1 P2 P3 = 0) : P1 ∧ P2 ∧ P3 := by
  by_cases h1 : P1
  · by_cases h2 : P2
    · by_cases h3 : P3
      · exact ⟨h1, h2, h3⟩
      · rw [c123_3 h1 h2 h3] at h; cases h
    · rw [c123_2 h1 h2] at h; cases h
  · rw [c123_1 h1] at h; cases h
theorem s_X8_duck {M : mw_M} {k : Nat} {x1 x2 x3 x4 x5 x6 : Int32} {Q : mw_M → Int32 → Prop} (hI : IK M k) (hq : post M k (c123 (isTr x1) (fDuck x2 x3 x4 x5 x6) (gDuck (nw M) x1 x2)) (rDuck (nw M) (nx x1) x2 x3 x4 x5 x6) (rT (nw M) (nx x1) 29) Q) : w_X8_duck 255 M 247 x1 x2 x3 x4 x5 x6 Q := by
  have b146 : ∀ c, c = c123 (isTr x1) (fDuck x2 x3 x4 x5 x6) (gDuck (nw M) x1 x2) → w_X8_duck_b146 255 M 247 x1 x2 x3 x4 x5 x6 (nI c) 247 Q := by
    rintro _ rfl
    unfold w_X8_duck_b146
    refine ⟨is247, s_ref hI (c123_lt _ _ _) rfl (fun hc M1 s1 e1 => ⟨fun q => absurd q (by decide), fun _ => hq.1 hc M1 s1 e1⟩) (fun hc M1 a1 => ⟨fun _ => ?_, fun q => absurd rfl q⟩)⟩
    obtain ⟨hs, -⟩ := c123_ok hc
    obtain ⟨hx, h4⟩ := nx_4 hs
    rw [hx]
    refine s_X8_trackAt ⟨is247, s_wr a1 (j := 141 + 34 * nx x1 + 30) (by omega) (by rw [li 30, nI_add]) (fun M2 a2 _ => s_wr a2 (j := 141 + 34 * nx x1 + 31) (by omega) (by rw [li 31, nI_add]) (fun M3 a3 _ => s_wr a3 (j := 141 + 34 * nx x1 + 32) (by omega) (by rw [li 32, nI_add]) (fun M4 a4 _ => s_wr a4 (j := 141 + 34 * nx x1 + 33) (by omega) (by rw [li 33, nI_add]) (fun M5 a5 _ => s_bec a5 (j := 141 + 34 * nx x1 + 29) (by omega) (by rw [li 29, nI_add]) (fun M6 a6 => ?_)))))⟩
    rw [up_ne (by omega), up_ne (by omega), up_ne (by omega), up_ne (by omega)]
    exact hq.2 hc M6 a6
  have b115 : ∀ (v w s : Int32), v = bl (isTr x1) → (w = 0 ↔ ¬ fDuck x2 x3 x4 x5 x6) → (isTr x1 → fDuck x2 x3 x4 x5 x6 → (s = 0 ↔ ¬ gDuck (nw M) x1 x2)) → w_X8_duck_b115 255 M 247 x1 x2 x3 x4 x5 x6 v w s Q := by
    rintro _ w s rfl hw hs
    unfold w_X8_duck_b115
    rw [bl_0]
    refine ⟨fun h1 => ⟨fun h2 => ⟨fun h3 => ?_, fun h3 => ?_⟩, fun h2 => ?_⟩, fun h1 => ?_⟩
    · have h1' := Classical.not_not.mp h1
      have h2' := Classical.not_not.mp (fun q => h2 (hw.mpr q))
      exact b146 3 (c123_3 h1' h2' ((hs h1' h2').mp h3)).symm
    · have h1' := Classical.not_not.mp h1
      have h2' := Classical.not_not.mp (fun q => h2 (hw.mpr q))
      exact b146 0 (c123_0 h1' h2' (Classical.not_not.mp (fun q => h3 ((hs h1' h2').mpr q)))).symm
    · exact b146 2 (c123_2 (Classical.not_not.mp h1) (hw.mp h2)).symm
    · exact b146 1 (c123_1 h1).symm
  have b69 : ∀ s : Int32, (s = 0 ↔ ¬ fDuck x2 x3 x4 x5 x6) → w_X8_duck_b69 255 M 247 x1 x2 x3 x4 x5 x6 (bl (isTr x1)) s Q := by
    intro s hs
    unfold w_X8_duck_b69 w_X8_duck_b114
    refine ⟨fun h1 => b115 _ s 0 rfl hs (fun q => absurd q (bl_0.mp h1)), fun h1 => ⟨fun h2 => b115 _ s 0 rfl hs (fun _ q => absurd q (hs.mp h2)), fun h2 => ⟨fun h3 => b115 _ s 0 rfl hs (fun _ _ => ⟨fun _ q => q.1 h3, fun _ => rfl⟩), fun h3 => ⟨is247, ?_⟩⟩⟩⟩
    have hf : fDuck x2 x3 x4 x5 x6 := Classical.not_not.mp (fun q => h2 (hs.mpr q))
    obtain ⟨hx, h4⟩ := nx_4 hf.1
    obtain ⟨g1, -⟩ := id hI.1
    obtain ⟨i29, j29⟩ := trk_ix (M := M) (t := nx x2) (f := 29) h4 (by decide) (x := nI (141 + 34 * nx x2) + 29) (by rw [li 29, nI_add])
    have hT : w_X8_trackAt 255 M x2 (fun v28 => mw_is 255 (mP M 247 0) 10 ∧ vp_in (v28 + (29 : Int32)) (Ln (mP M 247 0)) ∧ ((¬ (mI M (mP M 247 0) (Int32.toNatClampNeg (v28 + (29 : Int32)))) = (-1 : Int32) → w_X8_duck_b115 255 M 247 x1 x2 x3 x4 x5 x6 (bl (isTr x1)) s 0 Q) ∧ ((mI M (mP M 247 0) (Int32.toNatClampNeg (v28 + (29 : Int32)))) = (-1 : Int32) → w_X8_isKey 255 M 247 x1 (fun v32 => ((¬ v32 = 0 → w_X8_duck_b115 255 M 247 x1 x2 x3 x4 x5 x6 (bl (isTr x1)) s 0 Q) ∧ (v32 = 0 → w_X8_duck_b115 255 M 247 x1 x2 x3 x4 x5 x6 (bl (isTr x1)) s (1 : Int32) Q)))))) := by
      have main : mw_is 255 (mP M 247 0) 10 ∧ vp_in (nI (141 + 34 * nx x2) + (29 : Int32)) (Ln (mP M 247 0)) ∧ ((¬ (mI M (mP M 247 0) (Int32.toNatClampNeg (nI (141 + 34 * nx x2) + (29 : Int32)))) = (-1 : Int32) → w_X8_duck_b115 255 M 247 x1 x2 x3 x4 x5 x6 (bl (isTr x1)) s 0 Q) ∧ ((mI M (mP M 247 0) (Int32.toNatClampNeg (nI (141 + 34 * nx x2) + (29 : Int32)))) = (-1 : Int32) → w_X8_isKey 255 M 247 x1 (fun v32 => ((¬ v32 = 0 → w_X8_duck_b115 255 M 247 x1 x2 x3 x4 x5 x6 (bl (isTr x1)) s 0 Q) ∧ (v32 = 0 → w_X8_duck_b115 255 M 247 x1 x2 x3 x4 x5 x6 (bl (isTr x1)) s (1 : Int32) Q))))) := by
        rw [g1, j29]
        refine ⟨is248, i29, fun h5 => b115 _ s 0 rfl hs (fun _ _ => ⟨fun _ q => h5 q.2.1, fun _ => rfl⟩), fun h5 => s_X8_isKey hI.1 ⟨fun h6 => b115 _ s 0 rfl hs (fun _ _ => ⟨fun _ q => ?_, fun _ => rfl⟩), fun h6 => b115 _ s 1 rfl hs (fun _ _ => ⟨fun q => absurd q (by decide), fun q => absurd ⟨h3, h5, bl_0.mp h6⟩ q⟩)⟩⟩
        rw [bl_0, Classical.not_not] at h6
        exact q.2.2 h6
      conv => arg 3; rw [hx]
      exact s_X8_trackAt main
    exact hT
  have bad : ¬ fDuck x2 x3 x4 x5 x6 → w_X8_duck_b68 255 M 247 x1 x2 x3 x4 x5 x6 (bl (isTr x1)) Q := fun h => b69 0 ⟨fun _ => h, fun _ => rfl⟩
  unfold w_X8_duck
  refine s_X8_isTrack (s_X8_isTrack ⟨fun h => bad (fun q => bl_0.mp h q.1), fun h0 => ?_⟩)
  rw [bl_0, Classical.not_not] at h0
  exact s_inc 0 100000 rfl rfl (fun h => bad (fun q => h q.2.1)) (fun h1 => s_inc 0 1000 rfl rfl (fun h => bad (fun q => h q.2.2.1)) (fun h2 => s_inc 1 1000 rfl rfl (fun h => bad (fun q => h q.2.2.2.1)) (fun h3 => s_inc 1 1000 rfl rfl (fun h => bad (fun q => h q.2.2.2.2)) (fun h4 => b69 1 ⟨fun q => absurd q (by decide), fun q => absurd ⟨h0, h1, h2, h3, h4⟩ q⟩))))
/-- the frame of a change that may write the sum too -/
def Sd : Nat → Nat → Prop := fun a b => Sc a b ∨ (a = 247 ∧ b = 1)
def Ad (M : mw_M) (k : Nat) (N : mw_M) (F : Row) : Prop := sm Sd M N ∧ MK N ∧ mI N 247 5 = 0 ∧ pushed M N k (kd k) ∧ nw N = F
theorem Ad.w {M N : mw_M} {k : Nat} {F : Row} (h : Ad M k N F) {j : Nat} (hj : j < 277) (x : Int32) : Ad M k (sI N 248 j x) (up F j x) := by
  obtain ⟨h1, h2, h3, ⟨p1, p2, p3, p4, p5⟩, h5⟩ := h
  refine ⟨h1.tr (sm.si (Or.inl (Or.inr ⟨rfl, hj⟩))), (sm.si (S := fun a _ => a = 248) rfl).MK h2, ?_, ⟨?_, fun i j hi hj => ?_, fun j hj => ?_, fun i hi => ?_, ?_⟩, ?_⟩
  · rw [mI_ne (Or.inl (by decide))]; exact h3
  · rw [mI_ne (Or.inl (by decide))]; exact p1
  · rw [mI_ne (Or.inl (by decide))]; exact p2 i j hi hj
  · rw [mI_ne (Or.inl (by decide))]; exact p3 j hj
  · rw [mL_sI]; exact p4 i hi
  · rw [mL_sI]; exact p5
  · rw [nw_sI, h5]
theorem At.l {M N : mw_M} {k : Nat} {F : Row} (h : At M k N F) (x : Int64) : Ad M k (sL N 247 1 x) F := by
  obtain ⟨h1, h2, h3, ⟨p1, p2, p3, p4, p5⟩, h5⟩ := h
  refine ⟨(h1.mono (fun a b q => Or.inl q)).tr (sm.sl (Or.inr ⟨rfl, rfl⟩)), h2, ?_, ⟨?_, fun i j hi hj => ?_, fun j hj => ?_, fun i hi => ?_, ?_⟩, ?_⟩
  · rw [mI_sL]; exact h3
  · rw [mI_sL]; exact p1
  · rw [mI_sL]; exact p2 i j hi hj
  · rw [mI_sL]; exact p3 j hj
  · rw [mL_ne (Or.inl (by decide))]; exact p4 i hi
  · rw [mL_ne (Or.inl (by decide))]; exact p5
  · funext j; show mI _ _ _ = _; rw [mI_sL]; exact congrFun h5 j
theorem d_wr {M N : mw_M} {k j : Nat} {F : Row} {x1 x2 : Int32} {Q : mw_M → Prop} (h : Ad M k N F) (hj : j < 277) (hx : x1 = nI j) (hq : ∀ N1, Ad M k N1 (up F j x2) → mL N1 247 1 = mL N 247 1 → Q N1) : mw_is 255 (mP N 247 0) 10 ∧ vp_in x1 (Ln (mP N 247 0)) ∧ ∀ N1 : mw_M, N1 = sI N (mP N 247 0) (Int32.toNatClampNeg x1) x2 → Q N1 := by
  obtain ⟨-, ⟨h1, -⟩, -⟩ := id h
  obtain ⟨i1, j1⟩ := ix_is hx hj
  rw [h1, j1]
  refine ⟨is248, i1, ?_⟩
  rintro _ rfl
  exact hq _ (h.w hj x2) (mL_sI _ _ _ _ _ _)
def rClear (R : Row) : Row := up (up (up (up R 5 0) 6 0) 7 0) 4 0
def Wc (R : Row) : Nat → Row
  | 0 => R
  | 1 => R
  | c + 2 => up (Wc R (c + 1)) (4 + (c + 1)) 0
theorem s_X8_clearMeters {M : mw_M} {k : Nat} {Q : mw_M → Int64 → Prop} (hI : IK M k) (hq : ∀ N, Ad M k N (rClear (nw M)) → mL N 247 1 = 7 → Q N (Int32.toInt64 (nw M 4))) : w_X8_clearMeters 255 M 247 Q := by
  unfold w_X8_clearMeters
  refine ⟨is247, s_ref (c := 0) hI (by decide) rfl (fun h => absurd rfl h) (fun _ M1 a1 => ⟨fun _ => ?_, fun q => absurd rfl q⟩)⟩
  rintro _ rfl
  unfold w_X8_clearMeters_b19
  refine ⟨fun N z => ∃ c, z = nI (c + 1) ∧ c ≤ 3 ∧ Ad M k N (Wc (nw M) (c + 1)) ∧ mL N 247 1 = 7, fun _ z => 4 - z.toInt.toNat, ⟨0, rfl, by decide, a1.l 7, mL_at _ _ _ _⟩, ?_⟩
  rintro N _ ⟨c, rfl, hc, aN, e7⟩
  rw [li 4, nI_leI (by decide) (by omega)]
  obtain ⟨-, ⟨h1, -⟩, -, -, h5⟩ := id aN
  refine ⟨fun h => ⟨is247, ?_⟩, fun h => ⟨is247, d_wr aN (j := 4 + (c + 1)) (by omega) (by rw [nI_add]) (fun N1 a2 e2 => ?_)⟩⟩
  · have : c = 3 := by omega
    subst this
    unfold w_X8_becomes
    obtain ⟨i1, j1⟩ := ix_is (x := nI 4) (j := 4) rfl (by decide)
    rw [h1, j1]
    refine ⟨is247, is248, i1, ?_⟩
    rintro _ rfl
    rintro _ rfl
    have e4 : mI N 248 4 = nw M 4 := by
      have := congrFun h5 4
      exact this.trans rfl
    rw [e4]
    exact hq _ (aN.w (j := 4) (by decide) _) ((mL_sI _ _ _ _ _ _).trans e7)
  · rintro _ rfl
    exact ⟨⟨c + 1, nI_1 _, by omega, a2, e2.trans e7⟩, mu_dec (by omega) (by decide)⟩
