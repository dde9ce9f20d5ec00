/-! The reference's plain changes -/
def up (R : Row) (j : Nat) (x : Int32) : Row := fun i => if i = j then x else R i
theorem up_at (R : Row) (j : Nat) (x : Int32) : up R j x j = x := if_pos rfl
theorem up_ne {R : Row} {j i : Nat} {x : Int32} (h : i ≠ j) : up R j x i = R i := if_neg h
theorem nw_sI (M : mw_M) (j : Nat) (x : Int32) : nw (sI M 248 j x) = up (nw M) j x := by
  funext i
  unfold nw up
  rw [mI_sI]
  by_cases h : i = j
  · rw [if_pos ⟨rfl, h⟩, if_pos h]
  · rw [if_neg (fun q => h q.2), if_neg h]
def Sc : Nat → Nat → Prop := fun a b => Sk a b ∨ (a = 248 ∧ b < 277)
/-- a change under way: the state is on the stack, the row is F -/
def At (M : mw_M) (k : Nat) (N : mw_M) (F : Row) : Prop := sm Sc M N ∧ MK N ∧ mI N 247 5 = 0 ∧ pushed M N k (kd k) ∧ nw N = F
theorem At.w {M N : mw_M} {k : Nat} {F : Row} (h : At M k N F) {j : Nat} (hj : j < 277) (x : Int32) : At M k (sI N 248 j x) (up F j x) := by
  obtain ⟨h1, h2, h3, ⟨p1, p2, p3, p4, p5⟩, h5⟩ := h
  refine ⟨h1.tr (sm.si (Or.inr ⟨rfl, hj⟩)), (sm.si (S := fun a _ => a = 248) rfl).MK h2, ?_, ⟨?_, fun i j hi hj => ?_, fun j hj => ?_, fun i hi => ?_, ?_⟩, ?_⟩
  · rw [mI_ne (Or.inl (by decide))]; exact h3
  · rw [mI_ne (Or.inl (by decide))]; exact p1
  · rw [mI_ne (Or.inl (by decide))]; exact p2 i j hi hj
  · rw [mI_ne (Or.inl (by decide))]; exact p3 j hj
  · rw [mL_sI]; exact p4 i hi
  · rw [mL_sI]; exact p5
  · rw [nw_sI, h5]
/-- the two ends of a change: refused with a code, or done -/
def post (M : mw_M) (k c : Nat) (F : Row) (r : Int32) (Q : mw_M → Int32 → Prop) : Prop := (c ≠ 0 → ∀ M1, sm S5 M M1 → mI M1 247 5 = nI c → Q M1 0) ∧ (c = 0 → ∀ M1, At M k M1 F → Q M1 r)
def IK (M : mw_M) (k : Nat) : Prop := MK M ∧ mI M 247 4 = nI k ∧ k ≤ 4
theorem s_ref {M : mw_M} {k c : Nat} {x : Int32} {K : mw_M → Int32 → Prop} (hI : IK M k) (hc : c < 4) (hx : x = nI c) (h1 : c ≠ 0 → ∀ M1, sm S5 M M1 → mI M1 247 5 = nI c → K M1 1) (h0 : c = 0 → ∀ M1, At M k M1 (nw M) → K M1 0) : w_X8_refusesChange 255 M 247 x K := by
  obtain ⟨hM, hk, hk4⟩ := hI
  subst hx
  by_cases h : c = 0
  · subst h
    refine s_X8_refusesChange_0 hM hk hk4 (fun M1 s1 e1 p1 => h0 rfl M1 ⟨s1.mono (fun a b q => Or.inl q), s1.MK hM, e1, p1, s1.nw (fun b q => ?_)⟩)
    rcases q with q | q | q
    · cases q
    · cases q
    · exact absurd q.1 (by decide)
  · exact s_X8_refusesChange_x (fun q => h ((nI_eq (b := 0) (by omega) (by decide)).mp q)) (h1 h)
theorem s_bec {M N : mw_M} {k j : Nat} {F : Row} {x1 x2 : Int32} {Q : mw_M → Int32 → Prop} (h : At M k N F) (hj : j < 277) (hx : x1 = nI j) (hq : ∀ N1, At M k N1 (up F j x2) → Q N1 (F j)) : w_X8_becomes 255 N 247 x1 x2 Q := by
  unfold w_X8_becomes
  obtain ⟨-, ⟨h1, -⟩, -, -, h5⟩ := id h
  obtain ⟨i1, j1⟩ := ix_is hx hj
  rw [h1, j1]
  refine ⟨is247, is248, i1, ?_⟩
  rintro _ rfl
  rintro _ rfl
  have := hq _ (h.w hj x2)
  rw [← h5] at this
  exact this
/-- one write of a change -/
theorem s_wr {M N : mw_M} {k j : Nat} {F : Row} {x1 x2 : Int32} {Q : mw_M → Prop} (h : At M k N F) (hj : j < 277) (hx : x1 = nI j) (hq : ∀ N1, At M k N1 (up F j x2) → mP N1 247 0 = 248 → Q N1) : mw_is 255 (mP N 247 0) 10 ∧ vp_in x1 (Ln (mP N 247 0)) ∧ ∀ N1 : mw_M, N1 = sI N (mP N 247 0) (Int32.toNatClampNeg x1) x2 → Q N1 := by
  obtain ⟨-, ⟨h1, -⟩, -⟩ := id h
  obtain ⟨i1, j1⟩ := ix_is hx hj
  rw [h1, j1]
  refine ⟨is248, i1, ?_⟩
  rintro _ rfl
  exact hq _ (h.w hj x2) h1
theorem s_inc {n : Nat} {M : mw_M} {x : Int32} {a c : Int64} (lo hi : Int) (ha : a.toInt = lo) (hc : c.toInt = hi) {A B : Prop} (h0 : ¬ (lo ≤ x.toInt ∧ x.toInt ≤ hi) → A) (h1 : lo ≤ x.toInt ∧ x.toInt ≤ hi → B) : w_X8_in n M (Int32.toInt64 x) a c (fun v => (v = 0 → A) ∧ (¬ v = 0 → B)) := by
  refine s_X8_in ?_
  rw [ti_l, ha, hc]
  by_cases h : lo ≤ x.toInt ∧ x.toInt ≤ hi
  · rw [bl_t h]; exact ⟨fun q => absurd q (by decide), fun _ => h1 h⟩
  · rw [bl_f h]; exact ⟨fun _ => h0 h, fun q => absurd rfl q⟩
noncomputable section
/-- the code: 1 where the first fails, then 2 -/
def c12 (P1 P2 : Prop) : Nat := ifp P1 (ifp P2 0 2) 1
def isTr (x : Int32) : Prop := 0 ≤ x.toInt ∧ x.toInt ≤ 3
def isSrc (x : Int32) : Prop := 0 ≤ x.toInt ∧ x.toInt ≤ 5
def isPl (x : Int32) : Prop := 0 ≤ x.toInt ∧ x.toInt ≤ 3999
def isCl (R : Row) (x : Int32) : Prop := 0 ≤ x.toInt ∧ x.toInt < (cn R : Int)
def nx (x : Int32) : Nat := x.toInt.toNat
end
theorem c12_lt (P1 P2 : Prop) : c12 P1 P2 < 4 := by
  unfold c12
  by_cases h1 : P1
  · by_cases h2 : P2
    · rw [ifp_t h1, ifp_t h2]; decide
    · rw [ifp_t h1, ifp_f h2]; decide
  · rw [ifp_f h1]; decide
theorem c12_1 {P1 P2 : Prop} (h : ¬ P1) : c12 P1 P2 = 1 := ifp_f h
theorem c12_2 {P1 P2 : Prop} (h : P1) (h2 : ¬ P2) : c12 P1 P2 = 2 := by unfold c12; rw [ifp_t h, ifp_f h2]
theorem c12_0 {P1 P2 : Prop} (h : P1) (h2 : P2) : c12 P1 P2 = 0 := by unfold c12; rw [ifp_t h, ifp_t h2]
theorem c12_ok {P1 P2 : Prop} (h : c12 P1 P2 = 0) : P1 ∧ P2 := by
  by_cases h1 : P1
  · by_cases h2 : P2
    · exact ⟨h1, h2⟩
    · rw [c12_2 h1 h2] at h; cases h
  · rw [c12_1 h1] at h; cases h
theorem nx_s {x : Int32} (h : 0 ≤ x.toInt) : x = nI (nx x) := nI_of_toInt h
/-- the choice of a code between 1, 2, 0 -/
theorem s_12 {P1 P2 : Prop} {B : Nat → Prop} {v s : Int32} (hv : v = bl P1) (hs : s = 0 ↔ ¬ P2) (h : B (c12 P1 P2)) : (¬ v = 0 → (s = 0 → B 2) ∧ (¬ s = 0 → B 0)) ∧ (v = 0 → B 1) := by
  subst hv
  rw [bl_0]
  refine ⟨fun h1 => ⟨fun h2 => ?_, fun h2 => ?_⟩, fun h1 => ?_⟩
  · rw [c12_2 (Classical.not_not.mp h1) (hs.mp h2)] at h; exact h
  · rw [c12_0 (Classical.not_not.mp h1) (Classical.not_not.mp (fun q => h2 (hs.mpr q)))] at h; exact h
  · rw [c12_1 h1] at h; exact h
def fSource (sh a p z : Int32) : Prop := (0 ≤ sh.toInt ∧ sh.toInt ≤ 3) ∧ (0 ≤ a.toInt ∧ a.toInt ≤ 10000) ∧ (1 ≤ p.toInt ∧ p.toInt ≤ 1000) ∧ 1 ≤ z.toInt ∧ z.toInt ≤ 4000
def rSource (R : Row) (s : Nat) (sh a p z : Int32) : Row := up (up (up (up R (9 + 4 * s) sh) (9 + 4 * s + 1) a) (9 + 4 * s + 2) p) (9 + 4 * s + 3) z
theorem s_X8_setSource {M : mw_M} {k : Nat} {x1 x2 x3 x4 x5 : Int32} {Q : mw_M → Int32 → Prop} (hI : IK M k) (hq : post M k (c12 (isSrc x1) (fSource x2 x3 x4 x5)) (rSource (nw M) (nx x1) x2 x3 x4 x5) (rS (nw M) (nx x1) 3) Q) : w_X8_setSource 255 M 247 x1 x2 x3 x4 x5 Q := by
  have b79 : ∀ c, c = c12 (isSrc x1) (fSource x2 x3 x4 x5) → w_X8_setSource_b79 255 M 247 x1 x2 x3 x4 x5 (nI c) 247 Q := by
    rintro _ rfl
    unfold w_X8_setSource_b79
    refine ⟨is247, s_ref hI (c12_lt _ _) rfl (fun hc M1 s1 e1 => ⟨fun q => absurd q (by decide), fun _ => hq.1 hc M1 s1 e1⟩) (fun hc M1 a1 => ⟨fun _ => ?_, fun q => absurd rfl q⟩)⟩
    obtain ⟨hs, -⟩ := c12_ok hc
    have hs6 : nx x1 < 6 := by have := hs.2; unfold nx; omega
    have hx := nx_s hs.1
    rintro _ rfl
    have e0 : 9 + 4 * x1 = nI (9 + 4 * nx x1) := by rw [hx, li 9, li 4, pk_mul, nI_add, ← hx]
    rw [e0]
    refine ⟨is247, s_wr a1 (by omega) rfl (fun M2 a2 _ => s_wr a2 (j := 9 + 4 * nx x1 + 1) (by omega) (by rw [li 1, nI_add]) (fun M3 a3 _ => s_wr a3 (j := 9 + 4 * nx x1 + 2) (by omega) (by rw [li 2, nI_add]) (fun M4 a4 _ => s_bec a4 (j := 9 + 4 * nx x1 + 3) (by omega) (by rw [li 3, nI_add]) (fun M5 a5 => ?_))))⟩
    rw [up_ne (by omega), up_ne (by omega), up_ne (by omega)]
    exact hq.2 hc M5 a5
  have b55 : ∀ s : Int32, (s = 0 ↔ ¬ fSource x2 x3 x4 x5) → w_X8_setSource_b55 255 M 247 x1 x2 x3 x4 x5 s Q := by
    intro s hs
    unfold w_X8_setSource_b55
    refine s_X8_isSource (s_12 (B := fun c => w_X8_setSource_b79 255 M 247 x1 x2 x3 x4 x5 (nI c) 247 Q) rfl hs (b79 _ rfl))
  have bad : ¬ fSource x2 x3 x4 x5 → w_X8_setSource_b54 255 M 247 x1 x2 x3 x4 x5 Q := fun h => b55 0 ⟨fun _ => h, fun _ => rfl⟩
  unfold w_X8_setSource
  refine s_inc 0 3 rfl rfl (fun h => bad (fun q => h q.1)) (fun h1 => s_inc 0 10000 rfl rfl (fun h => bad (fun q => h q.2.1)) (fun h2 => s_inc 1 1000 rfl rfl (fun h => bad (fun q => h q.2.2.1)) (fun h3 => s_inc 1 4000 rfl rfl (fun h => bad (fun q => h q.2.2.2)) (fun h4 => b55 1 ⟨fun q => absurd q (by decide), fun q => absurd ⟨h1, h2, h3, h4⟩ q⟩))))
def fFades (i o v : Int32) : Prop := (0 ≤ i.toInt ∧ i.toInt ≤ 4000) ∧ (0 ≤ o.toInt ∧ o.toInt ≤ 4000) ∧ 0 ≤ v.toInt ∧ v.toInt ≤ 1
def rFades (R : Row) (c : Nat) (i o v : Int32) : Row := up (up (up R (33 + 9 * c + 7) o) (33 + 9 * c + 8) v) (33 + 9 * c + 6) i
theorem s_X8_setFades {M : mw_M} {k : Nat} {x1 x2 x3 x4 : Int32} {Q : mw_M → Int32 → Prop} (hI : IK M k) (hC : VC (nw M)) (hq : post M k (c12 (isCl (nw M) x1) (fFades x2 x3 x4)) (rFades (nw M) (nx x1) x2 x3 x4) (rC (nw M) (nx x1) 6) Q) : w_X8_setFades 255 M 247 x1 x2 x3 x4 Q := by
  have b65 : ∀ c, c = c12 (isCl (nw M) x1) (fFades x2 x3 x4) → w_X8_setFades_b65 255 M 247 x1 x2 x3 x4 (nI c) 247 Q := by
    rintro _ rfl
    unfold w_X8_setFades_b65
    refine ⟨is247, s_ref hI (c12_lt _ _) rfl (fun hc M1 s1 e1 => ⟨fun q => absurd q (by decide), fun _ => hq.1 hc M1 s1 e1⟩) (fun hc M1 a1 => ⟨fun _ => ?_, fun q => absurd rfl q⟩)⟩
    obtain ⟨hs, -⟩ := c12_ok hc
    have hs6 : nx x1 < 12 := by
      have := hs.2
      have := hC.cn.2
      unfold nx; omega
    have hx := nx_s hs.1
    rintro _ rfl
    have e0 : 33 + 9 * x1 = nI (33 + 9 * nx x1) := by rw [hx, li 33, li 9, pk_mul, nI_add, ← hx]
    rw [e0]
    refine ⟨is247, s_wr a1 (j := 33 + 9 * nx x1 + 7) (by omega) (by rw [li 7, nI_add]) (fun M2 a2 _ => s_wr a2 (j := 33 + 9 * nx x1 + 8) (by omega) (by rw [li 8, nI_add]) (fun M3 a3 _ => s_bec a3 (j := 33 + 9 * nx x1 + 6) (by omega) (by rw [li 6, nI_add]) (fun M5 a5 => ?_)))⟩
    rw [up_ne (by omega), up_ne (by omega)]
    exact hq.2 hc M5 a5
  have b40 : ∀ s : Int32, (s = 0 ↔ ¬ fFades x2 x3 x4) → w_X8_setFades_b40 255 M 247 x1 x2 x3 x4 s Q := by
    intro s hs
    unfold w_X8_setFades_b40
    refine ⟨is247, s_X8_isClip hI.1 hC (s_12 (B := fun c => w_X8_setFades_b65 255 M 247 x1 x2 x3 x4 (nI c) 247 Q) rfl hs (b65 _ rfl))⟩
  have bad : ¬ fFades x2 x3 x4 → w_X8_setFades_b39 255 M 247 x1 x2 x3 x4 Q := fun h => b40 0 ⟨fun _ => h, fun _ => rfl⟩
  unfold w_X8_setFades
  refine s_inc 0 4000 rfl rfl (fun h => bad (fun q => h q.1)) (fun h1 => s_inc 0 4000 rfl rfl (fun h => bad (fun q => h q.2.1)) (fun h2 => s_inc 0 1 rfl rfl (fun h => bad (fun q => h q.2.2)) (fun h4 => b40 1 ⟨fun q => absurd q (by decide), fun q => absurd ⟨h1, h2, h4⟩ q⟩)))
noncomputable section
/-- the code of a call that has one exception only -/
def c1 (P : Prop) : Nat := ifp P 0 1
def fTrack (g p : Int32) : Prop := (0 ≤ g.toInt ∧ g.toInt ≤ 2000) ∧ -100 ≤ p.toInt ∧ p.toInt ≤ 100
def bi (x : Int32) : Int32 := bl (x ≠ 0)
def rTrack (R : Row) (t : Nat) (g p m s : Int32) : Row := up (up (up (up R (141 + 34 * t + 1) p) (141 + 34 * t + 2) (bi m)) (141 + 34 * t + 3) (bi s)) (141 + 34 * t) g
end
theorem c1_lt (P : Prop) : c1 P < 4 := by
  by_cases h : P
  · unfold c1; rw [ifp_t h]; decide
  · unfold c1; rw [ifp_f h]; decide
theorem c1_ok {P : Prop} (h : c1 P = 0) : P := by
  by_cases h1 : P
  · exact h1
  · unfold c1 at h; rw [ifp_f h1] at h; cases h
theorem c1_t {P : Prop} (h : P) : c1 P = 0 := ifp_t h
theorem c1_f {P : Prop} (h : ¬ P) : c1 P = 1 := ifp_f h
theorem s_1 {P : Prop} {B : Nat → Prop} {v : Int32} (hv : v = bl P) (h : B (c1 P)) : (v = 0 → B 1) ∧ (¬ v = 0 → B 0) := by
  subst hv
  rw [bl_0]
  refine ⟨fun h1 => ?_, fun h1 => ?_⟩
  · rw [c1_f h1] at h; exact h
  · rw [c1_t (Classical.not_not.mp h1)] at h; exact h
theorem nx_4 {x : Int32} (h : isTr x) : x = nI (nx x) ∧ nx x < 4 := ⟨nx_s h.1, by have := h.2; unfold nx; omega⟩
theorem s_X8_setTrack {M : mw_M} {k : Nat} {x1 x2 x3 x4 x5 : Int32} {Q : mw_M → Int32 → Prop} (hI : IK M k) (hq : post M k (c12 (isTr x1) (fTrack x2 x3)) (rTrack (nw M) (nx x1) x2 x3 x4 x5) (rT (nw M) (nx x1) 0) Q) : w_X8_setTrack 255 M 247 x1 x2 x3 x4 x5 Q := by
  have b55 : ∀ c, c = c12 (isTr x1) (fTrack x2 x3) → w_X8_setTrack_b55 255 M 247 x1 x2 x3 x4 x5 (nI c) 247 Q := by
    rintro _ rfl
    unfold w_X8_setTrack_b55
    refine ⟨is247, s_ref hI (c12_lt _ _) rfl (fun hc M1 s1 e1 => ⟨fun q => absurd q (by decide), fun _ => hq.1 hc M1 s1 e1⟩) (fun hc M1 a1 => ⟨fun _ => ?_, fun q => absurd rfl q⟩)⟩
    obtain ⟨hs, -⟩ := c12_ok hc
    obtain ⟨hx, h4⟩ := nx_4 hs
    rw [hx]
    refine s_X8_trackAt ⟨is247, s_wr a1 (j := 141 + 34 * nx x1 + 1) (by omega) (by rw [li 1, nI_add]) (fun M2 a2 p2 => ?_)⟩
    have b116 : ∀ (N : mw_M) (v w : Int32), At M k N (up (up (nw M) (141 + 34 * nx x1 + 1) x3) (141 + 34 * nx x1 + 2) v) → v = bi x4 → w = bi x5 → w_X8_setTrack_b116 255 N 247 x2 (nI (141 + 34 * nx x1)) w (nI (141 + 34 * nx x1) + 3) (mP N 247 0) Q := by
      rintro N _ _ a3 rfl rfl
      unfold w_X8_setTrack_b116
      refine s_wr a3 (j := 141 + 34 * nx x1 + 3) (by omega) (by rw [li 3, nI_add]) (fun M3 a4 _ => ⟨is247, s_bec a4 (j := 141 + 34 * nx x1) (by omega) rfl (fun M5 a5 => ?_)⟩)
      rw [up_ne (by omega), up_ne (by omega), up_ne (by omega)]
      exact hq.2 hc M5 a5
    have b97 : ∀ v : Int32, v = bi x4 → w_X8_setTrack_b97 255 M2 247 x2 x5 (nI (141 + 34 * nx x1)) v (nI (141 + 34 * nx x1) + 2) (mP M2 247 0) Q := by
      intro v hv
      unfold w_X8_setTrack_b97
      refine s_wr a2 (j := 141 + 34 * nx x1 + 2) (by omega) (by rw [li 2, nI_add]) (fun M3 a3 p3 => ⟨is247, fun h => b116 M3 v _ a3 hv ?_, fun h => b116 M3 v _ a3 hv ?_⟩)
      · exact (bl_f (fun q => q h)).symm
      · exact (bl_t h).symm
    exact ⟨fun h => b97 _ (bl_f (fun q => q h)).symm, fun h => b97 _ (bl_t h).symm⟩
  have b31 : ∀ s : Int32, (s = 0 ↔ ¬ fTrack x2 x3) → w_X8_setTrack_b31 255 M 247 x1 x2 x3 x4 x5 s Q := by
    intro s hs
    unfold w_X8_setTrack_b31
    refine s_X8_isTrack (s_12 (B := fun c => w_X8_setTrack_b55 255 M 247 x1 x2 x3 x4 x5 (nI c) 247 Q) rfl hs (b55 _ rfl))
  have bad : ¬ fTrack x2 x3 → w_X8_setTrack_b30 255 M 247 x1 x2 x3 x4 x5 Q := fun h => b31 0 ⟨fun _ => h, fun _ => rfl⟩
  unfold w_X8_setTrack
  refine s_inc 0 2000 rfl rfl (fun h => bad (fun q => h q.1)) (fun h1 => s_inc (-100) 100 rfl rfl (fun h => bad (fun q => h q.2)) (fun h4 => b31 1 ⟨fun q => absurd q (by decide), fun q => absurd ⟨h1, h4⟩ q⟩))
theorem s_X8_setMaster {M : mw_M} {k : Nat} {x1 : Int32} {Q : mw_M → Int32 → Prop} (hI : IK M k) (hq : post M k (c1 (0 ≤ x1.toInt ∧ x1.toInt ≤ 2000)) (up (nw M) 3 x1) (nw M 3) Q) : w_X8_setMaster 255 M 247 x1 Q := by
  have b18 : ∀ c, c = c1 (0 ≤ x1.toInt ∧ x1.toInt ≤ 2000) → w_X8_setMaster_b18 255 M 247 x1 (nI c) 247 Q := by
    rintro _ rfl
    unfold w_X8_setMaster_b18 w_X8_setMaster_b34
    exact ⟨is247, s_ref hI (c1_lt _) rfl (fun hc M1 s1 e1 => ⟨fun q => absurd q (by decide), fun _ => hq.1 hc M1 s1 e1⟩) (fun hc M1 a1 => ⟨fun _ => ⟨is247, s_bec a1 (j := 3) (by decide) rfl (fun M5 a5 => hq.2 hc M5 a5)⟩, fun q => absurd rfl q⟩)⟩
  unfold w_X8_setMaster
  refine s_inc 0 2000 rfl rfl (fun h => ?_) (fun h => ?_)
  · exact b18 1 (c1_f h).symm
  · exact b18 0 (c1_t h).symm
theorem s_X8_seek {M : mw_M} {k : Nat} {x1 : Int32} {Q : mw_M → Int32 → Prop} (hI : IK M k) (hq : post M k (c1 (isPl x1)) (up (nw M) 0 x1) (nw M 0) Q) : w_X8_seek 255 M 247 x1 Q := by
  have b18 : ∀ c, c = c1 (isPl x1) → w_X8_seek_b13 255 M 247 x1 (nI c) 247 Q := by
    rintro _ rfl
    unfold w_X8_seek_b13 w_X8_seek_b29
    exact ⟨is247, s_ref hI (c1_lt _) rfl (fun hc M1 s1 e1 => ⟨fun q => absurd q (by decide), fun _ => hq.1 hc M1 s1 e1⟩) (fun hc M1 a1 => ⟨fun _ => ⟨is247, s_bec a1 (j := 0) (by decide) rfl (fun M5 a5 => hq.2 hc M5 a5)⟩, fun q => absurd rfl q⟩)⟩
  unfold w_X8_seek
  exact s_X8_isPlace (s_1 (B := fun c => w_X8_seek_b13 255 M 247 x1 (nI c) 247 Q) rfl (b18 _ rfl))
def rEnd (R : Row) (t : Nat) : Row := up R (141 + 34 * t + 29) (-1)
theorem s_X8_endDuck {M : mw_M} {k : Nat} {x1 : Int32} {Q : mw_M → Int32 → Prop} (hI : IK M k) (hq : post M k (c1 (isTr x1)) (rEnd (nw M) (nx x1)) (rT (nw M) (nx x1) 29) Q) : w_X8_endDuck 255 M 247 x1 Q := by
  have b18 : ∀ c, c = c1 (isTr x1) → w_X8_endDuck_b13 255 M 247 x1 (nI c) 247 Q := by
    rintro _ rfl
    unfold w_X8_endDuck_b13 w_X8_endDuck_b35
    refine ⟨is247, s_ref hI (c1_lt _) rfl (fun hc M1 s1 e1 => ⟨fun q => absurd q (by decide), fun _ => hq.1 hc M1 s1 e1⟩) (fun hc M1 a1 => ⟨fun _ => ?_, fun q => absurd rfl q⟩)⟩
    obtain ⟨hx, h4⟩ := nx_4 (c1_ok hc)
    rw [hx]
    exact s_X8_trackAt ⟨is247, s_bec a1 (j := 141 + 34 * nx x1 + 29) (by omega) (by rw [li 29, nI_add]) (fun M5 a5 => hq.2 hc M5 a5)⟩
  unfold w_X8_endDuck
  exact s_X8_isTrack (s_1 (B := fun c => w_X8_endDuck_b13 255 M 247 x1 (nI c) 247 Q) rfl (b18 _ rfl))
def fLoop (a b : Int32) : Prop := (1 ≤ b.toInt ∧ b.toInt ≤ 4000) ∧ 0 ≤ a.toInt ∧ a.toInt < b.toInt
def rLoop (R : Row) (a b : Int32) : Row := up (up R 2 b) 1 a
theorem s_X8_setLoop {M : mw_M} {k : Nat} {x1 x2 : Int32} {Q : mw_M → Int32 → Prop} (hI : IK M k) (hq : post M k (c1 (fLoop x1 x2)) (rLoop (nw M) x1 x2) (nw M 1) Q) : w_X8_setLoop 255 M 247 x1 x2 Q := by
  have b31 : ∀ c, c = c1 (fLoop x1 x2) → w_X8_setLoop_b31 255 M 247 x1 x2 (nI c) 247 Q := by
    rintro _ rfl
    unfold w_X8_setLoop_b31
    refine ⟨is247, s_ref hI (c1_lt _) rfl (fun hc M1 s1 e1 => ⟨fun q => absurd q (by decide), fun _ => hq.1 hc M1 s1 e1⟩) (fun hc M1 a1 => ⟨fun _ => ⟨is247, s_wr a1 (j := 2) (by decide) rfl (fun M2 a2 _ => s_bec a2 (j := 1) (by decide) rfl (fun M5 a5 => ?_))⟩, fun q => absurd rfl q⟩)⟩
    rw [up_ne (by decide)]
    exact hq.2 hc M5 a5
  have bad : ¬ fLoop x1 x2 → w_X8_setLoop_b30 255 M 247 x1 x2 247 Q := fun h => b31 1 (c1_f h).symm
  unfold w_X8_setLoop
  refine s_inc 1 4000 rfl rfl (fun h => bad (fun q => h q.1)) (fun h1 => ?_)
  have o1 : (1 : Int32).toInt = 1 := rfl
  refine s_inc 0 (x2.toInt - 1) rfl ?_ (fun h => bad (fun q => h ⟨q.2.1, by have := q.2.2; omega⟩)) (fun h2 => b31 0 (c1_t ⟨h1, h2.1, by have := h2.2; omega⟩).symm)
  rw [ti_l, ti_sub (by rw [o1]; omega) (by rw [o1]; omega), o1]
def isK (R : Row) (x : Int32) : Prop := ∃ t, t < 4 ∧ rT R t 29 = x
theorem s_X8_isKey {M : mw_M} {x : Int32} {Q : Int32 → Prop} (hM : MK M) (hq : Q (bl (isK (nw M) x))) : w_X8_isKey 255 M 247 x Q := by
  unfold w_X8_isKey w_X8_isKey_b4
  refine ⟨fun b z => ∃ c, z = nI c ∧ c ≤ 4 ∧ b = bl (∃ t, t < c ∧ rT (nw M) t 29 = x), fun _ z => 4 - z.toInt.toNat, ⟨0, rfl, by decide, (bl_f (fun ⟨t, h, _⟩ => absurd h (Nat.not_lt_zero t))).symm⟩, ?_⟩
  rintro _ _ ⟨c, rfl, hc, rfl⟩
  rw [li 4, nI_leI (by decide) (by omega)]
  refine ⟨fun h => ?_, fun h => ⟨fun h1 => ?_, fun h1 => ?_⟩⟩
  · have : c = 4 := by omega
    subst this
    exact ⟨bl_b, hq⟩
  · unfold w_X8_isKey_b29 w_X8_isKey_b34
    rw [bl_0, Classical.not_not] at h1
    rintro _ rfl
    obtain ⟨t, h2, h3⟩ := h1
    exact ⟨⟨c + 1, nI_1 c, by omega, (bl_t ⟨t, by omega, h3⟩).symm⟩, mu_dec (by omega) (by decide)⟩
  · rw [bl_0] at h1
    obtain ⟨g1, -⟩ := id hM
    obtain ⟨i29, j29⟩ := trk_ix (M := M) (t := c) (f := 29) (by omega) (by decide) (x := nI (141 + 34 * c) + 29) (by rw [li 29, nI_add])
    refine ⟨is247, s_X8_trackAt ?_⟩
    rw [g1, j29]
    refine ⟨is248, i29, fun h2 => ?_, fun h2 => ?_⟩
    · unfold w_X8_isKey_b34
      rintro _ rfl
      refine ⟨⟨c + 1, nI_1 c, by omega, (bl_f (fun ⟨t, h3, h4⟩ => ?_)).symm⟩, mu_dec (by omega) (by decide)⟩
      by_cases e : t = c
      · exact h2 (e ▸ h4)
      · exact h1 ⟨t, by omega, h4⟩
    · unfold w_X8_isKey_b29 w_X8_isKey_b34
      rintro _ rfl
      exact ⟨⟨c + 1, nI_1 c, by omega, (bl_t ⟨c, by omega, h2⟩).symm⟩, mu_dec (by omega) (by decide)⟩
