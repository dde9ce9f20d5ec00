/-! The reference: its object is 247, its arrays 248 (now), 249 (past), 250 (sums), 251 (tried), 252 (carried), 253 (ends) -/
noncomputable section
def bl (P : Prop) : Int32 := ifp P 1 0
end
theorem bl_t {P : Prop} (h : P) : bl P = 1 := ifp_t h
theorem bl_f {P : Prop} (h : ¬ P) : bl P = 0 := ifp_f h
theorem bl_b {P : Prop} : mw_b01 (bl P) := by
  by_cases h : P
  · rw [bl_t h]; exact Or.inr rfl
  · rw [bl_f h]; exact Or.inl rfl
theorem bl_0 {P : Prop} : bl P = 0 ↔ ¬ P := by
  by_cases h : P
  · rw [bl_t h]; exact ⟨fun q => absurd q (by decide), fun q => absurd h q⟩
  · rw [bl_f h]; exact ⟨fun _ => h, fun _ => rfl⟩
theorem bl_1 {P : Prop} : bl P = 1 ↔ P := by
  by_cases h : P
  · rw [bl_t h]; exact ⟨fun _ => h, fun _ => rfl⟩
  · rw [bl_f h]; exact ⟨fun q => absurd q (by decide), fun q => absurd q h⟩
theorem bl_c {P P' : Prop} (h : P ↔ P') : bl P = bl P' := by rw [propext h]
def MK (M : mw_M) : Prop := mP M 247 0 = 248 ∧ mP M 247 2 = 249 ∧ mP M 247 3 = 250 ∧ mP M 247 7 = 251 ∧ mP M 247 8 = 252 ∧ mP M 247 9 = 253
def nw (M : mw_M) : Row := fun j => mI M 248 j
theorem is247 : mw_is 255 247 8 := ⟨by decide +kernel, by decide, by decide⟩
theorem is248 : mw_is 255 248 10 := ⟨by decide +kernel, by decide, by decide⟩
theorem is249 : mw_is 255 249 10 := ⟨by decide +kernel, by decide, by decide⟩
theorem is250 : mw_is 255 250 11 := ⟨by decide +kernel, by decide, by decide⟩
theorem is251 : mw_is 255 251 10 := ⟨by decide +kernel, by decide, by decide⟩
theorem is252 : mw_is 255 252 10 := ⟨by decide +kernel, by decide, by decide⟩
theorem is253 : mw_is 255 253 10 := ⟨by decide +kernel, by decide, by decide⟩
theorem Ln248 : Ln 248 = 277 := by decide +kernel
theorem Ln249 : Ln 249 = 1108 := by decide +kernel
theorem Ln250 : Ln 250 = 4 := by decide +kernel
theorem Ln251 : Ln 251 = 126 := by decide +kernel
theorem Ln252 : Ln 252 = 9 := by decide +kernel
theorem Ln253 : Ln 253 = 400 := by decide +kernel
theorem vp_n {j N : Nat} (h : j < N) (hN : N < 2 ^ 31) : vp_in (nI j) N := vp_in_nI h hN
/-- a place of the row by an expression that is its number -/
theorem ix_is {x : Int32} {j : Nat} (h : x = nI j) (hj : j < 277) : vp_in x (Ln 248) ∧ Int32.toNatClampNeg x = j := by
  subst h
  exact ⟨by rw [Ln248]; exact vp_n hj (by decide), nI_clamp (by omega)⟩
theorem s_X8_in {n : Nat} {M : mw_M} {a b c : Int64} {Q : Int32 → Prop} (hq : Q (bl (b.toInt ≤ a.toInt ∧ a.toInt ≤ c.toInt))) : w_X8_in n M a b c Q := by
  unfold w_X8_in w_X8_in_b17 w_X8_in_b18
  simp only [tl_lt]
  refine ⟨fun h => ⟨Or.inl rfl, ?_⟩, fun h => ⟨fun h2 => ⟨Or.inl rfl, ?_⟩, fun h2 => ⟨Or.inr rfl, ?_⟩⟩⟩
  · rw [bl_f (by omega)] at hq; exact hq
  · rw [bl_f (by omega)] at hq; exact hq
  · rw [bl_t (by omega)] at hq; exact hq
theorem s_X8_trackAt {n t : Nat} {M : mw_M} {Q : Int32 → Prop} (hq : Q (nI (141 + 34 * t))) : w_X8_trackAt n M (nI t) Q := by
  unfold w_X8_trackAt
  rw [li 141, li 34, pk_mul, nI_add]
  exact hq
theorem s_X8_isTrack {n : Nat} {M : mw_M} {x : Int32} {Q : Int32 → Prop} (hq : Q (bl (0 ≤ x.toInt ∧ x.toInt ≤ 3))) : w_X8_isTrack n M x Q := by
  unfold w_X8_isTrack
  refine s_X8_in ⟨bl_b, ?_⟩
  rw [ti_l]; exact hq
theorem s_X8_isPlace {n : Nat} {M : mw_M} {x : Int32} {Q : Int32 → Prop} (hq : Q (bl (0 ≤ x.toInt ∧ x.toInt ≤ 3999))) : w_X8_isPlace n M x Q := by
  unfold w_X8_isPlace
  refine s_X8_in ⟨bl_b, ?_⟩
  rw [ti_l]; exact hq
theorem s_X8_isSource {n : Nat} {M : mw_M} {x : Int32} {Q : Int32 → Prop} (hq : Q (bl (0 ≤ x.toInt ∧ x.toInt ≤ 5))) : w_X8_isSource n M x Q := by
  unfold w_X8_isSource
  refine s_X8_in ⟨bl_b, ?_⟩
  rw [ti_l]; exact hq
theorem s_X8_isClip {M : mw_M} {x : Int32} {Q : Int32 → Prop} (hM : MK M) (hC : VC (nw M)) (hq : Q (bl (0 ≤ x.toInt ∧ x.toInt < (cn (nw M) : Int)))) : w_X8_isClip 255 M 247 x Q := by
  unfold w_X8_isClip
  obtain ⟨h1, -⟩ := hM
  rw [h1]
  obtain ⟨i1, i2⟩ := ix_is (x := 8) (j := 8) rfl (by decide)
  obtain ⟨e, h12⟩ := hC.cn
  refine ⟨is247, is248, i1, s_X8_in ⟨bl_b, ?_⟩⟩
  have e2 : mI M 248 8 = nI (cn (nw M)) := e
  have o1 : (1 : Int32).toInt = 1 := rfl
  have e3 : (nI (cn (nw M))).toInt = (cn (nw M) : Int) := nI_toInt (by omega)
  rw [i2, e2, ti_l, ti_l, ti_sub (by rw [e3]; omega) (by rw [e3]; omega), e3, o1]
  rw [bl_c (P' := 0 ≤ x.toInt ∧ x.toInt < (cn (nw M) : Int)) ⟨fun ⟨a, b⟩ => ⟨a, by omega⟩, fun ⟨a, b⟩ => ⟨a, by omega⟩⟩]
  exact hq
theorem s_X8_clipOf {M : mw_M} {c f : Nat} {x : Int32} {Q : Int32 → Prop} (hM : MK M) (hc : c < 12) (hf : f < 9) (hx : x = nI f) (hq : Q (rC (nw M) c f)) : w_X8_clipOf 255 M 247 (nI c) x Q := by
  unfold w_X8_clipOf
  obtain ⟨h1, -⟩ := hM
  subst hx
  rw [h1, li 33, li 9, pk_mul, nI_add, nI_add]
  obtain ⟨i1, i2⟩ := ix_is (x := nI (33 + 9 * c + f)) rfl (by omega)
  rw [i2]
  exact ⟨is247, is248, i1, hq⟩
theorem s_X8_clipEnd {M : mw_M} {c : Nat} {Q : Int32 → Prop} (hM : MK M) (hc : c < 12) (hq : Q (rC (nw M) c 2 + rC (nw M) c 4)) : w_X8_clipEnd 255 M 247 (nI c) Q := by
  unfold w_X8_clipEnd
  exact ⟨is247, s_X8_clipOf (f := 2) hM hc (by decide) rfl (s_X8_clipOf (f := 4) hM hc (by decide) rfl hq)⟩
theorem s_X8_covers {M : mw_M} {c : Nat} {x : Int32} {Q : Int32 → Prop} (hM : MK M) (hc : c < 12) (hq : Q (bl (cov (nw M) c x))) : w_X8_covers 255 M 247 (nI c) x Q := by
  unfold w_X8_covers w_X8_covers_b23 w_X8_covers_b24
  refine ⟨is247, s_X8_clipOf (f := 2) hM hc (by decide) rfl ?_⟩
  unfold cov at hq
  refine ⟨fun h => ⟨Or.inl rfl, ?_⟩, fun h => s_X8_clipEnd hM hc ⟨fun h2 => ⟨Or.inl rfl, ?_⟩, fun h2 => ⟨Or.inr rfl, ?_⟩⟩⟩
  · rw [bl_f (fun q => by have := q.1; rw [ti_le] at this; rw [ti_lt] at h; omega)] at hq; exact hq
  · rw [bl_f (fun q => by have := q.2; rw [ti_lt] at this; rw [ti_le] at h2; omega)] at hq; exact hq
  · rw [bl_t ⟨by rw [ti_lt] at h; rw [ti_le]; omega, by rw [ti_le] at h2; rw [ti_lt]; omega⟩] at hq; exact hq
theorem src_ix {M : mw_M} {s f : Nat} (hs : s < 6) (hf : f < 4) : vp_in (9 + 4 * nI s + nI f) (Ln 248) ∧ mI M 248 (Int32.toNatClampNeg (9 + 4 * nI s + nI f)) = rS (nw M) s f := by
  obtain ⟨i1, i2⟩ := ix_is (x := 9 + 4 * nI s + nI f) (j := 9 + 4 * s + f) (by rw [li 9, li 4, pk_mul, nI_add, nI_add]) (by omega)
  rw [i2]
  exact ⟨i1, rfl⟩
theorem src_ix0 {M : mw_M} {s : Nat} (hs : s < 6) : vp_in (9 + 4 * nI s) (Ln 248) ∧ mI M 248 (Int32.toNatClampNeg (9 + 4 * nI s)) = rS (nw M) s 0 := by
  obtain ⟨i1, i2⟩ := ix_is (x := 9 + 4 * nI s) (j := 9 + 4 * s + 0) (by rw [li 9, li 4, pk_mul, nI_add]; rfl) (by omega)
  rw [i2]
  exact ⟨i1, rfl⟩
theorem s_X8_hasSample {M : mw_M} {s : Nat} {x : Int32} {Q : Int32 → Prop} (hM : MK M) (hs : s < 6) (hq : Q (bl (x < rS (nw M) s 3))) : w_X8_hasSample 255 M 247 (nI s) x Q := by
  unfold w_X8_hasSample w_X8_hasSample_b22
  obtain ⟨h1, -⟩ := hM
  have h3 : (3 : Int32) = nI 3 := rfl
  obtain ⟨i1, i2⟩ := src_ix (M := M) (f := 3) hs (by decide)
  rw [h1, h3, i2]
  refine ⟨is247, is248, i1, fun h => ⟨Or.inl rfl, ?_⟩, fun h => ⟨Or.inr rfl, ?_⟩⟩
  · rw [bl_f (fun q => by rw [ti_lt] at q; rw [ti_le] at h; omega)] at hq; exact hq
  · rw [bl_t (by rw [ti_le] at h; rw [ti_lt]; omega)] at hq; exact hq
theorem s_X8_sampleOf {M : mw_M} {s : Nat} {x : Int32} {Q : Int32 → Prop} (hM : MK M) (hV : VS (nw M)) (hs : s < 6) (hq : Q (smpR (nw M) s x)) : w_X8_sampleOf 255 M 247 (nI s) x Q := by
  obtain ⟨h1, -⟩ := hM
  obtain ⟨⟨s1, s2⟩, ⟨a1, a2⟩, ⟨p1, p2⟩, -⟩ := hV s hs
  have l1 : (1 : Int32) = nI 1 := rfl
  have l2 : (2 : Int32) = nI 2 := rfl
  obtain ⟨i1, j1⟩ := src_ix (M := M) (f := 1) hs (by decide)
  obtain ⟨i2, j2⟩ := src_ix (M := M) (f := 2) hs (by decide)
  obtain ⟨i0, j0⟩ := src_ix0 (M := M) hs
  unfold w_X8_sampleOf w_X8_sampleOf_b87
  rw [h1, j0]
  rw [← l1, ← l2] at *
  refine ⟨is247, is248, i1, ?_⟩
  rintro _ rfl
  refine ⟨i2, ?_⟩
  rintro _ rfl
  rw [j1, j2]
  unfold smpR smp at hq
  have o2 : (2 : Int32).toInt = 2 := rfl
  have o1 : (1 : Int32).toInt = 1 := rfl
  refine ⟨fun e => by rw [e, Int32.toInt_zero] at p1; omega, ?_⟩
  rintro _ rfl
  refine ⟨i0, fun h => ?_, fun h => ⟨fun h2 => ?_, fun h2 => ?_⟩, fun h => ?_, fun h => ?_⟩
  · rw [if_neg (by omega), if_neg (by omega), if_neg (by omega)] at hq; exact hq
  · rw [if_pos h, if_pos h2] at hq; exact hq
  · rw [if_pos h, if_neg h2] at hq; exact hq
  · rw [if_neg (by omega), if_pos h] at hq; exact hq
  · rw [if_neg (by omega), if_neg (by omega), if_pos h] at hq
    rintro _ rfl
    refine ⟨fun e => ?_, hq⟩
    have h2 : (2 * rS (nw M) s 1).toInt = 2 * (rS (nw M) s 1).toInt := by rw [ti_mul (by rw [o2]; omega) (by rw [o2]; omega), o2]
    have e2 := congrArg Int64.toInt e
    rw [ti_l, ti_add (by rw [h2, o1]; omega) (by rw [h2, o1]; omega), h2, o1] at e2
    have z0 : (0 : Int64).toInt = 0 := rfl
    rw [z0] at e2
    omega
theorem s_X8_faded {n : Nat} {M : mw_M} {v i len cv : Int32} {Q : Int32 → Prop} {B : Int} (hv : -B ≤ v.toInt) (hv2 : v.toInt ≤ B) (hB : B ≤ 1000000) (hi : 0 ≤ i.toInt) (hl : len.toInt ≤ 4000) (hq : Q (fd v i len cv)) : w_X8_faded n M v i len cv Q := by
  unfold w_X8_faded w_X8_faded_b37
  rw [fd_eq] at hq
  refine ⟨fun h => ⟨fun e => by rw [e, ti_lt, Int32.toInt_zero] at h; omega, ?_⟩, fun h => ?_⟩
  · rintro _ rfl
    rw [if_pos h] at hq
    have hg := fg_bd (cv := cv) hi h hl
    have hvl : (Int32.toInt64 v).toInt = v.toInt := ti_l v
    refine ⟨fun h2 => ?_, fun h2 => ?_⟩
    · refine s_X8_applied (D := 1000) hvl hv hv2 hg.1.1 (by omega) (by omega) ?_
      unfold fg at hq
      rw [if_neg h2] at hq
      exact hq
    · have hg2 := hg.2
      unfold fg at hq hg2
      rw [if_pos h2] at hq hg2
      exact s_X8_applied (D := 1000) hvl hv hv2 hg2.1 (by omega) (by omega) hq
  · rw [if_neg h] at hq; exact hq
theorem s_X8_raw {M : mw_M} {c : Nat} {x : Int32} {Q : Int32 → Prop} (hM : MK M) (hS : VS (nw M)) (hc : c < 12) (h : VC1 (nw M) c) (hv : cov (nw M) c x) (hq : Q (rawR (nw M) c x)) : w_X8_raw 255 M 247 (nI c) x Q := by
  have hb1 := sv_bd hS h hv
  have hb2 := gv_bd hS h hv
  have hb3 := fv_bd hS h hv
  obtain ⟨k1, k2, k3⟩ := cov_i h hv
  obtain ⟨m1, m2, m3⟩ := back_i h hv
  obtain ⟨n1, n2⟩ := src_lt h
  have hA := at_i h hv
  obtain ⟨-, -, -, -, ⟨g1, g2⟩, ⟨-, f2⟩, ⟨-, f4⟩, -⟩ := id h
  have tail : ∀ l : Int64, l.toInt = (sv (nw M) c x).toInt → w_X8_raw_b51 255 M 247 (nI c) (x - rC (nw M) c 2) l Q := by
    intro l hl
    unfold w_X8_raw_b51
    refine ⟨is247, s_X8_clipOf hM hc (by decide) rfl (s_X8_applied (B := 10000) (D := 2000) hl hb1.1 hb1.2 g1 g2 (by omega) (s_X8_clipOf hM hc (by decide) rfl (s_X8_clipOf hM hc (by decide) rfl (s_X8_faded (B := 20000) hb2.1 hb2.2 (by omega) k2 f2 (s_X8_clipOf hM hc (by decide) rfl (s_X8_clipOf hM hc (by decide) rfl (s_X8_clipOf hM hc (by decide) rfl (s_X8_faded (B := 20000) hb3.1 hb3.2 (by omega) m3 f4 ?_))))))))⟩
    exact hq
  unfold w_X8_raw
  refine ⟨is247, s_X8_clipOf hM hc (by decide) rfl ?_⟩
  rintro _ rfl
  refine s_X8_clipOf hM hc (by decide) rfl (s_X8_clipOf hM hc (by decide) rfl ?_)
  rintro _ rfl
  rw [n2]
  refine s_X8_hasSample hM n1 ⟨fun h2 => tail _ ?_, fun h2 => s_X8_sampleOf hM hS n1 (tail _ ?_)⟩
  · rw [bl_0] at h2
    unfold sv
    rw [if_neg h2]
    rfl
  · rw [bl_0, Decidable.not_not] at h2
    unfold sv
    rw [if_pos h2]
    exact ti_l _
