/-! The reference: render -/
noncomputable section
def ab (x : Int32) : Int32 := if 0 ≤ x then x else -x
def mx (a b : Int32) : Int32 := if a ≤ b then b else a
def nxt (R : Row) : Int32 := if R 0 + 1 = R 2 ∨ R 0 + 1 = 4000 then R 1 else R 0 + 1
def rnd (R : Row) : Row := up (up (up (up (up (up R 4 (R 4 + 1)) 5 (mx (ab (mixL R (nx (R 0)))) (R 5))) 6 (mx (ab (mixRt R (nx (R 0)))) (R 6))) 7 (R 7 + iI (mixN R (nx (R 0))))) 0 (R 0 + 1)) 0 (nxt R)
def rsum (R : Row) (K : Int64) : Int64 := 31 * (31 * K + Int32.toInt64 (mixL R (nx (R 0)))) + Int32.toInt64 (mixRt R (nx (R 0)))
def rndN (R : Row) : Nat → Row
  | 0 => R
  | c + 1 => rnd (rndN R c)
def rsumN (R : Row) (K : Int64) : Nat → Int64
  | 0 => K
  | c + 1 => rsum (rndN R c) (rsumN R K c)
end
theorem rnd_eqv (R : Row) : eqv R (rnd R) := by
  intro j hj
  unfold rnd
  rw [up_ne (by omega), up_ne (by omega), up_ne (by omega), up_ne (by omega), up_ne (by omega), up_ne (by omega)]
theorem rnd_12 (R : Row) : rnd R 1 = R 1 ∧ rnd R 2 = R 2 ∧ rnd R 0 = nxt R := ⟨rfl, rfl, rfl⟩
theorem rnd_VAL {R : Row} (h : VAL R) : VAL (rnd R) := by
  refine (rnd_eqv R).VAL h ?_
  obtain ⟨⟨p1, p2⟩, ⟨a1, a2, a3⟩, g⟩ := h.2.2.2.2.1
  obtain ⟨e1, e2, e0⟩ := rnd_12 R
  refine ⟨?_, ⟨by rw [e1]; exact a1, by rw [e1, e2]; exact a2, by rw [e2]; exact a3⟩, by rw [rnd_eqv R 3 (Or.inr rfl)]; exact g⟩
  rw [e0]
  have o1 : (1 : Int32).toInt = 1 := rfl
  have o4 : (4000 : Int32).toInt = 4000 := rfl
  have e := ti_add (x := R 0) (y := 1) (by rw [o1]; omega) (by rw [o1]; omega)
  unfold nxt
  by_cases c : R 0 + 1 = R 2 ∨ R 0 + 1 = 4000
  · rw [if_pos c]; omega
  · rw [if_neg c, e, o1]
    have : (R 0).toInt + 1 ≠ 4000 := fun q => c (Or.inr (ti_inj (by rw [e, o1, o4, q])))
    omega
theorem rndN_VAL {R : Row} (h : VAL R) : ∀ c, VAL (rndN R c)
  | 0 => h
  | c + 1 => rnd_VAL (rndN_VAL h c)
def Sst : Nat → Nat → Prop := fun a b => (a = 248 ∧ b < 277) ∨ a = 253 ∨ (a = 247 ∧ (b = 1 ∨ 10 ≤ b))
theorem s_wr2 {N : mw_M} {j : Nat} {F : Row} {x1 x2 : Int32} {Q : mw_M → Prop} (h : sm Sst N N) (hM : MK N) (hF : nw N = F) (hj : j < 277) (hx : x1 = nI j) (hq : ∀ N1, sm Sst N N1 → MK N1 → nw N1 = up F j x2 → (∀ b, mI N1 247 b = mI N 247 b) → (∀ b, mL N1 247 b = mL N 247 b) → Q N1) : mw_is 255 (mP N 247 0) 10 ∧ vp_in x1 (Ln (mP N 247 0)) ∧ ∀ N1 : mw_M, N1 = sI N (mP N 247 0) (Int32.toNatClampNeg x1) x2 → Q N1 := by
  obtain ⟨i1, j1⟩ := ix_is hx hj
  have h1 := hM.1
  rw [h1, j1]
  refine ⟨is248, i1, ?_⟩
  rintro _ rfl
  have s : sm Sst N (sI N 248 j x2) := sm.si (Or.inl ⟨rfl, hj⟩)
  exact hq _ s (s.MK hM) (by rw [nw_sI, hF]) (fun b => mI_ne (Or.inl (by decide))) (fun b => mL_sI _ _ _ _ _ _)
theorem s_X8_renders {M : mw_M} {Q : mw_M → Prop} (hM : MK M) (hV : VAL (nw M)) (hl : ∀ t, t < 4 → laid M t 99) (hq : ∀ M1, sm (fun a b => Sst a b ∧ a ≠ 253) M M1 → nw M1 = rnd (nw M) → mL M1 247 1 = rsum (nw M) (mL M 247 1) → Q M1) : w_X8_renders 255 M 247 Q := by
  unfold w_X8_renders
  obtain ⟨i0, j0⟩ := ix_is (x := 0) (j := 0) rfl (by decide)
  obtain ⟨i1, j1⟩ := ix_is (x := 1) (j := 1) rfl (by decide)
  obtain ⟨i2, j2⟩ := ix_is (x := 2) (j := 2) rfl (by decide)
  obtain ⟨i4, j4⟩ := ix_is (x := 4) (j := 4) rfl (by decide)
  obtain ⟨i5, j5⟩ := ix_is (x := 5) (j := 5) rfl (by decide)
  obtain ⟨i6, j6⟩ := ix_is (x := 6) (j := 6) rfl (by decide)
  obtain ⟨i7, j7⟩ := ix_is (x := 7) (j := 7) rfl (by decide)
  have hp := hV.2.2.2.2.1.1
  obtain ⟨hx, hn⟩ := pl_s (x := nw M 0) hp
  refine ⟨is247, ?_⟩
  rw [hM.1, j0]
  have e0 : mI M 248 0 = nI (nx (nw M 0)) := hx
  rw [e0]
  refine ⟨is248, i0, s_X8_mixes hM hV hn (fun t ht => (hl t ht).mono (by omega)) (fun N s1 eL eR eN => ?_)⟩
  generalize hLv : mixL (nw M) (nx (nw M 0)) = L at eL
  generalize hRv : mixRt (nw M) (nx (nw M 0)) = Rr at eR
  generalize hNv : mixN (nw M) (nx (nw M 0)) = Nn at eN
  have hrnd : rnd (nw M) = up (up (up (up (up (up (nw M) 4 (nw M 4 + 1)) 5 (mx (ab L) (nw M 5))) 6 (mx (ab Rr) (nw M 6))) 7 (nw M 7 + iI Nn)) 0 (nw M 0 + 1)) 0 (nxt (nw M)) := by
    unfold rnd; rw [hLv, hRv, hNv]
  have hrs : rsum (nw M) (mL M 247 1) = 31 * (31 * mL M 247 1 + Int32.toInt64 L) + Int32.toInt64 Rr := by
    unfold rsum; rw [hLv, hRv]
  rw [hrnd, hrs] at hq
  have kN := s1.MK hM
  have nN : nw N = nw M := s1.nw (fun b q => absurd q.1 (by decide))
  have cN : mL N 247 1 = mL M 247 1 := s1.2.2 247 1 (by rintro ⟨-, q⟩; omega)
  have sN : sm (fun a b => Sst a b ∧ a ≠ 253) M N := s1.mono (fun a b q => ⟨Or.inr (Or.inr ⟨q.1, Or.inr (by have := q.2; omega)⟩), by have := q.1; omega⟩)
  clear hrnd hrs hLv hRv hNv s1
  have last : ∀ (N1 : mw_M) (F : Row) (v : Int32), sm (fun a b => Sst a b ∧ a ≠ 253) M N1 → MK N1 → nw N1 = F → mL N1 247 1 = 31 * (31 * mL M 247 1 + Int32.toInt64 L) + Int32.toInt64 Rr → up F 0 v = up (up (up (up (up (up (nw M) 4 (nw M 4 + 1)) 5 (mx (ab L) (nw M 5))) 6 (mx (ab Rr) (nw M 6))) 7 (nw M 7 + iI Nn)) 0 (nw M 0 + 1)) 0 (nxt (nw M)) → w_X8_renders_b222 255 N1 v 0 (mP N1 247 0) Q := by
    intro N1 F v s k n c hF
    unfold w_X8_renders_b222
    rw [k.1, j0]
    refine ⟨is248, i0, ?_⟩
    rintro _ rfl
    exact hq _ (s.tr (sm.si ⟨Or.inl ⟨rfl, by decide⟩, by decide⟩)) (by rw [nw_sI, n, hF]) ((mL_sI _ _ _ _ _ _).trans c)
  have sS : ∀ {N1 : mw_M} {j : Nat} {x : Int32}, sm (fun a b => Sst a b ∧ a ≠ 253) M N1 → j < 277 → sm (fun a b => Sst a b ∧ a ≠ 253) M (sI N1 248 j x) := fun h hj => h.tr (sm.si ⟨Or.inl ⟨rfl, hj⟩, by decide⟩)
  have b114 : ∀ (N1 : mw_M) (v : Int32), v = mx (ab Rr) (nw M 6) → sm (fun a b => Sst a b ∧ a ≠ 253) M N1 → MK N1 → nw N1 = up (up (nw M) 4 (nw M 4 + 1)) 5 (mx (ab L) (nw M 5)) → mL N1 247 1 = mL M 247 1 → mI N1 247 10 = L → mI N1 247 11 = Rr → mI N1 247 12 = iI Nn → w_X8_renders_b114 255 N1 247 v 6 (mP N1 247 0) Q := by
    rintro N1 v hv s k n c g10 g11 g12
    unfold w_X8_renders_b114
    rw [k.1, j6]
    refine ⟨is248, i6, ?_⟩
    rintro _ rfl
    have k2 : mP (sI N1 248 6 v) 247 0 = 248 := k.1
    have n2 : nw (sI N1 248 6 v) = up (up (up (nw M) 4 (nw M 4 + 1)) 5 (mx (ab L) (nw M 5))) 6 (mx (ab Rr) (nw M 6)) := by rw [nw_sI, n, hv]
    have s2 := sS (x := v) s (j := 6) (by decide)
    have c2 : mL (sI N1 248 6 v) 247 1 = mL M 247 1 := (mL_sI _ _ _ _ _ _).trans c
    have h10 : mI (sI N1 248 6 v) 247 10 = L := (mI_ne (Or.inl (by decide))).trans g10
    have h11 : mI (sI N1 248 6 v) 247 11 = Rr := (mI_ne (Or.inl (by decide))).trans g11
    have h12 : mI (sI N1 248 6 v) 247 12 = iI Nn := (mI_ne (Or.inl (by decide))).trans g12
    have kk2 := s2.MK hM
    generalize sI N1 248 6 v = N2 at *
    have e7 : mI N2 248 7 = nw M 7 := (congrFun n2 7).trans rfl
    rw [k2, j7, e7, h12]
    refine ⟨is247, is248, i7, ?_⟩
    rintro _ rfl
    rintro _ rfl
    rintro _ rfl
    have n3 : nw (sL (sL (sI N2 248 7 (nw M 7 + iI Nn)) 247 1 (31 * mL (sI N2 248 7 (nw M 7 + iI Nn)) 247 1 + Int32.toInt64 (mI (sI N2 248 7 (nw M 7 + iI Nn)) 247 10))) 247 1 (31 * mL (sL (sI N2 248 7 (nw M 7 + iI Nn)) 247 1 (31 * mL (sI N2 248 7 (nw M 7 + iI Nn)) 247 1 + Int32.toInt64 (mI (sI N2 248 7 (nw M 7 + iI Nn)) 247 10))) 247 1 + Int32.toInt64 (mI (sL (sI N2 248 7 (nw M 7 + iI Nn)) 247 1 (31 * mL (sI N2 248 7 (nw M 7 + iI Nn)) 247 1 + Int32.toInt64 (mI (sI N2 248 7 (nw M 7 + iI Nn)) 247 10))) 247 11))) = up (up (up (up (nw M) 4 (nw M 4 + 1)) 5 (mx (ab L) (nw M 5))) 6 (mx (ab Rr) (nw M 6))) 7 (nw M 7 + iI Nn) := by
      rw [← n2, ← nw_sI]
      funext j
      show mI _ _ _ = mI _ _ _
      rw [mI_sL, mI_sL]
    have c3 : mL (sL (sL (sI N2 248 7 (nw M 7 + iI Nn)) 247 1 (31 * mL (sI N2 248 7 (nw M 7 + iI Nn)) 247 1 + Int32.toInt64 (mI (sI N2 248 7 (nw M 7 + iI Nn)) 247 10))) 247 1 (31 * mL (sL (sI N2 248 7 (nw M 7 + iI Nn)) 247 1 (31 * mL (sI N2 248 7 (nw M 7 + iI Nn)) 247 1 + Int32.toInt64 (mI (sI N2 248 7 (nw M 7 + iI Nn)) 247 10))) 247 1 + Int32.toInt64 (mI (sL (sI N2 248 7 (nw M 7 + iI Nn)) 247 1 (31 * mL (sI N2 248 7 (nw M 7 + iI Nn)) 247 1 + Int32.toInt64 (mI (sI N2 248 7 (nw M 7 + iI Nn)) 247 10))) 247 11))) 247 1 = 31 * (31 * mL M 247 1 + Int32.toInt64 L) + Int32.toInt64 Rr := by
      rw [mL_at, mL_at, mL_sI, c2, mI_sL, mI_ne (Or.inl (by decide)), mI_ne (Or.inl (by decide)), h10, h11]
    have s3 := ((sS (x := nw M 7 + iI Nn) s2 (j := 7) (by decide)).tr (sm.sl (k := 247) (j := 1) (x := 31 * mL (sI N2 248 7 (nw M 7 + iI Nn)) 247 1 + Int32.toInt64 (mI (sI N2 248 7 (nw M 7 + iI Nn)) 247 10)) ⟨Or.inr (Or.inr ⟨rfl, Or.inl rfl⟩), by decide⟩)).tr (sm.sl (k := 247) (j := 1) (x := 31 * mL (sL (sI N2 248 7 (nw M 7 + iI Nn)) 247 1 (31 * mL (sI N2 248 7 (nw M 7 + iI Nn)) 247 1 + Int32.toInt64 (mI (sI N2 248 7 (nw M 7 + iI Nn)) 247 10))) 247 1 + Int32.toInt64 (mI (sL (sI N2 248 7 (nw M 7 + iI Nn)) 247 1 (31 * mL (sI N2 248 7 (nw M 7 + iI Nn)) 247 1 + Int32.toInt64 (mI (sI N2 248 7 (nw M 7 + iI Nn)) 247 10))) 247 11)) ⟨Or.inr (Or.inr ⟨rfl, Or.inl rfl⟩), by decide⟩)
    have k3 := (s3.MK hM).1
    have kk3 := s3.MK hM
    generalize sL (sL (sI N2 248 7 (nw M 7 + iI Nn)) 247 1 (31 * mL (sI N2 248 7 (nw M 7 + iI Nn)) 247 1 + Int32.toInt64 (mI (sI N2 248 7 (nw M 7 + iI Nn)) 247 10))) 247 1 (31 * mL (sL (sI N2 248 7 (nw M 7 + iI Nn)) 247 1 (31 * mL (sI N2 248 7 (nw M 7 + iI Nn)) 247 1 + Int32.toInt64 (mI (sI N2 248 7 (nw M 7 + iI Nn)) 247 10))) 247 1 + Int32.toInt64 (mI (sL (sI N2 248 7 (nw M 7 + iI Nn)) 247 1 (31 * mL (sI N2 248 7 (nw M 7 + iI Nn)) 247 1 + Int32.toInt64 (mI (sI N2 248 7 (nw M 7 + iI Nn)) 247 10))) 247 11)) = N3 at n3 c3 s3 k3 kk3 ⊢
    have e30 : mI N3 248 0 = nw M 0 := (congrFun n3 0).trans rfl
    rw [k3, j0, e30]
    refine ⟨is248, i0, ?_⟩
    rintro _ rfl
    have k4 : mP (sI N3 248 0 (nw M 0 + 1)) 247 0 = 248 := k3
    have n4 : nw (sI N3 248 0 (nw M 0 + 1)) = up (up (up (up (up (nw M) 4 (nw M 4 + 1)) 5 (mx (ab L) (nw M 5))) 6 (mx (ab Rr) (nw M 6))) 7 (nw M 7 + iI Nn)) 0 (nw M 0 + 1) := by rw [nw_sI, n3]
    have s4 := sS (x := nw M 0 + 1) s3 (j := 0) (by decide)
    have kk4 := s4.MK hM
    have c4 : mL (sI N3 248 0 (nw M 0 + 1)) 247 1 = 31 * (31 * mL M 247 1 + Int32.toInt64 L) + Int32.toInt64 Rr := (mL_sI _ _ _ _ _ _).trans c3
    generalize sI N3 248 0 (nw M 0 + 1) = N4 at *
    have f0 : mI N4 248 0 = nw M 0 + 1 := (congrFun n4 0).trans rfl
    have f1 : mI N4 248 1 = nw M 1 := (congrFun n4 1).trans rfl
    have f2 : mI N4 248 2 = nw M 2 := (congrFun n4 2).trans rfl
    have b207 : nxt (nw M) = nw M 1 → w_X8_renders_b207 255 N4 247 0 248 Q := by
      intro hx
      unfold w_X8_renders_b207
      have := last N4 _ (nw M 1) s4 kk4 n4 c4 (by rw [hx])
      rw [k4] at this ⊢
      rw [j1, f1]
      exact ⟨is247, is248, i1, this⟩
    rw [k4, j2, f0, f2]
    refine ⟨is248, i0, i2, fun h => b207 (if_pos (Or.inl h)), fun h => ⟨fun h2 => ?_, fun h2 => b207 (if_pos (Or.inr h2))⟩⟩
    have := last N4 _ (nw M 0 + 1) s4 kk4 n4 c4 (by rw [show nxt (nw M) = nw M 0 + 1 from if_neg (fun q => q.elim h h2)])
    rw [k4] at this
    exact this
  have b85 : ∀ (N1 : mw_M) (v : Int32), v = mx (ab L) (nw M 5) → sm (fun a b => Sst a b ∧ a ≠ 253) M N1 → MK N1 → nw N1 = up (nw M) 4 (nw M 4 + 1) → mL N1 247 1 = mL M 247 1 → mI N1 247 10 = L → mI N1 247 11 = Rr → mI N1 247 12 = iI Nn → w_X8_renders_b85 255 N1 247 (ab Rr) v 5 (mP N1 247 0) Q := by
    rintro N1 v hv s k n c g10 g11 g12
    unfold w_X8_renders_b85
    rw [k.1, j5]
    refine ⟨is248, i5, ?_⟩
    rintro _ rfl
    have n2 : nw (sI N1 248 5 v) = up (up (nw M) 4 (nw M 4 + 1)) 5 (mx (ab L) (nw M 5)) := by rw [nw_sI, n, hv]
    have s2 := sS (x := v) s (j := 5) (by decide)
    have c2 : mL (sI N1 248 5 v) 247 1 = mL M 247 1 := (mL_sI _ _ _ _ _ _).trans c
    have h10 : mI (sI N1 248 5 v) 247 10 = L := (mI_ne (Or.inl (by decide))).trans g10
    have h11 : mI (sI N1 248 5 v) 247 11 = Rr := (mI_ne (Or.inl (by decide))).trans g11
    have h12 : mI (sI N1 248 5 v) 247 12 = iI Nn := (mI_ne (Or.inl (by decide))).trans g12
    have kk2 := s2.MK hM
    generalize sI N1 248 5 v = N2 at *
    have e6 : mI N2 248 6 = nw M 6 := (congrFun n2 6).trans rfl
    have w1 := fun v hv => b114 N2 v hv s2 kk2 n2 c2 h10 h11 h12
    rw [kk2.1] at w1 ⊢
    rw [j6, e6]
    exact ⟨is247, is248, i6, fun h => w1 _ (if_pos h).symm, fun h => w1 _ (if_neg h).symm⟩
  have b49 : w_X8_renders_b49 255 N 247 (ab L) (ab Rr) Q := by
    unfold w_X8_renders_b49
    have e4 : mI N 248 4 = nw M 4 := congrFun nN 4
    rw [kN.1, j4, e4]
    refine ⟨is247, is248, i4, ?_⟩
    rintro _ rfl
    have n2 : nw (sI N 248 4 (nw M 4 + 1)) = up (nw M) 4 (nw M 4 + 1) := by rw [nw_sI, nN]
    have s2 := sS (x := nw M 4 + 1) sN (j := 4) (by decide)
    have c2 : mL (sI N 248 4 (nw M 4 + 1)) 247 1 = mL M 247 1 := (mL_sI _ _ _ _ _ _).trans cN
    have h10 : mI (sI N 248 4 (nw M 4 + 1)) 247 10 = L := (mI_ne (Or.inl (by decide))).trans eL
    have h11 : mI (sI N 248 4 (nw M 4 + 1)) 247 11 = Rr := (mI_ne (Or.inl (by decide))).trans eR
    have h12 : mI (sI N 248 4 (nw M 4 + 1)) 247 12 = iI Nn := (mI_ne (Or.inl (by decide))).trans eN
    have kk2 := s2.MK hM
    generalize sI N 248 4 (nw M 4 + 1) = N2 at *
    have e5 : mI N2 248 5 = nw M 5 := (congrFun n2 5).trans rfl
    have w1 := fun v hv => b85 N2 v hv s2 kk2 n2 c2 h10 h11 h12
    rw [kk2.1] at w1 ⊢
    rw [j5, e5]
    exact ⟨is248, i5, fun h => w1 _ (if_pos h).symm, fun h => w1 _ (if_neg h).symm⟩
  have b29 : w_X8_renders_b29 255 N 247 (ab L) Q := by
    unfold w_X8_renders_b29
    rw [eR]
    refine ⟨is247, fun h => ?_, fun h => ?_⟩
    · have : ab Rr = Rr := if_pos h
      rw [this] at b49; exact b49
    · have : ab Rr = -Rr := if_neg h
      rw [this] at b49; exact b49
  rw [eL]
  refine ⟨fun h => ?_, fun h => ?_⟩
  · have : ab L = L := if_pos h
    rw [this] at b29; exact b29
  · have : ab L = -L := if_neg h
    rw [this] at b29; exact b29
def Sr : Nat → Nat → Prop := fun a b => Sd a b ∨ Sq a b
/-- a render under way -/
def Ar (M : mw_M) (k : Nat) (N : mw_M) (F : Row) (K : Int64) : Prop := sm Sr M N ∧ MK N ∧ mI N 247 5 = 0 ∧ pushed M N k (kd k) ∧ nw N = F ∧ mL N 247 1 = K
theorem Ar.st {M N N1 : mw_M} {k : Nat} {F F' : Row} {K K' : Int64} (h : Ar M k N F K) (s : sm Sst N N1) (hF : nw N1 = F') (hK : mL N1 247 1 = K') : Ar M k N1 F' K' := by
  obtain ⟨h1, h2, h3, ⟨p1, p2, p3, p4, p5⟩, -, -⟩ := h
  have n7 : ∀ b, (b = 4 ∨ b = 5) → ¬ Sst 247 b := by
    rintro b hb (⟨q, -⟩ | q | ⟨-, q⟩)
    · cases q
    · cases q
    · omega
  have n9 : ∀ b, ¬ Sst 249 b := by
    rintro b (⟨q, -⟩ | q | ⟨q, -⟩) <;> cases q
  have n0 : ∀ b, ¬ Sst 250 b := by
    rintro b (⟨q, -⟩ | q | ⟨q, -⟩) <;> cases q
  refine ⟨h1.tr (s.mono ?_), s.MK h2, (s.2.1 247 5 (n7 5 (Or.inr rfl))).trans h3, ⟨(s.2.1 247 4 (n7 4 (Or.inl rfl))).trans p1, fun i j hi hj => (s.2.1 249 _ (n9 _)).trans (p2 i j hi hj), fun j hj => (s.2.1 249 _ (n9 _)).trans (p3 j hj), fun i hi => (s.2.2 250 _ (n0 _)).trans (p4 i hi), (s.2.2 250 _ (n0 _)).trans p5⟩, hF, hK⟩
  rintro a b (q | q | ⟨q, q2 | q2⟩)
  · exact Or.inl (Or.inl (Or.inr q))
  · exact Or.inr (Or.inl q)
  · exact Or.inl (Or.inr ⟨q, q2⟩)
  · exact Or.inr (Or.inr ⟨q, Or.inr q2⟩)
theorem At.r {M N : mw_M} {k : Nat} {F : Row} (h : At M k N F) : Ar M k N F (mL M 247 1) := by
  refine ⟨h.1.mono (fun a b q => Or.inl (Or.inl q)), h.2.1, h.2.2.1, h.2.2.2.1, h.2.2.2.2, h.1.2.2 247 1 ?_⟩
  rintro ((q | q | ⟨-, q⟩) | ⟨q, -⟩)
  · cases q
  · cases q
  · omega
  · cases q
theorem s_X8_render {M : mw_M} {k : Nat} {x1 : Int32} {Q : mw_M → Int32 → Prop} (hI : IK M k) (hV : VAL (nw M)) (h1 : ¬ isAt 1 1000 x1 → ∀ M1, sm S5 M M1 → mI M1 247 5 = 1 → Q M1 0) (h0 : isAt 1 1000 x1 → ∀ N, Ar M k N (rndN (nw M) (nx x1)) (rsumN (nw M) (mL M 247 1) (nx x1)) → Q N (rndN (nw M) (nx x1) 0)) : w_X8_render 255 M 247 x1 Q := by
  have b18 : ∀ c, c = c1 (isAt 1 1000 x1) → w_X8_render_b18 255 M 247 x1 (nI c) 247 Q := by
    rintro _ rfl
    unfold w_X8_render_b18
    refine ⟨is247, s_ref hI (c1_lt _) rfl (fun hc M1 s1 e1 => ⟨fun q => absurd q (by decide), fun _ => ?_⟩) (fun hc M1 a1 => ⟨fun _ => ⟨is247, ?_⟩, fun q => absurd rfl q⟩)⟩
    · have hn : ¬ isAt 1 1000 x1 := fun q => hc (c1_t q)
      rw [c1_f hn] at e1
      exact h1 hn M1 s1 e1
    · have hx := c1_ok hc
      have hq := h0 hx
      have hx0 : x1 = nI (nx x1) := nx_s (by have := hx.1; omega)
      have hx1 : nx x1 ≤ 1000 := by have := hx.2; unfold nx; omega
      generalize nx x1 = m at *
      subst hx0
      have n1 := a1.2.2.2.2
      refine s_X8_laysDucks (last := 99) a1.2.1 (by rw [n1]; exact hV) (by decide) (fun M2 s2 l2 => ?_)
      have n2 : nw M2 = nw M := (s2.nw (fun b q => by cases q)).trans n1
      have r1 := a1.r
      have a2 : Ar M k M2 (nw M) (mL M 247 1) := r1.st (s2.mono (fun a b q => Or.inr (Or.inl q))) n2 ((s2.2.2 247 1 (fun q => by cases q)).trans r1.2.2.2.2.2)
      have l2' : ∀ t, t < 4 → rT (nw M) t 29 ≠ -1 → ∀ m, m ≤ 99 → mI M2 253 (100 * t + m) = dk (nw M) t (m + 1) := by
        intro t ht hne m hm
        have := l2 t ht (by rw [n2]; exact hne) m hm
        rw [n2] at this
        exact this
      unfold w_X8_render_b34
      refine ⟨fun N z => ∃ c, z = nI c ∧ c ≤ m ∧ Ar M k N (rndN (nw M) c) (rsumN (nw M) (mL M 247 1) c) ∧ (∀ j, mI N 253 j = mI M2 253 j) ∧ eqv (nw M) (rndN (nw M) c), fun _ z => 1000 - z.toInt.toNat, ⟨0, rfl, Nat.zero_le _, a2, fun _ => rfl, fun _ _ => rfl⟩, ?_⟩
      rintro N _ ⟨c, rfl, hc2, aN, hE, hQ⟩
      rw [nI_leI (by omega) (by omega)]
      refine ⟨fun g => ⟨is247, ?_⟩, fun g => ⟨is247, ?_⟩⟩
      · have : c = m := by omega
        subst this
        obtain ⟨i0, j0⟩ := ix_is (x := 0) (j := 0) rfl (by decide)
        have e0 : mI N 248 0 = rndN (nw M) c 0 := congrFun aN.2.2.2.2.1 0
        rw [aN.2.1.1, j0, e0]
        exact ⟨is248, i0, hq N aN⟩
      · have nN := aN.2.2.2.2.1
        refine s_X8_renders aN.2.1 (by rw [nN]; exact rndN_VAL hV c) (fun t ht hne m hm => ?_) (fun N1 s1 e1 e2 => ?_)
        · rw [nN] at hne ⊢
          rw [hQ.T] at hne
          rw [hQ.dk, hE]
          exact l2' t ht hne m hm
        · rintro _ rfl
          rw [nN] at e1 e2
          rw [aN.2.2.2.2.2] at e2
          refine ⟨⟨c + 1, nI_1 c, by omega, aN.st (s1.mono (fun a b q => q.1)) e1 e2, fun j => (s1.2.1 253 j (fun q => q.2 rfl)).trans (hE j), fun j hj => (rnd_eqv _ j hj).trans (hQ j hj)⟩, mu_dec (by omega) (by decide)⟩
  unfold w_X8_render
  refine s_inc 1 1000 rfl rfl (fun h => b18 1 (c1_f h).symm) (fun h => b18 0 (c1_t h).symm)
