/-! The reference: the calls that change clips -/
def Scl : Nat → Nat → Prop := fun a b => Sc a b ∨ St a b
def S5t : Nat → Nat → Prop := fun a b => S5 a b ∨ St a b
def Stw : Nat → Nat → Prop := fun a b => St a b ∨ (a = 248 ∧ b < 277)
/-- the first m rows agree -/
def agr (m : Nat) (T T' : Arr) : Prop := ∀ c f, c < m → T c f = T' c f
/-- a change of clips that is done but for its row -/
def Ck (M : mw_M) (k : Nat) (N : mw_M) : Prop := sm Scl M N ∧ MK N ∧ mI N 247 5 = 0 ∧ pushed M N k (kd k)
theorem Ck.st {M N N1 : mw_M} {k : Nat} (h : Ck M k N) (s : sm Stw N N1) : Ck M k N1 := by
  obtain ⟨h1, h2, h3, ⟨p1, p2, p3, p4, p5⟩⟩ := h
  have n7 : ∀ b, (b = 4 ∨ b = 5) → ¬ Stw 247 b := by
    rintro b hb ((q | q | ⟨-, q⟩) | ⟨q, -⟩)
    · cases q
    · cases q
    · omega
    · cases q
  have n9 : ∀ b, ¬ Stw 249 b := by
    rintro b ((q | q | ⟨q, -⟩) | ⟨q, -⟩) <;> cases q
  have n0 : ∀ b, ¬ Stw 250 b := by
    rintro b ((q | q | ⟨q, -⟩) | ⟨q, -⟩) <;> cases q
  refine ⟨h1.tr (s.mono ?_), s.MK h2, (s.2.1 247 5 (n7 5 (Or.inr rfl))).trans h3, ⟨(s.2.1 247 4 (n7 4 (Or.inl rfl))).trans p1, fun i j hi hj => (s.2.1 249 _ (n9 _)).trans (p2 i j hi hj), fun j hj => (s.2.1 249 _ (n9 _)).trans (p3 j hj), fun i hi => (s.2.2 250 _ (n0 _)).trans (p4 i hi), (s.2.2 250 _ (n0 _)).trans p5⟩⟩
  rintro a b (q | q)
  · exact Or.inr q
  · exact Or.inl (Or.inr q)
theorem At.ck {M N : mw_M} {k : Nat} {F : Row} (h : At M k N F) : Ck M k N := ⟨h.1.mono (fun a b q => Or.inl q), h.2.1, h.2.2.1, h.2.2.2.1⟩
theorem Ck.pre {M N N1 : mw_M} {k : Nat} (s : sm St M N) (h : Ck N k N1) : Ck M k N1 := by
  obtain ⟨h1, h2, h3, ⟨p1, p2, p3, p4, p5⟩⟩ := h
  have n8 : ∀ b, ¬ St 248 b := St8
  have n9 : ∀ b, ¬ St 249 b := by
    rintro b (q | q | ⟨q, -⟩) <;> cases q
  have n0 : ∀ b, ¬ St 250 b := by
    rintro b (q | q | ⟨q, -⟩) <;> cases q
  have n1 : ¬ St 247 1 := by
    rintro (q | q | ⟨-, q⟩) <;> cases q
  exact ⟨(s.mono (fun a b q => Or.inr q)).tr h1, h2, h3, p1, fun i j hi hj => (p2 i j hi hj).trans (s.2.1 _ _ (n9 _)), fun j hj => (p3 j hj).trans (s.2.1 _ _ (n8 _)), fun i hi => (p4 i hi).trans (s.2.2 _ _ (n0 _)), p5.trans (s.2.2 _ _ n1)⟩
theorem IK.st {M N : mw_M} {k : Nat} (h : IK M k) (s : sm St M N) : IK N k := ⟨s.MK h.1, (s.2.1 247 4 (by rintro (q | q | ⟨-, q⟩) <;> cases q)).trans h.2.1, h.2.2⟩
theorem s_refb {M : mw_M} {k c : Nat} {x : Int32} {K : mw_M → Int32 → Prop} (hI : IK M k) (hc : c < 9) (hx : x = nI c) (h1 : c ≠ 0 → ∀ M1, sm S5 M M1 → mI M1 247 5 = nI c → K M1 1) (h0 : c = 0 → ∀ M1, At M k M1 (nw M) → K M1 0) : w_X8_refusesChange 255 M 247 x K := by
  by_cases h : c = 0
  · exact s_ref hI (by omega) hx h1 h0
  · subst hx
    exact s_X8_refusesChange_x (fun q => h ((nI_eq (b := 0) (by omega) (by decide)).mp q)) (h1 h)
/-- the end of a change: refused by the law or taken over -/
theorem s_tail {M N : mw_M} {k m c : Nat} {T : Arr} {x y : Int32} {Q : mw_M → Int32 → Prop} (hI : IK M k) (sN : sm St M N) (t : Tr N m T) (hm : m ≤ 12 ∨ c ≠ 0) (hc : c < 9) (hx : x = nI c) (h1 : c ≠ 0 → ∀ M1, sm S5t M M1 → mI M1 247 5 = nI c → Q M1 0) (h0 : c = 0 → ∀ N1, Ck M k N1 → nw N1 = tov (nw M) m T → Q N1 y) : w_X8_refusesChange 255 N 247 x (fun M7 v8 => ((v8 = 0 → mw_is 255 247 8 ∧ w_X8_takesOver 255 M7 247 (fun M11 => Q M11 y)) ∧ (¬ v8 = 0 → Q M7 (0 : Int32)))) := by
  refine s_refb (hI.st sN) hc hx (fun g M1 s1 e1 => ⟨fun q => absurd q (by decide), fun _ => h1 g M1 ((sN.mono (fun a b q => Or.inr q)).tr (s1.mono (fun a b q => Or.inl q))) e1⟩) (fun g M1 a1 => ⟨fun _ => ⟨is247, ?_⟩, fun q => absurd rfl q⟩)
  have h6 : ∀ a b, (a = 251 ∨ (a = 247 ∧ b = 6)) → ¬ Sc a b := by
    rintro a b (rfl | ⟨rfl, rfl⟩) ((q | q | ⟨q, q2⟩) | ⟨q, -⟩)
    all_goals first | omega | cases q
  have t1 : Tr M1 m T := ⟨a1.2.1, (a1.1.2.1 247 6 (h6 _ _ (Or.inr ⟨rfl, rfl⟩))).trans t.2.1, t.2.2.1, fun c f hf => (a1.1.2.1 251 _ (h6 _ _ (Or.inl rfl))).trans (t.2.2.2 c f hf)⟩
  refine s_takesOver t1 (hm.elim id (fun q => absurd g q)) (fun N1 s1 e1 => ?_)
  refine h0 g N1 (Ck.pre sN (a1.ck.st (s1.mono (fun a b q => Or.inr q)))) ?_
  rw [e1, a1.2.2.2.2, sN.nw St8]
theorem s_X8_removeClip {M : mw_M} {k : Nat} {x1 : Int32} {Q : mw_M → Int32 → Prop} (hI : IK M k) (hC : VC (nw M)) (h1 : ¬ isCl (nw M) x1 → ∀ M1, sm S5t M M1 → mI M1 247 5 = 1 → Q M1 0) (h0 : isCl (nw M) x1 → ∀ T N, agr (cn (nw M)) T (rC (nw M)) → Ck M k N → nw N = tov (nw M) (cn (nw M) - 1) (lv T (nx x1) (cn (nw M))) → Q N (nI (cn (nw M) - 1))) : w_X8_removeClip 255 M 247 x1 Q := by
  have b14 : ∀ c, c = c1 (isCl (nw M) x1) → w_X8_removeClip_b14 255 M 247 x1 (nI c) 247 Q := by
    rintro _ rfl
    unfold w_X8_removeClip_b14
    refine ⟨is247, s_ref hI (c1_lt _) rfl (fun hc M1 s1 e1 => ⟨fun q => absurd q (by decide), fun _ => ?_⟩) (fun hc M1 a1 => ⟨fun _ => ⟨is247, ?_⟩, fun q => absurd rfl q⟩)⟩
    · have hn : ¬ isCl (nw M) x1 := fun q => hc (c1_t q)
      rw [c1_f hn] at e1
      exact h1 hn M1 (s1.mono (fun a b q => Or.inl q)) e1
    · have hx := c1_ok hc
      obtain ⟨ex, hcn, h12⟩ := cl_s hC hx
      have n1 := a1.2.2.2.2
      have hcn12 := hC.cn.2
      refine s_X8_tries a1.2.1 (by rw [n1]; exact hC) (fun N T s2 t2 g2 => ?_)
      rw [n1] at t2 g2
      refine s_leaves t2 hcn ex (fun N2 s3 t3 => s_takesOver t3 (by omega) (fun N3 s4 e4 => ?_))
      have e6 : mI N3 247 6 = nI (cn (nw M) - 1) := (s4.2.1 247 6 (fun q => by cases q.1)).trans t3.2.1
      rw [e6]
      refine h0 hx T N3 g2 (((a1.ck.st (s2.mono (fun a b q => Or.inl q))).st (s3.mono (fun a b q => Or.inl q))).st (s4.mono (fun a b q => Or.inr q))) ?_
      rw [e4, s3.nw St8, s2.nw St8, n1]
  unfold w_X8_removeClip
  exact ⟨is247, s_X8_isClip hI.1 hC (s_1 (B := fun c => w_X8_removeClip_b14 255 M 247 x1 (nI c) 247 Q) rfl (b14 _ rfl))⟩
theorem s_no1 {M : mw_M} {Q : mw_M → Prop} {c : Nat} {x : Int32} (hc : c ≠ 0) (hc9 : c < 9) (hx : x = nI c) (h : ∀ M1, sm S5 M M1 → mI M1 247 5 = nI c → Q M1) {B : mw_M → Prop} : w_X8_refuses 255 M 247 x (fun M19 v20 => ((v20 = 0 → B M19) ∧ (¬ v20 = 0 → Q M19))) := by
  subst hx
  refine s_X8_refuses ?_
  rw [bl_t (P := nI c ≠ 0) (fun q => hc ((nI_eq (b := 0) (by omega) (by decide)).mp q))]
  exact ⟨fun q => absurd q (by decide), fun _ => h _ (sm.si ⟨rfl, rfl⟩) (mI_at _ _ _ _)⟩
noncomputable section
def c1223 (P1 P2 P3 : Prop) : Nat := c123 P1 P2 P3
def moved (T : Arr) (c : Nat) (x : Int32) : Arr := up2 T c 2 x
end
theorem s_X8_moveClip {M : mw_M} {k : Nat} {x1 x2 : Int32} {Q : mw_M → Int32 → Prop} (hI : IK M k) (hC : VC (nw M)) (h1 : ¬ isCl (nw M) x1 → ∀ M1, sm S5t M M1 → mI M1 247 5 = 1 → Q M1 0) (h2 : isCl (nw M) x1 → ¬ isAt 0 (4000 - (rC (nw M) (nx x1) 4).toInt) x2 → ∀ M1, sm S5t M M1 → mI M1 247 5 = 2 → Q M1 0) (h3 : isCl (nw M) x1 → isAt 0 (4000 - (rC (nw M) (nx x1) 4).toInt) x2 → ∀ T, agr (cn (nw M)) T (rC (nw M)) → (¬ fine (crry (up2 T (nx x1) 2 x2) (nx x1) (cntA (up2 T (nx x1) 2 x2) (nx x1) (cn (nw M)))) (cn (nw M)) → ∀ M1, sm S5t M M1 → mI M1 247 5 = 3 → Q M1 0) ∧ (fine (crry (up2 T (nx x1) 2 x2) (nx x1) (cntA (up2 T (nx x1) 2 x2) (nx x1) (cn (nw M)))) (cn (nw M)) → ∀ N, Ck M k N → nw N = tov (nw M) (cn (nw M)) (crry (up2 T (nx x1) 2 x2) (nx x1) (cntA (up2 T (nx x1) 2 x2) (nx x1) (cn (nw M)))) → Q N (nI (cntA (up2 T (nx x1) 2 x2) (nx x1) (cn (nw M)))))) : w_X8_moveClip 255 M 247 x1 x2 Q := by
  unfold w_X8_moveClip
  refine ⟨is247, s_X8_isClip hI.1 hC ⟨fun g => ?_, fun g => ?_⟩⟩
  · rw [bl_0, Classical.not_not] at g
    obtain ⟨ex, hcn, h12⟩ := cl_s hC g
    have hcn12 := hC.cn.2
    replace h2 := h2 g
    replace h3 := h3 g
    have hV := hC.2 _ hcn
    generalize nx x1 = c at *
    subst ex
    clear g h1
    refine s_X8_tries hI.1 hC (fun N T s1 t1 g1 => ?_)
    refine s_of t1 (by omega) (f := 4) (by decide) rfl ?_
    rw [g1 c 4 hcn]
    have o4 : (4000 : Int32).toInt = 4000 := rfl
    obtain ⟨-, -, ⟨s0, -⟩, ⟨l1, l2⟩, -⟩ := hV
    have e4 : (4000 - rC (nw M) c 4).toInt = 4000 - (rC (nw M) c 4).toInt := by rw [ti_sub (by rw [o4]; omega) (by rw [o4]; omega), o4]
    refine s_X8_in ?_
    have z0 : (0 : Int64).toInt = 0 := rfl
    rw [ti_l, ti_l, e4, z0]
    refine s_set t1 (by omega) (f := 2) (by decide) rfl (fun N1 s2 t2 => s_settles t2 hcn rfl (fun N2 s3 t3 => ?_))
    have s13 := (s1.tr s2).tr s3
    have b79 : ∀ cd, (cd = 2 ∨ cd = 3 ∨ cd = 0) → (cd ≠ 0 → ∀ M1, sm S5t M M1 → mI M1 247 5 = nI cd → Q M1 0) → (cd = 0 → ∀ N, Ck M k N → nw N = tov (nw M) (cn (nw M)) (crry (up2 T c 2 x2) c (cntA (up2 T c 2 x2) c (cn (nw M)))) → Q N (nI (cntA (up2 T c 2 x2) c (cn (nw M))))) → w_X8_moveClip_b79 255 N2 247 (nI (cntA (up2 T c 2 x2) c (cn (nw M)))) (nI cd) 247 Q := by
      intro cd hcd q1 q0
      unfold w_X8_moveClip_b79
      exact ⟨is247, s_tail hI s13 t3 (Or.inl hcn12) (by omega) rfl q1 q0⟩
    refine ⟨fun f => ?_, fun f => ?_⟩
    · rw [bl_0, Classical.not_not] at f
      obtain ⟨q1, q0⟩ := h3 f T g1
      refine s_isFine t3 ⟨fun e => b79 3 (by decide) (fun _ => q1 (bl_0.mp e)) (fun q => absurd q (by decide)), fun e => b79 0 (by decide) (fun q => absurd rfl q) (fun _ => q0 (Classical.not_not.mp (fun r => e (bl_0.mpr r))))⟩
    · rw [bl_0] at f
      exact b79 2 (by decide) (fun _ => h2 f) (fun q => absurd q (by decide))
  · rw [bl_0] at g
    unfold w_X8_moveClip_b21
    exact s_no1 (c := 1) (by decide) (by decide) rfl (fun M1 s1 e1 => h1 g M1 (s1.mono (fun a b q => Or.inl q)) e1)
