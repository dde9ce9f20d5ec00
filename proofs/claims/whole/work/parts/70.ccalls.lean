/-! The class: the calls that change clips -/
theorem CF_sp {M N : mw_M} {σ : Nat → Nat} {k : Nat} {R : Row} {K : Int64} {P : Nat → Row} {PK : Nat → Int64} (h : CF M σ k R K P PK) (f : fo (blk (σ 1)) M N) (hsk : sk N (σ 1)) : fo ST M N ∧ CF N σ k R K P PK := by
  have b1 := (h.1.2.2.2.1 1 (by decide)).1
  exact ⟨f.mono (fun a q => ST_blk b1 q), cst_fo h.1 f (fun a q => Or.inl q) hsk (blk_cvk b1 f h.1.2.1), shw_fo h.1 h.2.1 f (fun a q => Or.inl q), fun t ht => cv_fo f (fun q => by have := (bs_nb b1 q).2.2.2.2; omega) (fun q => by have := (bs_nb b1 q).2.2.2.2; omega) (fun _ _ => rfl) (h.2.2 t ht)⟩
theorem s_clipEnd {M M1 N : mw_M} {σ : Nat → Nat} {k m : Nat} {R : Row} {K : Int64} {P : Nat → Row} {PK : Nat → Int64} {S : Arr} {Q : mw_M → Prop} {X : mw_M → String → Prop} (h : CF M σ k R K P PK) (s1 : sm (Sb (σ 1)) M M1) (r1 : rep M1 (σ 1) R K) (f : Fc (σ 1) M1 N) (c : Cl N (σ 1) m S) (hCV : lawC S m → ∀ c, c < m → CV (S c)) (hTS : TS S m) (hbad : ¬ lawC S m → ∀ M2, fo ST M M2 → CF M2 σ k R K P PK → X M2 "java/lang/UnsupportedOperationException") (hok : lawC S m → ∀ M3 σ3, fo ST M M3 → CF M3 σ3 (nk k) (tov R m S) K (psh k P R) (psh k PK K) → Q M3) : w_X7_checkLawful 255 N (σ 1) (w_X7_keepSound 255 N 1 Q) X := by
  have b1 := (h.1.2.2.2.1 1 (by decide)).1
  have hV := h.2.1.1.2
  have fN : fo (blk (σ 1)) M N := (s1.fo (fun a b q => q)).tr f.blk
  unfold w_X7_checkLawful
  refine ⟨kS b1, s_X5_isLawful b1 c ?_⟩
  rw [bl_0, Classical.not_not]
  refine ⟨fun hl => s_keepSound h fN c.1 (rep_tov b1 hV r1 f c) (V_tov hV c.2.2.1 (hCV hl) hTS ((lawC_fine hTS).mp hl)) (hok hl), fun hl => ?_⟩
  obtain ⟨f2, c2⟩ := CF_sp h fN c.1
  exact hbad hl N f2 c2
theorem s_room {M : mw_M} {σ : Nat → Nat} {k : Nat} {R : Row} {K : Int64} {P : Nat → Row} {PK : Nat → Int64} {Q : Prop} {X : mw_M → String → Prop} (h : CF M σ k R K P PK) (h1 : cn R = 12 → X M "java/lang/IllegalStateException") (h0 : cn R ≠ 12 → cn R < 12 → Q) : w_X7_checkRoomForClip 255 M 1 Q X := by
  obtain ⟨⟨g0, -, hb⟩, hsk, hp, hV, hk, hc⟩ := h.cx
  obtain ⟨e8, h12⟩ := hV.2.1.cn
  unfold w_X7_checkRoomForClip
  rw [g0, hp.2.1, e8, li 12, nI_ltI (by omega) (by decide)]
  exact ⟨is1, kS hb, fun q => h0 (by omega) q, fun q => h1 (by omega)⟩
theorem CV_crry {T : Arr} {c m n : Nat} (hc : c < m) (hn : n < m) (h : ∀ i, i < m → CV (T i)) : ∀ i, i < m → CV (crry T c n i) := fun i hi => by
  rw [crry_src]
  exact h _ (srcI_lt hc hn hi)
theorem TS_R {R : Row} (hL : VL R) : TS (rC R) (cn R) := fun i hi => by
  rw [ti_le]
  exact (VL_lt hL (Nat.lt_succ_self i) hi).1
noncomputable section
/-- the row of clips that a call arranges, and the place of the one clip -/
def addT (R : Row) (x1 x2 x3 x4 x5 x6 : Int32) : Arr := upr (rC R) (cn R) (nrow x1 x2 x3 x4 x5 x6)
def addN (R : Row) (x1 x2 x3 x4 x5 x6 : Int32) : Nat := cntA (addT R x1 x2 x3 x4 x5 x6) (cn R) (cn R + 1)
def addS (R : Row) (x1 x2 x3 x4 x5 x6 : Int32) : Arr := crry (addT R x1 x2 x3 x4 x5 x6) (cn R) (addN R x1 x2 x3 x4 x5 x6)
def movT (R : Row) (c : Nat) (x : Int32) : Arr := up2 (rC R) c 2 x
def movN (R : Row) (c : Nat) (x : Int32) : Nat := cntA (movT R c x) c (cn R)
def movS (R : Row) (c : Nat) (x : Int32) : Arr := crry (movT R c x) c (movN R c x)
def triT (R : Row) (c : Nat) (fr bk : Int32) : Arr := upr (rC R) c (cut1 (rC R c) fr bk)
def triN (R : Row) (c : Nat) (fr bk : Int32) : Nat := cntA (triT R c fr bk) c (cn R)
def triS (R : Row) (c : Nat) (fr bk : Int32) : Arr := crry (triT R c fr bk) c (triN R c fr bk)
def splT (R : Row) (c : Nat) (x : Int32) : Arr := spl (rC R) c (cn R) (x - rC R c 2)
def splN (R : Row) (c : Nat) (x : Int32) : Nat := cntA (splT R c x) (cn R) (cn R + 1)
def splS (R : Row) (c : Nat) (x : Int32) : Arr := crry (splT R c x) (cn R) (splN R c x)
def delD (R : Row) (t a b : Int32) : Arr × Nat := dl t a b (cn R) (rC R) (cn R)
def delS (R : Row) (t a b : Int32) : Arr := cutAll (delD R t a b).1 (delD R t a b).2 t a b
end
theorem s_X7_addClip {M : mw_M} {σ : Nat → Nat} {k : Nat} {R : Row} {K : Int64} {P : Nat → Row} {PK : Nat → Int64} {x1 x2 x3 x4 x5 x6 : Int32} {Q : mw_M → Int32 → Prop} {X : mw_M → String → Prop} (h : CF M σ k R K P PK) (h1 : ¬ fAdd x1 x2 x3 x4 x5 x6 → X M "java/lang/IllegalArgumentException") (h2 : fAdd x1 x2 x3 x4 x5 x6 → cn R = 12 → X M "java/lang/IllegalStateException") (h3 : fAdd x1 x2 x3 x4 x5 x6 → cn R ≠ 12 → ¬ fine (addS R x1 x2 x3 x4 x5 x6) (cn R + 1) → ∀ M2, fo ST M M2 → CF M2 σ k R K P PK → X M2 "java/lang/UnsupportedOperationException") (hq : fAdd x1 x2 x3 x4 x5 x6 → cn R ≠ 12 → fine (addS R x1 x2 x3 x4 x5 x6) (cn R + 1) → ∀ M1 σ1, fo ST M M1 → CF M1 σ1 (nk k) (tov R (cn R + 1) (addS R x1 x2 x3 x4 x5 x6)) K (psh k P R) (psh k PK K) → Q M1 (nI (addN R x1 x2 x3 x4 x5 x6))) : w_X7_addClip 255 M 1 x1 x2 x3 x4 x5 x6 Q X := by
  have hV := h.2.1.1.2
  have o4 : (4000 : Int32).toInt = 4000 := rfl
  unfold w_X7_addClip w_X7_addClip_b67
  refine s_out2 0 3 rfl rfl (fun g1 => s_out2 0 5 rfl rfl (fun g2 => s_out2 0 3999 rfl rfl (fun g3 => s_out2 0 3999 rfl rfl (fun g4 => ?_) (fun g => h1 (fun q => g q.2.2.2.1))) (fun g => h1 (fun q => g q.2.2.1))) (fun g => h1 (fun q => g q.2.1))) (fun g => h1 (fun q => g q.1))
  have g3' := g3
  obtain ⟨a1, a2⟩ := g3'
  refine s_out2 1 (4000 - x3.toInt) rfl (by rw [ti_sub (by rw [o4]; omega) (by rw [o4]; omega), o4]) (fun g5 => s_out 0 2000 rfl rfl (fun g6 => ?_) (fun g => h1 (fun q => g q.2.2.2.2.2))) (fun g => h1 (fun q => g q.2.2.2.2.1))
  have hf : fAdd x1 x2 x3 x4 x5 x6 := ⟨g1, g2, g3, g4, g5, g6⟩
  refine ⟨is1, s_room h (h2 hf) (fun hne hlt => s_draft h (fun M1 s1 k1 b1 r1 => ⟨kS b1, s_X5_insert b1 (Cl_of k1 hV.2.1 r1) hlt (fun N kk f c hs => ?_)⟩))⟩
  have hO : SO (addT R x1 x2 x3 x4 x5 x6) (cn R) (cn R + 1) := ag_SO hV.2.2.2.2.2 (Nat.le_refl _) (fun i hi hn => ⟨by omega, fun f _ => if_neg hn⟩)
  obtain ⟨A, B⟩ := settle_eq hO (Nat.lt_succ_self _) hs
  have hCV : ∀ i, i < cn R + 1 → CV (addT R x1 x2 x3 x4 x5 x6 i) := fun i hi => by
    unfold addT
    by_cases e : i = cn R
    · have e2 : upr (rC R) (cn R) (nrow x1 x2 x3 x4 x5 x6) i = nrow x1 x2 x3 x4 x5 x6 := by
        funext f
        exact if_pos e
      rw [e2]
      have z0 : (0 : Int32).toInt = 0 := rfl
      obtain ⟨b1, b2⟩ := g5
      exact ⟨g1, g2, ⟨a1, g4⟩, ⟨b1, by show x3.toInt + x5.toInt ≤ 4000; omega⟩, g6, by show 0 ≤ (0 : Int32).toInt ∧ (0 : Int32).toInt ≤ 4000; decide, by show 0 ≤ (0 : Int32).toInt ∧ (0 : Int32).toInt ≤ 4000; decide, by show 0 ≤ (0 : Int32).toInt ∧ (0 : Int32).toInt ≤ 1; decide⟩
    · have e2 : upr (rC R) (cn R) (nrow x1 x2 x3 x4 x5 x6) i = rC R i := by
        funext f
        exact if_neg e
      rw [e2]
      exact hV.2.1.2 i (by omega)
  refine s_clipEnd h s1 r1 f c (fun _ => CV_crry (Nat.lt_succ_self _) hs.1 hCV) (stl_WS hO (Nat.lt_succ_self _) hs).ts (fun hl => h3 hf hne (fun q => hl (B.mpr q))) (fun hl M3 σ3 f3 c3 => ?_)
  have e := A hl
  have := hq hf hne (B.mp hl) M3 σ3 f3
  unfold addS addN at this
  unfold addT at e this
  rw [← e] at this
  exact this c3
theorem s_X7_moveClip {M : mw_M} {σ : Nat → Nat} {k : Nat} {R : Row} {K : Int64} {P : Nat → Row} {PK : Nat → Int64} {x1 x2 : Int32} {Q : mw_M → Int32 → Prop} {X : mw_M → String → Prop} (h : CF M σ k R K P PK) (h1 : ¬ isCl R x1 → X M "java/lang/IndexOutOfBoundsException") (h2 : isCl R x1 → ¬ isAt 0 (4000 - (rC R (nx x1) 4).toInt) x2 → X M "java/lang/IllegalArgumentException") (h3 : isCl R x1 → isAt 0 (4000 - (rC R (nx x1) 4).toInt) x2 → ¬ fine (movS R (nx x1) x2) (cn R) → ∀ M2, fo ST M M2 → CF M2 σ k R K P PK → X M2 "java/lang/UnsupportedOperationException") (hq : isCl R x1 → isAt 0 (4000 - (rC R (nx x1) 4).toInt) x2 → fine (movS R (nx x1) x2) (cn R) → ∀ M1 σ1, fo ST M M1 → CF M1 σ1 (nk k) (tov R (cn R) (movS R (nx x1) x2)) K (psh k P R) (psh k PK K) → Q M1 (nI (movN R (nx x1) x2))) : w_X7_moveClip 255 M 1 x1 x2 Q X := by
  unfold w_X7_moveClip
  refine ⟨is1, s_chkC h.cx h1 (fun hcl => ?_)⟩
  obtain ⟨⟨h0, -, hb⟩, hsk, hp, hV, hk, hc⟩ := h.cx
  obtain ⟨hx, hcn, h12⟩ := cl_s hV.2.1 hcl
  replace h2 := h2 hcl
  replace h3 := h3 hcl
  replace hq := hq hcl
  have hCc := hV.2.1.2 _ hcn
  clear h1 hcl
  generalize nx x1 = c at *
  subst hx
  have el : lnd 2 = 12 := rfl
  have o4 : (4000 : Int32).toInt = 4000 := rfl
  obtain ⟨-, -, ⟨a1, -⟩, ⟨l1, l2⟩, -⟩ := id hCc
  rw [h0, hsk.1.2.1, bs_ln hb (by decide) (Or.inr (Or.inl rfl)), el, nI_clamp (by omega), vC hp hcn (f := 4) (by decide)]
  refine ⟨kS hb, kA2 hb, vp_n h12 (by decide), kC hb hsk h12, s_out 0 (4000 - (rC R c 4).toInt) rfl (by rw [ti_sub (by rw [o4]; omega) (by rw [o4]; omega), o4]) (fun g => s_draft h (fun M1 s1 k1 b1 r1 => ?_)) (fun g => h2 g)⟩
  rw [k1.1.2.1, bs_ln b1 (by decide) (Or.inr (Or.inl rfl)), el]
  refine ⟨kS b1, kA2 b1, vp_n h12 (by decide), kC b1 k1 h12, ?_⟩
  rintro _ rfl
  have c1 := Cl_of k1 hV.2.1 r1
  obtain ⟨f2, c2⟩ := c1.u (c := c) (r := fun f => if f = 2 then x2 else rC R c f) (N1 := sI M1 (mP M1 (σ 1 + 2) c) 2 x2) hcn (sm.si rfl) (fun f hf => by
    by_cases e : f = 2
    · rw [if_pos e, e, mI_at]
    · rw [if_neg e, mI_ne (Or.inr e)]; exact c1.2.2.2 c f hcn hf)
  have eT : upr (rC R) c (fun f => if f = 2 then x2 else rC R c f) = movT R c x2 := by
    funext i f
    unfold upr movT up2
    by_cases e : i = c
    · subst e
      rw [if_pos rfl]
      show (if f = 2 then x2 else rC R i f) = _
      by_cases e2 : f = 2
      · rw [if_pos e2, if_pos ⟨rfl, e2⟩]
      · rw [if_neg e2, if_neg (fun q => e2 q.2)]
    · rw [if_neg e, if_neg (fun q => e q.1)]
  rw [eT] at c2
  have hO : SO (movT R c x2) c (cn R) := ag_SO hV.2.2.2.2.2 (Nat.le_succ _) (fun i hi hn => ⟨hi, fun f _ => if_neg (fun q => hn q.1)⟩)
  refine s_X5_settle b1 c2 hcn (fun N kk f3 c3 hs => ?_)
  obtain ⟨A, B⟩ := settle_eq hO hcn hs
  have hCV : ∀ i, i < cn R → CV (movT R c x2 i) := fun i hi => by
    by_cases e : i = c
    · have eo : ∀ f, f ≠ 2 → movT R c x2 i f = rC R c f := fun f hf => by
        unfold movT up2
        rw [if_neg (fun q => hf q.2), e]
      have e2 : movT R c x2 i 2 = x2 := by unfold movT up2; rw [if_pos ⟨e, rfl⟩]
      unfold CV
      rw [e2, eo 0 (by decide), eo 1 (by decide), eo 3 (by decide), eo 4 (by decide), eo 5 (by decide), eo 6 (by decide), eo 7 (by decide), eo 8 (by decide)]
      obtain ⟨q1, q2, ⟨-, q3⟩, ⟨q4, -⟩, q5⟩ := hCc
      obtain ⟨w1, w2⟩ := g
      exact ⟨q1, q2, ⟨w1, q3⟩, ⟨q4, by omega⟩, q5⟩
    · have e2 : movT R c x2 i = rC R i := by
        funext f
        unfold movT up2
        rw [if_neg (fun q => e q.1)]
      rw [e2]
      exact hV.2.1.2 i hi
  refine s_clipEnd h s1 r1 (f2.tr f3) c3 (fun _ => CV_crry hcn hs.1 hCV) (stl_WS hO hcn hs).ts (fun hl => h3 g (fun q => hl (B.mpr q))) (fun hl M3 σ3 f3 c3 => ?_)
  have e := A hl
  have := hq g (B.mp hl) M3 σ3 f3
  unfold movS movN at this
  rw [← e] at this
  exact this c3
theorem CV_cut {r : Nat → Int32} {fr bk : Int32} (h : CV r) (hf : 0 ≤ fr.toInt) (hb : 0 ≤ bk.toInt) (hs : fr.toInt + bk.toInt < (r 4).toInt) (ho : (r 3).toInt + fr.toInt ≤ 3999) : CV (cut1 r fr bk) ∧ (cut1 r fr bk 2).toInt = (r 2).toInt + fr.toInt ∧ (cut1 r fr bk 4).toInt = (r 4).toInt - fr.toInt - bk.toInt := by
  obtain ⟨a0, a1, ⟨a2, a3, a4⟩, ⟨b1, b2⟩, c5, c6, c7, c8⟩ := h
  have e2 : (r 2 + fr).toInt = (r 2).toInt + fr.toInt := ti_add (by omega) (by omega)
  have e3 : (r 3 + fr).toInt = (r 3).toInt + fr.toInt := ti_add (by omega) (by omega)
  have e4' : (r 4 - fr).toInt = (r 4).toInt - fr.toInt := ti_sub (by omega) (by omega)
  have e4 : (r 4 - fr - bk).toInt = (r 4).toInt - fr.toInt - bk.toInt := by rw [ti_sub (by rw [e4']; omega) (by rw [e4']; omega), e4']
  have mb : ∀ v : Int32, 0 ≤ v.toInt ∧ v.toInt ≤ 4000 → 0 ≤ (mn v (r 4 - fr - bk)).toInt ∧ (mn v (r 4 - fr - bk)).toInt ≤ 4000 := fun v hv => by
    unfold mn
    by_cases g : r 4 - fr - bk ≤ v
    · rw [if_pos g, e4]; omega
    · rw [if_neg g]; exact hv
  refine ⟨⟨a0, a1, ⟨?_, ?_, ?_⟩, ⟨?_, ?_⟩, c5, mb _ c6, mb _ c7, c8⟩, e2, e4⟩
  · show 0 ≤ (r 2 + fr).toInt; rw [e2]; omega
  · show 0 ≤ (r 3 + fr).toInt; rw [e3]; omega
  · show (r 3 + fr).toInt ≤ 3999; rw [e3]; omega
  · show 1 ≤ (r 4 - fr - bk).toInt; rw [e4]; omega
  · show (r 2 + fr).toInt + (r 4 - fr - bk).toInt ≤ 4000; rw [e2, e4]; omega
theorem upr_at (T : Arr) (c : Nat) (r : Nat → Int32) : upr T c r c = r := by
  funext f
  exact if_pos rfl
theorem upr_ne {T : Arr} {c i : Nat} {r : Nat → Int32} (h : i ≠ c) : upr T c r i = T i := by
  funext f
  exact if_neg h
/-- trimmed: the class settles nothing, and need not -/
theorem trim_eq {R : Row} {c : Nat} {fr bk : Int32} (hV : VAL R) (hc : c < cn R) (hf : fTrim (rC R c) fr bk) : TS (triT R c fr bk) (cn R) ∧ (∀ i, i < cn R → CV (triT R c fr bk i)) ∧ (lawC (triT R c fr bk) (cn R) → triN R c fr bk = c) ∧ (lawC (triT R c fr bk) (cn R) ↔ fine (triS R c fr bk) (cn R)) := by
  obtain ⟨f1, f2, f3, f4⟩ := hf
  have hL := hV.2.2.2.2.2
  obtain ⟨cv, e2, e4⟩ := CV_cut (CV_of (hV.2.1.2 c hc)) f1 f2 f3 f4
  have ec : triT R c fr bk c = cut1 (rC R c) fr bk := upr_at _ _ _
  have eo : ∀ i, i ≠ c → triT R c fr bk i = rC R i := fun i hi => upr_ne hi
  have e0 : ∀ i, triT R c fr bk i 0 = rC R i 0 := fun i => by
    by_cases e : i = c
    · rw [e, ec]; rfl
    · rw [eo i e]
  have hTS : TS (triT R c fr bk) (cn R) := fun i hi => by
    rw [e0, e0]
    exact TS_R hL i hi
  have hCV : ∀ i, i < cn R → CV (triT R c fr bk i) := fun i hi => by
    by_cases e : i = c
    · rw [e, ec]; exact cv
    · rw [eo i e]; exact hV.2.1.2 i hi
  have hO : SO (triT R c fr bk) c (cn R) := ag_SO hL (Nat.le_succ _) (fun i hi hn => ⟨hi, fun f _ => by rw [eo i hn]⟩)
  have A : lawC (triT R c fr bk) (cn R) → triN R c fr bk = c := fun hl => by
    have hs := ss_law hTS (fun i hi e => (hl.1 i hi e).1)
    refine ss_cnt (k := c) ?_ hc hc
    rw [crry_same]
    exact hs
  refine ⟨hTS, hCV, A, fun hl => ?_, fun hfn => ?_⟩
  · have e := A hl
    unfold triS
    rw [e, crry_same]
    exact (lawC_fine hTS).mp hl
  · obtain ⟨hn, w2⟩ := cnt_WS hO hc
    have s2 := ss_law w2.ts (fun i hi e => (hfn i hi e).1.1)
    have hnc : triN R c fr bk = c := by
      by_cases g : triN R c fr bk = c
      · exact g
      exfalso
      have hn' : triN R c fr bk < cn R := hn
      by_cases lt : triN R c fr bk < c
      · -- a clip that was ahead has come behind
        have ho : triN R c fr bk ≠ c := g
        have hd : ¬ dstI c (triN R c fr bk) (triN R c fr bk) < triN R c fr bk := by unfold dstI; rw [if_pos lt, if_neg (by omega)]; omega
        have q := (ss_cmp s2 hc hn hn' ho).2 hd
        have p := VL_lt hL lt hc
        rw [ec, eo _ ho] at q
        have q0 : cut1 (rC R c) fr bk 0 = rC R c 0 := rfl
        rcases q with q | ⟨q, q2⟩
        · rw [q0, ti_lt] at q
          omega
        · rw [q0] at q
          rw [ti_lt, e2] at q2
          have := (p.2 q.symm).1
          omega
      · have gt : c < triN R c fr bk := by omega
        have ho : triN R c fr bk ≠ c := g
        have hd : dstI c (triN R c fr bk) (triN R c fr bk) < triN R c fr bk := by unfold dstI; rw [if_neg (by omega), if_pos (Nat.le_refl _)]; omega
        have q := (ss_cmp s2 hc hn hn' ho).1 hd
        have p := VL_lt hL gt hn'
        rw [ec, eo _ ho] at q
        have q0 : cut1 (rC R c) fr bk 0 = rC R c 0 := rfl
        have etr : rC R c 0 = rC R (triN R c fr bk) 0 := by
          rcases q with q | ⟨q, -⟩
          · rw [q0, ti_lt] at q
            omega
          · exact (q.trans q0).symm
        have p2 := (p.2 etr).2
        obtain ⟨d, hd2⟩ : ∃ d, triN R c fr bk = d + 1 := ⟨triN R c fr bk - 1, by omega⟩
        have i1 : triS R c fr bk d = rC R (d + 1) := by
          unfold triS
          rw [hd2, crry_src]
          have : srcI c (d + 1) d = d + 1 := by unfold srcI; rw [if_neg (by omega), if_pos (by omega)]
          rw [this, eo _ (by omega)]
        have i2 : triS R c fr bk (d + 1) = cut1 (rC R c) fr bk := by
          unfold triS
          rw [hd2, crry_src, srcI_k, ec]
        have hfd := (hfn d (by omega) (by rw [i1, i2, q0, ← hd2]; exact etr.symm)).1.2
        rw [i1, i2, ti_lt, CV_end (CV_of (hV.2.1.2 (d + 1) (by omega))), CV_end cv, e2, e4] at hfd
        rw [hd2] at p2
        omega
    unfold triS at hfn
    rw [hnc, crry_same] at hfn
    exact (lawC_fine hTS).mpr hfn
theorem s_X7_trimClip {M : mw_M} {σ : Nat → Nat} {k : Nat} {R : Row} {K : Int64} {P : Nat → Row} {PK : Nat → Int64} {x1 x2 x3 : Int32} {Q : mw_M → Int32 → Prop} {X : mw_M → String → Prop} (h : CF M σ k R K P PK) (h1 : ¬ isCl R x1 → X M "java/lang/IndexOutOfBoundsException") (h2 : isCl R x1 → ¬ fTrim (rC R (nx x1)) x2 x3 → X M "java/lang/IllegalArgumentException") (h3 : isCl R x1 → fTrim (rC R (nx x1)) x2 x3 → ¬ fine (triS R (nx x1) x2 x3) (cn R) → ∀ M2, fo ST M M2 → CF M2 σ k R K P PK → X M2 "java/lang/UnsupportedOperationException") (hq : isCl R x1 → fTrim (rC R (nx x1)) x2 x3 → fine (triS R (nx x1) x2 x3) (cn R) → ∀ M1 σ1, fo ST M M1 → CF M1 σ1 (nk k) (tov R (cn R) (triS R (nx x1) x2 x3)) K (psh k P R) (psh k PK K) → Q M1 (rC R (nx x1) 4 - x2 - x3)) : w_X7_trimClip 255 M 1 x1 x2 x3 Q X := by
  unfold w_X7_trimClip w_X7_trimClip_b61
  refine ⟨is1, s_chkC h.cx h1 (fun hcl => ?_)⟩
  obtain ⟨⟨h0, -, hb⟩, hsk, hp, hV, hk, hc⟩ := h.cx
  obtain ⟨hx, hcn, h12⟩ := cl_s hV.2.1 hcl
  replace h2 := h2 hcl
  replace h3 := h3 hcl
  replace hq := hq hcl
  have hCc := hV.2.1.2 _ hcn
  clear h1 hcl
  generalize nx x1 = c at *
  subst hx
  have el : lnd 2 = 12 := rfl
  have o1 : (1 : Int32).toInt = 1 := rfl
  have o39 : (3999 : Int32).toInt = 3999 := rfl
  obtain ⟨-, -, ⟨a1, a2, a3⟩, ⟨l1, l2⟩, -⟩ := id hCc
  have e1 : (rC R c 4 - 1).toInt = (rC R c 4).toInt - 1 := by rw [ti_sub (by rw [o1]; omega) (by rw [o1]; omega), o1]
  rw [h0, hsk.1.2.1, bs_ln hb (by decide) (Or.inr (Or.inl rfl)), el, nI_clamp (by omega)]
  refine ⟨kS hb, kA2 hb, vp_n h12 (by decide), ?_⟩
  rintro _ rfl
  rw [vC hp hcn (f := 4) (by decide), vC hp hcn (f := 3) (by decide)]
  refine ⟨kC hb hsk h12, s_out2 0 ((rC R c 4).toInt - 1) rfl e1 (fun g2 => ?_) (fun g => h2 (fun q => g ⟨q.1, by have := q.2.1; have := q.2.2.1; omega⟩))⟩
  obtain ⟨b1, b2⟩ := g2
  refine s_out2 0 ((rC R c 4).toInt - 1 - x2.toInt) rfl (by rw [ti_sub (by rw [e1]; omega) (by rw [e1]; omega), e1]) (fun g3 => ?_) (fun g => h2 (fun q => g ⟨q.2.1, by have := q.2.2.1; omega⟩))
  obtain ⟨d1, d2⟩ := g3
  have e3 : (rC R c 3 + x2).toInt = (rC R c 3).toInt + x2.toInt := ti_add (by omega) (by omega)
  refine ⟨fun g4 => ?_, fun g4 => h2 (fun q => g4 (by rw [ti_le, e3, o39]; exact q.2.2.2))⟩
  rw [ti_le, e3, o39] at g4
  have hf : fTrim (rC R c) x2 x3 := ⟨b1, d1, by omega, g4⟩
  obtain ⟨hTS, hCV, A, B⟩ := trim_eq hV hcn hf
  refine s_draft h (fun M1 s1 k1 bb1 r1 => ?_)
  rw [k1.1.2.1, bs_ln bb1 (by decide) (Or.inr (Or.inl rfl)), el]
  have c1 := Cl_of k1 hV.2.1 r1
  refine ⟨kS bb1, kA2 bb1, vp_n h12 (by decide), kC bb1 k1 h12, s_X0_trim (r := rC R c) (kC bb1 k1 h12) (fun f hf => c1.2.2.2 c f hcn hf) (fun N s2 e2 => ?_)⟩
  obtain ⟨f2, c2⟩ := c1.u (c := c) hcn s2 e2
  refine s_clipEnd h s1 r1 f2 c2 (fun _ => hCV) hTS (fun hl => h3 hf (fun q => hl (B.mpr q))) (fun hl M3 σ3 f3 c3 => ?_)
  have e := A hl
  have hq2 := hq hf (B.mp hl) M3 σ3 f3
  unfold triS at hq2
  rw [e, crry_same] at hq2
  obtain ⟨⟨z0, -, zb⟩, zk, zp, zV, -⟩ := c3.cx
  have hcn3 : c < cn (tov R (cn R) (upr (rC R) c (cut1 (rC R c) x2 x3))) := by rw [tov_n hV.2.1.cn.2]; exact hcn
  have e4 : rC (tov R (cn R) (upr (rC R) c (cut1 (rC R c) x2 x3))) c 4 = rC R c 4 - x2 - x3 := by
    rw [tov_c hcn (by decide), upr_at]
    rfl
  rw [z0, zk.1.2.1, bs_ln zb (by decide) (Or.inr (Or.inl rfl)), el, vC zp hcn3 (f := 4) (by decide), e4]
  exact ⟨kS zb, kA2 zb, vp_n h12 (by decide), kC zb zk h12, hq2 c3⟩
theorem s_X7_splitClip {M : mw_M} {σ : Nat → Nat} {k : Nat} {R : Row} {K : Int64} {P : Nat → Row} {PK : Nat → Int64} {x1 x2 : Int32} {Q : mw_M → Int32 → Prop} {X : mw_M → String → Prop} (h : CF M σ k R K P PK) (h1 : ¬ isCl R x1 → X M "java/lang/IndexOutOfBoundsException") (h2 : isCl R x1 → ¬ fSplit (rC R (nx x1)) x2 → X M "java/lang/IllegalArgumentException") (h3 : isCl R x1 → fSplit (rC R (nx x1)) x2 → cn R = 12 → X M "java/lang/IllegalStateException") (h4 : isCl R x1 → fSplit (rC R (nx x1)) x2 → cn R ≠ 12 → ¬ fine (splS R (nx x1) x2) (cn R + 1) → ∀ M2, fo ST M M2 → CF M2 σ k R K P PK → X M2 "java/lang/UnsupportedOperationException") (hq : isCl R x1 → fSplit (rC R (nx x1)) x2 → cn R ≠ 12 → fine (splS R (nx x1) x2) (cn R + 1) → ∀ M1 σ1, fo ST M M1 → CF M1 σ1 (nk k) (tov R (cn R + 1) (splS R (nx x1) x2)) K (psh k P R) (psh k PK K) → Q M1 (nI (splN R (nx x1) x2))) : w_X7_splitClip 255 M 1 x1 x2 Q X := by
  unfold w_X7_splitClip w_X7_splitClip_b51
  refine ⟨is1, s_chkC h.cx h1 (fun hcl => ?_)⟩
  obtain ⟨⟨h0, -, hb⟩, hsk, hp, hV, hk, hc⟩ := h.cx
  obtain ⟨hx, hcn, h12⟩ := cl_s hV.2.1 hcl
  replace h2 := h2 hcl
  replace h3 := h3 hcl
  replace h4 := h4 hcl
  replace hq := hq hcl
  have hCc := hV.2.1.2 _ hcn
  clear h1 hcl
  generalize nx x1 = c at *
  subst hx
  have el : lnd 2 = 12 := rfl
  have o1 : (1 : Int32).toInt = 1 := rfl
  have o39 : (3999 : Int32).toInt = 3999 := rfl
  obtain ⟨-, -, ⟨a1, a2, a3⟩, ⟨l1, l2⟩, -⟩ := id hCc
  have ee : (rC R c 2 + rC R c 4).toInt = (rC R c 2).toInt + (rC R c 4).toInt := ti_add (by omega) (by omega)
  rw [h0, hsk.1.2.1, bs_ln hb (by decide) (Or.inr (Or.inl rfl)), el, nI_clamp (by omega)]
  refine ⟨kS hb, kA2 hb, vp_n h12 (by decide), ?_⟩
  rintro _ rfl
  refine ⟨kC hb hsk h12, s_X0_end (kC hb hsk h12) ?_⟩
  rw [vC hp hcn (f := 2) (by decide), vC hp hcn (f := 4) (by decide), vC hp hcn (f := 3) (by decide)]
  refine s_out2 ((rC R c 2).toInt + 1) ((rC R c 2).toInt + (rC R c 4).toInt - 1) (by rw [ti_add (by rw [o1]; omega) (by rw [o1]; omega), o1]) (by rw [ti_sub (by rw [ee, o1]; omega) (by rw [ee, o1]; omega), ee, o1]) (fun g => ?_) (fun g => h2 (fun q => g ⟨by have := q.1; omega, by have := q.2.1; omega⟩))
  obtain ⟨b1, b2⟩ := g
  have e3 : (rC R c 3 + x2).toInt = (rC R c 3).toInt + x2.toInt := ti_add (by omega) (by omega)
  have e4 : (rC R c 3 + x2 - rC R c 2).toInt = (rC R c 3).toInt + (x2.toInt - (rC R c 2).toInt) := by
    rw [ti_sub (by rw [e3]; omega) (by rw [e3]; omega), e3]
    omega
  refine ⟨fun g4 => ?_, fun g4 => h2 (fun q => g4 (by rw [ti_le, e4, o39]; exact q.2.2))⟩
  rw [ti_le, e4, o39] at g4
  have hf : fSplit (rC R c) x2 := ⟨by omega, by omega, g4⟩
  refine s_room h (h3 hf) (fun hne hlt => s_draft h (fun M1 s1 k1 bb1 r1 => ⟨kS bb1, s_X5_cutInTwo bb1 (Cl_of k1 hV.2.1 r1) hlt hcn (fun N kk f cN hs => ?_)⟩))
  have ed : (x2 - rC R c 2).toInt = x2.toInt - (rC R c 2).toInt := ti_sub (by omega) (by omega)
  have eb : (rC R c 4 - (x2 - rC R c 2)).toInt = (rC R c 4).toInt - (x2.toInt - (rC R c 2).toInt) := by rw [ti_sub (by rw [ed]; omega) (by rw [ed]; omega), ed]
  have z0 : (0 : Int32).toInt = 0 := rfl
  obtain ⟨cvB, -, -⟩ := CV_cut (fr := x2 - rC R c 2) (bk := 0) (CV_of hCc) (by rw [ed]; omega) (by decide) (by rw [ed, z0]; omega) (by rw [ed]; omega)
  obtain ⟨cvA, -, -⟩ := CV_cut (fr := 0) (bk := rC R c 4 - (x2 - rC R c 2)) (CV_of hCc) (by decide) (by rw [eb]; omega) (by rw [eb, z0]; omega) (by rw [z0]; omega)
  have zv : ∀ {r : Nat → Int32} {f : Nat}, CV r → (f = 6 ∨ f = 7) → CV (zat r f) := fun {r f} hr hf2 => by
    obtain ⟨q0, q1, q2, q3, q5, q6, q7, q8⟩ := hr
    have zz : 0 ≤ (0 : Int32).toInt ∧ (0 : Int32).toInt ≤ 4000 := by decide
    rcases hf2 with rfl | rfl
    · exact ⟨q0, q1, q2, q3, q5, zz, q7, q8⟩
    · exact ⟨q0, q1, q2, q3, q5, q6, zz, q8⟩
  have sc : splT R c x2 c = zat (cut1 (rC R c) 0 (rC R c 4 - (x2 - rC R c 2))) 7 := upr_at _ _ _
  have sm1 : splT R c x2 (cn R) = zat (cut1 (rC R c) (x2 - rC R c 2) 0) 6 := (upr_ne (by omega)).trans (upr_at _ _ _)
  have so : ∀ i, i ≠ c → i ≠ cn R → splT R c x2 i = rC R i := fun i n1 n2 => (upr_ne n1).trans (upr_ne n2)
  have hO : SO (splT R c x2) (cn R) (cn R + 1) := ag_SO hV.2.2.2.2.2 (Nat.le_refl _) (fun i hi hn => ⟨by omega, fun f hf3 => by
    by_cases e : i = c
    · rw [e, sc]
      have hf9 : f = 0 ∨ f = 1 ∨ f = 2 := by omega
      rcases hf9 with rfl | rfl | rfl
      · rfl
      · rfl
      · show rC R c 2 + 0 = _
        exact Int32.add_zero _
    · rw [so i e hn]⟩)
  have hCV : ∀ i, i < cn R + 1 → CV (splT R c x2 i) := fun i hi => by
    by_cases e : i = c
    · rw [e, sc]; exact zv cvA (Or.inr rfl)
    · by_cases e2 : i = cn R
      · rw [e2, sm1]; exact zv cvB (Or.inl rfl)
      · rw [so i e e2]; exact hV.2.1.2 i (by omega)
  obtain ⟨A, B⟩ := settle_eq (T := splT R c x2) hO (Nat.lt_succ_self _) hs
  refine s_clipEnd h s1 r1 f cN (fun _ => CV_crry (T := splT R c x2) (Nat.lt_succ_self _) hs.1 hCV) (stl_WS (T := splT R c x2) hO (Nat.lt_succ_self _) hs).ts (fun hl => h4 hf hne (fun q => hl (B.mpr q))) (fun hl M3 σ3 f3 c3 => ?_)
  have e := A hl
  have := hq hf hne (B.mp hl) M3 σ3 f3
  unfold splS splN at this
  rw [← e] at this
  exact this c3
theorem s_X7_removeClip {M : mw_M} {σ : Nat → Nat} {k : Nat} {R : Row} {K : Int64} {P : Nat → Row} {PK : Nat → Int64} {x1 : Int32} {Q : mw_M → Int32 → Prop} {X : mw_M → String → Prop} (h : CF M σ k R K P PK) (h1 : ¬ isCl R x1 → X M "java/lang/IndexOutOfBoundsException") (hq : isCl R x1 → ∀ M1 σ1, fo ST M M1 → CF M1 σ1 (nk k) (tov R (cn R - 1) (lv (rC R) (nx x1) (cn R))) K (psh k P R) (psh k PK K) → Q M1 (nI (cn R - 1))) : w_X7_removeClip 255 M 1 x1 Q X := by
  unfold w_X7_removeClip
  refine ⟨is1, s_chkC h.cx h1 (fun hcl => s_draft h (fun M1 s1 k1 b1 r1 => ?_))⟩
  have hV := h.2.1.1.2
  obtain ⟨hx, hcn, h12⟩ := cl_s hV.2.1 hcl
  replace hq := hq hcl
  clear h1 hcl
  generalize nx x1 = c at *
  subst hx
  have hm12 := hV.2.1.cn.2
  refine ⟨kS b1, s_X5_drop b1 (Cl_of k1 hV.2.1 r1) hcn (fun N f cN => ?_)⟩
  have ei : ∀ i, i < cn R - 1 → ∃ j, i ≤ j ∧ j < cn R ∧ lv (rC R) c (cn R) i = rC R j ∧ (j = i ∨ (j = i + 1 ∧ c ≤ i)) ∧ (j = i → i < c) := fun i hi => by
    by_cases e : c ≤ i
    · refine ⟨i + 1, by omega, by omega, ?_, Or.inr ⟨rfl, e⟩, fun q => by omega⟩
      funext f
      unfold lv
      rw [if_pos ⟨e, by omega⟩]
    · refine ⟨i, by omega, by omega, ?_, Or.inl rfl, fun q => by omega⟩
      funext f
      unfold lv
      rw [if_neg (fun q => e q.1)]
  have hS : SS (lv (rC R) c (cn R)) (cn R - 1) := fun i j hij hj => by
    obtain ⟨i2, a1, a2, a3, a4, a5⟩ := ei i (by omega)
    obtain ⟨j2, b1, b2, b3, b4, b5⟩ := ei j hj
    rw [a3, b3]
    exact VL_SS hV.2.2.2.2.2 i2 j2 (by omega) b2
  have hTS : TS (lv (rC R) c (cn R)) (cn R - 1) := fun i hi => by
    rcases hS i (i + 1) (by omega) hi with q | ⟨q, -⟩
    · rw [ti_lt] at q; rw [ti_le]; omega
    · rw [ti_eq] at q; rw [ti_le]; omega
  have hfn : fine (lv (rC R) c (cn R)) (cn R - 1) := by
    have hL := hV.2.2.2.2.2
    have hend : ∀ j, j < cn R → (rC R j 2 + rC R j 4).toInt = (rC R j 2).toInt + (rC R j 4).toInt := fun j hj => CV_end (CV_of (hV.2.1.2 j hj))
    intro i hi e
    obtain ⟨i2, a1, a2, a3, a4, a5⟩ := ei i (by omega)
    obtain ⟨j2, b1, b2, b3, b4, b5⟩ := ei (i + 1) hi
    rw [a3, b3] at e ⊢
    have p := (VL_lt hL (i := i2) (j := j2) (by omega) b2).2 e
    refine ⟨⟨ti_lt.mpr p.1, by rw [ti_lt, hend i2 a2, hend j2 b2]; exact p.2⟩, fun hi2 e2 => ?_⟩
    obtain ⟨l2, c1, c2, c3, c4, c5⟩ := ei (i + 2) hi2
    rw [c3] at e2 ⊢
    have p2 := (VL_lt hL (i := j2) (j := l2) (by omega) c2).2 (e.symm.trans e2.symm)
    have hii : rC R i2 0 = rC R (i2 + 2) 0 := by
      have q1 := (VL_lt hL (i := i2) (j := i2 + 2) (by omega) (by omega)).1
      by_cases g : l2 = i2 + 2
      · rw [← g]; exact e2.symm
      · have q2 := (VL_lt hL (i := i2 + 2) (j := l2) (by omega) c2).1
        rw [ti_eq] at e2 ⊢
        omega
    have p3 := hL.2 i2 (by omega) hii
    rw [ti_le, hend i2 a2]
    by_cases g : l2 = i2 + 2
    · rw [g]; exact p3
    · have q2 := VL_lt hL (i := i2 + 2) (j := l2) (by omega) c2
      have := (q2.2 (hii.symm.trans e2.symm)).1
      omega
  refine s_keepSound h ((s1.fo (fun a b q => q)).tr f.blk) cN.1 (rep_tov b1 hV r1 f cN) (V_tov hV (by omega) (fun i hi => by
    obtain ⟨i2, a1, a2, a3, -⟩ := ei i hi
    rw [a3]
    exact hV.2.1.2 i2 a2) hTS hfn) (fun M3 σ3 f3 c3 => ?_)
  obtain ⟨⟨z0, -, zb⟩, zk, zp, -⟩ := c3.cx
  rw [z0, zp.2.1, tov_8]
  exact ⟨kS zb, hq M3 σ3 f3 c3⟩
theorem dl_ng {t a b : Int32} : ∀ (c : Nat) (T : Arr) (m : Nat), c ≤ m → (∀ i, c ≤ i → i < m → ¬ gn (T i) t a b) → ∀ i, i < (dl t a b c T m).2 → ¬ gn ((dl t a b c T m).1 i) t a b
  | 0, T, m, _, h => fun i hi => h i (Nat.zero_le _) hi
  | c + 1, T, m, hc, h => by
    have hs := dl_s t a b c T m
    by_cases g : gn (T c) t a b
    · rw [hs.1 g]
      refine dl_ng c (lv T c m) (m - 1) (by omega) (fun i h1 h2 => ?_)
      have : lv T c m i = T (i + 1) := by
        funext f
        unfold lv
        rw [if_pos ⟨h1, by omega⟩]
      rw [this]
      exact h (i + 1) (by omega) (by omega)
    · rw [hs.2 g]
      refine dl_ng c T m (by omega) (fun i h1 h2 => ?_)
      by_cases e : i = c
      · rw [e]; exact g
      · exact h i (by omega) h2
theorem CV_2 {q r : Nat → Int32} (h : CV q) (e : ∀ f, f ≠ 2 → r f = q f) (h0 : 0 ≤ (r 2).toInt) (h1 : (r 2).toInt + (q 4).toInt ≤ 4000) : CV r := by
  obtain ⟨q0, q1, ⟨-, q3⟩, ⟨q4, -⟩, q5⟩ := h
  unfold CV
  rw [e 0 (by decide), e 1 (by decide), e 3 (by decide), e 4 (by decide), e 5 (by decide), e 6 (by decide), e 7 (by decide), e 8 (by decide)]
  exact ⟨q0, q1, ⟨h0, q3⟩, ⟨q4, h1⟩, q5⟩
theorem CV_dele {r : Nat → Int32} {a b : Int32} (h : CV r) (hF : fTime a b) (hg : ¬ (a ≤ r 2 ∧ r 2 + r 4 ≤ b)) (ho : dele r a b 3 < 4000) : CV (dele r a b) := by
  have h' := h
  obtain ⟨-, -, ⟨s0, o0, o1⟩, ⟨l1, l2⟩, -⟩ := h'
  obtain ⟨⟨b1, b2⟩, a1, a2⟩ := id hF
  have hee := CV_end h
  have e2 := dele_2 hF s0 (by omega)
  have eo : ∀ f, f ≠ 2 → dele r a b f = dele1 r a b f := fun f hf => by
    unfold dele
    rw [if_neg hf]
  have z0 : (0 : Int32).toInt = 0 := rfl
  have o40 : (4000 : Int32).toInt = 4000 := rfl
  unfold nst at e2
  by_cases g1 : r 2 < a
  · rw [ti_lt] at g1
    rw [if_pos g1] at e2
    by_cases g2 : a < r 2 + r 4
    · have e1 : dele1 r a b = cut1 r 0 (r 2 + r 4 - a) := by unfold dele1; rw [if_pos (ti_lt.mpr g1), if_pos g2]
      rw [ti_lt, hee] at g2
      have eb : (r 2 + r 4 - a).toInt = (r 2).toInt + (r 4).toInt - a.toInt := by rw [ti_sub (by rw [hee]; omega) (by rw [hee]; omega), hee]
      obtain ⟨cv, f2, f4⟩ := CV_cut (fr := 0) (bk := r 2 + r 4 - a) h (by decide) (by rw [eb]; omega) (by rw [eb, z0]; omega) (by rw [z0]; omega)
      rw [← e1] at cv f4
      exact CV_2 cv eo (by omega) (by rw [f4, eb, z0]; omega)
    · have e1 : dele1 r a b = r := by unfold dele1; rw [if_pos (ti_lt.mpr g1), if_neg g2]
      rw [e1] at eo
      exact CV_2 h eo (by omega) (by omega)
  · have g1' := g1
    rw [ti_lt] at g1'
    rw [if_neg g1'] at e2
    by_cases g2 : r 2 < b
    · have e1 : dele1 r a b = cut1 r (b - r 2) 0 := by unfold dele1; rw [if_neg g1, if_pos g2]
      rw [ti_lt] at g2
      rw [if_pos g2] at e2
      have eb : (b - r 2).toInt = b.toInt - (r 2).toInt := ti_sub (by omega) (by omega)
      have hnb : ¬ r 2 + r 4 ≤ b := fun q => hg ⟨le_of_nlt g1, q⟩
      rw [ti_le, hee] at hnb
      have e3 : dele r a b 3 = r 3 + (b - r 2) := by rw [eo 3 (by decide), e1]; rfl
      rw [e3, ti_lt, ti_add (by rw [eb]; omega) (by rw [eb]; omega), eb, o40] at ho
      obtain ⟨cv, f2, f4⟩ := CV_cut (fr := b - r 2) (bk := 0) h (by rw [eb]; omega) (by decide) (by rw [eb, z0]; omega) (by rw [eb]; omega)
      rw [← e1] at cv f4
      exact CV_2 cv eo (by omega) (by rw [f4, eb, z0]; omega)
    · have e1 : dele1 r a b = r := by unfold dele1; rw [if_neg g1, if_neg g2]
      rw [ti_lt] at g2
      rw [if_neg g2] at e2
      rw [e1] at eo
      exact CV_2 h eo (by omega) (by omega)
theorem s_X7_deleteTime {M : mw_M} {σ : Nat → Nat} {k : Nat} {R : Row} {K : Int64} {P : Nat → Row} {PK : Nat → Int64} {x1 x2 x3 : Int32} {Q : mw_M → Int32 → Prop} {X : mw_M → String → Prop} (h : CF M σ k R K P PK) (h1 : ¬ isTr x1 → X M "java/lang/IndexOutOfBoundsException") (h2 : isTr x1 → ¬ fTime x2 x3 → X M "java/lang/IllegalArgumentException") (h2' : isTr x1 → fTime x2 x3 → ¬ fitAll (delD R x1 x2 x3).1 (delD R x1 x2 x3).2 x1 x2 x3 → ∀ M2, fo ST M M2 → CF M2 σ k R K P PK → X M2 "java/lang/IllegalArgumentException") (h3 : isTr x1 → fTime x2 x3 → fitAll (delD R x1 x2 x3).1 (delD R x1 x2 x3).2 x1 x2 x3 → ¬ fine (delS R x1 x2 x3) (delD R x1 x2 x3).2 → ∀ M2, fo ST M M2 → CF M2 σ k R K P PK → X M2 "java/lang/UnsupportedOperationException") (hq : isTr x1 → fTime x2 x3 → fitAll (delD R x1 x2 x3).1 (delD R x1 x2 x3).2 x1 x2 x3 → fine (delS R x1 x2 x3) (delD R x1 x2 x3).2 → ∀ M1 σ1, fo ST M M1 → CF M1 σ1 (nk k) (tov R (delD R x1 x2 x3).2 (delS R x1 x2 x3)) K (psh k P R) (psh k PK K) → Q M1 (nI (cn R - (delD R x1 x2 x3).2))) : w_X7_deleteTime 255 M 1 x1 x2 x3 Q X := by
  have hV := h.2.1.1.2
  have o1 : (1 : Int32).toInt = 1 := rfl
  have o39 : (3999 : Int32).toInt = 3999 := rfl
  have o40 : (4000 : Int32).toInt = 4000 := rfl
  unfold w_X7_deleteTime w_X7_deleteTime_b26
  refine s_chkT h1 (fun ht => s_out2 1 4000 rfl rfl (fun g1 => ?_) (fun g => h2 ht (fun q => g q.1)))
  have g1' := g1
  obtain ⟨ga, gb⟩ := g1'
  refine s_out 0 (x3.toInt - 1) rfl (by rw [ti_sub (by rw [o1]; omega) (by rw [o1]; omega), o1]) (fun g2 => ?_) (fun g => h2 ht (fun q => g ⟨q.2.1, by have := q.2.2; omega⟩))
  have hf : fTime x2 x3 := ⟨g1, g2.1, by have := g2.2; omega⟩
  replace h2' := h2' ht hf
  replace h3 := h3 ht hf
  replace hq := hq ht hf
  refine ⟨is1, s_draft h (fun M1 s1 k1 b1 r1 => ⟨kS b1, s_X5_cutOut b1 (Cl_of k1 hV.2.1 r1) (ti_lt.mpr hf.2.2) (fun N f cN => ?_)⟩)⟩
  have hE := dl_emb (t := x1) (a := x2) (b := x3) (R := R) (cn R) (rC R) (cn R) (Nat.le_refl _) (emb_0 (fun _ _ _ => rfl))
  have cN' : Cl N (σ 1) (delD R x1 x2 x3).2 (delS R x1 x2 x3) := cN
  show w_X5_offsetsFit 255 N (σ 1) _
  have hE' : emb (delD R x1 x2 x3).1 (delD R x1 x2 x3).2 R := hE.1
  have hng : ∀ i, i < (delD R x1 x2 x3).2 → ¬ gn ((delD R x1 x2 x3).1 i) x1 x2 x3 := dl_ng (cn R) (rC R) (cn R) (Nat.le_refl _) (fun i h1 h2 => by omega)
  have hq' := hq
  unfold delS at cN' h3 hq
  generalize hD : delD R x1 x2 x3 = D at *
  have eD : dl x1 x2 x3 (cn R) (rC R) (cn R) = D := hD
  rw [eD]
  obtain ⟨T1, m1⟩ := D
  dsimp only at *
  obtain ⟨e, he1, he2⟩ := hE'
  have hcv : ∀ i, i < m1 → CV (T1 i) := fun i hi => by
    have : T1 i = rC R (e i) := funext (he1 i hi).2
    rw [this]
    exact hV.2.1.2 _ (he1 i hi).1
  have hfit : fitC (cutAll T1 m1 x1 x2 x3) m1 ↔ fitAll T1 m1 x1 x2 x3 := by
    refine ⟨fun q i hi h0 => ?_, fun q i hi => ?_⟩
    · have := q i hi
      rw [cutAll_y hi h0, ti_le, o39] at this
      rw [ti_lt, o40]
      omega
    · by_cases h0 : T1 i 0 = x1
      · have := q i hi h0
        rw [ti_lt, o40] at this
        rw [cutAll_y hi h0, ti_le, o39]
        omega
      · rw [cutAll_n (fun q => h0 q.2), ti_le, o39]
        exact (hcv i hi).2.2.1.2.2
  have fN : fo (blk (σ 1)) M N := (s1.fo (fun a b q => q)).tr f.blk
  refine s_X5_offsetsFit b1 cN' ?_
  rw [bl_0, Classical.not_not, hfit]
  refine ⟨fun hft => ?_, fun hft => ?_⟩
  · have hTS : TS (cutAll T1 m1 x1 x2 x3) m1 := fun i hi => by
      rw [cutAll_0, cutAll_0, (he1 i (by omega)).2 0, (he1 (i + 1) hi).2 0, ti_le]
      exact (VL_lt hV.2.2.2.2.2 (he2 i (i + 1) (by omega) hi) (he1 (i + 1) hi).1).1
    refine s_clipEnd h s1 r1 f cN' (fun _ i hi => ?_) hTS (fun hl => h3 hft (fun q => hl ((lawC_fine hTS).mpr q))) (fun hl M3 σ3 f3 c3 => hq hft ((lawC_fine hTS).mp hl) M3 σ3 f3 c3)
    by_cases h0 : T1 i 0 = x1
    · have e1 : cutAll T1 m1 x1 x2 x3 i = dele (T1 i) x2 x3 := funext (fun f => cutAll_y hi h0 f)
      rw [e1]
      exact CV_dele (hcv i hi) hf (fun q => hng i hi ⟨h0, q⟩) (hft i hi h0)
    · have e1 : cutAll T1 m1 x1 x2 x3 i = T1 i := funext (fun f => cutAll_n (fun q => h0 q.2) f)
      rw [e1]
      exact hcv i hi
  · obtain ⟨f2, c2⟩ := CF_sp h fN cN'.1
    exact h2' hft N f2 c2
