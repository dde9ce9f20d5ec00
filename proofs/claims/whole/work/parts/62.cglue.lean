/-! The class: a change from its draft to its end -/
def ST : Nat → Prop := fun a => a < 247
theorem ST_blk {s a : Nat} (hb : bs s) (h : blk s a) : ST a := by
  have := (bs_nb hb h).2.2.2.2
  show a < 247
  omega
theorem s_draft {M : mw_M} {σ : Nat → Nat} {k : Nat} {R : Row} {K : Int64} {P : Nat → Row} {PK : Nat → Int64} {Q : mw_M → Nat → Prop} (h : CF M σ k R K P PK) (hq : ∀ M1, sm (Sb (σ 1)) M M1 → sk M1 (σ 1) → bs (σ 1) → rep M1 (σ 1) R K → Q M1 (σ 1)) : w_X7_draft 255 M 1 Q := by
  obtain ⟨⟨⟨h0, h1, -, -, -⟩, -, -, hs, hi⟩, ⟨⟨hp, hV⟩, -⟩, -⟩ := h
  unfold w_X7_draft
  rw [h0, h1]
  refine ⟨is1, kS (hs 1 (by decide)).1, s_X5_takeFrom (hs 0 (by decide)).1 (hs 1 (by decide)).1 (fun e => absurd (hi 1 0 (by decide) (by decide) e) (by decide)) (hs 0 (by decide)).2 (hs 1 (by decide)).2 hV hp (fun M1 s1 r1 => ?_)⟩
  rw [(s1.1 1 1).trans h1]
  exact hq M1 s1 (sm_sk s1 (hs 1 (by decide)).2) (hs 1 (by decide)).1 r1
theorem cvk_fo {S : Nat → Prop} {M M1 : mw_M} (f : fo S M M1) (n1 : ¬ S 1) (n2 : ¬ S 81) (n3 : ∀ t, t < 4 → ¬ S (239 + 2 * t)) (h : cvk M) : cvk M1 := ⟨((f 1 n1 4).2.2).trans h.1, fun t ht => ⟨((f 81 n2 t).2.2).trans (h.2 t ht).1, ((f _ (n3 t ht) 0).2.2).trans (h.2 t ht).2⟩⟩
theorem blk_cvk {M M1 : mw_M} {s : Nat} (hb : bs s) (f : fo (blk s) M M1) (h : cvk M) : cvk M1 := cvk_fo f (fun q => (bs_nb hb q).1 rfl) (fun q => (bs_nb hb q).2.2.1 rfl) (fun t _ q => by have := (bs_nb hb q).2.2.2.2; omega) h
theorem cv_fo {S : Nat → Prop} {M M1 : mw_M} {R R1 : Row} {t : Nat} (f : fo S M M1) (n1 : ¬ S (239 + 2 * t)) (n2 : ¬ S (240 + 2 * t)) (e : ∀ j, 8 ≤ j → R1 j = R j) (h : cv M R t) : cv M1 R1 t := by
  have e8 : eq8 R R1 := e
  obtain ⟨w, w1, w2, ew, z0, z1, hd⟩ := h
  refine ⟨w, w1, w2, ((f _ n1 1).1).trans ew, ((f _ n2 0).1).trans z0, ((f _ n2 1).1).trans z1, fun hne j hj => ?_⟩
  rw [e8.T] at hne
  rw [(f _ n2 j).1, e8.dk]
  exact hd hne j hj
theorem s_keepSound {M M2 : mw_M} {σ : Nat → Nat} {k : Nat} {R R1 : Row} {K K1 : Int64} {P : Nat → Row} {PK : Nat → Int64} {Q : mw_M → Prop} (h : CF M σ k R K P PK) (f : fo (blk (σ 1)) M M2) (hsk : sk M2 (σ 1)) (hp : rep M2 (σ 1) R1 K1) (hV : VAL R1) (hq : ∀ M3 σ3, fo ST M M3 → CF M3 σ3 (nk k) R1 K1 (psh k P R) (psh k PK K) → Q M3) : w_X7_keepSound 255 M2 1 Q := by
  obtain ⟨hc, hg, hv⟩ := h
  have b1 := (hc.2.2.2.1 1 (by decide)).1
  have hk2 := blk_cvk b1 f hc.2.1
  have hc2 := cst_fo hc f (fun a q => Or.inl q) hsk hk2
  have hg2 := shw_fo hc hg f (fun a q => Or.inl q)
  unfold w_X7_keepSound
  refine ⟨is1, s_X7_keepDraft hc2 hg2 hp hV (fun M3 σ3 f3 c3 g3 => s_X7_forget c3.2.1 (fun t ht => ?_) (fun M4 s4 c4 => ?_))⟩
  · obtain ⟨w, -, -, -, z0, z1, -⟩ := hv t ht
    have n3 : ¬ S180 (240 + 2 * t) := by rintro (q | q) <;> omega
    have n2 : ¬ blk (σ 1) (240 + 2 * t) := fun q => by have := (bs_nb b1 q).2.2.2.2; omega
    exact ⟨((f3 _ n3 0).1).trans (((f _ n2 0).1).trans z0), ((f3 _ n3 1).1).trans (((f _ n2 1).1).trans z1)⟩
  · have f4 : fo (fun a => 239 ≤ a ∧ a ≤ 246) M3 M4 := s4.fo (fun a b q => q)
    exact hq M4 σ3 (((f.mono (fun a q => ST_blk b1 q)).tr (f3.mono (fun a q => by show a < 247; rcases q with q | q <;> omega))).tr (f4.mono (fun a q => by show a < 247; omega))) ⟨cst_fo c3 f4 (fun a q => Or.inr (Or.inr q.1)) (sm_sk s4 (c3.2.2.2.1 1 (by decide)).2) (sm_cvk s4 c3.2.1), shw_fo c3 g3 f4 (fun a q => Or.inr (Or.inr q.1)), fun t ht => c4 R1 t ht⟩
theorem s_keepPlain {S : Nat → Prop} {M M2 : mw_M} {σ : Nat → Nat} {k : Nat} {R R1 : Row} {K K1 : Int64} {P : Nat → Row} {PK : Nat → Int64} {Q : mw_M → Prop} (h : CF M σ k R K P PK) (f : fo S M M2) (hS : ∀ a, S a → blk (σ 1) a ∨ a = 82 ∨ 239 ≤ a) (hST : ∀ a, S a → ST a) (hk2 : cvk M2) (hsk : sk M2 (σ 1)) (hp : rep M2 (σ 1) R1 K1) (hV : VAL R1) (hv : ∀ t, t < 4 → cv M2 R1 t) (hq : ∀ M3 σ3, fo ST M M3 → CF M3 σ3 (nk k) R1 K1 (psh k P R) (psh k PK K) → Q M3) : w_X7_keepDraft 255 M2 1 Q := by
  obtain ⟨hc, hg, -⟩ := h
  have hc2 := cst_fo hc f hS hsk hk2
  have hg2 := shw_fo hc hg f hS
  refine s_X7_keepDraft hc2 hg2 hp hV (fun M3 σ3 f3 c3 g3 => hq M3 σ3 ((f.mono hST).tr (f3.mono (fun a q => by show a < 247; rcases q with q | q <;> omega))) ⟨c3, g3, fun t ht => cv_fo f3 (by rintro (q | q) <;> omega) (by rintro (q | q) <;> omega) (fun _ _ => rfl) (hv t ht)⟩)
/-- a change that only the state itself and its meters show -/
theorem s_keepSt {M M1 M2 : mw_M} {σ : Nat → Nat} {k : Nat} {R R1 : Row} {K K1 : Int64} {P : Nat → Row} {PK : Nat → Int64} {Q : mw_M → Prop} (h : CF M σ k R K P PK) (s1 : sm (Sb (σ 1)) M M1) (k1 : sk M1 (σ 1)) (r1 : rep M1 (σ 1) R K) (s2 : sm (fun a b => a = σ 1 + 4 ∨ (a = σ 1 ∧ 4 ≤ b)) M1 M2) (eI : ∀ b, mI M2 (σ 1 + 4) b = mI M1 (σ 1 + 4) b) (hE : repE M2 (σ 1) R1) (hF : repF M2 (σ 1) R1 K1) (eR : ∀ j, 8 ≤ j → R1 j = R j) (hV : VAL R1) (hq : ∀ M3 σ3, fo ST M M3 → CF M3 σ3 (nk k) R1 K1 (psh k P R) (psh k PK K) → Q M3) : w_X7_keepDraft 255 M2 1 Q := by
  have b1 := (h.1.2.2.2.1 1 (by decide)).1
  have f : fo (blk (σ 1)) M M2 := (s1.fo (fun a b q => q)).tr (s2.fo (fun a b q => by rcases q with q | ⟨q, -⟩ <;> exact ⟨by omega, by omega⟩))
  refine s_keepPlain h f (fun a q => Or.inl q) (fun a q => ST_blk b1 q) (blk_cvk b1 f h.1.2.1) (sm_sk s2 k1) (rep_stU k1 h.2.1.1.2 r1 (fun a b n1 n2 n3 => ?_) (s2.2.1 _ _ (by rintro (q | ⟨-, q⟩) <;> omega)) s2.1 hE hF eR) hV (fun t ht => cv_fo f (fun q => by have := (bs_nb b1 q).2.2.2.2; omega) (fun q => by have := (bs_nb b1 q).2.2.2.2; omega) eR (h.2.2 t ht)) hq
  by_cases e : a = σ 1 + 4
  · rw [e]; exact eI b
  · exact s2.2.1 _ _ (by rintro (q | ⟨q, -⟩) <;> omega)
/-- a test and its two ways, the bad one first -/
theorem s_out2 {n : Nat} {M : mw_M} {x a b : Int32} (lo hi : Int) (ha : a.toInt = lo) (hb : b.toInt = hi) {A B : Prop} (h0 : isAt lo hi x → A) (h1 : ¬ isAt lo hi x → B) : w_X7_isOutside n M x a b (fun v => (¬ v = 0 → B) ∧ (v = 0 → A)) := by
  refine s_X7_isOutside ?_
  rw [ha, hb, bl_0, Classical.not_not]
  exact ⟨h1, fun q => h0 (Classical.not_not.mp q)⟩
theorem s_X4_define {M : mw_M} {q : Nat} {a b c d : Int32} {Q : mw_M → Prop} (kq : mw_is 255 q 4) (hq : ∀ M1, sm (So q) M M1 → mI M1 q 0 = a → mI M1 q 1 = b → mI M1 q 2 = c → mI M1 q 3 = d → Q M1) : w_X4_define 255 M q a b c d Q := by
  unfold w_X4_define
  refine ⟨kq, ?_⟩
  rintro _ rfl _ rfl _ rfl _ rfl
  refine hq _ ((((sm.si (S := So q) rfl).tr (sm.si (S := So q) rfl)).tr (sm.si (S := So q) rfl)).tr (sm.si (S := So q) rfl)) ?_ ?_ ?_ ?_ <;> simp [mI_sI]
theorem rSource_s (R : Row) (s : Nat) (sh a p z : Int32) : rS (rSource R s sh a p z) s 0 = sh ∧ rS (rSource R s sh a p z) s 1 = a ∧ rS (rSource R s sh a p z) s 2 = p ∧ rS (rSource R s sh a p z) s 3 = z := by
  unfold rS rSource
  refine ⟨?_, ?_, ?_, ?_⟩ <;> simp [up]
theorem rSource_o {R : Row} {s j : Nat} {sh a p z : Int32} (h : j < 9 + 4 * s ∨ 9 + 4 * s + 4 ≤ j) : rSource R s sh a p z j = R j := by
  unfold rSource
  rw [up_ne (by omega), up_ne (by omega), up_ne (by omega), up_ne (by omega)]
theorem V_source {R : Row} {s : Nat} {sh a p z : Int32} (h : VAL R) (hs : s < 6) (hf : fSource sh a p z) : VAL (rSource R s sh a p z) := by
  obtain ⟨vS, vC, vT, vP, vX, vL⟩ := h
  obtain ⟨e0, e1, e2, e3⟩ := rSource_s R s sh a p z
  obtain ⟨c1, c2⟩ := VCL_ag (R1 := rSource R s sh a p z) vC vL (fun j h1 h2 => by
    rcases h1 with h1 | h1
    · subst h1; exact rSource_o (by omega)
    · exact rSource_o (by omega))
  obtain ⟨t1, t2⟩ := VTP_ag (R1 := rSource R s sh a p z) vT vP (fun j h1 h2 => rSource_o (by omega))
  refine ⟨fun u hu => ?_, c1, t1, t2, VX_ag vX (fun j hj => rSource_o (by omega)), c2⟩
  by_cases e : u = s
  · rw [e, e0, e1, e2, e3]; exact hf
  · have eo : ∀ f, f < 4 → rS (rSource R s sh a p z) u f = rS R u f := fun f hf => rSource_o (by omega)
    rw [eo 0 (by decide), eo 1 (by decide), eo 2 (by decide), eo 3 (by decide)]
    exact vS u hu
theorem s_X7_setSource {M : mw_M} {σ : Nat → Nat} {k : Nat} {R : Row} {K : Int64} {P : Nat → Row} {PK : Nat → Int64} {x1 x2 x3 x4 x5 : Int32} {Q : mw_M → Int32 → Prop} {X : mw_M → String → Prop} (h : CF M σ k R K P PK) (h1 : ¬ isSrc x1 → X M "java/lang/IndexOutOfBoundsException") (h2 : isSrc x1 → ¬ fSource x2 x3 x4 x5 → X M "java/lang/IllegalArgumentException") (hq : isSrc x1 → fSource x2 x3 x4 x5 → ∀ M1 σ1, fo ST M M1 → CF M1 σ1 (nk k) (rSource R (nx x1) x2 x3 x4 x5) K (psh k P R) (psh k PK K) → Q M1 (rS R (nx x1) 3)) : w_X7_setSource 255 M 1 x1 x2 x3 x4 x5 Q X := by
  obtain ⟨⟨h0, h5, hb⟩, hsk, hp, hV, hk, hc⟩ := h.cx
  unfold w_X7_setSource w_X7_setSource_b48
  refine s_chkS h1 (fun hs => ?_)
  have bad := h2 hs
  refine s_out2 0 3 rfl rfl (fun g2 => s_out2 0 10000 rfl rfl (fun g3 => s_out2 1 1000 rfl rfl (fun g4 => s_out 1 4000 rfl rfl (fun g5 => ?_) (fun g => bad (fun q => g q.2.2.2))) (fun g => bad (fun q => g q.2.2.1))) (fun g => bad (fun q => g q.2.1))) (fun g => bad (fun q => g q.1))
  have hf : fSource x2 x3 x4 x5 := ⟨g2, g3, g4, g5⟩
  have h6 : nx x1 < 6 := by have := hs.2; unfold nx; omega
  have hx := nx_s hs.1
  replace hq := hq hs hf
  clear h1 h2 bad hs
  generalize nx x1 = i at *
  subst hx
  have el : lnd 1 = 6 := rfl
  rw [h0, hsk.1.1, bs_ln hb (by decide) (Or.inl rfl), el, nI_clamp (by omega), hsk.2.1 i h6, hp.1 i 3 h6 (by decide)]
  refine ⟨is1, kS hb, kA1 hb, vp_n h6 (by decide), kSrc hb h6, ?_⟩
  rintro _ rfl
  refine s_draft h (fun M1 s1 k1 b1 r1 => ?_)
  rw [k1.1.1, bs_ln b1 (by decide) (Or.inl rfl), el, k1.2.1 i h6]
  refine ⟨kS b1, kA1 b1, vp_n h6 (by decide), kSrc b1 h6, s_X4_define (kSrc b1 h6) (fun M2 s2 e0 e1 e2 e3 => ?_)⟩
  obtain ⟨u0, u1, u2, u3⟩ := rSource_s R i x2 x3 x4 x5
  refine s_keepSound h ((s1.fo (fun a b q => q)).tr (s2.fo (fun a b (q : a = _) => ⟨by omega, by omega⟩))) (sm_sk s2 k1) (rep_srcU k1 hV r1 h6 s2 (fun f hf => ?_) (fun j hj => rSource_o hj)) (V_source hV h6 hf) hq
  have hf9 : f = 0 ∨ f = 1 ∨ f = 2 ∨ f = 3 := by omega
  rcases hf9 with rfl | rfl | rfl | rfl
  · rw [u0]; exact e0
  · rw [u1]; exact e1
  · rw [u2]; exact e2
  · rw [u3]; exact e3
theorem rFades_s (R : Row) (c : Nat) (i o v : Int32) : (∀ f, f < 6 → rC (rFades R c i o v) c f = rC R c f) ∧ rC (rFades R c i o v) c 6 = i ∧ rC (rFades R c i o v) c 7 = o ∧ rC (rFades R c i o v) c 8 = v := by
  unfold rC rFades
  refine ⟨fun f hf => ?_, ?_, ?_, ?_⟩
  · rw [up_ne (by omega), up_ne (by omega), up_ne (by omega)]
  all_goals simp [up]
theorem rFades_o {R : Row} {c j : Nat} {i o v : Int32} (h : j < 33 + 9 * c + 6 ∨ 33 + 9 * c + 9 ≤ j) : rFades R c i o v j = R j := by
  unfold rFades
  rw [up_ne (by omega), up_ne (by omega), up_ne (by omega)]
theorem V_fades {R : Row} {c : Nat} {i o v : Int32} (h : VAL R) (hc : c < cn R) (hf : fFades i o v) : VAL (rFades R c i o v) := by
  obtain ⟨vS, vC, vT, vP, vX, vL⟩ := h
  have h12 := vC.cn.2
  obtain ⟨t1, t2⟩ := VTP_ag (R1 := rFades R c i o v) vT vP (fun j h1 h2 => rFades_o (by omega))
  obtain ⟨e0, e6, e7, e8⟩ := rFades_s R c i o v
  have e8' : rFades R c i o v 8 = R 8 := rFades_o (by omega)
  have ec : cn (rFades R c i o v) = cn R := by unfold cn; rw [e8']
  have eo : ∀ u f, f < 9 → (u ≠ c ∨ f < 6) → rC (rFades R c i o v) u f = rC R u f := fun u f hf hh => by
    by_cases e : u = c
    · rw [e]; exact e0 f (by omega)
    · exact rFades_o (by omega)
  refine ⟨VS_ag vS (fun j h1 h2 => rFades_o (by omega)), ⟨by rw [e8']; exact vC.1, fun u hu => ?_⟩, t1, t2, VX_ag vX (fun j hj => rFades_o (by omega)), fun u hu => ?_, fun u hu => ?_⟩
  · rw [ec] at hu
    unfold VC1
    rw [eo u 0 (by decide) (Or.inr (by decide)), eo u 1 (by decide) (Or.inr (by decide)), eo u 2 (by decide) (Or.inr (by decide)), eo u 3 (by decide) (Or.inr (by decide)), eo u 4 (by decide) (Or.inr (by decide)), eo u 5 (by decide) (Or.inr (by decide))]
    obtain ⟨a1, a2, a3, a4, a5, a6, a7, a8⟩ := vC.2 u hu
    by_cases e : u = c
    · rw [e, e6, e7, e8]
      rw [e] at a1 a2 a3 a4 a5
      exact ⟨a1, a2, a3, a4, a5, hf.1, hf.2.1, hf.2.2⟩
    · rw [eo u 6 (by decide) (Or.inl e), eo u 7 (by decide) (Or.inl e), eo u 8 (by decide) (Or.inl e)]
      exact ⟨a1, a2, a3, a4, a5, a6, a7, a8⟩
  · rw [ec] at hu
    rw [eo u 0 (by decide) (Or.inr (by decide)), eo u 2 (by decide) (Or.inr (by decide)), eo u 4 (by decide) (Or.inr (by decide)), eo (u + 1) 0 (by decide) (Or.inr (by decide)), eo (u + 1) 2 (by decide) (Or.inr (by decide)), eo (u + 1) 4 (by decide) (Or.inr (by decide))]
    exact vL.1 u hu
  · rw [ec] at hu
    rw [eo u 0 (by decide) (Or.inr (by decide)), eo u 2 (by decide) (Or.inr (by decide)), eo u 4 (by decide) (Or.inr (by decide)), eo (u + 2) 0 (by decide) (Or.inr (by decide)), eo (u + 2) 2 (by decide) (Or.inr (by decide))]
    exact vL.2 u hu
theorem s_X0_fade {M : mw_M} {q : Nat} {a b c : Int32} {Q : mw_M → Prop} (kq : mw_is 255 q 0) (hq : ∀ M1, sm (So q) M M1 → (∀ f, f < 6 → mI M1 q f = mI M q f) → mI M1 q 6 = a → mI M1 q 7 = b → mI M1 q 8 = c → Q M1) : w_X0_fade 255 M q a b c Q := by
  unfold w_X0_fade
  refine ⟨kq, ?_⟩
  rintro _ rfl _ rfl _ rfl
  refine hq _ (((sm.si (S := So q) rfl).tr (sm.si (S := So q) rfl)).tr (sm.si (S := So q) rfl)) (fun f hf => ?_) ?_ ?_ ?_
  · rw [mI_ne (Or.inr (by omega)), mI_ne (Or.inr (by omega)), mI_ne (Or.inr (by omega))]
  all_goals simp [mI_sI]
theorem s_X7_setFades {M : mw_M} {σ : Nat → Nat} {k : Nat} {R : Row} {K : Int64} {P : Nat → Row} {PK : Nat → Int64} {x1 x2 x3 x4 : Int32} {Q : mw_M → Int32 → Prop} {X : mw_M → String → Prop} (h : CF M σ k R K P PK) (h1 : ¬ isCl R x1 → X M "java/lang/IndexOutOfBoundsException") (h2 : isCl R x1 → ¬ fFades x2 x3 x4 → X M "java/lang/IllegalArgumentException") (hq : isCl R x1 → fFades x2 x3 x4 → ∀ M1 σ1, fo ST M M1 → CF M1 σ1 (nk k) (rFades R (nx x1) x2 x3 x4) K (psh k P R) (psh k PK K) → Q M1 (rC R (nx x1) 6)) : w_X7_setFades 255 M 1 x1 x2 x3 x4 Q X := by
  unfold w_X7_setFades w_X7_setFades_b37
  refine ⟨is1, s_chkC h.cx h1 (fun hcl => ?_)⟩
  obtain ⟨⟨h0, h5, hb⟩, hsk, hp, hV, hk, hc⟩ := h.cx
  have bad := h2 hcl
  refine s_out2 0 4000 rfl rfl (fun g2 => s_out2 0 4000 rfl rfl (fun g3 => s_out 0 1 rfl rfl (fun g4 => ?_) (fun g => bad (fun q => g q.2.2))) (fun g => bad (fun q => g q.2.1))) (fun g => bad (fun q => g q.1))
  have hf : fFades x2 x3 x4 := ⟨g2, g3, g4⟩
  replace hq := hq hcl hf
  obtain ⟨hx, hcn, h12⟩ := cl_s hV.2.1 hcl
  clear h1 h2 bad hcl
  generalize nx x1 = c at *
  subst hx
  have el : lnd 2 = 12 := rfl
  rw [h0, hsk.1.2.1, bs_ln hb (by decide) (Or.inr (Or.inl rfl)), el, nI_clamp (by omega), vC hp hcn (f := 6) (by decide)]
  refine ⟨kS hb, kA2 hb, vp_n h12 (by decide), kC hb hsk h12, ?_⟩
  rintro _ rfl
  refine s_draft h (fun M1 s1 k1 b1 r1 => ?_)
  rw [k1.1.2.1, bs_ln b1 (by decide) (Or.inr (Or.inl rfl)), el]
  refine ⟨kS b1, kA2 b1, vp_n h12 (by decide), kC b1 k1 h12, s_X0_fade (kC b1 k1 h12) (fun M2 s2 e0 e6 e7 e8 => ?_)⟩
  obtain ⟨u0, u6, u7, u8⟩ := rFades_s R c x2 x3 x4
  obtain ⟨q1, q2⟩ := k1.2.2.2.1 c h12
  refine s_keepSound h ((s1.fo (fun a b q => q)).tr (s2.fo (fun a b (q : a = _) => ⟨by omega, by omega⟩))) (sm_sk s2 k1) (rep_clipU b1 k1 hV r1 hcn s2 (fun f hf => ?_) (fun j hj => rFades_o (by omega))) (V_fades hV hcn hf) hq
  by_cases h6 : f < 6
  · rw [u0 f h6, e0 f h6]; exact vC r1 hcn hf
  · have hf9 : f = 6 ∨ f = 7 ∨ f = 8 := by omega
    rcases hf9 with rfl | rfl | rfl
    · rw [u6]; exact e6
    · rw [u7]; exact e7
    · rw [u8]; exact e8
