/-! The class: the other calls that change nothing -/
theorem Scv_mi {t : Nat} (ht : t < 4) : ∀ a b, Scv t a b → Smi a b := fun a b q => Or.inr (by rcases q with q | q <;> omega)
theorem cv_all {M M1 : mw_M} {R : Row} {t : Nat} (s : sm (Scv t) M M1) (c : cv M1 R t) (h : ∀ u, u < 4 → cv M R u) : ∀ u, u < 4 → cv M1 R u := by
  intro u hu
  by_cases e : u = t
  · rw [e]; exact c
  · exact cv_fr s (h u hu) e
theorem s_X7_duckGain {M : mw_M} {s : Nat} {R : Row} {K : Int64} {x1 x2 : Int32} {Q : mw_M → Int32 → Prop} {X : mw_M → String → Prop} (h : CX M s R K) (h1 : ¬ isTr x1 → X M "java/lang/IndexOutOfBoundsException") (h2 : isTr x1 → ¬ isPl x2 → X M "java/lang/IllegalArgumentException") (hq : isTr x1 → isPl x2 → ∀ M1, sm Smi M M1 → (∀ t, t < 4 → cv M1 R t) → Q M1 (dgR R (nx x1) (nx x2))) : w_X7_duckGain 255 M 1 x1 x2 Q X := by
  obtain ⟨⟨h0, h5, hb⟩, hsk, hr, hV, hk, hc⟩ := h
  unfold w_X7_duckGain
  refine s_chkT h1 (fun ht => s_chkP (h2 ht) (fun hp => ⟨is1, ?_⟩))
  obtain ⟨hx, h4⟩ := nx_4 ht
  obtain ⟨hy, hn⟩ := pl_s hp
  replace hq := hq ht hp
  clear h1 h2 ht hp
  generalize nx x1 = t at *
  generalize nx x2 = n at *
  subst hx
  subst hy
  refine s_X7_learn h0 hb hsk hr hV hk (hc t h4) h4 hn (fun M1 s1 c1 w1 => ?_)
  exact s_X7_duckGainAt ((s1.1 _ _).trans h0) hb (sm_sk s1 hsk) (sm_rep s1 hsk hV.2.1 (fun a b _ h2 => Scv_lo hb h2) hr) hV.2.2.1 (sm_cvk s1 hk) h4 hn c1 w1 (hq M1 (s1.mono (Scv_mi h4)) (cv_all s1 c1 hc))
theorem s_X7_trackValue {M : mw_M} {s : Nat} {R : Row} {K : Int64} {x1 x2 : Int32} {Q : mw_M → Int32 → Prop} {X : mw_M → String → Prop} (h : CX M s R K) (h1 : ¬ isTr x1 → X M "java/lang/IndexOutOfBoundsException") (h2 : isTr x1 → ¬ isPl x2 → X M "java/lang/IllegalArgumentException") (hq : isTr x1 → isPl x2 → ∀ M1, sm Smi M M1 → (∀ t, t < 4 → cv M1 R t) → Q M1 (valR R (nx x1) (nx x2))) : w_X7_trackValue 255 M 1 x1 x2 Q X := by
  obtain ⟨⟨h0, h5, hb⟩, hsk, hr, hV, hk, hc⟩ := h
  unfold w_X7_trackValue
  refine s_chkT h1 (fun ht => s_chkP (h2 ht) (fun hp => ⟨is1, ?_⟩))
  obtain ⟨hx, h4⟩ := nx_4 ht
  obtain ⟨hy, hn⟩ := pl_s hp
  replace hq := hq ht hp
  clear h1 h2 ht hp
  generalize nx x1 = t at *
  generalize nx x2 = n at *
  subst hx
  subst hy
  refine s_X7_learn h0 hb hsk hr hV hk (hc t h4) h4 hn (fun M1 s1 c1 w1 => ?_)
  exact s_X7_valueOfTrack ((s1.1 _ _).trans h0) hb (sm_sk s1 hsk) (sm_rep s1 hsk hV.2.1 (fun a b _ h2 => Scv_lo hb h2) hr) hV (sm_cvk s1 hk) h4 hn c1 w1 (hq M1 (s1.mono (Scv_mi h4)) (cv_all s1 c1 hc))
theorem s_X7_sample {M : mw_M} {s : Nat} {R : Row} {K : Int64} {x1 x2 : Int32} {Q : Int32 → Prop} {X : mw_M → String → Prop} (h : CX M s R K) (h1 : ¬ hasS R x1 x2 → X M "java/lang/IndexOutOfBoundsException") (hq : hasS R x1 x2 → Q (smpR R (nx x1) x2)) : w_X7_sample 255 M 1 x1 x2 Q X := by
  obtain ⟨⟨h0, h5, hb⟩, hsk, hr, hV, hk, hc⟩ := h
  unfold w_X7_sample
  refine s_chkS (fun g => h1 (fun q => g q.1)) (fun hs => ?_)
  have h6 : nx x1 < 6 := by have := hs.2; unfold nx; omega
  have hx := nx_s hs.1
  obtain ⟨-, -, -, z1, z2⟩ := hV.1 _ h6
  have o1 : (1 : Int32).toInt = 1 := rfl
  replace h1 := fun q : ¬ (0 ≤ x2.toInt ∧ x2 < rS R (nx x1) 3) => h1 (fun r => q r.2)
  replace hq := fun q : 0 ≤ x2.toInt ∧ x2 < rS R (nx x1) 3 => hq ⟨hs, q⟩
  generalize nx x1 = c at *
  subst hx
  have el : lnd 1 = 6 := rfl
  rw [h0, hsk.1.1, bs_ln hb (by decide) (Or.inl rfl), el, nI_clamp (by omega), hsk.2.1 c h6, hr.1 c 3 h6 (by decide)]
  refine ⟨is1, kS hb, kA1 hb, vp_n h6 (by decide), kSrc hb h6, s_out 0 ((rS R c 3).toInt - 1) rfl (by rw [ti_sub (by rw [o1]; omega) (by rw [o1]; omega), o1]) (fun g => ?_) (fun g => h1 (fun q => g ⟨q.1, by have := q.2; rw [ti_lt] at this; omega⟩))⟩
  have hl : x2 < rS R c 3 := by rw [ti_lt]; have := g.2; omega
  refine s_X4_valueAt (kSrc hb h6) (fun f hf => hr.1 c f h6 hf) hV.1 h6 g.1 ?_
  rw [if_pos hl]
  exact hq ⟨g.1, hl⟩
theorem s_chkC {M : mw_M} {s : Nat} {R : Row} {K : Int64} {x : Int32} {Q : Prop} {X : mw_M → String → Prop} (h : CX M s R K) (h1 : ¬ isCl R x → X M "java/lang/IndexOutOfBoundsException") (h0 : isCl R x → Q) : w_X7_checkClip 255 M 1 x Q X := by
  obtain ⟨⟨h0', h5, hb⟩, hsk, hr, hV, hk, hc⟩ := h
  obtain ⟨e8, h12⟩ := hV.2.1.cn
  unfold w_X7_checkClip
  rw [h0', hr.2.1, e8]
  have o1 : (1 : Int32).toInt = 1 := rfl
  refine ⟨is1, kS hb, s_out 0 ((cn R : Int) - 1) rfl (by rw [ti_sub (by rw [nI_toInt (by omega), o1]; omega) (by rw [nI_toInt (by omega), o1]; omega), nI_toInt (by omega), o1]) (fun g => h0 ⟨g.1, by have := g.2; omega⟩) (fun g => h1 (fun q => g ⟨q.1, by have := q.2; omega⟩))⟩
theorem s_X0_property {n q : Nat} {M : mw_M} {r : Nat → Int32} {x : Int32} {Q : Int32 → Prop} (hk : mw_is n q 0) (hv : ∀ f, f < 9 → mI M q f = r f) (h0 : 0 ≤ x.toInt) (h8 : x.toInt ≤ 8) (hq : Q (r (nx x))) : w_X0_property n M q x Q := by
  unfold w_X0_property
  unfold nx at hq
  have fin : ∀ f : Nat, f < 9 → x.toInt = (f : Int) → mw_is n q 0 ∧ Q (mI M q f) := by
    intro f hf e
    rw [e] at hq
    rw [hv f hf]
    exact ⟨hk, hq⟩
  exact ⟨fun g => fin 8 (by decide) (by omega), fun g => fin 0 (by decide) g, fun g => fin 1 (by decide) g, fun g => fin 2 (by decide) g, fun g => fin 3 (by decide) g, fun g => fin 4 (by decide) g, fun g => fin 5 (by decide) g, fun g => fin 6 (by decide) g, fun g => fin 7 (by decide) g⟩
theorem s_X7_clip {M : mw_M} {s : Nat} {R : Row} {K : Int64} {x1 x2 : Int32} {Q : Int32 → Prop} {X : mw_M → String → Prop} (h : CX M s R K) (h1 : ¬ isCl R x1 → X M "java/lang/IndexOutOfBoundsException") (h2 : isCl R x1 → ¬ isAt 0 8 x2 → X M "java/lang/IllegalArgumentException") (hq : isCl R x1 → isAt 0 8 x2 → Q (rC R (nx x1) (nx x2))) : w_X7_clip 255 M 1 x1 x2 Q X := by
  unfold w_X7_clip
  refine ⟨is1, s_chkC h h1 (fun hcl => s_out 0 8 rfl rfl (fun g => ?_) (fun g => h2 hcl g))⟩
  obtain ⟨⟨h0, h5, hb⟩, hsk, hr, hV, hk, hc⟩ := h
  obtain ⟨hx, hcn, h12⟩ := cl_s hV.2.1 hcl
  replace hq := hq hcl g
  clear h1 h2 hcl
  generalize nx x1 = c at *
  subst hx
  have el : lnd 2 = 12 := rfl
  rw [h0, hsk.1.2.1, bs_ln hb (by decide) (Or.inr (Or.inl rfl)), el, nI_clamp (by omega)]
  exact ⟨kS hb, kA2 hb, vp_n h12 (by decide), kC hb hsk h12, s_X0_property (kC hb hsk h12) (fun f hf => vC hr hcn hf) g.1 g.2 hq⟩
theorem s_X7_clipValue {M : mw_M} {s : Nat} {R : Row} {K : Int64} {x1 x2 : Int32} {Q : Int32 → Prop} {X : mw_M → String → Prop} (h : CX M s R K) (h1 : ¬ isCl R x1 → X M "java/lang/IndexOutOfBoundsException") (h2 : isCl R x1 → ¬ cov R (nx x1) x2 → X M "java/lang/IllegalArgumentException") (hq : isCl R x1 → cov R (nx x1) x2 → Q (rawR R (nx x1) x2)) : w_X7_clipValue 255 M 1 x1 x2 Q X := by
  unfold w_X7_clipValue
  refine ⟨is1, s_chkC h h1 (fun hcl => ?_)⟩
  obtain ⟨⟨h0, h5, hb⟩, hsk, hr, hV, hk, hc⟩ := h
  obtain ⟨hx, hcn, h12⟩ := cl_s hV.2.1 hcl
  replace hq := hq hcl
  replace h2 := h2 hcl
  clear h1 hcl
  generalize nx x1 = c at *
  subst hx
  have el : lnd 2 = 12 := rfl
  rw [h0, hsk.1.2.1, bs_ln hb (by decide) (Or.inr (Or.inl rfl)), el, nI_clamp (by omega)]
  refine ⟨kS hb, kA2 hb, vp_n h12 (by decide), kC hb hsk h12, s_X0_covers (kC hb hsk h12) ?_⟩
  rw [vC hr hcn (f := 2) (by decide), vC hr hcn (f := 4) (by decide), bl_0, Classical.not_not]
  exact ⟨fun g => s_X5_rawValue hb hsk hr hV.1 (kC hb hsk h12) (fun f hf => vC hr hcn hf) (hV.2.1.2 c hcn) g (hq g), fun g => h2 g⟩
/-- a meter of a row and its sum -/
def mtR (R : Row) (K : Int64) (k : Nat) : Int64 := if k < 4 then Int32.toInt64 (R (4 + k)) else K
theorem s_X3_reading {M : mw_M} {s : Nat} {R : Row} {K : Int64} {x : Int32} {Q : Int64 → Prop} (hb : bs s) (hr : rep M s R K) (h0 : 0 ≤ x.toInt) (h4 : x.toInt ≤ 4) (hq : Q (mtR R K (nx x))) : w_X3_reading 255 M (s + 4) x Q := by
  obtain ⟨-, -, -, -, -, hl, hK⟩ := hr
  unfold w_X3_reading
  unfold nx at hq
  have fin : ∀ f : Nat, f < 4 → x.toInt = (f : Int) → mw_is 255 (s + 4) 3 ∧ Q (mL M (s + 4) f) := by
    intro f hf e
    rw [e] at hq
    unfold mtR at hq
    rw [if_pos (by omega)] at hq
    rw [hl f hf]
    exact ⟨kM hb, hq⟩
  refine ⟨fun g => ⟨kM hb, ?_⟩, fun g => fin 0 (by decide) g, fun g => fin 1 (by decide) g, fun g => fin 2 (by decide) g, fun g => fin 3 (by decide) g⟩
  have e : x.toInt = 4 := by omega
  rw [e] at hq
  rw [hK]
  exact hq
theorem s_X7_meter {M : mw_M} {s : Nat} {R : Row} {K : Int64} {x1 : Int32} {Q : Int64 → Prop} {X : mw_M → String → Prop} (h : CX M s R K) (h1 : ¬ isAt 0 4 x1 → X M "java/lang/IllegalArgumentException") (hq : isAt 0 4 x1 → Q (mtR R K (nx x1))) : w_X7_meter 255 M 1 x1 Q X := by
  obtain ⟨⟨h0, h5, hb⟩, hsk, hr, hV, hk, hc⟩ := h
  unfold w_X7_meter
  refine s_out 0 4 rfl rfl (fun g => ?_) (fun g => h1 g)
  rw [h0, hsk.1.2.2.2]
  exact ⟨is1, kS hb, kM hb, s_X3_reading hb hr g.1 g.2 (hq g)⟩
theorem s_X7_clips {M : mw_M} {s : Nat} {R : Row} {K : Int64} {Q : Int32 → Prop} (h : CX M s R K) (hq : Q (R 8)) : w_X7_clips 255 M 1 Q := by
  obtain ⟨⟨h0, h5, hb⟩, hsk, hr, hV, hk, hc⟩ := h
  unfold w_X7_clips
  rw [h0, hr.2.1]
  exact ⟨is1, kS hb, hq⟩
theorem s_X7_length {M : mw_M} {s : Nat} {R : Row} {K : Int64} {Q : Int32 → Prop} (h : CX M s R K) (hq : Q (lenR R (cn R))) : w_X7_length 255 M 1 Q := by
  obtain ⟨⟨h0, h5, hb⟩, hsk, hr, hV, hk, hc⟩ := h
  obtain ⟨e8, h12⟩ := hV.2.1.cn
  unfold w_X7_length w_X7_length_b4
  refine ⟨fun y z => ∃ c, z = nI c ∧ c ≤ cn R ∧ y = lenR R c, fun _ z => 12 - z.toInt.toNat, ⟨0, rfl, Nat.zero_le _, rfl⟩, ?_⟩
  rintro _ _ ⟨c, rfl, hc2, rfl⟩
  have el : lnd 2 = 12 := rfl
  rw [h0, hr.2.1, e8, nI_leI (by omega) (by omega), hsk.1.2.1, bs_ln hb (by decide) (Or.inr (Or.inl rfl)), el, nI_clamp (by omega)]
  refine ⟨is1, kS hb, fun g => ?_, fun g => ⟨kA2 hb, vp_n (by omega) (by decide), kC hb hsk (by omega), s_X0_end (kC hb hsk (by omega)) ?_⟩⟩
  · have : c = cn R := by omega
    subst this
    exact hq
  · have hcn : c < cn R := by omega
    rw [vC hr hcn (f := 2) (by decide), vC hr hcn (f := 4) (by decide)]
    rintro _ rfl _ rfl
    exact ⟨⟨c + 1, nI_1 c, by omega, rfl⟩, mu_dec (by omega) (by decide)⟩
