/-! The reference: the calls that change nothing -/
def Sq : Nat → Nat → Prop := fun a b => a = 253 ∨ (a = 247 ∧ (b = 5 ∨ 10 ≤ b))
/-- the two ends of such a call: refused with a code, or an answer -/
def qpost {α : Type} (M : mw_M) (c : Nat) (z v : α) (Q : mw_M → α → Prop) : Prop := (c ≠ 0 → ∀ M1, sm Sq M M1 → mI M1 247 5 = nI c → Q M1 z) ∧ (c = 0 → ∀ M1, sm Sq M M1 → mI M1 247 5 = 0 → Q M1 v)
theorem Sq5 : ∀ a b, S5 a b → Sq a b := fun a b h => Or.inr ⟨h.1, Or.inl h.2⟩
theorem Sq3 : ∀ a b, S253 a b → Sq a b := fun a b h => Or.inl h
theorem Sqm : ∀ a b, Smix a b → Sq a b := fun a b h => Or.inr ⟨h.1, Or.inr (by have := h.2; omega)⟩
theorem Sq8 : ∀ b, ¬ Sq 248 b := by
  rintro b (h | h)
  · cases h
  · exact absurd h.1 (by decide)
theorem s_rfs {M : mw_M} {c : Nat} {x : Int32} {K : mw_M → Int32 → Prop} (hM : MK M) (hc : c < 4) (hx : x = nI c) (h1 : c ≠ 0 → ∀ M1, sm Sq M M1 → mI M1 247 5 = nI c → K M1 1) (h0 : c = 0 → ∀ M1, sm Sq M M1 → MK M1 → nw M1 = nw M → mI M1 247 5 = 0 → K M1 0) : w_X8_refuses 255 M 247 x K := by
  subst hx
  have s1 : sm Sq M (sI M 247 5 (nI c)) := sm.si (Or.inr ⟨rfl, Or.inl rfl⟩)
  refine s_X8_refuses ?_
  by_cases h : c = 0
  · subst h
    rw [bl_f (fun q => q rfl)]
    exact h0 rfl _ s1 (s1.MK hM) (s1.nw Sq8) (mI_at _ _ _ _)
  · rw [bl_t (P := nI c ≠ 0) (fun q => h ((nI_eq (b := 0) (by omega) (by decide)).mp q))]
    exact h1 h _ s1 (mI_at _ _ _ _)
/-- the choice of a code between 1 and 2 by two tests -/
theorem s_t2 {P1 P2 : Prop} {B : Nat → Prop} {v : Int32} {T : (Int32 → Prop) → Prop} (hv : v = bl P1) (hT : P1 → ∀ K : Int32 → Prop, K (bl P2) → T K) (h : B (c12 P1 P2)) : (¬ v = 0 → T (fun w => (w = 0 → B 2) ∧ (¬ w = 0 → B 0))) ∧ (v = 0 → B 1) := by
  subst hv
  rw [bl_0]
  refine ⟨fun h1 => hT (Classical.not_not.mp h1) _ ?_, fun h1 => ?_⟩
  · rw [bl_0]
    refine ⟨fun h2 => ?_, fun h2 => ?_⟩
    · rw [c12_2 (Classical.not_not.mp h1) h2] at h; exact h
    · rw [c12_0 (Classical.not_not.mp h1) (Classical.not_not.mp h2)] at h; exact h
  · rw [c12_1 h1] at h; exact h
def isAt (a b : Int) (x : Int32) : Prop := a ≤ x.toInt ∧ x.toInt ≤ b
def hasS (R : Row) (s i : Int32) : Prop := isSrc s ∧ 0 ≤ i.toInt ∧ i < rS R (nx s) 3
theorem s_X8_sample {M : mw_M} {x1 x2 : Int32} {Q : mw_M → Int32 → Prop} (hM : MK M) (hV : VS (nw M)) (hq : qpost M (c1 (hasS (nw M) x1 x2)) 0 (smpR (nw M) (nx x1) x2) Q) : w_X8_sample 255 M 247 x1 x2 Q := by
  have b26 : ∀ c, c = c1 (hasS (nw M) x1 x2) → w_X8_sample_b26 255 M 247 x1 x2 (nI c) 247 Q := by
    rintro _ rfl
    unfold w_X8_sample_b26 w_X8_sample_b42
    refine ⟨is247, s_rfs hM (c1_lt _) rfl (fun hc M1 s1 e1 => ⟨fun q => absurd q (by decide), fun _ => hq.1 hc M1 s1 e1⟩) (fun hc M1 s1 k1 n1 e1 => ⟨fun _ => ⟨is247, ?_⟩, fun q => absurd rfl q⟩)⟩
    obtain ⟨hs, -, -⟩ := c1_ok hc
    have h6 : nx x1 < 6 := by have := hs.2; unfold nx; omega
    rw [nx_s hs.1]
    refine s_X8_sampleOf k1 (by rw [n1]; exact hV) h6 ?_
    rw [n1]
    exact hq.2 hc M1 s1 e1
  have bad : ¬ hasS (nw M) x1 x2 → w_X8_sample_b25 255 M 247 x1 x2 247 Q := fun h => b26 1 (c1_f h).symm
  unfold w_X8_sample
  refine s_X8_isSource ⟨fun h => bad (fun q => bl_0.mp h q.1), fun h => ⟨fun h2 => bad (fun q => ?_), fun h2 => ⟨is247, ?_⟩⟩⟩
  · rw [ti_lt, Int32.toInt_zero] at h2
    have := q.2.1
    omega
  · have hs : isSrc x1 := Classical.not_not.mp (fun q => h (bl_0.mpr q))
    have h6 : nx x1 < 6 := by have := hs.2; unfold nx; omega
    rw [ti_lt, Int32.toInt_zero] at h2
    have := s_X8_hasSample (M := M) (s := nx x1) (x := x2) (Q := fun v11 => ((v11 = 0 → w_X8_sample_b25 255 M 247 x1 x2 247 Q) ∧ (¬ v11 = 0 → w_X8_sample_b26 255 M 247 x1 x2 (0 : Int32) 247 Q))) hM h6 ⟨fun h3 => bad (fun q => bl_0.mp h3 q.2.2), fun h3 => b26 0 (c1_t ⟨hs, by omega, Classical.not_not.mp (fun q => h3 (bl_0.mpr q))⟩).symm⟩
    rw [← nx_s hs.1] at this
    exact this
theorem s_X8_clips {M : mw_M} {Q : mw_M → Int32 → Prop} (hM : MK M) (hq : ∀ M1, sm Sq M M1 → mI M1 247 5 = 0 → Q M1 (nw M 8)) : w_X8_clips 255 M 247 Q := by
  unfold w_X8_clips
  refine ⟨is247, ?_⟩
  rintro _ rfl
  have s1 : sm Sq M (sI M 247 5 0) := sm.si (Or.inr ⟨rfl, Or.inl rfl⟩)
  obtain ⟨i1, j1⟩ := ix_is (x := 8) (j := 8) rfl (by decide)
  have g : mP (sI M 247 5 0) 247 0 = 248 := (s1.1 _ _).trans hM.1
  rw [g, j1, s1.2.1 248 8 (Sq8 8)]
  exact ⟨is248, i1, hq _ s1 (mI_at _ _ _ _)⟩
theorem cl_s {R : Row} (hC : VC R) {x : Int32} (h : isCl R x) : x = nI (nx x) ∧ nx x < cn R ∧ nx x < 12 := by
  have h1 := hC.cn.2
  have h0 := h.1
  have h2 := h.2
  exact ⟨nx_s h.1, by unfold nx; omega, by unfold nx; omega⟩
theorem s_X8_clip {M : mw_M} {x1 x2 : Int32} {Q : mw_M → Int32 → Prop} (hM : MK M) (hC : VC (nw M)) (hq : qpost M (c12 (isCl (nw M) x1) (isAt 0 8 x2)) 0 (rC (nw M) (nx x1) (nx x2)) Q) : w_X8_clip 255 M 247 x1 x2 Q := by
  have b30 : ∀ c, c = c12 (isCl (nw M) x1) (isAt 0 8 x2) → w_X8_clip_b30 255 M 247 x1 x2 (nI c) 247 Q := by
    rintro _ rfl
    unfold w_X8_clip_b30 w_X8_clip_b46
    refine ⟨is247, s_rfs hM (c12_lt _ _) rfl (fun hc M1 s1 e1 => ⟨fun q => absurd q (by decide), fun _ => hq.1 hc M1 s1 e1⟩) (fun hc M1 s1 k1 n1 e1 => ⟨fun _ => ⟨is247, ?_⟩, fun q => absurd rfl q⟩)⟩
    obtain ⟨h1, h2⟩ := c12_ok hc
    obtain ⟨hx, -, h12⟩ := cl_s hC h1
    have h9 : nx x2 < 9 := by have := h2.2; unfold nx; omega
    rw [hx]
    refine s_X8_clipOf (f := nx x2) k1 h12 h9 (nx_s h2.1) ?_
    rw [n1]
    exact hq.2 hc M1 s1 e1
  unfold w_X8_clip
  refine ⟨is247, s_X8_isClip hM hC (s_t2 (P2 := isAt 0 8 x2) (B := fun c => w_X8_clip_b30 255 M 247 x1 x2 (nI c) 247 Q) (T := fun K => w_X8_in 255 M (Int32.toInt64 x2) (0 : Int64) (8 : Int64) K) rfl (fun _ K hK => s_X8_in ?_) (b30 _ rfl))⟩
  rw [ti_l]; exact hK
theorem s_X8_clipValue {M : mw_M} {x1 x2 : Int32} {Q : mw_M → Int32 → Prop} (hM : MK M) (hS : VS (nw M)) (hC : VC (nw M)) (hq : qpost M (c12 (isCl (nw M) x1) (cov (nw M) (nx x1) x2)) 0 (rawR (nw M) (nx x1) x2) Q) : w_X8_clipValue 255 M 247 x1 x2 Q := by
  have b30 : ∀ c, c = c12 (isCl (nw M) x1) (cov (nw M) (nx x1) x2) → w_X8_clipValue_b27 255 M 247 x1 x2 (nI c) 247 Q := by
    rintro _ rfl
    unfold w_X8_clipValue_b27 w_X8_clipValue_b43
    refine ⟨is247, s_rfs hM (c12_lt _ _) rfl (fun hc M1 s1 e1 => ⟨fun q => absurd q (by decide), fun _ => hq.1 hc M1 s1 e1⟩) (fun hc M1 s1 k1 n1 e1 => ⟨fun _ => ⟨is247, ?_⟩, fun q => absurd rfl q⟩)⟩
    obtain ⟨h1, h2⟩ := c12_ok hc
    obtain ⟨hx, hcn, h12⟩ := cl_s hC h1
    rw [hx]
    refine s_X8_raw k1 (by rw [n1]; exact hS) h12 (by rw [n1]; exact hC.2 _ hcn) (by rw [n1]; exact h2) ?_
    rw [n1]
    exact hq.2 hc M1 s1 e1
  unfold w_X8_clipValue
  refine ⟨is247, s_X8_isClip hM hC (s_t2 (P2 := cov (nw M) (nx x1) x2) (B := fun c => w_X8_clipValue_b27 255 M 247 x1 x2 (nI c) 247 Q) (T := fun K => w_X8_covers 255 M 247 x1 x2 K) rfl (fun h1 K hK => ?_) (b30 _ rfl))⟩
  obtain ⟨hx, hcn, h12⟩ := cl_s hC h1
  have := s_X8_covers (M := M) (c := nx x1) (x := x2) (Q := K) hM h12 hK
  rw [← hx] at this
  exact this
theorem s_X8_automation {M : mw_M} {x1 x2 : Int32} {Q : mw_M → Int32 → Prop} (hM : MK M) (hT : VT (nw M)) (hP : VP (nw M)) (hq : qpost M (c12 (isTr x1) (isPl x2)) 0 (laneR (nw M) (nx x1) x2) Q) : w_X8_automation 255 M 247 x1 x2 Q := by
  have b30 : ∀ c, c = c12 (isTr x1) (isPl x2) → w_X8_automation_b24 255 M 247 x1 x2 (nI c) 247 Q := by
    rintro _ rfl
    unfold w_X8_automation_b24 w_X8_automation_b40
    refine ⟨is247, s_rfs hM (c12_lt _ _) rfl (fun hc M1 s1 e1 => ⟨fun q => absurd q (by decide), fun _ => hq.1 hc M1 s1 e1⟩) (fun hc M1 s1 k1 n1 e1 => ⟨fun _ => ⟨is247, ?_⟩, fun q => absurd rfl q⟩)⟩
    obtain ⟨h1, h2⟩ := c12_ok hc
    obtain ⟨hx, h4⟩ := nx_4 h1
    rw [hx]
    refine s_X8_laneAt k1 (by rw [n1]; exact hT) (by rw [n1]; exact hP) h4 h2.1 h2.2 ?_
    rw [n1]
    exact hq.2 hc M1 s1 e1
  unfold w_X8_automation
  exact s_X8_isTrack (s_t2 (P2 := isPl x2) (B := fun c => w_X8_automation_b24 255 M 247 x1 x2 (nI c) 247 Q) (T := fun K => w_X8_isPlace 255 M x2 K) rfl (fun h1 K hK => s_X8_isPlace hK) (b30 _ rfl))
theorem pk_div40 {n : Nat} (h : n < 4000) : nI n / 40 = nI (n / 40) := by
  apply ti_inj
  have e : (40 : Int32).toInt = 40 := rfl
  have hn : (nI n).toInt = (n : Int) := nI_toInt (by omega)
  rw [ti_div (by rw [hn]; omega) (by rw [e]; decide), hn, e, nI_toInt (by omega)]
  rfl
theorem pl_s {x : Int32} (h : isPl x) : x = nI (nx x) ∧ nx x < 4000 := ⟨nx_s h.1, by have := h.2; unfold nx; omega⟩
theorem s_X8_duckGain {M : mw_M} {x1 x2 : Int32} {Q : mw_M → Int32 → Prop} (hM : MK M) (hV : VAL (nw M)) (hq : qpost M (c12 (isTr x1) (isPl x2)) 0 (dgR (nw M) (nx x1) (nx x2)) Q) : w_X8_duckGain 255 M 247 x1 x2 Q := by
  have b30 : ∀ c, c = c12 (isTr x1) (isPl x2) → w_X8_duckGain_b24 255 M 247 x1 x2 (nI c) 247 Q := by
    rintro _ rfl
    unfold w_X8_duckGain_b24
    refine ⟨is247, s_rfs hM (c12_lt _ _) rfl (fun hc M1 s1 e1 => ⟨fun q => absurd q (by decide), fun _ => hq.1 hc M1 s1 e1⟩) (fun hc M1 s1 k1 n1 e1 => ⟨fun _ => ⟨is247, ?_⟩, fun q => absurd rfl q⟩)⟩
    obtain ⟨h1, h2⟩ := c12_ok hc
    obtain ⟨hx, h4⟩ := nx_4 h1
    obtain ⟨hy, hn⟩ := pl_s h2
    have hq2 := hq.2 hc
    clear hq
    generalize nx x1 = t at *
    generalize nx x2 = n at *
    subst hx
    subst hy
    obtain ⟨i1, j1⟩ := trk_ix (M := M1) (f := 29) h4 (by decide) (x := nI (141 + 34 * t) + 29) (by rw [li 29, nI_add])
    refine s_X8_trackAt ?_
    rw [k1.1, j1, n1]
    have m1 : (-1 : Int32).toInt = -1 := rfl
    refine ⟨is248, i1, fun h => ?_, fun h => ?_⟩
    · rw [pk_div40 hn]
      refine s_X8_laysDuck k1 (by rw [n1]; exact hV) h4 (by omega) (fun M2 s2 l2 _ => ?_)
      have n2 : nw M2 = nw M1 := s2.nw (fun b q => by cases q)
      refine s_X8_duckAt (s2.MK k1) (by rw [n2, n1]; exact hV) h4 hn (by rw [n2, n1]; exact h) l2 ?_
      rw [n2, n1]
      exact hq2 M2 (s1.tr (s2.mono Sq3)) ((s2.2.1 247 5 (fun q => by cases q)).trans e1)
    · have hd : dgR (nw M) t n = 1000 := by unfold dgR; rw [if_pos h]
      rw [hd] at hq2
      exact hq2 M1 s1 e1
  unfold w_X8_duckGain
  exact s_X8_isTrack (s_t2 (P2 := isPl x2) (B := fun c => w_X8_duckGain_b24 255 M 247 x1 x2 (nI c) 247 Q) (T := fun K => w_X8_isPlace 255 M x2 K) rfl (fun h1 K hK => s_X8_isPlace hK) (b30 _ rfl))
theorem s_X8_trackValue {M : mw_M} {x1 x2 : Int32} {Q : mw_M → Int32 → Prop} (hM : MK M) (hV : VAL (nw M)) (hq : qpost M (c12 (isTr x1) (isPl x2)) 0 (valR (nw M) (nx x1) (nx x2)) Q) : w_X8_trackValue 255 M 247 x1 x2 Q := by
  have b30 : ∀ c, c = c12 (isTr x1) (isPl x2) → w_X8_trackValue_b24 255 M 247 x1 x2 (nI c) 247 Q := by
    rintro _ rfl
    unfold w_X8_trackValue_b24
    refine ⟨is247, s_rfs hM (c12_lt _ _) rfl (fun hc M1 s1 e1 => ⟨fun q => absurd q (by decide), fun _ => hq.1 hc M1 s1 e1⟩) (fun hc M1 s1 k1 n1 e1 => ⟨fun _ => ⟨is247, ?_⟩, fun q => absurd rfl q⟩)⟩
    obtain ⟨h1, h2⟩ := c12_ok hc
    obtain ⟨hx, h4⟩ := nx_4 h1
    obtain ⟨hy, hn⟩ := pl_s h2
    have hq2 := hq.2 hc
    clear hq
    generalize nx x1 = t at *
    generalize nx x2 = n at *
    subst hx
    subst hy
    rw [pk_div40 hn]
    refine s_X8_laysDuck k1 (by rw [n1]; exact hV) h4 (by omega) (fun M2 s2 l2 _ => ?_)
    have n2 : nw M2 = nw M1 := s2.nw (fun b q => by cases q)
    refine s_X8_valueAt (s2.MK k1) (by rw [n2, n1]; exact hV) h4 hn l2 ?_
    rw [n2, n1]
    exact hq2 M2 (s1.tr (s2.mono Sq3)) ((s2.2.1 247 5 (fun q => by cases q)).trans e1)
  unfold w_X8_trackValue
  exact s_X8_isTrack (s_t2 (P2 := isPl x2) (B := fun c => w_X8_trackValue_b24 255 M 247 x1 x2 (nI c) 247 Q) (T := fun K => w_X8_isPlace 255 M x2 K) rfl (fun h1 K hK => s_X8_isPlace hK) (b30 _ rfl))
theorem s_X8_isAudible {M : mw_M} {x1 : Int32} {Q : mw_M → Int32 → Prop} (hM : MK M) (hT : VT (nw M)) (hq : qpost M (c1 (isTr x1)) 0 (bl (heard (nw M) (nx x1))) Q) : w_X8_isAudible 255 M 247 x1 Q := by
  have b30 : ∀ c, c = c1 (isTr x1) → w_X8_isAudible_b13 255 M 247 x1 (nI c) 247 Q := by
    rintro _ rfl
    unfold w_X8_isAudible_b13 w_X8_isAudible_b31 w_X8_isAudible_b32
    refine ⟨is247, s_rfs hM (c1_lt _) rfl (fun hc M1 s1 e1 => ⟨fun _ => ⟨Or.inl rfl, hq.1 hc M1 s1 e1⟩, fun q => absurd q (by decide)⟩) (fun hc M1 s1 k1 n1 e1 => ⟨fun q => absurd rfl q, fun _ => ⟨is247, ?_⟩⟩)⟩
    obtain ⟨hx, h4⟩ := nx_4 (c1_ok hc)
    have hq2 := hq.2 hc
    rw [hx]
    refine s_X8_isHeard k1 (by rw [n1]; exact hT) h4 ?_
    rw [n1]
    refine ⟨fun h => ⟨Or.inl rfl, ?_⟩, fun h => ⟨Or.inr rfl, ?_⟩⟩
    · rw [h] at hq2; exact hq2 M1 s1 e1
    · have : bl (heard (nw M) (nx x1)) = 1 := bl_t (Classical.not_not.mp (fun q => h (bl_0.mpr q)))
      rw [this] at hq2; exact hq2 M1 s1 e1
  unfold w_X8_isAudible
  exact s_X8_isTrack (s_1 (B := fun c => w_X8_isAudible_b13 255 M 247 x1 (nI c) 247 Q) rfl (b30 _ rfl))
theorem s_X8_mix {M : mw_M} {x1 x2 : Int32} {Q : mw_M → Int32 → Prop} (hM : MK M) (hV : VAL (nw M)) (hq : qpost M (c1 (isPl x1)) 0 (if x2 = 0 then mixL (nw M) (nx x1) else mixRt (nw M) (nx x1)) Q) : w_X8_mix 255 M 247 x1 x2 Q := by
  have b30 : ∀ c, c = c1 (isPl x1) → w_X8_mix_b13 255 M 247 x1 x2 (nI c) 247 Q := by
    rintro _ rfl
    unfold w_X8_mix_b13 w_X8_mix_b49
    refine ⟨is247, s_rfs hM (c1_lt _) rfl (fun hc M1 s1 e1 => ⟨fun q => absurd q (by decide), fun _ => hq.1 hc M1 s1 e1⟩) (fun hc M1 s1 k1 n1 e1 => ⟨fun _ => ⟨is247, ?_⟩, fun q => absurd rfl q⟩)⟩
    obtain ⟨hy, hn⟩ := pl_s (c1_ok hc)
    have hq2 := hq.2 hc
    clear hq
    generalize nx x1 = n at *
    subst hy
    rw [pk_div40 hn]
    refine s_X8_laysDucks k1 (by rw [n1]; exact hV) (by omega) (fun M2 s2 l2 => ?_)
    have n2 : nw M2 = nw M1 := s2.nw (fun b q => by cases q)
    refine s_X8_mixes (s2.MK k1) (by rw [n2, n1]; exact hV) hn l2 (fun M3 s3 eL eR _ => ?_)
    rw [n2, n1] at eL eR
    rw [eL, eR]
    have s13 := (s1.tr (s2.mono Sq3)).tr (s3.mono Sqm)
    have e3 : mI M3 247 5 = 0 := (s3.2.1 247 5 (by rintro ⟨-, h⟩; omega)).trans ((s2.2.1 247 5 (fun q => by cases q)).trans e1)
    refine ⟨fun h => ?_, fun h => ?_⟩
    · rw [if_pos h] at hq2; exact hq2 M3 s13 e3
    · rw [if_neg h] at hq2; exact hq2 M3 s13 e3
  unfold w_X8_mix
  exact s_X8_isPlace (s_1 (B := fun c => w_X8_mix_b13 255 M 247 x1 x2 (nI c) 247 Q) rfl (b30 _ rfl))
noncomputable section
/-- a meter -/
def mtr (M : mw_M) (k : Nat) : Int64 := if k < 4 then Int32.toInt64 (nw M (4 + k)) else mL M 247 1
/-- the end of all clips -/
def lenR (R : Row) : Nat → Int32
  | 0 => 0
  | c + 1 => if lenR R c < rC R c 2 + rC R c 4 then rC R c 2 + rC R c 4 else lenR R c
end
theorem s_X8_meter {M : mw_M} {x1 : Int32} {Q : mw_M → Int64 → Prop} (hM : MK M) (hq : qpost M (c1 (isAt 0 4 x1)) 0 (mtr M (nx x1)) Q) : w_X8_meter 255 M 247 x1 Q := by
  have b30 : ∀ c, c = c1 (isAt 0 4 x1) → w_X8_meter_b18 255 M 247 x1 (nI c) 247 Q := by
    rintro _ rfl
    unfold w_X8_meter_b18 w_X8_meter_b33
    refine ⟨is247, s_rfs hM (c1_lt _) rfl (fun hc M1 s1 e1 => ⟨fun q => absurd q (by decide), fun _ => hq.1 hc M1 s1 e1⟩) (fun hc M1 s1 k1 n1 e1 => ⟨fun _ => ⟨is247, ?_⟩, fun q => absurd rfl q⟩)⟩
    obtain ⟨h1, h2⟩ := c1_ok hc
    have hq2 := hq.2 hc
    have h5 : nx x1 < 5 := by unfold nx; omega
    rw [nx_s h1]
    unfold w_X8_meterOf w_X8_meterOf_b21
    rw [li 4, nI_leI (by decide) (by omega), nI_add]
    unfold mtr at hq2
    refine ⟨fun h => ⟨is247, ?_⟩, fun h => ⟨is247, ?_⟩⟩
    · rw [if_neg (by omega)] at hq2
      rw [s1.2.2 247 1 (by rintro (q | ⟨-, q⟩); cases q; omega)]
      exact hq2 M1 s1 e1
    · rw [if_pos (by omega)] at hq2
      obtain ⟨i1, j1⟩ := ix_is (x := nI (4 + nx x1)) (j := 4 + nx x1) rfl (by omega)
      rw [k1.1, j1]
      refine ⟨is248, i1, ?_⟩
      have : mI M1 248 (4 + nx x1) = nw M (4 + nx x1) := congrFun n1 _
      rw [this]
      exact hq2 M1 s1 e1
  unfold w_X8_meter
  refine s_inc 0 4 rfl rfl (fun h => b30 1 (c1_f h).symm) (fun h => b30 0 (c1_t h).symm)
theorem s_X8_length {M : mw_M} {Q : mw_M → Int32 → Prop} (hM : MK M) (hC : VC (nw M)) (hq : ∀ M1, sm Sq M M1 → mI M1 247 5 = 0 → Q M1 (lenR (nw M) (cn (nw M)))) : w_X8_length 255 M 247 Q := by
  unfold w_X8_length
  refine ⟨is247, ?_⟩
  rintro _ rfl
  have s1 : sm Sq M (sI M 247 5 0) := sm.si (Or.inr ⟨rfl, Or.inl rfl⟩)
  have n1 := s1.nw Sq8
  have k1 := s1.MK hM
  have hq2 := hq _ s1 (mI_at _ _ _ _)
  generalize sI M 247 5 0 = M1 at *
  unfold w_X8_length_b9
  obtain ⟨e8, h12⟩ := hC.cn
  refine ⟨fun N y z => ∃ c, N = M1 ∧ z = nI c ∧ c ≤ cn (nw M) ∧ y = lenR (nw M) c, fun _ _ z => 12 - z.toInt.toNat, ⟨0, rfl, rfl, Nat.zero_le _, rfl⟩, ?_⟩
  rintro N _ _ ⟨c, rfl, rfl, hc, rfl⟩
  obtain ⟨i1, j1⟩ := ix_is (x := 8) (j := 8) rfl (by decide)
  have e8' : mI N 248 8 = nI (cn (nw M)) := by rw [← e8]; exact congrFun n1 8
  rw [k1.1, j1, e8', nI_leI (by omega) (by omega)]
  refine ⟨is247, is248, i1, fun h => ?_, fun h => ?_⟩
  · have : c = cn (nw M) := by omega
    subst this
    exact hq2
  · have hn : ∀ f, rC (nw N) c f = rC (nw M) c f := fun f => by rw [n1]
    refine s_X8_clipEnd k1 (by omega) ?_
    rw [hn, hn]
    unfold w_X8_length_b38
    have hs : lenR (nw M) (c + 1) = if lenR (nw M) c < rC (nw M) c 2 + rC (nw M) c 4 then rC (nw M) c 2 + rC (nw M) c 4 else lenR (nw M) c := rfl
    refine ⟨fun h2 => ?_, fun h2 => s_X8_clipEnd k1 (by omega) ?_⟩
    · rintro _ rfl
      rw [if_neg (by rw [ti_lt]; rw [ti_le] at h2; omega)] at hs
      exact ⟨⟨c + 1, rfl, nI_1 c, by omega, hs.symm⟩, mu_dec (by omega) (by decide)⟩
    · rw [hn, hn]
      rintro _ rfl
      rw [if_pos (by rw [ti_lt]; rw [ti_le] at h2; omega)] at hs
      exact ⟨⟨c + 1, rfl, nI_1 c, by omega, hs.symm⟩, mu_dec (by omega) (by decide)⟩
