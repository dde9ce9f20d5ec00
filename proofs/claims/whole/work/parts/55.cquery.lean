/-! The class: a state with its curves -/
def CX (M : mw_M) (s : Nat) (R : Row) (K : Int64) : Prop := (mP M 1 0 = s ∧ mP M 1 5 = 82 ∧ bs s) ∧ sk M s ∧ rep M s R K ∧ VAL R ∧ cvk M ∧ ∀ t, t < 4 → cv M R t
theorem s_chkT {n : Nat} {M : mw_M} {x : Int32} {Q : Prop} {X : mw_M → String → Prop} (h1 : ¬ isTr x → X M "java/lang/IndexOutOfBoundsException") (h0 : isTr x → Q) : w_X7_checkTrack n M x Q X := s_out 0 3 rfl rfl h0 h1
theorem s_chkS {n : Nat} {M : mw_M} {x : Int32} {Q : Prop} {X : mw_M → String → Prop} (h1 : ¬ isSrc x → X M "java/lang/IndexOutOfBoundsException") (h0 : isSrc x → Q) : w_X7_checkSource n M x Q X := s_out 0 5 rfl rfl h0 h1
theorem s_chkP {n : Nat} {M : mw_M} {x : Int32} {Q : Prop} {X : mw_M → String → Prop} (h1 : ¬ isPl x → X M "java/lang/IllegalArgumentException") (h0 : isPl x → Q) : w_X7_checkPosition n M x Q X := s_out 0 3999 rfl rfl h0 h1
theorem s_X7_mix {M : mw_M} {s : Nat} {R : Row} {K : Int64} {x1 x2 : Int32} {Q : mw_M → Int32 → Prop} {X : mw_M → String → Prop} (h : CX M s R K) (h1 : ¬ isPl x1 → X M "java/lang/IllegalArgumentException") (hq : isPl x1 → ∀ M1, sm Smi M M1 → (∀ t, t < 4 → cv M1 R t) → Q M1 (if x2 = 0 then mixL R (nx x1) else mixRt R (nx x1))) : w_X7_mix 255 M 1 x1 x2 Q X := by
  obtain ⟨⟨h0, h5, hb⟩, hsk, hr, hV, hk, hc⟩ := h
  unfold w_X7_mix w_X7_mix_b34
  refine s_chkP h1 (fun hp => ?_)
  obtain ⟨hx, hn⟩ := pl_s hp
  replace hq := hq hp
  generalize nx x1 = n at *
  subst hx
  rw [h5]
  refine ⟨is1, s_X7_mixInto h0 hb hsk hr hV hk hc hn (fun M1 s1 c1 e0 e1 _ => ?_)⟩
  have h5' : mP M1 1 5 = 82 := (s1.1 _ _).trans h5
  replace hq := hq M1 s1 c1
  rw [h5', e0, e1]
  refine ⟨fun g => ⟨is82, ?_⟩, fun g => ⟨is82, ?_⟩⟩
  · rw [if_pos g] at hq; exact hq
  · rw [if_neg g] at hq; exact hq
theorem s_X7_automation {M : mw_M} {s : Nat} {R : Row} {K : Int64} {x1 x2 : Int32} {Q : Int32 → Prop} {X : mw_M → String → Prop} (h : CX M s R K) (h1 : ¬ isTr x1 → X M "java/lang/IndexOutOfBoundsException") (h2 : isTr x1 → ¬ isPl x2 → X M "java/lang/IllegalArgumentException") (hq : isTr x1 → isPl x2 → Q (laneR R (nx x1) x2)) : w_X7_automation 255 M 1 x1 x2 Q X := by
  obtain ⟨⟨h0, h5, hb⟩, hsk, hr, hV, hk, hc⟩ := h
  unfold w_X7_automation
  refine s_chkT h1 (fun ht => s_chkP (h2 ht) (fun hp => ?_))
  obtain ⟨hx, h4⟩ := nx_4 ht
  replace hq := hq ht hp
  clear h1 h2 ht
  generalize nx x1 = t at *
  subst hx
  have el : lnd 3 = 4 := rfl
  rw [h0, hsk.1.2.2.1, bs_ln hb (by decide) (Or.inr (Or.inr (Or.inl rfl))), el, nI_clamp (by omega), (hsk.2.2.1 t h4).1]
  exact ⟨is1, kS hb, kA3 hb, vp_n h4 (by decide), (kTr hb h4).1, s_X6_laneGain hb hsk hr hV.2.2.1 hV.2.2.2.1 h4 hp.1 hp.2 hq⟩
theorem s_X7_isAudible {M : mw_M} {s : Nat} {R : Row} {K : Int64} {x1 : Int32} {Q : Int32 → Prop} {X : mw_M → String → Prop} (h : CX M s R K) (h1 : ¬ isTr x1 → X M "java/lang/IndexOutOfBoundsException") (hq : isTr x1 → Q (bl (heard R (nx x1)))) : w_X7_isAudible 255 M 1 x1 Q X := by
  obtain ⟨⟨h0, h5, hb⟩, hsk, hr, hV, hk, hc⟩ := h
  unfold w_X7_isAudible
  refine s_chkT h1 (fun ht => ?_)
  obtain ⟨hx, h4⟩ := nx_4 ht
  replace hq := hq ht
  clear h1 ht
  generalize nx x1 = t at *
  subst hx
  have el : lnd 3 = 4 := rfl
  rw [h0, hsk.1.2.2.1, bs_ln hb (by decide) (Or.inr (Or.inr (Or.inl rfl))), el, nI_clamp (by omega), (hsk.2.2.1 t h4).1]
  exact ⟨is1, kS hb, kA3 hb, vp_n h4 (by decide), s_X5_hasSolo hb hsk hr hV.2.2.1 ⟨(kTr hb h4).1, s_X6_isHeard hb hr hV.2.2.1 h4 ⟨bl_b, hq⟩⟩⟩
