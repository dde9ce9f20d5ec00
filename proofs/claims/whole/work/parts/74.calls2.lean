/-! The law's calls, the others -/
theorem rPoint_lo {R : Row} {t : Nat} {x v h : Int32} {j : Nat} (hj : j < 141) : rPoint R t x v h j = R j := by
  unfold rPoint
  unfold ifp
  split
  · unfold hPoint
    rw [up_n (by omega), up_n (by omega), up_n (by omega)]
  · unfold iPoint hPoint
    rw [up_n (by omega), up_n (by omega), up_n (by omega), up_n (by omega)]
    unfold shR
    first | exact if_neg (by omega) | (split <;> first | omega | rfl)
theorem xPoint_lo {R : Row} {t : Nat} {x : Int32} {j : Nat} (hj : j < 141) : xPoint R t x j = R j := by
  unfold xPoint dnR
  rw [if_neg (by omega), up_n (by omega)]
theorem g_clip {M : mw_M} {c d : Int} {x1 x2 : Int32} (h : LI M c) (hd : c ≤ d) : w_X7_clip 255 M 1 x1 x2 (fun v => w_X8_clip 255 (kept M v.toInt64) 247 x1 x2 (fun N b => Fin d 0 b.toInt64 N)) (fun M1 nm => ∃ e, hS2[e]? = some nm ∧ w_X8_clip 255 M1 247 x1 x2 (fun N b => Fin d (e + 1) b.toInt64 N)) := by
  obtain ⟨σ, k, hc, hI, hB⟩ := h
  have hV := hc.cx.2.2.2.1
  refine s_X7_clip hc.cx (fun a => ⟨0, rfl, s_X8_clip hI.1 hV.2.1 (gq_no hc hI hB hd (c12_1 a))⟩) (fun a b => ⟨1, rfl, s_X8_clip hI.1 hV.2.1 (gq_no hc hI hB hd (c12_2 a b))⟩) (fun a b => s_X8_clip (ik_kept hI fo.rf).1 ((nw_kept hI.1 fo.rf).symm ▸ hV.2.1) ?_)
  rw [nw_kept hI.1 fo.rf]
  exact gq_ok hc hI hB hd fo.rf (c12_0 a b)
theorem g_clipValue {M : mw_M} {c d : Int} {x1 x2 : Int32} (h : LI M c) (hd : c ≤ d) : w_X7_clipValue 255 M 1 x1 x2 (fun v => w_X8_clipValue 255 (kept M v.toInt64) 247 x1 x2 (fun N b => Fin d 0 b.toInt64 N)) (fun M1 nm => ∃ e, hS2[e]? = some nm ∧ w_X8_clipValue 255 M1 247 x1 x2 (fun N b => Fin d (e + 1) b.toInt64 N)) := by
  obtain ⟨σ, k, hc, hI, hB⟩ := h
  have hV := hc.cx.2.2.2.1
  refine s_X7_clipValue hc.cx (fun a => ⟨0, rfl, s_X8_clipValue hI.1 hV.1 hV.2.1 (gq_no hc hI hB hd (c12_1 a))⟩) (fun a b => ⟨1, rfl, s_X8_clipValue hI.1 hV.1 hV.2.1 (gq_no hc hI hB hd (c12_2 a b))⟩) (fun a b => s_X8_clipValue (ik_kept hI fo.rf).1 ((nw_kept hI.1 fo.rf).symm ▸ hV.1) ((nw_kept hI.1 fo.rf).symm ▸ hV.2.1) ?_)
  rw [nw_kept hI.1 fo.rf]
  exact gq_ok hc hI hB hd fo.rf (c12_0 a b)
theorem g_setTrack {M : mw_M} {c d : Int} {x1 x2 x3 x4 x5 : Int32} (h : LI M c) (h4 : mw_b01 x4) (h5 : mw_b01 x5) (hd : c ≤ d) : w_X7_setTrack 255 M 1 x1 x2 x3 x4 x5 (fun M1 v => w_X8_setTrack 255 (kept M1 v.toInt64) 247 x1 x2 x3 x4 x5 (fun N b => Fin d 0 b.toInt64 N)) (fun M1 nm => ∃ e, hS2[e]? = some nm ∧ w_X8_setTrack 255 M1 247 x1 x2 x3 x4 x5 (fun N b => Fin d (e + 1) b.toInt64 N)) := by
  obtain ⟨σ, k, hc, hI, hB⟩ := h
  have hV := hc.cx.2.2.2.1
  refine s_X7_setTrack hc h4 h5 (fun a => ⟨0, rfl, s_X8_setTrack hI (gp_no hc hI hB hd (c12_1 a))⟩) (fun a b => ⟨1, rfl, s_X8_setTrack hI (gp_no hc hI hB hd (c12_2 a b))⟩) (fun a b M1 σ1 f g => s_X8_setTrack (ik_kept hI f) ?_)
  rw [nw_kept hI.1 f]
  exact gp_ok hI hB hd f g (MB_up (MB_up (MB_up (MB_up (hB.1.le hd) (by omega)) (by omega)) (by omega)) (by omega)) (c12_0 a b)
theorem g_setPoint {M : mw_M} {c d : Int} {x1 x2 x3 x4 : Int32} (h : LI M c) (h4 : mw_b01 x4) (hd : c ≤ d) : w_X7_setPoint 255 M 1 x1 x2 x3 x4 (fun M1 v => w_X8_setPoint 255 (kept M1 v.toInt64) 247 x1 x2 x3 x4 (fun N b => Fin d 0 b.toInt64 N)) (fun M1 nm => ∃ e, hS3[e]? = some nm ∧ w_X8_setPoint 255 M1 247 x1 x2 x3 x4 (fun N b => Fin d (e + 1) b.toInt64 N)) := by
  obtain ⟨σ, k, hc, hI, hB⟩ := h
  have hV := hc.cx.2.2.2.1
  refine s_X7_setPoint hc h4 (fun a => ⟨0, rfl, s_X8_setPoint hI hV.2.2.1 (gp_no hc hI hB hd (c123_1 a))⟩) (fun a b => ⟨1, rfl, s_X8_setPoint hI hV.2.2.1 (gp_no hc hI hB hd (c123_2 a b))⟩) (fun a b z => ⟨2, rfl, s_X8_setPoint hI hV.2.2.1 (gp_no hc hI hB hd (c123_3 a b z))⟩) (fun a b z M1 σ1 f g => s_X8_setPoint (ik_kept hI f) ((nw_kept hI.1 f).symm ▸ hV.2.2.1) ?_)
  rw [nw_kept hI.1 f]
  exact gp_ok hI hB hd f g (MB_eq (hB.1.le hd) (fun j h1 h2 => rPoint_lo (by omega))) (c123_0 a b z)
theorem g_removePoint {M : mw_M} {c d : Int} {x1 x2 : Int32} (h : LI M c) (hd : c ≤ d) : w_X7_removePoint 255 M 1 x1 x2 (fun M1 v => w_X8_removePoint 255 (kept M1 v.toInt64) 247 x1 x2 (fun N b => Fin d 0 b.toInt64 N)) (fun M1 nm => ∃ e, hS2[e]? = some nm ∧ w_X8_removePoint 255 M1 247 x1 x2 (fun N b => Fin d (e + 1) b.toInt64 N)) := by
  obtain ⟨σ, k, hc, hI, hB⟩ := h
  have hV := hc.cx.2.2.2.1
  refine s_X7_removePoint hc (fun a => ⟨0, rfl, s_X8_removePoint hI hV.2.2.1 (gp_no hc hI hB hd (c12_1 a))⟩) (fun a b => ⟨1, rfl, s_X8_removePoint hI hV.2.2.1 (gp_no hc hI hB hd (c12_2 a b))⟩) (fun a b M1 σ1 f g => s_X8_removePoint (ik_kept hI f) ((nw_kept hI.1 f).symm ▸ hV.2.2.1) ?_)
  rw [nw_kept hI.1 f]
  exact gp_ok hI hB hd f g (MB_eq (hB.1.le hd) (fun j h1 h2 => xPoint_lo (by omega))) (c12_0 a b)
theorem g_automation {M : mw_M} {c d : Int} {x1 x2 : Int32} (h : LI M c) (hd : c ≤ d) : w_X7_automation 255 M 1 x1 x2 (fun v => w_X8_automation 255 (kept M v.toInt64) 247 x1 x2 (fun N b => Fin d 0 b.toInt64 N)) (fun M1 nm => ∃ e, hS2[e]? = some nm ∧ w_X8_automation 255 M1 247 x1 x2 (fun N b => Fin d (e + 1) b.toInt64 N)) := by
  obtain ⟨σ, k, hc, hI, hB⟩ := h
  have hV := hc.cx.2.2.2.1
  refine s_X7_automation hc.cx (fun a => ⟨0, rfl, s_X8_automation hI.1 hV.2.2.1 hV.2.2.2.1 (gq_no hc hI hB hd (c12_1 a))⟩) (fun a b => ⟨1, rfl, s_X8_automation hI.1 hV.2.2.1 hV.2.2.2.1 (gq_no hc hI hB hd (c12_2 a b))⟩) (fun a b => s_X8_automation (ik_kept hI fo.rf).1 ((nw_kept hI.1 fo.rf).symm ▸ hV.2.2.1) ((nw_kept hI.1 fo.rf).symm ▸ hV.2.2.2.1) ?_)
  rw [nw_kept hI.1 fo.rf]
  exact gq_ok hc hI hB hd fo.rf (c12_0 a b)
theorem g_duck {M : mw_M} {c d : Int} {x1 x2 x3 x4 x5 x6 : Int32} (h : LI M c) (hd : c ≤ d) : w_X7_duck 255 M 1 x1 x2 x3 x4 x5 x6 (fun M1 v => w_X8_duck 255 (kept M1 v.toInt64) 247 x1 x2 x3 x4 x5 x6 (fun N b => Fin d 0 b.toInt64 N)) (fun M1 nm => ∃ e, hS3[e]? = some nm ∧ w_X8_duck 255 M1 247 x1 x2 x3 x4 x5 x6 (fun N b => Fin d (e + 1) b.toInt64 N)) := by
  obtain ⟨σ, k, hc, hI, hB⟩ := h
  have hV := hc.cx.2.2.2.1
  refine s_X7_duck hc (fun a => ⟨0, rfl, s_X8_duck hI (gp_no hc hI hB hd (c123_1 a))⟩) (fun a b => ⟨1, rfl, s_X8_duck hI (gp_no hc hI hB hd (c123_2 a b))⟩) (fun a b z => ⟨2, rfl, s_X8_duck hI (gp_no hc hI hB hd (c123_3 a b z))⟩) (fun a b z M1 σ1 f g => s_X8_duck (ik_kept hI f) ?_)
  rw [nw_kept hI.1 f]
  exact gp_ok hI hB hd f g (MB_up (MB_up (MB_up (MB_up (MB_up (hB.1.le hd) (by omega)) (by omega)) (by omega)) (by omega)) (by omega)) (c123_0 a b z)
theorem g_endDuck {M : mw_M} {c d : Int} {x1 : Int32} (h : LI M c) (hd : c ≤ d) : w_X7_endDuck 255 M 1 x1 (fun M1 v => w_X8_endDuck 255 (kept M1 v.toInt64) 247 x1 (fun N b => Fin d 0 b.toInt64 N)) (fun M1 nm => ∃ e, hS1[e]? = some nm ∧ w_X8_endDuck 255 M1 247 x1 (fun N b => Fin d (e + 1) b.toInt64 N)) := by
  obtain ⟨σ, k, hc, hI, hB⟩ := h
  have hV := hc.cx.2.2.2.1
  refine s_X7_endDuck hc (fun a => ⟨0, rfl, s_X8_endDuck hI (gp_no hc hI hB hd (c1_f a))⟩) (fun a M1 σ1 f g => s_X8_endDuck (ik_kept hI f) ?_)
  rw [nw_kept hI.1 f]
  exact gp_ok hI hB hd f g (MB_up (hB.1.le hd) (by omega)) (c1_t a)
theorem g_duckGain {M : mw_M} {c d : Int} {x1 x2 : Int32} (h : LI M c) (hd : c ≤ d) : w_X7_duckGain 255 M 1 x1 x2 (fun M1 v => w_X8_duckGain 255 (kept M1 v.toInt64) 247 x1 x2 (fun N b => Fin d 0 b.toInt64 N)) (fun M1 nm => ∃ e, hS2[e]? = some nm ∧ w_X8_duckGain 255 M1 247 x1 x2 (fun N b => Fin d (e + 1) b.toInt64 N)) := by
  obtain ⟨σ, k, hc, hI, hB⟩ := h
  have hV := hc.cx.2.2.2.1
  refine s_X7_duckGain hc.cx (fun a => ⟨0, rfl, s_X8_duckGain hI.1 hV (gq_no hc hI hB hd (c12_1 a))⟩) (fun a b => ⟨1, rfl, s_X8_duckGain hI.1 hV (gq_no hc hI hB hd (c12_2 a b))⟩) (fun a b M1 s cc => s_X8_duckGain (ik_kept hI (mi_ST s)).1 ((nw_kept hI.1 (mi_ST s)).symm ▸ hV) ?_)
  rw [nw_kept hI.1 (mi_ST s)]
  exact gq_ok (hc.mi s cc) hI hB hd (mi_ST s) (c12_0 a b)
theorem g_trackValue {M : mw_M} {c d : Int} {x1 x2 : Int32} (h : LI M c) (hd : c ≤ d) : w_X7_trackValue 255 M 1 x1 x2 (fun M1 v => w_X8_trackValue 255 (kept M1 v.toInt64) 247 x1 x2 (fun N b => Fin d 0 b.toInt64 N)) (fun M1 nm => ∃ e, hS2[e]? = some nm ∧ w_X8_trackValue 255 M1 247 x1 x2 (fun N b => Fin d (e + 1) b.toInt64 N)) := by
  obtain ⟨σ, k, hc, hI, hB⟩ := h
  have hV := hc.cx.2.2.2.1
  refine s_X7_trackValue hc.cx (fun a => ⟨0, rfl, s_X8_trackValue hI.1 hV (gq_no hc hI hB hd (c12_1 a))⟩) (fun a b => ⟨1, rfl, s_X8_trackValue hI.1 hV (gq_no hc hI hB hd (c12_2 a b))⟩) (fun a b M1 s cc => s_X8_trackValue (ik_kept hI (mi_ST s)).1 ((nw_kept hI.1 (mi_ST s)).symm ▸ hV) ?_)
  rw [nw_kept hI.1 (mi_ST s)]
  exact gq_ok (hc.mi s cc) hI hB hd (mi_ST s) (c12_0 a b)
theorem g_isAudible {M : mw_M} {c d : Int} {x1 : Int32} (h : LI M c) (hd : c ≤ d) : w_X7_isAudible 255 M 1 x1 (fun v => w_X8_isAudible 255 (kept M v.toInt64) 247 x1 (fun N b => Fin d 0 b.toInt64 N)) (fun M1 nm => ∃ e, hS1[e]? = some nm ∧ w_X8_isAudible 255 M1 247 x1 (fun N b => Fin d (e + 1) b.toInt64 N)) := by
  obtain ⟨σ, k, hc, hI, hB⟩ := h
  have hV := hc.cx.2.2.2.1
  refine s_X7_isAudible hc.cx (fun a => ⟨0, rfl, s_X8_isAudible hI.1 hV.2.2.1 (gq_no hc hI hB hd (c1_f a))⟩) (fun a => s_X8_isAudible (ik_kept hI fo.rf).1 ((nw_kept hI.1 fo.rf).symm ▸ hV.2.2.1) ?_)
  rw [nw_kept hI.1 fo.rf]
  exact gq_ok hc hI hB hd fo.rf (c1_t a)
theorem g_setMaster {M : mw_M} {c d : Int} {x1 : Int32} (h : LI M c) (hd : c ≤ d) : w_X7_setMaster 255 M 1 x1 (fun M1 v => w_X8_setMaster 255 (kept M1 v.toInt64) 247 x1 (fun N b => Fin d 0 b.toInt64 N)) (fun M1 nm => ∃ e, hA1[e]? = some nm ∧ w_X8_setMaster 255 M1 247 x1 (fun N b => Fin d (e + 1) b.toInt64 N)) := by
  obtain ⟨σ, k, hc, hI, hB⟩ := h
  have hV := hc.cx.2.2.2.1
  refine s_X7_setMaster hc (fun a => ⟨0, rfl, s_X8_setMaster hI (gp_no hc hI hB hd (c1_f a))⟩) (fun a M1 σ1 f g => s_X8_setMaster (ik_kept hI f) ?_)
  rw [nw_kept hI.1 f]
  exact gp_ok hI hB hd f g (MB_up (hB.1.le hd) (by omega)) (c1_t a)
theorem g_mix {M : mw_M} {c d : Int} {x1 x2 : Int32} (h : LI M c) (hd : c ≤ d) : w_X7_mix 255 M 1 x1 x2 (fun M1 v => w_X8_mix 255 (kept M1 v.toInt64) 247 x1 x2 (fun N b => Fin d 0 b.toInt64 N)) (fun M1 nm => ∃ e, hA1[e]? = some nm ∧ w_X8_mix 255 M1 247 x1 x2 (fun N b => Fin d (e + 1) b.toInt64 N)) := by
  obtain ⟨σ, k, hc, hI, hB⟩ := h
  have hV := hc.cx.2.2.2.1
  refine s_X7_mix hc.cx (fun a => ⟨0, rfl, s_X8_mix hI.1 hV (gq_no hc hI hB hd (c1_f a))⟩) (fun a M1 s cc => s_X8_mix (ik_kept hI (mi_ST s)).1 ((nw_kept hI.1 (mi_ST s)).symm ▸ hV) ?_)
  rw [nw_kept hI.1 (mi_ST s)]
  exact gq_ok (hc.mi s cc) hI hB hd (mi_ST s) (c1_t a)
theorem g_setLoop {M : mw_M} {c d : Int} {x1 x2 : Int32} (h : LI M c) (hd : c ≤ d) : w_X7_setLoop 255 M 1 x1 x2 (fun M1 v => w_X8_setLoop 255 (kept M1 v.toInt64) 247 x1 x2 (fun N b => Fin d 0 b.toInt64 N)) (fun M1 nm => ∃ e, hA1[e]? = some nm ∧ w_X8_setLoop 255 M1 247 x1 x2 (fun N b => Fin d (e + 1) b.toInt64 N)) := by
  obtain ⟨σ, k, hc, hI, hB⟩ := h
  have hV := hc.cx.2.2.2.1
  refine s_X7_setLoop hc (fun a => ⟨0, rfl, s_X8_setLoop hI (gp_no hc hI hB hd (c1_f a))⟩) (fun a M1 σ1 f g => s_X8_setLoop (ik_kept hI f) ?_)
  rw [nw_kept hI.1 f]
  exact gp_ok hI hB hd f g (MB_up (MB_up (hB.1.le hd) (by omega)) (by omega)) (c1_t a)
theorem g_seek {M : mw_M} {c d : Int} {x1 : Int32} (h : LI M c) (hd : c ≤ d) : w_X7_seek 255 M 1 x1 (fun M1 v => w_X8_seek 255 (kept M1 v.toInt64) 247 x1 (fun N b => Fin d 0 b.toInt64 N)) (fun M1 nm => ∃ e, hA1[e]? = some nm ∧ w_X8_seek 255 M1 247 x1 (fun N b => Fin d (e + 1) b.toInt64 N)) := by
  obtain ⟨σ, k, hc, hI, hB⟩ := h
  have hV := hc.cx.2.2.2.1
  refine s_X7_seek hc (fun a => ⟨0, rfl, s_X8_seek hI (gp_no hc hI hB hd (c1_f a))⟩) (fun a M1 σ1 f g => s_X8_seek (ik_kept hI f) ?_)
  rw [nw_kept hI.1 f]
  exact gp_ok hI hB hd f g (MB_up (hB.1.le hd) (by omega)) (c1_t a)
theorem g_render {M : mw_M} {c d : Int} {x1 : Int32} (h : LI M c) (hc9 : c ≤ 900000) (hd : c + 1000 ≤ d) : w_X7_render 255 M 1 x1 (fun M1 v => w_X8_render 255 (kept M1 v.toInt64) 247 x1 (fun N b => Fin d 0 b.toInt64 N)) (fun M1 nm => ∃ e, hA1[e]? = some nm ∧ w_X8_render 255 M1 247 x1 (fun N b => Fin d (e + 1) b.toInt64 N)) := by
  obtain ⟨σ, k, hc, hI, hB⟩ := h
  have hV := hc.cx.2.2.2.1
  have hd' : c ≤ d := by omega
  refine s_X7_render hc hB.1 hc9 (fun a => ⟨0, rfl, s_X8_render hI hV (fun _ N s h5 => gc_no hc hI hB hd' fo.rf (s.mono (fun a b q => Or.inl q)) h5 rfl) (fun b => absurd b a)⟩) (fun a M1 σ1 f g => s_X8_render (ik_kept hI f) ((nw_kept hI.1 f).symm ▸ hV) (fun b => absurd a b) (fun _ N hN => ?_))
  have eK : mL (kept M1 (Int32.toInt64 (rndN (nw M) (nx x1) 0))) 247 1 = mL M 247 1 := (kept_mid hI.1 f).2.2.1
  rw [nw_kept hI.1 f, eK] at hN
  rw [nw_kept hI.1 f]
  obtain ⟨s, hM, h5, p, e, eK2⟩ := hN
  have hx : nx x1 ≤ 1000 := by
    have := a.1; have := a.2
    unfold nx
    omega
  exact gdone hI hB hd' g ((MB_rndN hB.1 hc9 (nx x1) hx).le (by omega)) (kept_mid hI.1 f) (kept_T8 _ _) (mL_at _ _ _ _) (s.mono e8_Sr8) hM h5 p e eK2
theorem g_meter {M : mw_M} {c d : Int} {x1 : Int32} (h : LI M c) (hd : c ≤ d) : w_X7_meter 255 M 1 x1 (fun v => w_X8_meter 255 (kept M v) 247 x1 (fun N b => Fin d 0 b N)) (fun M1 nm => ∃ e, hA1[e]? = some nm ∧ w_X8_meter 255 M1 247 x1 (fun N b => Fin d (e + 1) b N)) := by
  obtain ⟨σ, k, hc, hI, hB⟩ := h
  refine s_X7_meter hc.cx (fun a => ⟨0, rfl, s_X8_meter hI.1 ⟨fun _ N s h5 => ⟨h5.trans (by rw [c1_f a]), fun h => absurd h (Nat.succ_ne_zero 0), gstay hc hI hB hd (st_mid hI.1 fo.rf) fo.rf (s.mono e8_Sq8) (kepq hI.1 s)⟩, fun h => absurd ((c1_f a).symm.trans h) (by decide)⟩⟩) (fun a => s_X8_meter (ik_kept hI fo.rf).1 ⟨fun h => absurd (c1_t a) h, fun _ N s h5 => ⟨h5, fun _ => ?_, gstay hc hI hB hd (kept_mid hI.1 fo.rf) (kept_T8 _ _) (s.mono e8_Sq8) (kepq (kept_mid hI.1 fo.rf).1 s)⟩⟩)
  have e1 := (kept_mid (w := mtR (nw M) (mL M 247 1) (nx x1)) hI.1 (fo.rf (S := ST) (M := M))).2.2.1
  have e2 := nw_kept (w := mtR (nw M) (mL M 247 1) (nx x1)) hI.1 (fo.rf (S := ST) (M := M))
  rw [S8.o (s.mono e8_Sq8)]
  unfold mtr
  rw [e1, e2]
  rfl
theorem g_undo {M : mw_M} {c d : Int} (h : LI M c) (hd : c ≤ d) : w_X7_undo 255 M 1 (fun M1 v => w_X8_undo 255 (kept M1 v.toInt64) 247 (fun N b => Fin d 0 b.toInt64 N)) (fun M1 nm => ∃ e, hT1[e]? = some nm ∧ w_X8_undo 255 M1 247 (fun N b => Fin d (e + 1) b.toInt64 N)) := by
  obtain ⟨σ, k, hc, hI, hB⟩ := h
  refine s_X7_undo hc (fun a => ⟨0, rfl, s_X8_undo hI (fun _ N s h5 => gc_no hc hI hB hd fo.rf (s.mono (fun a b q => Or.inl q)) h5 rfl) (fun n q => absurd (a.symm.trans q) (by omega))⟩) (fun n hn M1 σ1 f g gc => s_X8_undo (ik_kept hI f) (fun q => absurd (hn.symm.trans q) (by omega)) (fun n' hn' N s h5 h4 hR hK => ?_))
  have en : n' = n := by omega
  subst en
  obtain ⟨-, -, -, -, gp, gs⟩ := kept_mid (w := Int32.toInt64 (nI n')) hI.1 f
  have eP : ag (pst M n') (nw N) := fun j hj => (hR j hj).trans (congrFun (congrFun gp n') j)
  have eK : mL N 247 1 = pss M n' := hK.trans (congrFun gs n')
  have fN : fo T8 M1 N := (kept_T8 M1 _).tr (S8.t (s.mono e8_Su8))
  have e9 : pst N = pst (kept M1 (Int32.toInt64 (nI n'))) := funext fun i => funext fun j => s.2.1 249 _ (by unfold Su; omega)
  have e10 : pss N = pss (kept M1 (Int32.toInt64 (nI n'))) := funext fun i => s.2.2 250 _ (by unfold Su; omega)
  have gN := CF_T8 g fN
  have hk4 := hI.2.2
  refine ⟨h5, fun _ => S8.o (s.mono e8_Su8), σ1, n', CF_ag gN eP eK (fun t ht => cv_fo fN (by show ¬ 247 ≤ 239 + 2 * t; omega) (by show ¬ 247 ≤ 240 + 2 * t; omega) (fun _ _ => rfl) (gc (nw N) t ht)) (fun i hi => ?_), ⟨s.MK (kept_mid hI.1 f).1, h4, by omega⟩, MB_ag ((hB.2 n' (by omega)).le hd) eP, fun i hi => ?_⟩
  · rw [e9, e10, gp, gs]
    exact ⟨fun _ _ => rfl, rfl⟩
  · rw [e9, gp]
    exact (hB.2 i (by omega)).le hd
theorem g_clips {M : mw_M} {c d : Int} (h : LI M c) (hd : c ≤ d) : w_X7_clips 255 M 1 (fun v => w_X8_clips 255 M 247 (fun N b => v = b ∧ LI N d)) := by
  obtain ⟨σ, k, hc, hI, hB⟩ := h
  exact s_X7_clips hc.cx (s_X8_clips hI.1 (fun N s h5 => ⟨rfl, gstay hc hI hB hd (st_mid hI.1 fo.rf) fo.rf (s.mono e8_Sq8) (kepq hI.1 s)⟩))
theorem g_length {M : mw_M} {c d : Int} (h : LI M c) (hd : c ≤ d) : w_X7_length 255 M 1 (fun v => w_X8_length 255 M 247 (fun N b => v = b ∧ LI N d)) := by
  obtain ⟨σ, k, hc, hI, hB⟩ := h
  exact s_X7_length hc.cx (s_X8_length hI.1 hc.cx.2.2.2.1.2.1 (fun N s h5 => ⟨rfl, gstay hc hI hB hd (st_mid hI.1 fo.rf) fo.rf (s.mono e8_Sq8) (kepq hI.1 s)⟩))
theorem g_digest {M : mw_M} {c d : Int} (h : LI M c) (hd : c ≤ d) : w_X7_digest 255 M 1 (fun M1 v => w_X8_digest 255 M1 247 (fun N b => v = b ∧ LI N d)) := by
  obtain ⟨σ, k, hc, hI, hB⟩ := h
  refine s_X7_digest hc.cx hc.1.2.2.1.1 (fun M1 s cc => s_X8_digest (ik_st hI (mi_ST s)) ((nw_st hI.1 (mi_ST s)).symm ▸ hc.cx.2.2.2.1) (fun N s2 h5 => ⟨?_, gstay (hc.mi s cc) hI hB hd (st_mid hI.1 (mi_ST s)) fo.rf (s2.mono e8_Sq8) (kepq (st_mid hI.1 (mi_ST s)).1 s2)⟩))
  rw [nw_st hI.1 (mi_ST s), (st_mid hI.1 (mi_ST s)).2.2.1]
theorem g_clearMeters {M : mw_M} {c d : Int} (h : LI M c) (hd : c ≤ d) (h0 : 0 ≤ d) : w_X7_clearMeters 255 M 1 (fun M1 v => w_X8_clearMeters 255 M1 247 (fun N b => v = b ∧ LI N d)) := by
  obtain ⟨σ, k, hc, hI, hB⟩ := h
  refine s_X7_clearMeters hc (fun M1 σ1 f g => s_X8_clearMeters (ik_st hI f) (fun N hN hK => ?_))
  rw [nw_st hI.1 f] at hN ⊢
  obtain ⟨s, hM, h5, p, e⟩ := hN
  refine ⟨rfl, (gdone (w := mL M1 254 0) hI hB hd g ?_ (st_mid hI.1 f) fo.rf rfl (s.mono e8_Sd8) hM h5 p e hK).2.2⟩
  have e4 : rClear (nw M) 4 = 0 := rfl
  have e5 : rClear (nw M) 5 = 0 := rfl
  have e6 : rClear (nw M) 6 = 0 := rfl
  have e7 : rClear (nw M) 7 = 0 := rfl
  unfold MB
  rw [e4, e5, e6, e7]
  have z : (0 : Int32).toInt = 0 := by decide
  rw [z]
  omega
