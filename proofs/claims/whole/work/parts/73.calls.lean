/-! The law's calls, one after the other -/
theorem pushed_kep {M M2 N : mw_M} {k d : Nat} (g : kep M M2) (p : pushed M2 N k d) : pushed M N k d := by
  obtain ⟨p1, p2, p3, p4, p5⟩ := p
  obtain ⟨-, gn, gK, -, gp, gs⟩ := g
  exact ⟨p1, fun i j hi hj => (p2 i j hi hj).trans (congrFun (congrFun gp (i + d)) j), fun j hj => (p3 j hj).trans (congrFun gn j), fun i hi => (p4 i hi).trans (congrFun gs (i + d)), p5.trans gK⟩
theorem gstay {M M1 M2 N : mw_M} {c d : Int} {σ : Nat → Nat} {k : Nat} (hc : CF M1 σ k (nw M) (mL M 247 1) (pst M) (pss M)) (hI : IK M k) (hB : MB (nw M) c ∧ ∀ i, i < k → MB (pst M i) c) (hd : c ≤ d) (g : kep M M2) (f : fo T8 M1 M2) (s : sm S8 M2 N) (g2 : kep M2 N) : LI N d :=
  li_stay (CF_T8 hc (f.tr (S8.t s))) hI hB hd (g.tr g2)
theorem gdone {M M1 M2 N : mw_M} {c d : Int} {σ : Nat → Nat} {k : Nat} {F : Row} {K w : Int64} (hI : IK M k) (hB : MB (nw M) c ∧ ∀ i, i < k → MB (pst M i) c) (hd : c ≤ d) (hc : CF M1 σ (nk k) F K (psh k (pst M) (nw M)) (psh k (pss M) (mL M 247 1))) (hF : MB F d) (g : kep M M2) (f : fo T8 M1 M2) (hw : mL M2 254 0 = w) (s : sm S8 M2 N) (hM : MK N) (h5 : mI N 247 5 = 0) (p : pushed M2 N k (kd k)) (e : nw N = F) (eK : mL N 247 1 = K) : Fin d 0 w N :=
  ⟨h5, fun _ => (s.2.2 254 0 (fun q => absurd q.2 (by decide))).trans hw, li_push (CF_T8 hc (f.tr (S8.t s))) hI hB hd hF hM (pushed_kep g p) e eK⟩
theorem gp_ok {M M1 : mw_M} {c d : Int} {σ : Nat → Nat} {k e : Nat} {F : Row} {v : Int32} (hI : IK M k) (hB : MB (nw M) c ∧ ∀ i, i < k → MB (pst M i) c) (hd : c ≤ d) (f : fo ST M M1) (hc : CF M1 σ (nk k) F (mL M 247 1) (psh k (pst M) (nw M)) (psh k (pss M) (mL M 247 1))) (hF : MB F d) (he : e = 0) : post (kept M1 v.toInt64) k e F v (fun N b => Fin d 0 b.toInt64 N) :=
  ⟨fun h => absurd he h, fun _ N ⟨s, hM, h5, p, e⟩ => gdone hI hB hd hc hF (kept_mid hI.1 f) (kept_T8 _ _) (mL_at _ _ _ _) (s.mono e8_Sc8) hM h5 p e ((s.2.2 247 1 (by unfold Sc Sk; omega)).trans (kept_mid hI.1 f).2.2.1)⟩
theorem gp_no {M : mw_M} {c d : Int} {σ : Nat → Nat} {k e n : Nat} {F : Row} {v : Int32} (hc : CF M σ k (nw M) (mL M 247 1) (pst M) (pss M)) (hI : IK M k) (hB : MB (nw M) c ∧ ∀ i, i < k → MB (pst M i) c) (hd : c ≤ d) (he : e = n + 1) : post M k e F v (fun N b => Fin d (n + 1) b.toInt64 N) :=
  ⟨fun _ N s h5 => ⟨h5.trans (by rw [he]), fun h => absurd h (Nat.succ_ne_zero n), gstay hc hI hB hd (st_mid hI.1 fo.rf) fo.rf (s.mono e8_S58) (kep5 hI.1 s)⟩, fun h => absurd (he.symm.trans h) (Nat.succ_ne_zero n)⟩
theorem gq_ok {M M1 : mw_M} {c d : Int} {σ : Nat → Nat} {k e : Nat} {z v : Int32} (hc : CF M1 σ k (nw M) (mL M 247 1) (pst M) (pss M)) (hI : IK M k) (hB : MB (nw M) c ∧ ∀ i, i < k → MB (pst M i) c) (hd : c ≤ d) (f : fo ST M M1) (he : e = 0) : qpost (kept M1 v.toInt64) e z v (fun N b => Fin d 0 b.toInt64 N) :=
  ⟨fun h => absurd he h, fun _ N s h5 => ⟨h5, fun _ => S8.o (s.mono e8_Sq8), gstay hc hI hB hd (kept_mid hI.1 f) (kept_T8 _ _) (s.mono e8_Sq8) (kepq (kept_mid hI.1 f).1 s)⟩⟩
theorem gq_no {M : mw_M} {c d : Int} {σ : Nat → Nat} {k e n : Nat} {z v : Int32} (hc : CF M σ k (nw M) (mL M 247 1) (pst M) (pss M)) (hI : IK M k) (hB : MB (nw M) c ∧ ∀ i, i < k → MB (pst M i) c) (hd : c ≤ d) (he : e = n + 1) : qpost M e z v (fun N b => Fin d (n + 1) b.toInt64 N) :=
  ⟨fun _ N s h5 => ⟨h5.trans (by rw [he]), fun h => absurd h (Nat.succ_ne_zero n), gstay hc hI hB hd (st_mid hI.1 fo.rf) fo.rf (s.mono e8_Sq8) (kepq hI.1 s)⟩, fun h => absurd (he.symm.trans h) (Nat.succ_ne_zero n)⟩
theorem gc_ok {M M1 N : mw_M} {c d : Int} {σ : Nat → Nat} {k : Nat} {F : Row} {w : Int64} (hI : IK M k) (hB : MB (nw M) c ∧ ∀ i, i < k → MB (pst M i) c) (hd : c ≤ d) (f : fo ST M M1) (hc : CF M1 σ (nk k) F (mL M 247 1) (psh k (pst M) (nw M)) (psh k (pss M) (mL M 247 1))) (hF : MB F d) (h : Ck (kept M1 w) k N) (e : nw N = F) : Fin d 0 w N :=
  gdone hI hB hd hc hF (kept_mid hI.1 f) (kept_T8 _ _) (mL_at _ _ _ _) (h.1.mono e8_Scl8) h.2.1 h.2.2.1 h.2.2.2 e ((h.1.2.2 247 1 (by unfold Scl Sc Sk St; omega)).trans (kept_mid hI.1 f).2.2.1)
theorem gc_no {M M1 N : mw_M} {c d : Int} {σ : Nat → Nat} {k n : Nat} {x : Int32} {w : Int64} (hc : CF M1 σ k (nw M) (mL M 247 1) (pst M) (pss M)) (hI : IK M k) (hB : MB (nw M) c ∧ ∀ i, i < k → MB (pst M i) c) (hd : c ≤ d) (f : fo ST M M1) (s : sm S5t M1 N) (h5 : mI N 247 5 = x) (hx : x = nI (n + 1)) : Fin d (n + 1) w N :=
  ⟨h5.trans hx, fun h => absurd h (Nat.succ_ne_zero n), gstay hc hI hB hd (st_mid hI.1 f) fo.rf (s.mono e8_S5t8) (kept5 (st_mid hI.1 f).1 s)⟩
theorem nw_kept {M M1 : mw_M} {w : Int64} (hM : MK M) (f : fo ST M M1) : nw (kept M1 w) = nw M := (kept_mid hM f).2.1
theorem ik_kept {M M1 : mw_M} {w : Int64} {k : Nat} (hI : IK M k) (f : fo ST M M1) : IK (kept M1 w) k := (kept_mid hI.1 f).ik hI
theorem nw_st {M M1 : mw_M} (hM : MK M) (f : fo ST M M1) : nw M1 = nw M := (st_mid hM f).2.1
theorem ik_st {M M1 : mw_M} {k : Nat} (hI : IK M k) (f : fo ST M M1) : IK M1 k := (st_mid hI.1 f).ik hI
theorem up_n {R : Row} {i j : Nat} {x : Int32} (h : j ≠ i) : up R i x j = R j := if_neg h
theorem MB_up {R : Row} {c : Int} {i : Nat} {x : Int32} (h : MB R c) (hi : i < 4 ∨ 7 < i) : MB (up R i x) c := MB_eq h (fun j h1 h2 => up_n (by omega))
def hS1 : List String := ["java/lang/IndexOutOfBoundsException"]
def hS2 : List String := ["java/lang/IndexOutOfBoundsException", "java/lang/IllegalArgumentException"]
def hS3 : List String := ["java/lang/IndexOutOfBoundsException", "java/lang/IllegalArgumentException", "java/lang/IllegalStateException"]
def hSU : List String := ["java/lang/IndexOutOfBoundsException", "java/lang/IllegalArgumentException", "java/lang/UnsupportedOperationException"]
def hS4 : List String := ["java/lang/IndexOutOfBoundsException", "java/lang/IllegalArgumentException", "java/lang/IllegalStateException", "java/lang/UnsupportedOperationException"]
def hSA : List String := ["java/lang/IllegalArgumentException", "java/lang/IllegalStateException", "java/lang/UnsupportedOperationException"]
def hA1 : List String := ["java/lang/IllegalArgumentException"]
def hT1 : List String := ["java/lang/IllegalStateException"]
theorem g_setSource {M : mw_M} {c d : Int} {x1 x2 x3 x4 x5 : Int32} (h : LI M c) (hd : c ≤ d) : w_X7_setSource 255 M 1 x1 x2 x3 x4 x5 (fun M1 v => w_X8_setSource 255 (kept M1 v.toInt64) 247 x1 x2 x3 x4 x5 (fun N b => Fin d 0 b.toInt64 N)) (fun M1 nm => ∃ e, hS2[e]? = some nm ∧ w_X8_setSource 255 M1 247 x1 x2 x3 x4 x5 (fun N b => Fin d (e + 1) b.toInt64 N)) := by
  obtain ⟨σ, k, hc, hI, hB⟩ := h
  refine s_X7_setSource hc (fun a => ⟨0, rfl, s_X8_setSource hI (gp_no hc hI hB hd (c12_1 a))⟩) (fun a b => ⟨1, rfl, s_X8_setSource hI (gp_no hc hI hB hd (c12_2 a b))⟩) (fun a b M1 σ1 f g => s_X8_setSource (ik_kept hI f) ?_)
  rw [nw_kept hI.1 f]
  exact gp_ok hI hB hd f g (MB_up (MB_up (MB_up (MB_up (hB.1.le hd) (by omega)) (by omega)) (by omega)) (by omega)) (c12_0 a b)
theorem g_sample {M : mw_M} {c d : Int} {x1 x2 : Int32} (h : LI M c) (hd : c ≤ d) : w_X7_sample 255 M 1 x1 x2 (fun v => w_X8_sample 255 (kept M v.toInt64) 247 x1 x2 (fun N b => Fin d 0 b.toInt64 N)) (fun M1 nm => ∃ e, hS1[e]? = some nm ∧ w_X8_sample 255 M1 247 x1 x2 (fun N b => Fin d (e + 1) b.toInt64 N)) := by
  obtain ⟨σ, k, hc, hI, hB⟩ := h
  have hV := hc.cx.2.2.2.1
  refine s_X7_sample hc.cx (fun a => ⟨0, rfl, s_X8_sample hI.1 hV.1 (gq_no hc hI hB hd (c1_f a))⟩) (fun a => s_X8_sample (ik_kept hI fo.rf).1 ((nw_kept hI.1 fo.rf).symm ▸ hV.1) ?_)
  rw [nw_kept hI.1 fo.rf]
  exact gq_ok hc hI hB hd fo.rf (c1_t a)
theorem g_addClip {M : mw_M} {c d : Int} {x1 x2 x3 x4 x5 x6 : Int32} (h : LI M c) (hd : c ≤ d) : w_X7_addClip 255 M 1 x1 x2 x3 x4 x5 x6 (fun M1 v => w_X8_addClip 255 (kept M1 v.toInt64) 247 x1 x2 x3 x4 x5 x6 (fun N b => Fin d 0 b.toInt64 N)) (fun M1 nm => ∃ e, hSA[e]? = some nm ∧ w_X8_addClip 255 M1 247 x1 x2 x3 x4 x5 x6 (fun N b => Fin d (e + 1) b.toInt64 N)) := by
  obtain ⟨σ, k, hc, hI, hB⟩ := h
  have hV := hc.cx.2.2.2.1
  refine s_X7_addClip hc (fun a => ⟨0, rfl, y_addClip hI hV.2.1 (fun _ N s h5 => gc_no hc hI hB hd fo.rf s h5 rfl) (fun b => absurd b a) (fun b => absurd b a) (fun b => absurd b a)⟩) (fun a b => ⟨1, rfl, y_addClip hI hV.2.1 (fun q => absurd a q) (fun _ _ N s h5 => gc_no hc hI hB hd fo.rf s h5 rfl) (fun _ q => absurd b q) (fun _ q => absurd b q)⟩) (fun a b q M2 f g => ⟨2, rfl, y_addClip (ik_st hI f) ((nw_st hI.1 f).symm ▸ hV.2.1) (fun q => absurd a q) (fun _ e => absurd ((nw_st hI.1 f) ▸ e) b) (fun _ _ _ N s h5 => gc_no g hI hB hd f s h5 rfl) (fun _ _ e => absurd ((nw_st hI.1 f) ▸ e) q)⟩) (fun a b q M1 σ1 f g => y_addClip (ik_kept hI f) ((nw_kept hI.1 f).symm ▸ hV.2.1) (fun q => absurd a q) (fun _ e => absurd ((nw_kept hI.1 f) ▸ e) b) (fun _ _ e => absurd q ((nw_kept hI.1 f) ▸ e)) (fun _ _ _ N hN eN => ?_))
  rw [nw_kept hI.1 f] at eN ⊢
  exact gc_ok hI hB hd f g (MB_eq (hB.1.le hd) (fun j h1 h2 => tov_o (by omega) (by omega))) hN eN
theorem g_setFades {M : mw_M} {c d : Int} {x1 x2 x3 x4 : Int32} (h : LI M c) (hd : c ≤ d) : w_X7_setFades 255 M 1 x1 x2 x3 x4 (fun M1 v => w_X8_setFades 255 (kept M1 v.toInt64) 247 x1 x2 x3 x4 (fun N b => Fin d 0 b.toInt64 N)) (fun M1 nm => ∃ e, hS2[e]? = some nm ∧ w_X8_setFades 255 M1 247 x1 x2 x3 x4 (fun N b => Fin d (e + 1) b.toInt64 N)) := by
  obtain ⟨σ, k, hc, hI, hB⟩ := h
  have hV := hc.cx.2.2.2.1
  refine s_X7_setFades hc (fun a => ⟨0, rfl, s_X8_setFades hI hV.2.1 (gp_no hc hI hB hd (c12_1 a))⟩) (fun a b => ⟨1, rfl, s_X8_setFades hI hV.2.1 (gp_no hc hI hB hd (c12_2 a b))⟩) (fun a b M1 σ1 f g => s_X8_setFades (ik_kept hI f) ((nw_kept hI.1 f).symm ▸ hV.2.1) ?_)
  rw [nw_kept hI.1 f]
  exact gp_ok hI hB hd f g (MB_up (MB_up (MB_up (hB.1.le hd) (by omega)) (by omega)) (by omega)) (c12_0 a b)
theorem g_moveClip {M : mw_M} {c d : Int} {x1 x2 : Int32} (h : LI M c) (hd : c ≤ d) : w_X7_moveClip 255 M 1 x1 x2 (fun M1 v => w_X8_moveClip 255 (kept M1 v.toInt64) 247 x1 x2 (fun N b => Fin d 0 b.toInt64 N)) (fun M1 nm => ∃ e, hSU[e]? = some nm ∧ w_X8_moveClip 255 M1 247 x1 x2 (fun N b => Fin d (e + 1) b.toInt64 N)) := by
  obtain ⟨σ, k, hc, hI, hB⟩ := h
  have hV := hc.cx.2.2.2.1
  refine s_X7_moveClip hc (fun a => ⟨0, rfl, y_moveClip hI hV.2.1 (fun _ N s h5 => gc_no hc hI hB hd fo.rf s h5 rfl) (fun b => absurd b a) (fun b => absurd b a) (fun b => absurd b a)⟩) (fun a b => ⟨1, rfl, y_moveClip hI hV.2.1 (fun q => absurd a q) (fun _ _ N s h5 => gc_no hc hI hB hd fo.rf s h5 rfl) (fun _ q => absurd q b) (fun _ q => absurd q b)⟩) (fun a b q M2 f g => ⟨2, rfl, y_moveClip (ik_st hI f) ((nw_st hI.1 f).symm ▸ hV.2.1) (fun e => absurd a ((nw_st hI.1 f) ▸ e)) (fun _ e => absurd b ((nw_st hI.1 f) ▸ e)) (fun _ _ _ N s h5 => gc_no g hI hB hd f s h5 rfl) (fun _ _ e => absurd ((nw_st hI.1 f) ▸ e) q)⟩) (fun a b q M1 σ1 f g => y_moveClip (ik_kept hI f) ((nw_kept hI.1 f).symm ▸ hV.2.1) (fun e => absurd a ((nw_kept hI.1 f) ▸ e)) (fun _ e => absurd b ((nw_kept hI.1 f) ▸ e)) (fun _ _ e => absurd q ((nw_kept hI.1 f) ▸ e)) (fun _ _ _ N hN eN => ?_))
  rw [nw_kept hI.1 f] at eN ⊢
  exact gc_ok hI hB hd f g (MB_eq (hB.1.le hd) (fun j h1 h2 => tov_o (by omega) (by omega))) hN eN
theorem g_trimClip {M : mw_M} {c d : Int} {x1 x2 x3 : Int32} (h : LI M c) (hd : c ≤ d) : w_X7_trimClip 255 M 1 x1 x2 x3 (fun M1 v => w_X8_trimClip 255 (kept M1 v.toInt64) 247 x1 x2 x3 (fun N b => Fin d 0 b.toInt64 N)) (fun M1 nm => ∃ e, hSU[e]? = some nm ∧ w_X8_trimClip 255 M1 247 x1 x2 x3 (fun N b => Fin d (e + 1) b.toInt64 N)) := by
  obtain ⟨σ, k, hc, hI, hB⟩ := h
  have hV := hc.cx.2.2.2.1
  refine s_X7_trimClip hc (fun a => ⟨0, rfl, y_trimClip hI hV.2.1 (fun _ N s h5 => gc_no hc hI hB hd fo.rf s h5 rfl) (fun b => absurd b a) (fun b => absurd b a) (fun b => absurd b a)⟩) (fun a b => ⟨1, rfl, y_trimClip hI hV.2.1 (fun q => absurd a q) (fun _ _ N s h5 => gc_no hc hI hB hd fo.rf s h5 rfl) (fun _ q => absurd q b) (fun _ q => absurd q b)⟩) (fun a b q M2 f g => ⟨2, rfl, y_trimClip (ik_st hI f) ((nw_st hI.1 f).symm ▸ hV.2.1) (fun e => absurd a ((nw_st hI.1 f) ▸ e)) (fun _ e => absurd b ((nw_st hI.1 f) ▸ e)) (fun _ _ _ N s h5 => gc_no g hI hB hd f s h5 rfl) (fun _ _ e => absurd ((nw_st hI.1 f) ▸ e) q)⟩) (fun a b q M1 σ1 f g => y_trimClip (ik_kept hI f) ((nw_kept hI.1 f).symm ▸ hV.2.1) (fun e => absurd a ((nw_kept hI.1 f) ▸ e)) (fun _ e => absurd b ((nw_kept hI.1 f) ▸ e)) (fun _ _ e => absurd q ((nw_kept hI.1 f) ▸ e)) (fun _ _ _ N hN eN => ?_))
  rw [nw_kept hI.1 f] at eN ⊢
  exact gc_ok hI hB hd f g (MB_eq (hB.1.le hd) (fun j h1 h2 => tov_o (by omega) (by omega))) hN eN
theorem g_splitClip {M : mw_M} {c d : Int} {x1 x2 : Int32} (h : LI M c) (hd : c ≤ d) : w_X7_splitClip 255 M 1 x1 x2 (fun M1 v => w_X8_splitClip 255 (kept M1 v.toInt64) 247 x1 x2 (fun N b => Fin d 0 b.toInt64 N)) (fun M1 nm => ∃ e, hS4[e]? = some nm ∧ w_X8_splitClip 255 M1 247 x1 x2 (fun N b => Fin d (e + 1) b.toInt64 N)) := by
  obtain ⟨σ, k, hc, hI, hB⟩ := h
  have hV := hc.cx.2.2.2.1
  refine s_X7_splitClip hc (fun a => ⟨0, rfl, y_splitClip hI hV.2.1 (fun _ N s h5 => gc_no hc hI hB hd fo.rf s h5 rfl) (fun b => absurd b a) (fun b => absurd b a) (fun b => absurd b a) (fun b => absurd b a)⟩) (fun a b => ⟨1, rfl, y_splitClip hI hV.2.1 (fun q => absurd a q) (fun _ _ N s h5 => gc_no hc hI hB hd fo.rf s h5 rfl) (fun _ q => absurd q b) (fun _ q => absurd q b) (fun _ q => absurd q b)⟩) (fun a b e => ⟨2, rfl, y_splitClip hI hV.2.1 (fun q => absurd a q) (fun _ q => absurd b q) (fun _ _ _ N s h5 => gc_no hc hI hB hd fo.rf s h5 rfl) (fun _ _ q => absurd e q) (fun _ _ q => absurd e q)⟩) (fun a b z q M2 f g => ⟨3, rfl, y_splitClip (ik_st hI f) ((nw_st hI.1 f).symm ▸ hV.2.1) (fun e => absurd a ((nw_st hI.1 f) ▸ e)) (fun _ e => absurd b ((nw_st hI.1 f) ▸ e)) (fun _ _ e => absurd ((nw_st hI.1 f) ▸ e) z) (fun _ _ _ _ N s h5 => gc_no g hI hB hd f s h5 rfl) (fun _ _ _ e => absurd ((nw_st hI.1 f) ▸ e) q)⟩) (fun a b z q M1 σ1 f g => y_splitClip (ik_kept hI f) ((nw_kept hI.1 f).symm ▸ hV.2.1) (fun e => absurd a ((nw_kept hI.1 f) ▸ e)) (fun _ e => absurd b ((nw_kept hI.1 f) ▸ e)) (fun _ _ e => absurd ((nw_kept hI.1 f) ▸ e) z) (fun _ _ _ e => absurd q ((nw_kept hI.1 f) ▸ e)) (fun _ _ _ _ N hN eN => ?_))
  rw [nw_kept hI.1 f] at eN ⊢
  exact gc_ok hI hB hd f g (MB_eq (hB.1.le hd) (fun j h1 h2 => tov_o (by omega) (by omega))) hN eN
theorem g_removeClip {M : mw_M} {c d : Int} {x1 : Int32} (h : LI M c) (hd : c ≤ d) : w_X7_removeClip 255 M 1 x1 (fun M1 v => w_X8_removeClip 255 (kept M1 v.toInt64) 247 x1 (fun N b => Fin d 0 b.toInt64 N)) (fun M1 nm => ∃ e, hS1[e]? = some nm ∧ w_X8_removeClip 255 M1 247 x1 (fun N b => Fin d (e + 1) b.toInt64 N)) := by
  obtain ⟨σ, k, hc, hI, hB⟩ := h
  have hV := hc.cx.2.2.2.1
  refine s_X7_removeClip hc (fun a => ⟨0, rfl, y_removeClip hI hV.2.1 (fun _ N s h5 => gc_no hc hI hB hd fo.rf s h5 rfl) (fun b => absurd b a)⟩) (fun a M1 σ1 f g => y_removeClip (ik_kept hI f) ((nw_kept hI.1 f).symm ▸ hV.2.1) (fun e => absurd a ((nw_kept hI.1 f) ▸ e)) (fun _ N hN eN => ?_))
  rw [nw_kept hI.1 f] at eN ⊢
  exact gc_ok hI hB hd f g (MB_eq (hB.1.le hd) (fun j h1 h2 => tov_o (by omega) (by omega))) hN eN
theorem g_deleteTime {M : mw_M} {c d : Int} {x1 x2 x3 : Int32} (h : LI M c) (hd : c ≤ d) : w_X7_deleteTime 255 M 1 x1 x2 x3 (fun M1 v => w_X8_deleteTime 255 (kept M1 v.toInt64) 247 x1 x2 x3 (fun N b => Fin d 0 b.toInt64 N)) (fun M1 nm => ∃ e, hSU[e]? = some nm ∧ w_X8_deleteTime 255 M1 247 x1 x2 x3 (fun N b => Fin d (e + 1) b.toInt64 N)) := by
  obtain ⟨σ, k, hc, hI, hB⟩ := h
  have hV := hc.cx.2.2.2.1
  have hL := hV.2.2.2.2.2
  refine s_X7_deleteTime hc (fun a => ⟨0, rfl, y_deleteTime hI hV.2.1 hL (fun _ N s h5 => gc_no hc hI hB hd fo.rf s h5 rfl) (fun b => absurd b a) (fun b => absurd b a) (fun b => absurd b a) (fun b => absurd b a)⟩) (fun a b => ⟨1, rfl, y_deleteTime hI hV.2.1 hL (fun q => absurd a q) (fun _ _ N s h5 => gc_no hc hI hB hd fo.rf s h5 rfl) (fun _ q => absurd q b) (fun _ q => absurd q b) (fun _ q => absurd q b)⟩) (fun a b z M2 f g => ⟨1, rfl, y_deleteTime (ik_st hI f) ((nw_st hI.1 f).symm ▸ hV.2.1) ((nw_st hI.1 f).symm ▸ hL) (fun e => absurd a e) (fun _ e => absurd b e) (fun _ _ _ N s h5 => gc_no g hI hB hd f s h5 rfl) (fun _ _ e => absurd ((nw_st hI.1 f) ▸ e) z) (fun _ _ e => absurd ((nw_st hI.1 f) ▸ e) z)⟩) (fun a b z q M2 f g => ⟨2, rfl, y_deleteTime (ik_st hI f) ((nw_st hI.1 f).symm ▸ hV.2.1) ((nw_st hI.1 f).symm ▸ hL) (fun e => absurd a e) (fun _ e => absurd b e) (fun _ _ e => absurd z ((nw_st hI.1 f) ▸ e)) (fun _ _ _ _ N s h5 => gc_no g hI hB hd f s h5 rfl) (fun _ _ _ e => absurd ((nw_st hI.1 f) ▸ e) q)⟩) (fun a b z q M1 σ1 f g => y_deleteTime (ik_kept hI f) ((nw_kept hI.1 f).symm ▸ hV.2.1) ((nw_kept hI.1 f).symm ▸ hL) (fun e => absurd a e) (fun _ e => absurd b e) (fun _ _ e => absurd z ((nw_kept hI.1 f) ▸ e)) (fun _ _ _ e => absurd q ((nw_kept hI.1 f) ▸ e)) (fun _ _ _ _ N hN eN => ?_))
  rw [nw_kept hI.1 f] at eN ⊢
  exact gc_ok hI hB hd f g (MB_eq (hB.1.le hd) (fun j h1 h2 => tov_o (by omega) (by omega))) hN eN
