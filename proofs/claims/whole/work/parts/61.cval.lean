/-! The class: what ducking depends on; the invariant of a row, in groups -/
def eq8 (R R' : Row) : Prop := ∀ j, 8 ≤ j → R' j = R j
theorem eq8.S {R R' : Row} (h : eq8 R R') (s f : Nat) : rS R' s f = rS R s f := h _ (by omega)
theorem eq8.C {R R' : Row} (h : eq8 R R') (c f : Nat) : rC R' c f = rC R c f := h _ (by omega)
theorem eq8.T {R R' : Row} (h : eq8 R R') (t f : Nat) : rT R' t f = rT R t f := h _ (by omega)
theorem eq8.cn {R R' : Row} (h : eq8 R R') : cn R' = cn R := by unfold _root_.Jvm.Pilot.@@N@@.cn; rw [h 8 (by decide)]
theorem eq8.pn {R R' : Row} (h : eq8 R R') (t : Nat) : pn R' t = pn R t := by unfold _root_.Jvm.Pilot.@@N@@.pn; rw [h.T]
theorem eq8.raw {R R' : Row} (h : eq8 R R') (c : Nat) (n : Int32) : rawR R' c n = rawR R c n := by
  unfold rawR smpR
  simp only [h.C, h.S]
theorem eq8.pa {R R' : Row} (h : eq8 R R') (t : Nat) (n : Int32) : pa R' t n = pa R t n := by
  unfold _root_.Jvm.Pilot.@@N@@.pa
  simp only [h.T, h.pn]
theorem eq8.lane {R R' : Row} (h : eq8 R R') (t : Nat) (n : Int32) : laneR R' t n = laneR R t n := by
  unfold laneR
  simp only [h.T, h.pn, h.pa]
theorem eq8.on {R R' : Row} (h : eq8 R R') (t : Nat) (n : Int32) (c : Nat) : on R' t n c = on R t n c := by
  unfold _root_.Jvm.Pilot.@@N@@.on cov
  simp only [h.C]
theorem eq8.fc {R R' : Row} (h : eq8 R R') (t : Nat) (n : Int32) : fc R' t n = fc R t n := by
  unfold _root_.Jvm.Pilot.@@N@@.fc
  simp only [h.on, h.cn]
theorem eq8.two {R R' : Row} (h : eq8 R R') (t : Nat) (n : Int32) : two R' t n = two R t n := by
  unfold _root_.Jvm.Pilot.@@N@@.two
  simp only [h.on, h.cn, h.fc]
theorem eq8.dry {R R' : Row} (h : eq8 R R') (t : Nat) (n : Int32) : dryR R' t n = dryR R t n := by
  unfold dryR sumR wxf
  simp only [h.fc, h.cn, h.two, h.raw, h.C, h.T, h.lane]
theorem eq8.loud {R R' : Row} (h : eq8 R R') (k w : Nat) (x : Int32) : loudR R' k w x = loudR R k w x := by
  unfold loudR
  simp only [h.dry]
theorem eq8.dk {R R' : Row} (h : eq8 R R') (t : Nat) : ∀ m, dk R' t m = dk R t m
  | 0 => rfl
  | 1 => rfl
  | m + 2 => by
    have ih := eq8.dk h t (m + 1)
    show ifp (loudR R' (keyN R' t) m (rT R' t 30)) _ _ = ifp (loudR R (keyN R t) m (rT R t 30)) _ _
    have hk : keyN R' t = keyN R t := by unfold keyN; rw [h.T]
    rw [hk, h.loud, h.T, h.T, h.T, h.T, ih]
theorem VS_ag {R R1 : Row} (h : VS R) (e : ∀ j, 9 ≤ j → j < 33 → R1 j = R j) : VS R1 := by
  have eS : ∀ c f, c < 6 → f < 4 → rS R1 c f = rS R c f := fun c f hc hf => e _ (by omega) (by omega)
  intro s hs
  rw [eS s 0 hs (by decide), eS s 1 hs (by decide), eS s 2 hs (by decide), eS s 3 hs (by decide)]
  exact h s hs
theorem VCL_ag {R R1 : Row} (hC : VC R) (hL : VL R) (e : ∀ j, (j = 8 ∨ 33 ≤ j) → j < 141 → R1 j = R j) : VC R1 ∧ VL R1 := by
  have e8 : R1 8 = R 8 := e 8 (Or.inl rfl) (by decide)
  have ec : cn R1 = cn R := by unfold cn; rw [e8]
  have h12 := hC.cn.2
  have eC : ∀ c f, c < cn R → f < 9 → rC R1 c f = rC R c f := fun c f hc hf => e _ (Or.inr (by omega)) (by omega)
  refine ⟨⟨by rw [e8]; exact hC.1, fun c hc => ?_⟩, ?_, ?_⟩
  · rw [ec] at hc
    unfold VC1
    rw [eC c 0 hc (by decide), eC c 1 hc (by decide), eC c 2 hc (by decide), eC c 3 hc (by decide), eC c 4 hc (by decide), eC c 5 hc (by decide), eC c 6 hc (by decide), eC c 7 hc (by decide), eC c 8 hc (by decide)]
    exact hC.2 c hc
  · intro c hc
    rw [ec] at hc
    rw [eC c 0 (by omega) (by decide), eC c 2 (by omega) (by decide), eC c 4 (by omega) (by decide), eC (c + 1) 0 (by omega) (by decide), eC (c + 1) 2 (by omega) (by decide), eC (c + 1) 4 (by omega) (by decide)]
    exact hL.1 c hc
  · intro c hc
    rw [ec] at hc
    rw [eC c 0 (by omega) (by decide), eC c 2 (by omega) (by decide), eC c 4 (by omega) (by decide), eC (c + 2) 0 (by omega) (by decide), eC (c + 2) 2 (by omega) (by decide)]
    exact hL.2 c hc
/-- the invariant of one track -/
def VT1 (R : Row) (t : Nat) : Prop := (0 ≤ (rT R t 0).toInt ∧ (rT R t 0).toInt ≤ 2000) ∧ (-100 ≤ (rT R t 1).toInt ∧ (rT R t 1).toInt ≤ 100) ∧ (0 ≤ (rT R t 2).toInt ∧ (rT R t 2).toInt ≤ 1) ∧ (0 ≤ (rT R t 3).toInt ∧ (rT R t 3).toInt ≤ 1) ∧ (0 ≤ (rT R t 4).toInt ∧ (rT R t 4).toInt ≤ 8) ∧ (-1 ≤ (rT R t 29).toInt ∧ (rT R t 29).toInt ≤ 3) ∧ (0 ≤ (rT R t 30).toInt ∧ (rT R t 30).toInt ≤ 100000) ∧ (0 ≤ (rT R t 31).toInt ∧ (rT R t 31).toInt ≤ 1000) ∧ (0 ≤ (rT R t 32).toInt ∧ (rT R t 32).toInt ≤ 1000) ∧ 0 ≤ (rT R t 33).toInt ∧ (rT R t 33).toInt ≤ 1000
def VP1 (R : Row) (t : Nat) : Prop := (∀ k, k < pn R t → (0 ≤ (rT R t (5 + 3 * k)).toInt ∧ (rT R t (5 + 3 * k)).toInt ≤ 3999) ∧ (0 ≤ (rT R t (5 + 3 * k + 1)).toInt ∧ (rT R t (5 + 3 * k + 1)).toInt ≤ 2000) ∧ 0 ≤ (rT R t (5 + 3 * k + 2)).toInt ∧ (rT R t (5 + 3 * k + 2)).toInt ≤ 1) ∧ ∀ k, k + 1 < pn R t → (rT R t (5 + 3 * k)).toInt < (rT R t (5 + 3 * (k + 1))).toInt
theorem VT_1 {R : Row} : VT R ↔ ∀ t, t < 4 → VT1 R t := Iff.rfl
theorem VP_1 {R : Row} : VP R ↔ ∀ t, t < 4 → VP1 R t := Iff.rfl
theorem VT1_ag {R R1 : Row} {t : Nat} (h : VT1 R t) (e : ∀ f, f < 34 → rT R1 t f = rT R t f) : VT1 R1 t := by
  unfold VT1
  rw [e 0 (by decide), e 1 (by decide), e 2 (by decide), e 3 (by decide), e 4 (by decide), e 29 (by decide), e 30 (by decide), e 31 (by decide), e 32 (by decide), e 33 (by decide)]
  exact h
theorem VP1_ag {R R1 : Row} {t : Nat} (h : VP1 R t) (h8 : pn R t ≤ 8) (e : ∀ f, f < 34 → rT R1 t f = rT R t f) : VP1 R1 t := by
  have ep : pn R1 t = pn R t := by unfold pn; rw [e 4 (by decide)]
  refine ⟨fun k hk => ?_, fun k hk => ?_⟩
  · rw [ep] at hk
    rw [e _ (by omega), e _ (by omega), e _ (by omega)]
    exact h.1 k hk
  · rw [ep] at hk
    rw [e _ (by omega), e _ (by omega)]
    exact h.2 k hk
theorem VTP_ag {R R1 : Row} (hT : VT R) (hP : VP R) (e : ∀ j, 141 ≤ j → j < 277 → R1 j = R j) : VT R1 ∧ VP R1 := by
  refine ⟨fun t ht => VT1_ag (hT t ht) (fun f hf => e _ (by omega) (by omega)), fun t ht => VP1_ag (hP t ht) (hT.pn ht).2 (fun f hf => e _ (by omega) (by omega))⟩
theorem VX_ag {R R1 : Row} (h : VX R) (e : ∀ j, j < 4 → R1 j = R j) : VX R1 := by
  unfold VX
  rw [e 0 (by decide), e 1 (by decide), e 2 (by decide), e 3 (by decide)]
  exact h
/-- the invariant where one track changes -/
theorem VAL_trk {R R1 : Row} {t : Nat} (h : VAL R) (eR : ∀ j, j < 141 + 34 * t ∨ 141 + 34 * t + 34 ≤ j → R1 j = R j) (ht : t < 4) (hT : VT1 R1 t) (hP : VP1 R1 t) : VAL R1 := by
  obtain ⟨vS, vC, vT, vP, vX, vL⟩ := h
  obtain ⟨c1, c2⟩ := VCL_ag (R1 := R1) vC vL (fun j h1 h2 => eR j (Or.inl (by omega)))
  refine ⟨VS_ag vS (fun j h1 h2 => eR j (Or.inl (by omega))), c1, fun u hu => ?_, fun u hu => ?_, VX_ag vX (fun j hj => eR j (Or.inl (by omega))), c2⟩
  · by_cases e : u = t
    · rw [e]; exact hT
    · exact VT1_ag (vT u hu) (fun f hf => eR _ (by omega))
  · by_cases e : u = t
    · rw [e]; exact hP
    · exact VP1_ag (vP u hu) (vT.pn hu).2 (fun f hf => eR _ (by omega))
/-- what the class shows where one object changes -/
theorem rep_srcU {M M1 : mw_M} {s i : Nat} {R R1 : Row} {K : Int64} (hsk : sk M s) (hV : VAL R) (hp : rep M s R K) (hi : i < 6) (s1 : sm (So (s + 5 + i)) M M1) (e : ∀ f, f < 4 → mI M1 (s + 5 + i) f = rS R1 i f) (eR : ∀ j, j < 9 + 4 * i ∨ 9 + 4 * i + 4 ≤ j → R1 j = R j) : rep M1 s R1 K := by
  obtain ⟨a, c, d, g, l⟩ := rep_g.mp hp
  have n1 : ∀ {q b : Nat}, q ≠ s + 5 + i → mI M1 q b = mI M q b := fun h => s1.2.1 _ _ h
  refine rep_g.mpr ⟨fun j f hj hf => ?_, c.tr hsk hV.2.1.cn.2 (n1 (by omega)) (fun c => s1.1 _ _) (fun j b _ _ => n1 (by omega)) (fun j h1 h2 => eR j (by omega)), d.tr hV.2.2.1 (fun j b _ _ => n1 (by omega)) (fun j h1 h2 => eR j (by omega)), g.tr (fun b _ _ => n1 (by omega)) (fun j h1 => eR j (by omega)), l.tr (fun b => s1.2.2 _ _ (show ¬ s + 4 = s + 5 + i by omega)) (fun j h1 h2 => eR j (by omega))⟩
  by_cases q : j = i
  · rw [q]; exact e f hf
  · have e2 : rS R1 j f = rS R j f := eR _ (by omega)
    rw [n1 (by omega), e2]
    exact a j f hj hf
theorem rep_clipU {M M1 : mw_M} {s c : Nat} {R R1 : Row} {K : Int64} (hb : bs s) (hsk : sk M s) (hV : VAL R) (hp : rep M s R K) (hc : c < cn R) (s1 : sm (So (mP M (s + 2) c)) M M1) (e : ∀ f, f < 9 → mI M1 (mP M (s + 2) c) f = rC R1 c f) (eR : ∀ j, j < 33 + 9 * c ∨ 33 + 9 * c + 9 ≤ j → R1 j = R j) : rep M1 s R1 K := by
  obtain ⟨a, cc, d, g, l⟩ := rep_g.mp hp
  have h12 := hV.2.1.cn.2
  obtain ⟨q1, q2⟩ := hsk.2.2.2.1 c (by omega)
  have n1 : ∀ {q b : Nat}, q ≠ mP M (s + 2) c → mI M1 q b = mI M q b := fun h => s1.2.1 _ _ h
  have ec : cn R1 = cn R := by unfold cn; rw [eR 8 (by omega)]
  refine rep_g.mpr ⟨a.tr (fun j b _ _ => n1 (by omega)) (fun j h1 h2 => eR j (by omega)), ⟨by rw [n1 (by omega), eR 8 (by omega)]; exact cc.1, fun j f hj hf => ?_⟩, d.tr hV.2.2.1 (fun j b _ _ => n1 (by omega)) (fun j h1 h2 => eR j (by omega)), g.tr (fun b _ _ => n1 (by omega)) (fun j h1 => eR j (by omega)), l.tr (fun b => s1.2.2 _ _ (show ¬ s + 4 = mP M (s + 2) c by omega)) (fun j h1 h2 => eR j (by omega))⟩
  rw [ec] at hj
  rw [s1.1]
  by_cases q : j = c
  · rw [q]; exact e f hf
  · have e2 : rC R1 j f = rC R j f := eR _ (by omega)
    rw [n1 (fun w => q (hsk.2.2.2.2 j c (by omega) (by omega) w)), e2]
    exact cc.2 j f hj hf
theorem rep_trkU {M M1 : mw_M} {s t : Nat} {R R1 : Row} {K : Int64} (hsk : sk M s) (hV : VAL R) (hp : rep M s R K) (ht : t < 4) (s1 : sm (Str s t) M M1) (e : repD1 M1 s R1 t) (eR : ∀ j, j < 141 + 34 * t ∨ 141 + 34 * t + 34 ≤ j → R1 j = R j) : rep M1 s R1 K := by
  obtain ⟨a, c, d, g, l⟩ := rep_g.mp hp
  have n1 : ∀ {q b : Nat}, ¬ (s + 23 + 4 * t ≤ q ∧ q < s + 27 + 4 * t) → mI M1 q b = mI M q b := fun h => s1.2.1 _ _ h
  refine rep_g.mpr ⟨a.tr (fun j b _ _ => n1 (by omega)) (fun j h1 h2 => eR j (by omega)), c.tr hsk hV.2.1.cn.2 (n1 (by omega)) (fun c => s1.1 _ _) (fun j b _ _ => n1 (by omega)) (fun j h1 h2 => eR j (by omega)), fun u hu => ?_, g.tr (fun b _ _ => n1 (by omega)) (fun j h1 => eR j (by omega)), l.tr (fun b => s1.2.2 _ _ (show ¬ (s + 23 + 4 * t ≤ s + 4 ∧ s + 4 < s + 27 + 4 * t) by omega)) (fun j h1 h2 => eR j (by omega))⟩
  by_cases q : u = t
  · rw [q]; exact e
  · exact (d u hu).tr hu (hV.2.2.1.pn hu).2 (fun i b h1 h2 => n1 (by omega)) (fun f hf => eR _ (by omega))
theorem rep_stU {M M1 : mw_M} {s : Nat} {R R1 : Row} {K K1 : Int64} (hsk : sk M s) (hV : VAL R) (hp : rep M s R K) (fI : ∀ a b, a ≠ s → s ≤ a → a < s + 39 → mI M1 a b = mI M a b) (f2 : mI M1 s 2 = mI M s 2) (fP : ∀ a b, mP M1 a b = mP M a b) (hE : repE M1 s R1) (hF : repF M1 s R1 K1) (eR : ∀ j, 8 ≤ j → R1 j = R j) : rep M1 s R1 K1 := by
  obtain ⟨a, c, d, g, l⟩ := rep_g.mp hp
  exact rep_g.mpr ⟨a.tr (fun j b _ _ => fI _ _ (by omega) (by omega) (by omega)) (fun j h1 h2 => eR j (by omega)), c.tr hsk hV.2.1.cn.2 f2 (fun c => fP _ _) (fun j b _ _ => fI _ _ (by omega) (by omega) (by omega)) (fun j h1 h2 => eR j (by omega)), d.tr hV.2.2.1 (fun j b _ _ => fI _ _ (by omega) (by omega) (by omega)) (fun j h1 h2 => eR j (by omega)), hE, hF⟩
