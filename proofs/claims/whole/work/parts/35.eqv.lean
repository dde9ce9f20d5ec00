/-! What the values depend on: not the playhead, the loop, the meters -/
def eqv (R R' : Row) : Prop := ∀ j, (8 ≤ j ∨ j = 3) → R' j = R j
theorem eqv.S {R R' : Row} (h : eqv R R') (s f : Nat) : rS R' s f = rS R s f := h _ (Or.inl (by omega))
theorem eqv.C {R R' : Row} (h : eqv R R') (c f : Nat) : rC R' c f = rC R c f := h _ (Or.inl (by omega))
theorem eqv.T {R R' : Row} (h : eqv R R') (t f : Nat) : rT R' t f = rT R t f := h _ (Or.inl (by omega))
theorem eqv.cn {R R' : Row} (h : eqv R R') : cn R' = cn R := by unfold _root_.Jvm.Pilot.@@N@@.cn; rw [h 8 (Or.inl (by decide))]
theorem eqv.pn {R R' : Row} (h : eqv R R') (t : Nat) : pn R' t = pn R t := by unfold _root_.Jvm.Pilot.@@N@@.pn; rw [h.T]
theorem eqv.raw {R R' : Row} (h : eqv R R') (c : Nat) (n : Int32) : rawR R' c n = rawR R c n := by
  unfold rawR smpR
  simp only [h.C, h.S]
theorem eqv.pa {R R' : Row} (h : eqv R R') (t : Nat) (n : Int32) : pa R' t n = pa R t n := by
  unfold _root_.Jvm.Pilot.@@N@@.pa
  simp only [h.T, h.pn]
theorem eqv.lane {R R' : Row} (h : eqv R R') (t : Nat) (n : Int32) : laneR R' t n = laneR R t n := by
  unfold laneR
  simp only [h.T, h.pn, h.pa]
theorem eqv.on {R R' : Row} (h : eqv R R') (t : Nat) (n : Int32) (c : Nat) : on R' t n c = on R t n c := by
  unfold _root_.Jvm.Pilot.@@N@@.on cov
  simp only [h.C]
theorem eqv.fc {R R' : Row} (h : eqv R R') (t : Nat) (n : Int32) : fc R' t n = fc R t n := by
  unfold _root_.Jvm.Pilot.@@N@@.fc
  simp only [h.on, h.cn]
theorem eqv.two {R R' : Row} (h : eqv R R') (t : Nat) (n : Int32) : two R' t n = two R t n := by
  unfold _root_.Jvm.Pilot.@@N@@.two
  simp only [h.on, h.cn, h.fc]
theorem eqv.dry {R R' : Row} (h : eqv R R') (t : Nat) (n : Int32) : dryR R' t n = dryR R t n := by
  unfold dryR sumR wxf
  simp only [h.fc, h.cn, h.two, h.raw, h.C, h.T, h.lane]
theorem eqv.loud {R R' : Row} (h : eqv R R') (k w : Nat) (x : Int32) : loudR R' k w x = loudR R k w x := by
  unfold loudR
  simp only [h.dry]
theorem eqv.dk {R R' : Row} (h : eqv R R') (t : Nat) : ∀ m, dk R' t m = dk R t m
  | 0 => rfl
  | 1 => rfl
  | m + 2 => by
    have ih := eqv.dk h t (m + 1)
    show ifp (loudR R' (keyN R' t) m (rT R' t 30)) _ _ = ifp (loudR R (keyN R t) m (rT R t 30)) _ _
    have hk : keyN R' t = keyN R t := by unfold keyN; rw [h.T]
    rw [hk, h.loud, h.T, h.T, h.T, h.T, ih]
theorem eqv.dg {R R' : Row} (h : eqv R R') (t n : Nat) : dgR R' t n = dgR R t n := by
  unfold dgR
  simp only [h.T, h.dk]
theorem eqv.val {R R' : Row} (h : eqv R R') (t n : Nat) : valR R' t n = valR R t n := by
  unfold valR
  simp only [h.dry, h.dg]
theorem eqv.hd {R R' : Row} (h : eqv R R') (t : Nat) : heard R' t = heard R t := by
  unfold _root_.Jvm.Pilot.@@N@@.heard someSolo
  simp only [h.T]
theorem eqv.sl {R R' : Row} (h : eqv R R') (n : Nat) : ∀ t, sumL R' n t = sumL R n t
  | 0 => rfl
  | t + 1 => by
    have ih := eqv.sl h n t
    have e1 : lft R' t n = lft R t n := by unfold lft; simp only [h.val, h.T]
    show sumL R' n t + ifp (heard R' t) (lft R' t n) 0 = sumL R n t + ifp (heard R t) (lft R t n) 0
    rw [ih, h.hd, e1]
theorem eqv.sr {R R' : Row} (h : eqv R R') (n : Nat) : ∀ t, sumRt R' n t = sumRt R n t
  | 0 => rfl
  | t + 1 => by
    have ih := eqv.sr h n t
    have e1 : rgt R' t n = rgt R t n := by unfold rgt; simp only [h.val, h.T]
    show sumRt R' n t + ifp (heard R' t) (rgt R' t n) 0 = sumRt R n t + ifp (heard R t) (rgt R t n) 0
    rw [ih, h.hd, e1]
theorem eqv.mst {R R' : Row} (h : eqv R R') (s : Int) : mst R' s = mst R s := by
  unfold _root_.Jvm.Pilot.@@N@@.mst
  rw [h 3 (Or.inr rfl)]
theorem eqv.mixL {R R' : Row} (h : eqv R R') (n : Nat) : mixL R' n = mixL R n := by
  unfold _root_.Jvm.Pilot.@@N@@.mixL
  rw [h.sl, h.mst]
theorem eqv.mixRt {R R' : Row} (h : eqv R R') (n : Nat) : mixRt R' n = mixRt R n := by
  unfold _root_.Jvm.Pilot.@@N@@.mixRt
  rw [h.sr, h.mst]
theorem eqv.mixN {R R' : Row} (h : eqv R R') (n : Nat) : mixN R' n = mixN R n := by
  unfold _root_.Jvm.Pilot.@@N@@.mixN
  rw [h.sl, h.sr, h.mst, h.mst]
theorem eqv.VS {R R' : Row} (h : eqv R R') (g : VS R) : VS R' := by
  unfold _root_.Jvm.Pilot.@@N@@.VS at *
  simp only [h.S]
  exact g
theorem eqv.VC {R R' : Row} (h : eqv R R') (g : VC R) : VC R' := by
  unfold _root_.Jvm.Pilot.@@N@@.VC VC1 at *
  simp only [h.C, h.cn, h 8 (Or.inl (by decide))]
  exact g
theorem eqv.VT {R R' : Row} (h : eqv R R') (g : VT R) : VT R' := by
  unfold _root_.Jvm.Pilot.@@N@@.VT at *
  simp only [h.T]
  exact g
theorem eqv.VP {R R' : Row} (h : eqv R R') (g : VP R) : VP R' := by
  unfold _root_.Jvm.Pilot.@@N@@.VP at *
  simp only [h.T, h.pn]
  exact g
theorem eqv.VL {R R' : Row} (h : eqv R R') (g : VL R) : VL R' := by
  unfold _root_.Jvm.Pilot.@@N@@.VL at *
  simp only [h.C, h.cn]
  exact g
theorem eqv.VAL {R R' : Row} (h : eqv R R') (g : VAL R) (hx : VX R') : VAL R' := ⟨h.VS g.1, h.VC g.2.1, h.VT g.2.2.1, h.VP g.2.2.2.1, hx, h.VL g.2.2.2.2.2⟩
