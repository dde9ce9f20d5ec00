/-! The law's invariant: the class shows what the reference holds -/
def pst (M : mw_M) (i : Nat) : Row := fun j => mI M 249 (277 * i + j)
def pss (M : mw_M) (i : Nat) : Int64 := mL M 250 i
def LI (M : mw_M) (c : Int) : Prop := ∃ σ k, CF M σ k (nw M) (mL M 247 1) (pst M) (pss M) ∧ IK M k ∧ MB (nw M) c ∧ ∀ i, i < k → MB (pst M i) c
def Fin (c : Int) (e : Nat) (w : Int64) (N : mw_M) : Prop := mI N 247 5 = nI e ∧ (e = 0 → mL N 254 0 = w) ∧ LI N c
def T8 : Nat → Prop := fun a => 247 ≤ a
/-- the reference's objects are as before, but for the code and what is tried -/
def kep (M N : mw_M) : Prop := MK N ∧ nw N = nw M ∧ mL N 247 1 = mL M 247 1 ∧ mI N 247 4 = mI M 247 4 ∧ pst N = pst M ∧ pss N = pss M
theorem kep.tr {M N O : mw_M} (h : kep M N) (g : kep N O) : kep M O := ⟨g.1, g.2.1.trans h.2.1, g.2.2.1.trans h.2.2.1, g.2.2.2.1.trans h.2.2.2.1, g.2.2.2.2.1.trans h.2.2.2.2.1, g.2.2.2.2.2.trans h.2.2.2.2.2⟩
theorem kep.ik {M N : mw_M} {k : Nat} (h : kep M N) (g : IK M k) : IK N k := ⟨h.1, h.2.2.2.1.trans g.2.1, g.2.2⟩
theorem kep_fo {S : Nat → Prop} {M N : mw_M} (hM : MK M) (f : fo S M N) (n1 : ¬ S 247) (n2 : ¬ S 248) (n3 : ¬ S 249) (n4 : ¬ S 250) : kep M N := by
  obtain ⟨a, b, c, d, e, g⟩ := hM
  have p := fun j => (f 247 n1 j).2.2
  exact ⟨⟨(p 0).trans a, (p 2).trans b, (p 3).trans c, (p 7).trans d, (p 8).trans e, (p 9).trans g⟩, funext fun j => (f 248 n2 j).1, (f 247 n1 1).2.1, (f 247 n1 4).1, funext fun i => funext fun j => (f 249 n3 _).1, funext fun i => (f 250 n4 _).2.1⟩
theorem kep_sm {S : Nat → Nat → Prop} {M N : mw_M} (hM : MK M) (f : sm S M N) (n1 : ¬ S 247 1) (n4 : ¬ S 247 4) (n2 : ∀ b, ¬ S 248 b) (n3 : ∀ b, ¬ S 249 b) (n5 : ∀ b, ¬ S 250 b) : kep M N :=
  ⟨f.MK hM, f.nw n2, f.2.2 _ _ n1, f.2.1 _ _ n4, funext fun i => funext fun j => f.2.1 _ _ (n3 _), funext fun i => f.2.2 _ _ (n5 _)⟩
theorem CF_T8 {M N : mw_M} {σ : Nat → Nat} {k : Nat} {R : Row} {K : Int64} {P : Nat → Row} {PK : Nat → Int64} (h : CF M σ k R K P PK) (f : fo T8 M N) : CF N σ k R K P PK := by
  have hS : ∀ a, T8 a → blk (σ 1) a ∨ a = 82 ∨ 239 ≤ a := fun a (q : 247 ≤ a) => Or.inr (Or.inr (by omega))
  have nb : ∀ a, a < 247 → ¬ T8 a := fun a h (q : 247 ≤ a) => by omega
  have b1 := h.1.2.2.2.1 1 (by decide)
  exact ⟨cst_fo h.1 f hS (sk_fo f (fun a ha => nb a (by have := (bs_nb b1.1 ha).2.2.2.2; omega)) b1.2) (cvk_fo f (nb _ (by decide)) (nb _ (by decide)) (fun t ht => nb _ (by omega)) h.1.2.1), shw_fo h.1 h.2.1 f hS, fun t ht => cv_fo f (nb _ (by omega)) (nb _ (by omega)) (fun _ _ => rfl) (h.2.2 t ht)⟩
/-- other rows, the same where the state reaches -/
theorem CF_ag {M : mw_M} {σ : Nat → Nat} {k : Nat} {R R1 : Row} {K K1 : Int64} {P P1 : Nat → Row} {PK PK1 : Nat → Int64} (h : CF M σ k R K P PK) (e : ag R R1) (ek : K1 = K) (hc : ∀ t, t < 4 → cv M R1 t) (eP : ∀ i, i < k → ag (P i) (P1 i) ∧ PK1 i = PK i) : CF M σ k R1 K1 P1 PK1 := by
  obtain ⟨a, ⟨⟨b, v⟩, d⟩, -⟩ := h
  have hs := a.2.2.2.1
  have hk4 := a.2.2.1.2
  refine ⟨a, ⟨⟨ek ▸ rep_ag b (hs 0 (by decide)).2 v.2.1 v.2.2.1 e, VAL_ag v e⟩, fun i hi => ?_⟩, hc⟩
  obtain ⟨g, v1⟩ := d i hi
  obtain ⟨e1, e2⟩ := eP i hi
  exact ⟨e2 ▸ rep_ag g (hs (2 + i) (by omega)).2 v1.2.1 v1.2.2.1 e1, VAL_ag v1 e1⟩
theorem CF.mi {M M1 : mw_M} {σ : Nat → Nat} {k : Nat} {R : Row} {K : Int64} {P : Nat → Row} {PK : Nat → Int64} (h : CF M σ k R K P PK) (s : sm Smi M M1) (c : ∀ t, t < 4 → cv M1 R t) : CF M1 σ k R K P PK := by
  have f : fo (fun a => a = 82 ∨ (239 ≤ a ∧ a ≤ 246)) M M1 := s.fo (fun a b q => q)
  have hS : ∀ a, (a = 82 ∨ (239 ≤ a ∧ a ≤ 246)) → blk (σ 1) a ∨ a = 82 ∨ 239 ≤ a := fun a q => Or.inr (by omega)
  exact ⟨cst_fo h.1 f hS (sm_sk s (h.1.2.2.2.1 1 (by decide)).2) (sm_cvk s h.1.2.1), shw_fo h.1 h.2.1 f hS, c⟩
theorem mi_ST {M M1 : mw_M} (s : sm Smi M M1) : fo ST M M1 := s.fo (fun a b q => by show a < 247; rcases q with q | q <;> omega)
theorem MB_eq {R R1 : Row} {c : Int} (h : MB R c) (e : ∀ j, 4 ≤ j → j ≤ 7 → R1 j = R j) : MB R1 c := by
  unfold MB
  rw [e 4 (by decide) (by decide), e 5 (by decide) (by decide), e 6 (by decide) (by decide), e 7 (by decide) (by decide)]
  exact h
theorem MB_ag {R R1 : Row} {c : Int} (h : MB R c) (e : ag R R1) : MB R1 c := MB_eq h (fun j h1 h2 => e j (by omega))
/-- nothing changed -/
theorem li_stay {M N : mw_M} {c d : Int} {σ : Nat → Nat} {k : Nat} (hc : CF N σ k (nw M) (mL M 247 1) (pst M) (pss M)) (hI : IK M k) (hB : MB (nw M) c ∧ ∀ i, i < k → MB (pst M i) c) (hd : c ≤ d) (g : kep M N) : LI N d := by
  refine ⟨σ, k, ?_, g.ik hI, ?_, fun i hi => ?_⟩
  · rw [g.2.1, g.2.2.1, g.2.2.2.2.1, g.2.2.2.2.2]; exact hc
  · rw [g.2.1]; exact hB.1.le hd
  · rw [g.2.2.2.2.1]; exact (hB.2 i hi).le hd
theorem nk_le {k : Nat} (h : k ≤ 4) : nk k ≤ 4 := by unfold nk kd; split <;> omega
/-- the state kept and a new one taken -/
theorem li_push {M N : mw_M} {c d : Int} {σ : Nat → Nat} {k : Nat} {F : Row} {K : Int64} (hc : CF N σ (nk k) F K (psh k (pst M) (nw M)) (psh k (pss M) (mL M 247 1))) (hI : IK M k) (hB : MB (nw M) c ∧ ∀ i, i < k → MB (pst M i) c) (hd : c ≤ d) (hF : MB F d) (hM : MK N) (p : pushed M N k (kd k)) (e : nw N = F) (eK : mL N 247 1 = K) : LI N d := by
  obtain ⟨p1, p2, p3, p4, p5⟩ := p
  have hk4 := hI.2.2
  have kk : kd k ≤ k ∧ k - kd k ≤ 3 := by unfold kd; split <;> omega
  have ep : ∀ i, i < nk k → ag (psh k (pst M) (nw M) i) (pst N i) ∧ pss N i = psh k (pss M) (mL M 247 1) i := fun i hi => by
    have hi2 : i < k - kd k + 1 := hi
    by_cases g : i < k - kd k
    · unfold psh
      rw [if_pos g, if_pos g]
      exact ⟨fun j hj => p2 i j g hj, p4 i g⟩
    · have : i = k - kd k := by omega
      subst this
      unfold psh
      rw [if_neg g, if_neg g]
      exact ⟨fun j hj => p3 j hj, p5⟩
  have eb : ∀ i, i < nk k → MB (psh k (pst M) (nw M) i) d := fun i hi => by
    unfold psh
    split
    · exact (hB.2 _ (by omega)).le hd
    · exact hB.1.le hd
  refine ⟨σ, nk k, ?_, ⟨hM, p1, nk_le hk4⟩, by rw [e]; exact hF, fun i hi => MB_ag (eb i hi) (ep i hi).1⟩
  rw [e, eK]
  exact CF_ag hc (fun _ _ => rfl) rfl hc.2.2 ep
/-- what the law does with a call's end: the answer kept, or the exception's number -/
def kept (M : mw_M) (w : Int64) : mw_M := sL M 254 0 w
theorem kept_fo (M : mw_M) (w : Int64) : fo (fun a => a = 254) M (kept M w) := fo.sl rfl
theorem kept_mid {M M1 : mw_M} {w : Int64} (hM : MK M) (f : fo ST M M1) : kep M (kept M1 w) := by
  have g : fo (fun a => a < 247 ∨ a = 254) M (kept M1 w) := (f.mono (fun a q => Or.inl q)).tr ((kept_fo M1 w).mono (fun a q => Or.inr q))
  exact kep_fo hM g (by omega) (by omega) (by omega) (by omega)
theorem st_mid {M M1 : mw_M} (hM : MK M) (f : fo ST M M1) : kep M M1 := kep_fo hM f (by show ¬ 247 < 247; omega) (by show ¬ 248 < 247; omega) (by show ¬ 249 < 247; omega) (by show ¬ 250 < 247; omega)
theorem kept_T8 (M : mw_M) (w : Int64) : fo T8 M (kept M w) := (kept_fo M w).mono (fun a (q : a = 254) => by show 247 ≤ a; omega)
def S8 : Nat → Nat → Prop := fun a _ => 247 ≤ a ∧ a ≤ 253
theorem S8.t {M N : mw_M} (s : sm S8 M N) : fo T8 M N := s.fo (fun a b q => q.1)
theorem S8.o {M N : mw_M} {w : Int64} (s : sm S8 (kept M w) N) : mL N 254 0 = w := (s.2.2 254 0 (fun q => absurd q.2 (by decide))).trans (mL_at _ _ _ _)
theorem e8_St8 : ∀ a b, St a b → S8 a b := fun a b q => by show 247 ≤ a ∧ a ≤ 253; rcases q with q | q | q <;> omega
theorem e8_S58 : ∀ a b, S5 a b → S8 a b := fun a b q => by show 247 ≤ a ∧ a ≤ 253; have := q.1; omega
theorem e8_S5t8 : ∀ a b, S5t a b → S8 a b := fun a b q => q.elim (e8_S58 a b) (e8_St8 a b)
theorem e8_Sq8 : ∀ a b, Sq a b → S8 a b := fun a b q => by show 247 ≤ a ∧ a ≤ 253; rcases q with q | q <;> omega
theorem e8_Su8 : ∀ a b, Su a b → S8 a b := fun a b q => by show 247 ≤ a ∧ a ≤ 253; rcases q with q | q <;> omega
theorem e8_Sc8 : ∀ a b, Sc a b → S8 a b := fun a b q => by show 247 ≤ a ∧ a ≤ 253; rcases q with (q | q | q) | q <;> omega
theorem e8_Sd8 : ∀ a b, Sd a b → S8 a b := fun a b q => q.elim (e8_Sc8 a b) (fun q => by show 247 ≤ a ∧ a ≤ 253; omega)
theorem e8_Sr8 : ∀ a b, Sr a b → S8 a b := fun a b q => q.elim (e8_Sd8 a b) (e8_Sq8 a b)
theorem e8_Scl8 : ∀ a b, Scl a b → S8 a b := fun a b q => q.elim (e8_Sc8 a b) (e8_St8 a b)
theorem kep5 {M N : mw_M} (hM : MK M) (s : sm S5 M N) : kep M N := kep_sm hM s (by rintro ⟨-, q⟩; omega) (by rintro ⟨-, q⟩; omega) (fun b q => absurd q.1 (by decide)) (fun b q => absurd q.1 (by decide)) (fun b q => absurd q.1 (by decide))
theorem kept5 {M N : mw_M} (hM : MK M) (s : sm S5t M N) : kep M N := kep_sm hM s (by unfold S5t S5 St; omega) (by unfold S5t S5 St; omega) (fun b => by unfold S5t S5 St; omega) (fun b => by unfold S5t S5 St; omega) (fun b => by unfold S5t S5 St; omega)
theorem kepq {M N : mw_M} (hM : MK M) (s : sm Sq M N) : kep M N := kep_sm hM s (by unfold Sq; omega) (by unfold Sq; omega) (fun b => by unfold Sq; omega) (fun b => by unfold Sq; omega) (fun b => by unfold Sq; omega)
