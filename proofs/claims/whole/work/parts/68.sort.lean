/-! Arrangements: settled and sorted -/
theorem ahr_tr {a b c : Nat → Int32} (h : ahr a b) (g : ahr b c) : ahr a c := by
  unfold ahr at *
  simp only [ti_lt, ti_eq] at *
  omega
theorem ahr_no {a b : Nat → Int32} (h : ¬ ahr a b) (h0 : a 0 = b 0 → a 2 ≠ b 2) : ahr b a := by
  unfold ahr at *
  simp only [ti_lt, ti_eq, ne_eq] at *
  omega
/-- what the class holds lawful -/
def lawC (S : Arr) (m : Nat) : Prop := (∀ i, i + 1 < m → S i 0 = S (i + 1) 0 → S i 2 < S (i + 1) 2 ∧ S i 2 + S i 4 < S (i + 1) 2 + S (i + 1) 4) ∧ ∀ i, i + 2 < m → S i 0 = S (i + 2) 0 → S i 2 + S i 4 ≤ S (i + 2) 2
/-- tracks in order -/
def TS (S : Arr) (m : Nat) : Prop := ∀ i, i + 1 < m → S i 0 ≤ S (i + 1) 0
def WS (S : Arr) (m : Nat) : Prop := ∀ i, i + 1 < m → ¬ ahr (S (i + 1)) (S i)
def SS (S : Arr) (m : Nat) : Prop := ∀ i j, i < j → j < m → ahr (S i) (S j)
def SO (T : Arr) (c m : Nat) : Prop := ∀ i j, i < j → j < m → i ≠ c → j ≠ c → ahr (T i) (T j)
theorem WS.ts {S : Arr} {m : Nat} (h : WS S m) : TS S m := fun i hi => by
  have := h i hi
  rw [ti_le]
  by_cases e : (S i 0).toInt ≤ (S (i + 1) 0).toInt
  · exact e
  · exact absurd (Or.inl (ti_lt.mpr (by omega))) this
theorem lawC_fine {S : Arr} {m : Nat} (h : TS S m) : lawC S m ↔ fine S m := by
  refine ⟨fun ⟨h1, h2⟩ c hc e => ⟨h1 c hc e, fun hc2 e2 => h2 c hc2 e2.symm⟩, fun hf => ⟨fun i hi e => (hf i hi e).1, fun i hi e => ?_⟩⟩
  have a1 := h i (by omega)
  have a2 := h (i + 1) (by omega)
  have e1 : S i 0 = S (i + 1) 0 := by
    rw [ti_le] at a1 a2
    rw [ti_eq] at e ⊢
    rw [show i + 1 + 1 = i + 2 from rfl] at a2
    omega
  exact (hf i (by omega) e1).2 hi e.symm
theorem chain {S : Arr} {m : Nat} (h : ∀ i, i + 1 < m → ahr (S i) (S (i + 1))) : SS S m := by
  intro i j hij
  induction j with
  | zero => omega
  | succ j ih =>
    intro hj
    by_cases e : i = j
    · rw [e]; exact h j hj
    · exact ahr_tr (ih (by omega) (by omega)) (h j hj)
theorem ss_law {S : Arr} {m : Nat} (h : TS S m) (g : ∀ i, i + 1 < m → S i 0 = S (i + 1) 0 → S i 2 < S (i + 1) 2) : SS S m := chain (fun i hi => by
  have a1 := h i hi
  by_cases e : S i 0 = S (i + 1) 0
  · exact Or.inr ⟨e, g i hi e⟩
  · refine Or.inl ?_
    rw [ti_le] at a1
    rw [ti_eq] at e
    rw [ti_lt]
    omega)
/-- whence a place is filled -/
def srcI (c k i : Nat) : Nat := if i = k then c else if c ≤ i ∧ i < k then i + 1 else if k < i ∧ i ≤ c then i - 1 else i
theorem crry_src (T : Arr) (c k i : Nat) : crry T c k i = T (srcI c k i) := by
  funext f
  unfold crry srcI
  repeat' split
  all_goals rfl
theorem srcI_k (c k : Nat) : srcI c k k = c := if_pos rfl
theorem srcI_lt {c k i m : Nat} (hc : c < m) (hk : k < m) (hi : i < m) : srcI c k i < m := by
  unfold srcI
  (repeat' split) <;> omega
theorem srcI_ne {c k i : Nat} (h : i ≠ k) : srcI c k i ≠ c := by
  unfold srcI
  (repeat' split) <;> omega
theorem srcI_mono {c k i j : Nat} (h : i < j) (hi : i ≠ k) (hj : j ≠ k) : srcI c k i < srcI c k j := by
  unfold srcI
  (repeat' split) <;> omega
theorem WS_of {T : Arr} {c m k : Nat} (hO : SO T c m) (hc : c < m) (hk : k < m) (a : ∀ i, i + 1 < m → i = k → ¬ ahr (T (srcI c k (i + 1))) (T c)) (b : ∀ i, i + 1 = k → ¬ ahr (T c) (T (srcI c k i))) : WS (crry T c k) m := by
  intro i hi
  rw [crry_src, crry_src]
  by_cases e : i = k
  · subst e
    rw [srcI_k]
    exact a i hi rfl
  · by_cases e2 : i + 1 = k
    · subst e2
      rw [srcI_k]
      exact b i rfl
    · exact ahr_as (hO _ _ (srcI_mono (by omega) e e2) (srcI_lt hc hk hi) (srcI_ne e) (srcI_ne e2))
theorem stl_WS {T : Arr} {c m k : Nat} (hO : SO T c m) (hc : c < m) (h : stl T c m k) : WS (crry T c k) m := by
  obtain ⟨hk, h1, h2, h3, h4⟩ := h
  refine WS_of hO hc hk (fun i hi e => ?_) (fun i e => ?_)
  · subst e
    by_cases g : i < c
    · have : srcI c i (i + 1) = i := by unfold srcI; rw [if_neg (by omega), if_neg (by omega), if_pos (by omega)]; rfl
      rw [this]
      exact ahr_as (h1 i (Nat.le_refl _) g)
    · have : srcI c i (i + 1) = i + 1 := by unfold srcI; rw [if_neg (by omega), if_neg (by omega), if_neg (by omega)]
      rw [this]
      rcases h4 (by omega) with q | q
      · omega
      · exact q
  · subst e
    by_cases g : i + 1 ≤ c
    · have : srcI c (i + 1) i = i := by unfold srcI; rw [if_neg (by omega), if_neg (by omega), if_neg (by omega)]
      rw [this]
      rcases h3 g with q | q
      · omega
      · exact q
    · have : srcI c (i + 1) i = i + 1 := by unfold srcI; rw [if_neg (by omega), if_pos (by omega)]
      rw [this]
      exact ahr_as (h2 (i + 1) (by omega) (Nat.le_refl _))
/-- the count by a threshold -/
theorem cnt_is {T : Arr} {c m t : Nat} (h : ∀ o, o < m → o ≠ c → (ahr (T o) (T c) ↔ o < t)) : ∀ o, o ≤ m → cntA T c o = if o ≤ t then (if c < o then o - 1 else o) else if c < t then t - 1 else if c < o ∧ c = t then t else t
  | 0, _ => by rw [if_pos (by omega), if_neg (by omega)]; rfl
  | o + 1, ho => by
    have ih := cnt_is h o (by omega)
    have hs := cntA_s T c o
    have hh := h o (by omega)
    by_cases e : o ≠ c ∧ ahd T o c
    · have h1 := (hh e.1).mp e.2
      rw [hs.1 e, ih]
      have e1 := e.1
      (repeat' split) <;> omega
    · rw [hs.2 e, ih]
      by_cases e1 : o = c
      · subst e1
        (repeat' split) <;> omega
      · have h1 : ¬ o < t := fun q => e ⟨e1, (hh e1).mpr q⟩
        (repeat' split) <;> omega
theorem cnt_all {T : Arr} {c m t : Nat} (h : ∀ o, o < m → o ≠ c → (ahr (T o) (T c) ↔ o < t)) (ht : t ≤ m) (hc : c < m) (hct : c ≠ t) : cntA T c m = if c < t then t - 1 else t := by
  rw [cnt_is h m (Nat.le_refl m)]
  (repeat' split) <;> omega
theorem cnt_thr {T : Arr} {c m : Nat} (hO : SO T c m) (hc : c < m) : ∃ t, t ≤ m ∧ t ≠ c ∧ ∀ o, o < m → o ≠ c → (ahr (T o) (T c) ↔ o < t) := by
  obtain ⟨h1, h2, h3⟩ := lead_ex (fun o => o = c ∨ ahr (T o) (T c)) m
  generalize lead (fun o => o = c ∨ ahr (T o) (T c)) m = t at *
  refine ⟨t, h1, fun e => ?_, fun o ho hne => ⟨fun q => ?_, fun q => (h2 o q).resolve_left hne⟩⟩
  · exact h3 (by omega) (Or.inl e)
  · by_cases g : o < t
    · exact g
    · exfalso
      have hnt := h3 (by omega)
      have htc : t ≠ c := fun e => hnt (Or.inl e)
      have hna : ¬ ahr (T t) (T c) := fun e => hnt (Or.inr e)
      by_cases e : o = t
      · rw [e] at q; exact hna q
      · exact hna (ahr_tr (hO t o (by omega) ho htc hne) q)
theorem cnt_WS {T : Arr} {c m : Nat} (hO : SO T c m) (hc : c < m) : cntA T c m < m ∧ WS (crry T c (cntA T c m)) m := by
  obtain ⟨t, ht, htc, hh⟩ := cnt_thr hO hc
  have hn := cnt_all hh ht hc (fun e => htc e.symm)
  have hlt : cntA T c m < m := (cntA_le T c m).2 hc
  refine ⟨hlt, WS_of hO hc hlt (fun i hi e => ?_) (fun i e => ?_)⟩
  · rw [hn] at e
    by_cases g : c < t
    · rw [if_pos g] at e
      have : srcI c (cntA T c m) (i + 1) = t := by rw [hn, if_pos g]; unfold srcI; rw [if_neg (by omega), if_neg (by omega), if_neg (by omega)]; omega
      rw [this]
      exact fun q => absurd ((hh t (by omega) htc).mp q) (by omega)
    · rw [if_neg g] at e
      have : srcI c (cntA T c m) (i + 1) = t := by rw [hn, if_neg g]; unfold srcI; rw [if_neg (by omega), if_neg (by omega), if_pos (by omega)]; omega
      rw [this]
      exact fun q => absurd ((hh t (by omega) htc).mp q) (by omega)
  · rw [hn] at e
    by_cases g : c < t
    · rw [if_pos g] at e
      by_cases g2 : i < c
      · have : srcI c (cntA T c m) i = i := by rw [hn, if_pos g]; unfold srcI; rw [if_neg (by omega), if_neg (by omega), if_neg (by omega)]
        rw [this]
        exact ahr_as ((hh i (by omega) (by omega)).mpr (by omega))
      · have : srcI c (cntA T c m) i = i + 1 := by rw [hn, if_pos g]; unfold srcI; rw [if_neg (by omega), if_pos (by omega)]
        rw [this]
        exact ahr_as ((hh (i + 1) (by omega) (by omega)).mpr (by omega))
    · rw [if_neg g] at e
      have : srcI c (cntA T c m) i = i := by rw [hn, if_neg g]; unfold srcI; rw [if_neg (by omega), if_neg (by omega), if_neg (by omega)]
      rw [this]
      exact ahr_as ((hh i (by omega) (by omega)).mpr (by omega))
/-- the place of an other clip -/
def dstI (c k o : Nat) : Nat := if o < c then (if o < k then o else o + 1) else if o ≤ k then o - 1 else o
theorem dst_src {c k o : Nat} (h : o ≠ c) : srcI c k (dstI c k o) = o ∧ dstI c k o ≠ k := by
  unfold srcI dstI
  constructor <;> (repeat' split) <;> omega
theorem dst_lt {c k o m : Nat} (h : o ≠ c) (hc : c < m) (hk : k < m) (ho : o < m) : dstI c k o < m := by
  unfold dstI
  (repeat' split) <;> omega
theorem ss_cmp {T : Arr} {c m k : Nat} (h : SS (crry T c k) m) (hc : c < m) (hk : k < m) {o : Nat} (ho : o < m) (hne : o ≠ c) : (dstI c k o < k → ahr (T o) (T c)) ∧ (¬ dstI c k o < k → ahr (T c) (T o)) := by
  obtain ⟨e1, e2⟩ := dst_src (k := k) hne
  have hl := dst_lt (k := k) hne hc hk ho
  refine ⟨fun q => ?_, fun q => ?_⟩
  · have := h _ _ q hk
    rw [crry_src, crry_src, e1, srcI_k] at this
    exact this
  · have := h k (dstI c k o) (by omega) hl
    rw [crry_src, crry_src, e1, srcI_k] at this
    exact this
theorem ss_cnt {T : Arr} {c m k : Nat} (h : SS (crry T c k) m) (hc : c < m) (hk : k < m) : cntA T c m = k := by
  have hh : ∀ o, o < m → o ≠ c → (ahr (T o) (T c) ↔ o < (if k < c then k else k + 1)) := by
    intro o ho hne
    obtain ⟨a, b⟩ := ss_cmp h hc hk ho hne
    have hd : dstI c k o < k ↔ o < (if k < c then k else k + 1) := by
      unfold dstI
      (repeat' split) <;> omega
    rw [← hd]
    by_cases g : dstI c k o < k
    · exact ⟨fun _ => g, fun _ => a g⟩
    · exact ⟨fun q => absurd q (ahr_as (b g)), fun q => absurd q g⟩
  have := cnt_all hh (by split <;> omega) hc (by split <;> omega)
  rw [this]
  (repeat' split) <;> omega
theorem settle_eq {T : Arr} {c m k : Nat} (hO : SO T c m) (hc : c < m) (hs : stl T c m k) : (lawC (crry T c k) m → k = cntA T c m) ∧ (lawC (crry T c k) m ↔ fine (crry T c (cntA T c m)) m) := by
  have hk := hs.1
  have w1 := stl_WS hO hc hs
  obtain ⟨hn, w2⟩ := cnt_WS hO hc
  have A : lawC (crry T c k) m → k = cntA T c m := fun hl => (ss_cnt (ss_law w1.ts (fun i hi e => (hl.1 i hi e).1)) hc hk).symm
  refine ⟨A, fun hl => ?_, fun hf => ?_⟩
  · rw [← A hl]
    exact (lawC_fine w1.ts).mp hl
  · have s2 := ss_law w2.ts (fun i hi e => (hf i hi e).1.1)
    have cmp : ∀ o, o < m → o ≠ c → ahr (T o) (T c) ∨ ahr (T c) (T o) := fun o ho hne => by
      obtain ⟨a, b⟩ := ss_cmp s2 hc hn ho hne
      by_cases g : dstI c (cntA T c m) o < cntA T c m
      · exact Or.inl (a g)
      · exact Or.inr (b g)
    have s1 : SS (crry T c k) m := chain (fun i hi => by
      have hw := w1 i hi
      rw [crry_src, crry_src] at hw ⊢
      by_cases e : i = k
      · subst e
        rw [srcI_k] at hw ⊢
        exact (cmp _ (srcI_lt hc hk hi) (srcI_ne (by omega))).resolve_left hw
      · by_cases e2 : i + 1 = k
        · subst e2
          rw [srcI_k] at hw ⊢
          exact (cmp _ (srcI_lt hc hk (by omega)) (srcI_ne e)).resolve_right hw
        · exact hO _ _ (srcI_mono (by omega) e e2) (srcI_lt hc hk hi) (srcI_ne e) (srcI_ne e2))
    have hkn := ss_cnt s1 hc hk
    rw [lawC_fine w1.ts, ← hkn]
    exact hf
/-- the conditions of one clip -/
def CV (r : Nat → Int32) : Prop := (0 ≤ (r 0).toInt ∧ (r 0).toInt ≤ 3) ∧ (0 ≤ (r 1).toInt ∧ (r 1).toInt ≤ 5) ∧ (0 ≤ (r 2).toInt ∧ 0 ≤ (r 3).toInt ∧ (r 3).toInt ≤ 3999) ∧ (1 ≤ (r 4).toInt ∧ (r 2).toInt + (r 4).toInt ≤ 4000) ∧ (0 ≤ (r 5).toInt ∧ (r 5).toInt ≤ 2000) ∧ (0 ≤ (r 6).toInt ∧ (r 6).toInt ≤ 4000) ∧ (0 ≤ (r 7).toInt ∧ (r 7).toInt ≤ 4000) ∧ 0 ≤ (r 8).toInt ∧ (r 8).toInt ≤ 1
theorem CV_of {R : Row} {c : Nat} (h : VC1 R c) : CV (rC R c) := h
theorem CV_end {r : Nat → Int32} (h : CV r) : (r 2 + r 4).toInt = (r 2).toInt + (r 4).toInt := by
  obtain ⟨-, -, ⟨a1, -⟩, ⟨b1, b2⟩, -⟩ := h
  exact ti_add (by omega) (by omega)
/-- rows sorted by the invariant -/
theorem VL_SS {R : Row} (hL : VL R) : SS (rC R) (cn R) := fun i j hij hj => by
  obtain ⟨h1, h2⟩ := VL_lt hL hij hj
  by_cases e : rC R i 0 = rC R j 0
  · exact Or.inr ⟨e, ti_lt.mpr (h2 e).1⟩
  · refine Or.inl ?_
    rw [ti_eq] at e
    rw [ti_lt]
    omega
theorem ag_SO {T : Arr} {R : Row} {c m : Nat} (hL : VL R) (hm : m ≤ cn R + 1) (h : ∀ i, i < m → i ≠ c → i < cn R ∧ (∀ f, f < 3 → T i f = rC R i f)) : SO T c m := fun i j hij hj hi hj2 => by
  obtain ⟨a1, a2⟩ := h i (by omega) hi
  obtain ⟨b1, b2⟩ := h j hj hj2
  have := VL_SS hL i j hij b1
  unfold ahr at *
  rw [a2 0 (by decide), a2 2 (by decide), b2 0 (by decide), b2 2 (by decide)]
  exact this
theorem tov_8 (R : Row) (m : Nat) (S : Arr) : tov R m S 8 = nI m := if_pos rfl
theorem tov_o {R : Row} {m j : Nat} {S : Arr} (h : j ≠ 8) (h2 : j < 33 ∨ 33 + 9 * m ≤ j) : tov R m S j = R j := by
  unfold tov
  rw [if_neg h, if_neg (by omega)]
theorem tov_c {R : Row} {m c f : Nat} {S : Arr} (hc : c < m) (hf : f < 9) : rC (tov R m S) c f = S c f := by
  unfold rC tov
  rw [if_neg (by omega), if_pos (by omega), show (33 + 9 * c + f - 33) / 9 = c by omega, show (33 + 9 * c + f - 33) % 9 = f by omega]
theorem tov_n {R : Row} {m : Nat} {S : Arr} (hm : m ≤ 12) : cn (tov R m S) = m := by
  unfold cn
  rw [tov_8, nI_toInt (by omega)]
  rfl
theorem V_tov {R : Row} {m : Nat} {S : Arr} (hV : VAL R) (hm : m ≤ 12) (hc : ∀ c, c < m → CV (S c)) (ht : TS S m) (hf : fine S m) : VAL (tov R m S) := by
  obtain ⟨vS, vC, vT, vP, vX, vL⟩ := hV
  obtain ⟨t1, t2⟩ := VTP_ag (R1 := tov R m S) vT vP (fun j h1 h2 => tov_o (by omega) (by omega))
  have en : cn (tov R m S) = m := tov_n hm
  refine ⟨VS_ag vS (fun j h1 h2 => tov_o (by omega) (by omega)), ⟨by rw [tov_8, nI_toInt (by omega)]; omega, fun c hcn => ?_⟩, t1, t2, VX_ag vX (fun j hj => tov_o (by omega) (by omega)), fun c hcn => ?_, fun c hcn e => ?_⟩
  · rw [en] at hcn
    unfold VC1
    rw [tov_c hcn (by decide), tov_c hcn (by decide), tov_c hcn (by decide), tov_c hcn (by decide), tov_c hcn (by decide), tov_c hcn (by decide), tov_c hcn (by decide), tov_c hcn (by decide), tov_c hcn (by decide)]
    exact hc c hcn
  · rw [en] at hcn
    have e1 := CV_end (hc c (by omega))
    have e2 := CV_end (hc (c + 1) hcn)
    have q := ht c hcn
    have q0 : ∀ f, f < 9 → rC (tov R m S) c f = S c f := fun f hf => tov_c (by omega) hf
    have q1 : ∀ f, f < 9 → rC (tov R m S) (c + 1) f = S (c + 1) f := fun f hf => tov_c hcn hf
    rw [q0 0 (by decide), q0 2 (by decide), q0 4 (by decide), q1 0 (by decide), q1 2 (by decide), q1 4 (by decide)]
    by_cases e : S c 0 = S (c + 1) 0
    · obtain ⟨⟨f1, f2⟩, -⟩ := hf c hcn e
      rw [ti_lt] at f1 f2
      rw [e1, e2] at f2
      exact Or.inr ⟨e, f1, f2⟩
    · rw [ti_le] at q
      rw [ti_eq] at e
      exact Or.inl (by omega)
  · rw [en] at hcn
    have q0 : ∀ f, f < 9 → rC (tov R m S) c f = S c f := fun f hf => tov_c (by omega) hf
    have q1 : ∀ f, f < 9 → rC (tov R m S) (c + 2) f = S (c + 2) f := fun f hf => tov_c hcn hf
    rw [q0 0 (by decide), q1 0 (by decide)] at e
    rw [q0 2 (by decide), q0 4 (by decide), q1 2 (by decide)]
    have := ((lawC_fine ht).mpr hf).2 c hcn e
    rw [ti_le, CV_end (hc c (by omega))] at this
    exact this
theorem rep_tov {M N : mw_M} {s m : Nat} {R : Row} {K : Int64} {S : Arr} (hb : bs s) (hV : VAL R) (hp : rep M s R K) (f : Fc s M N) (h : Cl N s m S) : rep N s (tov R m S) K := by
  obtain ⟨a, c, d, g, l⟩ := rep_g.mp hp
  obtain ⟨f1, f2, f3⟩ := f
  obtain ⟨hsk, h2, h12, hT⟩ := h
  have n1 : ∀ i b, i < 39 → i ≠ 0 → i ≠ 2 → (i < 11 ∨ 23 ≤ i) → mI N (s + i) b = mI M (s + i) b := fun i b h1 h2 h3 h4 => (f1 _ (by rintro (q | q | q) <;> omega) b).1
  refine rep_g.mpr ⟨a.tr (fun i b h1 h2 => n1 i b (by omega) (by omega) (by omega) (by omega)) (fun j h1 h2 => tov_o (by omega) (by omega)), ⟨by rw [h2, tov_8], fun c f hc hf => ?_⟩, d.tr hV.2.2.1 (fun i b h1 h2 => n1 i b (by omega) (by omega) (by omega) (by omega)) (fun j h1 h2 => tov_o (by omega) (by omega)), g.tr (fun b h1 h2 => f2 b (by omega)) (fun j h1 => tov_o (by omega) (by omega)), l.tr (fun b => (f1 _ (by rintro (q | q | q) <;> omega) b).2.1) (fun j h1 h2 => tov_o (by omega) (by omega))⟩
  rw [tov_n h12] at hc
  rw [tov_c hc hf]
  exact hT c f hc hf
theorem Fc.blk {s : Nat} {M N : mw_M} (h : Fc s M N) : fo (blk s) M N := h.1.mono (fun a q => by
  rcases q with q | q | q <;> exact ⟨by omega, by omega⟩)
