/-! The whole system's memory as one function: object numbers, slots; where they lie in the heap is a map of addresses. -/
abbrev mw_M : Type := (Nat → Nat → Int32) × (Nat → Nat → Int64) × (Nat → Nat → Nat)
def mI (M : mw_M) (k j : Nat) : Int32 := M.1 k j
def mL (M : mw_M) (k j : Nat) : Int64 := M.2.1 k j
def mP (M : mw_M) (k j : Nat) : Nat := M.2.2 k j
def sI (M : mw_M) (k j : Nat) (x : Int32) : mw_M := (fun a b => if a = k ∧ b = j then x else M.1 a b, M.2.1, M.2.2)
def sL (M : mw_M) (k j : Nat) (x : Int64) : mw_M := (M.1, fun a b => if a = k ∧ b = j then x else M.2.1 a b, M.2.2)
def sP (M : mw_M) (k j : Nat) (x : Nat) : mw_M := (M.1, M.2.1, fun a b => if a = k ∧ b = j then x else M.2.2 a b)
theorem mI_sI (M : mw_M) (k j a b : Nat) (x : Int32) : mI (sI M k j x) a b = if a = k ∧ b = j then x else mI M a b := rfl
theorem mI_sL (M : mw_M) (k j a b : Nat) (x : Int64) : mI (sL M k j x) a b = mI M a b := rfl
theorem mI_sP (M : mw_M) (k j a b : Nat) (x : Nat) : mI (sP M k j x) a b = mI M a b := rfl
theorem mL_sL (M : mw_M) (k j a b : Nat) (x : Int64) : mL (sL M k j x) a b = if a = k ∧ b = j then x else mL M a b := rfl
theorem mL_sI (M : mw_M) (k j a b : Nat) (x : Int32) : mL (sI M k j x) a b = mL M a b := rfl
theorem mL_sP (M : mw_M) (k j a b : Nat) (x : Nat) : mL (sP M k j x) a b = mL M a b := rfl
theorem mP_sP (M : mw_M) (k j a b : Nat) (x : Nat) : mP (sP M k j x) a b = if a = k ∧ b = j then x else mP M a b := rfl
theorem mP_sI (M : mw_M) (k j a b : Nat) (x : Int32) : mP (sI M k j x) a b = mP M a b := rfl
theorem mP_sL (M : mw_M) (k j a b : Nat) (x : Int64) : mP (sL M k j x) a b = mP M a b := rfl
/-- two memories agree on an object -/
def mw_eq (M M1 : mw_M) (k : Nat) : Prop := ∀ j, mI M1 k j = mI M k j ∧ mL M1 k j = mL M k j ∧ mP M1 k j = mP M k j
theorem mw_eq.rf (M : mw_M) (k : Nat) : mw_eq M M k := fun _ => ⟨rfl, rfl, rfl⟩
theorem mw_eq.si {M : mw_M} {k0 j0 : Nat} {x : Int32} {k : Nat} (h : k ≠ k0) : mw_eq M (sI M k0 j0 x) k := fun j => ⟨by rw [mI_sI, if_neg (fun q => h q.1)], rfl, rfl⟩
theorem mw_eq.sl {M : mw_M} {k0 j0 : Nat} {x : Int64} {k : Nat} (h : k ≠ k0) : mw_eq M (sL M k0 j0 x) k := fun j => ⟨rfl, by rw [mL_sL, if_neg (fun q => h q.1)], rfl⟩
theorem mw_eq.sp {M : mw_M} {k0 j0 : Nat} {x : Nat} {k : Nat} (h : k ≠ k0) : mw_eq M (sP M k0 j0 x) k := fun j => ⟨rfl, rfl, by rw [mP_sP, if_neg (fun q => h q.1)]⟩
/-- values: a reference is an object's number, 0 is null -/
def mw_r (ad : Nat → Nat) (k : Nat) : Value := if k = 0 then .null else .ref (ad k)
def mw_v (ad : Nat → Nat) : Value → Value
  | .ref k => mw_r ad k
  | v => v
theorem mw_v_ref (ad : Nat → Nat) (k : Nat) : mw_v ad (.ref k) = mw_r ad k := rfl
theorem mw_v_int (ad : Nat → Nat) (x : Int32) : mw_v ad (.int x) = .int x := rfl
theorem mw_v_long (ad : Nat → Nat) (x : Int64) : mw_v ad (.long x) = .long x := rfl
theorem mw_r_pos {ad : Nat → Nat} {k : Nat} (h : 0 < k) : mw_r ad k = .ref (ad k) := by unfold mw_r; rw [if_neg (by omega)]
theorem mw_r_cat (ad : Nat → Nat) (k : Nat) : (mw_r ad k).category = 1 := by
  unfold mw_r
  split <;> rfl
theorem mw_v_cat (ad : Nat → Nat) (v : Value) : (mw_v ad v).category = v.category := by
  cases v <;> first | rfl | exact mw_r_cat ad _
/-- kinds of a field or element: 0 int, 1 long, 2 reference -/
def mw_kd (d : String) : Nat := if d = "J" then 1 else if d = "I" ∨ d = "Z" then 0 else 2
def mw_fv (ad : Nat → Nat) (M : mw_M) (k j c : Nat) : Value := if c = 1 then .long (mL M k j) else if c = 0 then .int (mI M k j) else mw_r ad (mP M k j)
theorem mw_fv_eq {ad : Nat → Nat} {M M1 : mw_M} {k : Nat} (h : mw_eq M M1 k) (j c : Nat) : mw_fv ad M1 k j c = mw_fv ad M k j c := by
  obtain ⟨h1, h2, h3⟩ := h j
  unfold mw_fv
  rw [h1, h2, h3]
theorem mw_fv_0 (ad : Nat → Nat) (M : mw_M) (k j : Nat) : mw_fv ad M k j 0 = .int (mI M k j) := rfl
theorem mw_fv_1 (ad : Nat → Nat) (M : mw_M) (k j : Nat) : mw_fv ad M k j 1 = .long (mL M k j) := rfl
theorem mw_fv_2 (ad : Nat → Nat) (M : mw_M) (k j : Nat) : mw_fv ad M k j 2 = mw_r ad (mP M k j) := rfl
def mw_ak (t : Nat) : Nat := if t = 11 then 1 else if t = 10 ∨ t = 12 then 0 else 2
abbrev mw_cl : List vw_C := [(RX0, TX0, 9), (RX1, TX1, 2), (RX2, TX2, 3), (RX3, TX3, 5), (RX4, TX4, 4), (RX5, TX5, 9), (RX6, TX6, 13), (RX7, TX7, 6), (RX8, TX8, 14)]
def mw_ty (t : Nat) : FieldType := match t with
  | 10 => .int
  | 11 => .long
  | 12 => .boolean
  | 13 => .object RX4
  | 14 => .object RX0
  | 15 => .object RX6
  | 16 => .object RX5
  | _ => .object RX1
-- the object numbers, in the order in which the law's constructors make them: kinds and lengths
def mw_blkT : List Nat := [5, 13, 14, 15, 3] ++ List.replicate 6 4 ++ List.replicate 12 0 ++ [6, 10, 10, 12, 6, 10, 10, 12, 6, 10, 10, 12, 6, 10, 10, 12]
def mw_blkL : List Nat := [0, 6, 12, 4, 0] ++ List.replicate 6 0 ++ List.replicate 12 0 ++ [0, 8, 8, 8, 0, 8, 8, 8, 0, 8, 8, 8, 0, 8, 8, 8]
def mw_allT : List Nat := [99, 7] ++ mw_blkT ++ mw_blkT ++ [16, 17, 2] ++ mw_blkT ++ mw_blkT ++ mw_blkT ++ mw_blkT ++ [1, 10, 1, 10, 1, 10, 1, 10] ++ [8, 10, 10, 11, 10, 10, 10] ++ [11]
def mw_allL : List Nat := [0, 0] ++ mw_blkL ++ mw_blkL ++ [4, 4, 0] ++ mw_blkL ++ mw_blkL ++ mw_blkL ++ mw_blkL ++ [0, 101, 0, 101, 0, 101, 0, 101] ++ [0, 277, 1108, 4, 126, 9, 400] ++ [1]
def Tg (k : Nat) : Nat := mw_allT.getD k 99
def Ln (k : Nat) : Nat := mw_allL.getD k 0
theorem mw_count : mw_allT.length = 255 := by decide +kernel
def mw_is (n k t : Nat) : Prop := Tg k = t ∧ 0 < k ∧ k < n
abbrev mw_G : Type := (Nat → ClassId) × (Nat → Nat → Nat) × (Nat → ClassId) × Nat
def mw_A (G : mw_G) : Nat → Prop := fun q => G.2.2.2 ≤ q
def mw_at (G : mw_G) (ad : Nat → Nat) (M : mw_M) (k : Nat) (H : Heap) : Prop :=
  (∀ r : vw_C, mw_cl[Tg k]? = some r → t_OB (ad k) (G.1 (Tg k)) r.2.2 (G.2.1 (Tg k)) H (fun j => mw_fv ad M k j (mw_kd (r.2.1 j).2.2.1))) ∧
  (10 ≤ Tg k → Tg k < 18 → H[ad k]? = some (arrV (G.2.2.1 (Tg k)) (Ln k) (fun j => mw_fv ad M k j (mw_ak (Tg k))))) ∧ ad k < H.size
def mw_W (G : mw_G) (ad : Nat → Nat) (n : Nat) (M : mw_M) (H : Heap) : Prop := (∀ k, 0 < k → k < n → mw_at G ad M k H ∧ G.2.2.2 ≤ ad k) ∧ ∀ i j, 0 < i → i < n → 0 < j → j < n → ad i = ad j → i = j
theorem mw_at.kept {G : mw_G} {ad : Nat → Nat} {M M1 : mw_M} {k : Nat} {H H1 : Heap} (h : mw_at G ad M k H) (hq : H1[ad k]? = H[ad k]?) (hM : mw_eq M M1 k) : mw_at G ad M1 k H1 := by
  obtain ⟨h1, h2, h3⟩ := h
  refine ⟨fun r hr => ((h1 r hr).kept hq).to (fun j _ => (mw_fv_eq hM j _).symm), fun a b => ?_, ?_⟩
  · rw [hq, h2 a b]
    congr 2
    funext j
    exact (mw_fv_eq hM j _).symm
  · have e : H[ad k]? = some H[ad k] := Array.getElem?_eq_getElem h3
    rw [e] at hq
    exact (Array.getElem?_eq_some_iff.mp hq).1
/-- the map of addresses at a later time: more objects, the old ones where they were -/
def mw_X (a0 : Nat → Nat) (n0 : Nat) (ad : Nat → Nat) (n : Nat) : Prop := n0 ≤ n ∧ (n = n0 → ad = a0) ∧ ∀ i, (i < n0 ∨ 900 ≤ i) → ad i = a0 i
theorem mw_X.rf (a0 : Nat → Nat) (n0 : Nat) : mw_X a0 n0 a0 n0 := ⟨Nat.le_refl _, fun _ => rfl, fun _ _ => rfl⟩
theorem mw_X.trans {a b c : Nat → Nat} {n1 n2 n3 : Nat} (h : mw_X a n1 b n2) (g : mw_X b n2 c n3) : mw_X a n1 c n3 :=
  ⟨Nat.le_trans h.1 g.1, fun e => (g.2.1 (Nat.le_antisymm (by rw [e]; exact h.1) g.1)).trans (h.2.1 (Nat.le_antisymm (by rw [← e]; exact g.1) h.1)), fun i hi => (g.2.2 i (hi.elim (fun q => Or.inl (Nat.lt_of_lt_of_le q h.1)) Or.inr)).trans (h.2.2 i hi)⟩
theorem mw_W.upd {G : mw_G} {ad : Nat → Nat} {n : Nat} {M M1 : mw_M} {H H1 : Heap} {k0 : Nat} (hW : mw_W G ad n M H) (h0 : 0 < k0) (hk : k0 < n) (oq : ∀ q : Nat, q ≠ ad k0 → H1[q]? = H[q]?) (hat : mw_at G ad M1 k0 H1) (hM : ∀ k, k ≠ k0 → mw_eq M M1 k) : mw_W G ad n M1 H1 := by
  refine ⟨fun k a b => ?_, hW.2⟩
  by_cases e : k = k0
  · subst e
    exact ⟨hat, (hW.1 k a b).2⟩
  · exact ⟨(hW.1 k a b).1.kept (oq _ (fun q => e (hW.2 k k0 a b h0 hk q))) (hM k e), (hW.1 k a b).2⟩
theorem mw_W.push {G : mw_G} {ad ad1 : Nat → Nat} {n : Nat} {M : mw_M} {H H1 : Heap} (hW : mw_W G ad n M H) (hp : ∀ k, 0 < k → k < n → ∀ j, mP M k j < n) (hz : G.2.2.2 ≤ H.size) (ha : ad1 n = H.size) (hb : ∀ k, k < n → ad1 k = ad k) (oq : ∀ q : Nat, q < H.size → H1[q]? = H[q]?) (hat : mw_at G ad1 M n H1) : mw_W G ad1 (n + 1) M H1 := by
  have hfv : ∀ k, 0 < k → k < n → ∀ j c, mw_fv ad1 M k j c = mw_fv ad M k j c := by
    intro k a b j c
    unfold mw_fv mw_r
    rw [hb _ (hp k a b j)]
  refine ⟨fun k a b => ?_, fun i j a b a' b' e => ?_⟩
  · by_cases e : k = n
    · subst e
      exact ⟨hat, by rw [ha]; exact hz⟩
    · have hk : k < n := by omega
      obtain ⟨⟨h1, h2, h3⟩, h4⟩ := hW.1 k a hk
      have e1 := hb k hk
      refine ⟨⟨fun r hr => ?_, fun x y => ?_, ?_⟩, by rw [e1]; exact h4⟩
      · rw [e1]
        exact ((h1 r hr).kept (oq _ h3)).to (fun j _ => (hfv k a hk j _).symm)
      · rw [e1, oq _ h3, h2 x y]
        congr 2
        funext j
        exact (hfv k a hk j _).symm
      · rw [e1]
        have e : H[ad k]? = some H[ad k] := Array.getElem?_eq_getElem h3
        exact (Array.getElem?_eq_some_iff.mp ((oq _ h3).trans e)).1
  · by_cases e1 : i = n <;> by_cases e2 : j = n
    · rw [e1, e2]
    · have hj : j < n := by omega
      have := (hW.1 j a' hj).1.2.2
      rw [e1, ha, hb j hj] at e
      omega
    · have hi : i < n := by omega
      have := (hW.1 i a hi).1.2.2
      rw [e2, ha, hb i hi] at e
      omega
    · have hi : i < n := by omega
      have hj : j < n := by omega
      exact hW.2 i j a hi a' hj (by rw [← hb i hi, ← hb j hj]; exact e)
def mw_tys (G : mw_G) : List (ClassId × FieldType) := (List.range 8).map fun i => (G.2.2.1 (10 + i), mw_ty (10 + i))
theorem mw_tys_at (G : mw_G) {t : Nat} (h : 10 ≤ t) (h2 : t < 18) : (mw_tys G)[t - 10]? = some (G.2.2.1 t, mw_ty t) := by
  unfold mw_tys
  rw [List.getElem?_map, List.getElem?_range (by omega)]
  show some (G.2.2.1 (10 + (t - 10)), mw_ty (10 + (t - 10))) = _
  rw [show 10 + (t - 10) = t by omega]
def mw_K (G : mw_G) (U : State) : Prop := va_K (G.1, G.2.1) mw_cl (mw_tys G) U
/-- the words of the tables that keep -/
def TB : List Cond := lw_tbl.filter goodWord
theorem tb_in {w : Cond} (i : Nat) (h : lw_tbl[i]? = some w) (hg : goodWord w = true) : w ∈ TB := List.mem_filter.mpr ⟨List.mem_of_getElem? h, hg⟩
theorem tb_good : ∀ w ∈ TB, w ∈ TB ∧ ((w.onTables && w.keeps) = true ∨ ∃ ty, w = .arrayClass ty) := fun w h => ⟨h, good_of_word (List.mem_filter.mp h).2⟩
/-- the exceptions' surroundings -/
def mw_strs : List (String × Nat × String) := [("ClipMixer", 350, "there is no such source"), ("ClipMixer", 47, "shape, amplitude, period or length is out of range"), ("ClipMixer", 75, "there is no such sample"), ("ClipMixer", 82, "an argument is out of range"), ("ClipMixer", 358, "there is no room for another clip"), ("ClipMixer", 365, "the clips of the track would be in conflict"), ("ClipMixer", 356, "there is no such clip"), ("ClipMixer", 98, "a fade length or the curve is out of range"), ("ClipMixer", 114, "start is out of range"), ("ClipMixer", 125, "front or back is out of range, or the offset would be"), ("ClipMixer", 135, "position is out of range, or the offset would be"), ("ClipMixer", 352, "there is no such track"), ("ClipMixer", 150, "from or to is out of range"), ("ClipMixer", 160, "the offset of a clip would be out of range"), ("ClipMixer", 162, "there is no such property"), ("ClipMixer", 171, "the clip does not cover the position"), ("ClipMixer", 177, "gain or panorama is out of range"), ("ClipMixer", 354, "position is out of range"), ("ClipMixer", 201, "value is out of range"), ("ClipMixer", 211, "there would be too many points"), ("ClipMixer", 218, "there is no point at this position"), ("ClipMixer", 233, "the track can't be ducked by this key"), ("ClipMixer", 263, "gain is out of range"), ("ClipMixer", 290, "count is out of range"), ("ClipMixer", 305, "there is no such meter"), ("ClipMixer", 326, "there is nothing to undo")]
/-- words that don't keep by themselves: nest mates' links, casts; arrays of objects; exceptions that don't catch each other -/
def mw_nw : List Cond := [.methodLinkNest RX7 31 yX2_init "ClipMixer", .methodLinkNest RX3 50 yX7_hashed "ClipMixer", .methodLinkNest RX5 38 yX3_init "ClipMixer", .methodLinkNest RX5 43 yX4_init "ClipMixer", .methodLinkNest RX5 44 yX0_init "ClipMixer", .methodLinkNest RX5 45 yX6_init "ClipMixer", .methodLinkNest RX5 135 yX7_applied "ClipMixer", .methodLinkNest RX5 172 yX7_hashed "ClipMixer", .methodLinkNest RX6 72 yX7_hashed "ClipMixer", .castable "java/lang/IndexOutOfBoundsException" "java/lang/IndexOutOfBoundsException", .castable "java/lang/IllegalArgumentException" "java/lang/IllegalArgumentException", .castable "java/lang/IllegalStateException" "java/lang/IllegalStateException", .castable "java/lang/UnsupportedOperationException" "java/lang/UnsupportedOperationException", .declares ⟨"java/lang/RuntimeException", "<init>", "(Ljava/lang/String;)V"⟩, .declares ⟨"java/lang/Exception", "<init>", "(Ljava/lang/String;)V"⟩, .declares ⟨"java/lang/Throwable", "<init>", "(Ljava/lang/String;)V"⟩]
def mw_ov : List String := [RX4, RX0, RX6, RX5, RX1]
def mw_nc : List (String × String) := [("java/lang/IndexOutOfBoundsException", "java/lang/IllegalArgumentException"), ("java/lang/IndexOutOfBoundsException", "java/lang/IllegalStateException"), ("java/lang/IndexOutOfBoundsException", "java/lang/UnsupportedOperationException"), ("java/lang/IllegalArgumentException", "java/lang/IndexOutOfBoundsException"), ("java/lang/IllegalArgumentException", "java/lang/IllegalStateException"), ("java/lang/IllegalArgumentException", "java/lang/UnsupportedOperationException"), ("java/lang/IllegalStateException", "java/lang/IndexOutOfBoundsException"), ("java/lang/IllegalStateException", "java/lang/IllegalArgumentException"), ("java/lang/IllegalStateException", "java/lang/UnsupportedOperationException"), ("java/lang/UnsupportedOperationException", "java/lang/IndexOutOfBoundsException"), ("java/lang/UnsupportedOperationException", "java/lang/IllegalArgumentException"), ("java/lang/UnsupportedOperationException", "java/lang/IllegalStateException")]
theorem mw_nw_on : ∀ w ∈ mw_nw, w.onTables = true := by decide +kernel
theorem mw_nw_warm : ∀ w ∈ mw_nw, ∀ s U : State, s.WarmedH U.vm → va_Nw w s → va_Nw w U := by
  intro w hw s U hW h
  simp only [mw_nw, List.mem_cons, List.not_mem_nil, or_false] at hw
  rcases hw with rfl | rfl | rfl | rfl | rfl | rfl | rfl | rfl | rfl | rfl | rfl | rfl | rfl | rfl | rfl | rfl <;> first | exact va_Nw.warmM hW h | exact va_Nw.warmC hW h | exact va_Nw.warmD hW h
theorem mw_nw_same : ∀ w ∈ mw_nw, ∀ s U : State, s.vm = U.vm → va_Nw w s → va_Nw w U := fun w hw s U e h => va_Nw.same (mw_nw_on w hw) e h
def mw_E (G : mw_G) (U : State) : Prop := G.2.2.2 ≤ U.heap.size ∧ vx_Zq Bundle.tN "UNASSIGNED_STACK" Bundle.steD (mw_A G) U U.heap ∧ vx_Zq Bundle.tN "SUPPRESSED_SENTINEL" Bundle.listD (mw_A G) U U.heap ∧ (∀ q ∈ mw_strs, ∃ a, vk_R q.1 q.2.1 q.2.2 a U) ∧ (∀ w ∈ mw_nw, va_Nw w U) ∧ (∀ C ∈ mw_ov, va_AO C U) ∧ ∀ q ∈ mw_nc, va_Nc q.1 q.2 U
theorem mw_E.next {G : mw_G} {s U : State} {H : Heap} {locs : List Loc} (h : mw_E G s) (hS : va_S (mw_A G) s.heap H locs) (hU : U.heap = H) (hW : s.WarmedH U.vm) : mw_E G U := by
  obtain ⟨h1, h2, h3, h4, h5, h6, h7⟩ := h
  refine ⟨by rw [hU]; exact Nat.le_trans h1 hS.1, ?_, ?_, fun q hq => ?_, fun w hw => mw_nw_warm w hw s U hW (h5 w hw), fun C hC => (h6 C hC).moved hW.alike, fun q hq => (h7 q hq).moved hW.alike⟩
  · rw [hU]; exact vx_Zq.moved hW.alike (h2.kept hS.2.1)
  · rw [hU]; exact vx_Zq.moved hW.alike (h3.kept hS.2.1)
  · obtain ⟨a, ha⟩ := h4 q hq
    exact ⟨a, vk_R.warm hW ha⟩
