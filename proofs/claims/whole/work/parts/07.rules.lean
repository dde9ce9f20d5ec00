/-- the fixed things of a walk: the picture's constants, the machine, the method, its end, the map of addresses at its entry -/
abbrev mw_Y : Type := mw_G × Program × Launch × Env × Room × State × MethodId × Array Value × List Frame × Method × Code × Nat × (State → Prop) × (Nat → Nat) × Nat
def mw_lm (ad : Nat → Nat) (L : List (Nat × Value)) : List (Nat × Value) := L.map fun q => (q.1, mw_v ad q.2)
def mw_J : mw_Y → Nat → Nat → Nat → mw_M → Nat → List (Nat × Value) → List Value → Prop
  | (G, p, l, e, R, s, m, args, below, meth, c, nL, Q, ad0, n0), k, sl, n, M, pc, L, st =>
    ∀ (ad : Nat → Nat) (H : Heap) (locs : List Loc) (ls : Array Slot), mw_W G ad n M H → mw_X ad0 n0 ad n → va_S (mw_A G) s.heap H locs → lv_has ls nL (mw_lm ad L) → W p l e R s m args below meth c H locs k sl Q (F0 m pc ls (st.map (mw_v ad)))
def mw_C : mw_G → Launch → Room → mw_Y → ByteArray → String → Prop
  | G0, l0, R0, (G, p, l, _, R, s, m, args, _, meth, c, nL, _, _, _), cc, own =>
    (p.tables.exec = Jvm.exec ∧ c.code = cc ∧ c.maxLocals = nL ∧ s.vm.findClass own = some m.cls ∧ ∀ w ∈ TB, w.before args s = true) ∧ mw_K G s ∧ mw_E G s ∧ l.stackTraces = false ∧ meth.locks = false ∧ G = G0 ∧ l = l0 ∧ R = R0
def mw_Q (G : mw_G) (ad : Nat → Nat) (n : Nat) (P : Nat → mw_M → Option Value → Prop) : Array Value → State → Outcome → State → Prop := fun _ st oc t =>
  (∃ (v : Option Value) (ad1 : Nat → Nat) (n1 : Nat) (M1 : mw_M), oc = .returned (v.map (mw_v ad1)) ∧ mw_X ad n ad1 n1 ∧ mw_W G ad1 n1 M1 t.heap ∧ P n1 M1 v) ∧ va_F (mw_A G) st t
def mw_XC (G : mw_G) (ad : Nat → Nat) (n : Nat) (X : mw_M → String → Prop) : String → State → State → Prop := fun E st t =>
  (∃ (M1 : mw_M), mw_W G ad n M1 t.heap ∧ X M1 E) ∧ va_F (mw_A G) st t
def mw_P (G : mw_G) (ad : Nat → Nat) (n : Nat) (M : mw_M) (as : List Value) : Array Value → State → Prop := fun v U => v = (as.map (mw_v ad)).toArray ∧ mw_W G ad n M U.heap ∧ mw_K G U ∧ mw_E G U
/-- a method's contract: from memory M, on these arguments, it returns with P or throws with X -/
def mw_Met (G : mw_G) (l : Launch) (y : MethodName) (cw : Cond) (rm : Room) (n : Nat) (M : mw_M) (as : List Value) (P : Nat → mw_M → Option Value → Prop) (X : mw_M → String → Prop) : Prop :=
  ∀ ad : Nat → Nat, vx_Met l y (cw :: TB) rm (mw_P G ad n M as) (mw_Q G ad n P) (mw_XC G ad n X) rm.cells rm.slots (mw_A G)
/-- the method's own end -/
def mw_Z (P : Nat → mw_M → Option Value → Prop) (X : mw_M → String → Prop) (mc ms : Nat) (ret : Option FieldType) : mw_Y → Prop
  | (G, _, _, _, _, s, _, args, below, meth, c, _, Q, ad0, n0) => Q = vx_MQ below (mw_Q G ad0 n0 P) (mw_XC G ad0 n0 X) args s mc ms (mw_A G) ∧ meth.sig.returnType = ret ∧ ∀ x ∈ c.exceptionTable.toList, False
def mw_set1 (L : List (Nat × Value)) (i : Nat) (v : Value) : List (Nat × Value) := (i, v) :: L.filter (fun q => !(q.1 == i) && !(q.1 + 1 == i && q.2.category == 2))
def mw_set2 (L : List (Nat × Value)) (i : Nat) (v : Value) : List (Nat × Value) := (i, v) :: L.filter (fun q => !(q.1 == i) && (!(q.1 == i + 1) && !(q.1 + 1 == i && q.2.category == 2)))
theorem mw_lm_at {ad : Nat → Nat} {L : List (Nat × Value)} {k : Nat} {q : Nat × Value} (h : L[k]? = some q) : (mw_lm ad L)[k]? = some (q.1, mw_v ad q.2) := by
  unfold mw_lm
  rw [List.getElem?_map, h]
  rfl
theorem mw_set1_lm (ad : Nat → Nat) (L : List (Nat × Value)) (i : Nat) (v : Value) : (i, mw_v ad v) :: (mw_lm ad L).filter (fun q => !(q.1 == i) && !(q.1 + 1 == i && q.2.category == 2)) = mw_lm ad (mw_set1 L i v) := by
  unfold mw_lm mw_set1
  rw [List.filter_map, List.map_cons]
  congr 2
  congr 1
  funext q
  simp only [Function.comp, mw_v_cat]
theorem mw_set2_lm (ad : Nat → Nat) (L : List (Nat × Value)) (i : Nat) (v : Value) : (i, mw_v ad v) :: (mw_lm ad L).filter (fun q => !(q.1 == i) && (!(q.1 == i + 1) && !(q.1 + 1 == i && q.2.category == 2))) = mw_lm ad (mw_set2 L i v) := by
  unfold mw_lm mw_set2
  rw [List.filter_map, List.map_cons]
  congr 2
  congr 1
  funext q
  simp only [Function.comp, mw_v_cat]
theorem mw_lm_pick {ad : Nat → Nat} {L L1 : List (Nat × Value)} (ks : List Nat) (h : lv_pick L ks = L1) : lv_pick (mw_lm ad L) ks = mw_lm ad L1 := by
  subst h
  unfold lv_pick mw_lm
  rw [List.map_filterMap]
  congr 1
  funext k
  rw [List.getElem?_map]
theorem mw_cats (ad : Nat → Nat) (st : List Value) : ((st.map (mw_v ad)).map fun v => v.category).sum = (st.map fun v => v.category).sum := by
  rw [List.map_map]
  congr 1
  exact List.map_congr_left fun v _ => mw_v_cat ad v
section JR
variable {G : mw_G} {l : Launch} {R : Room} {Y : mw_Y} {cc : ByteArray} {own : String} {k sl n : Nat} {M : mw_M} {pc : Nat} {L : List (Nat × Value)} {st : List Value}
theorem jr_iconst (hC : mw_C G l R Y cc own) {i : Int} {v : Int32} (d : decode cc pc = .ok (.iconst i, 1)) (hv : Int32.ofInt i = v) (kk : mw_J Y k sl n M (pc + 1) L (.int v :: st)) : mw_J Y k sl n M pc L st := by
  obtain ⟨G1, p, l1, e, R1, s, m, args, below, meth, c, nL, Q, ad0, n0⟩ := Y
  obtain ⟨⟨hx, hb, hml, hown, hts⟩, hK, hE, hnt, hlk, rfl, rfl, rfl⟩ := hC
  intro ad H locs ls hW hX hS hl
  exact lv_iconst hx hb d hv (kk ad H locs ls hW hX hS hl)
theorem jr_bipush (hC : mw_C G l R Y cc own) {i : Int} {v : Int32} (d : decode cc pc = .ok (.bipush i, 2)) (hv : (Int8.ofInt i).toInt32 = v) (kk : mw_J Y k sl n M (pc + 2) L (.int v :: st)) : mw_J Y k sl n M pc L st := by
  obtain ⟨G1, p, l1, e, R1, s, m, args, below, meth, c, nL, Q, ad0, n0⟩ := Y
  obtain ⟨⟨hx, hb, hml, hown, hts⟩, hK, hE, hnt, hlk, rfl, rfl, rfl⟩ := hC
  intro ad H locs ls hW hX hS hl
  exact lv_bipush hx hb d hv (kk ad H locs ls hW hX hS hl)
theorem jr_sipush (hC : mw_C G l R Y cc own) {i : Int} {v : Int32} (d : decode cc pc = .ok (.sipush i, 3)) (hv : (Int16.ofInt i).toInt32 = v) (kk : mw_J Y k sl n M (pc + 3) L (.int v :: st)) : mw_J Y k sl n M pc L st := by
  obtain ⟨G1, p, l1, e, R1, s, m, args, below, meth, c, nL, Q, ad0, n0⟩ := Y
  obtain ⟨⟨hx, hb, hml, hown, hts⟩, hK, hE, hnt, hlk, rfl, rfl, rfl⟩ := hC
  intro ad H locs ls hW hX hS hl
  exact lv_sipush hx hb d hv (kk ad H locs ls hW hX hS hl)
theorem jr_lconst (hC : mw_C G l R Y cc own) {i : Fin 2} {v : Int64} (d : decode cc pc = .ok (.lconst i, 1)) (hv : Int64.ofNat (i : Nat) = v) (kk : mw_J Y k sl n M (pc + 1) L (.long v :: st)) : mw_J Y k sl n M pc L st := by
  obtain ⟨G1, p, l1, e, R1, s, m, args, below, meth, c, nL, Q, ad0, n0⟩ := Y
  obtain ⟨⟨hx, hb, hml, hown, hts⟩, hK, hE, hnt, hlk, rfl, rfl, rfl⟩ := hC
  intro ad H locs ls hW hX hS hl
  exact lv_lconst hx hb d hv (kk ad H locs ls hW hX hS hl)
theorem jr_ldc2 (hC : mw_C G l R Y cc own) {i : Nat} {v : Int64} (hw : Cond.constantLong own i v ∈ TB) (d : decode cc pc = .ok (.ldc2_w i, 3)) (kk : mw_J Y k sl n M (pc + 3) L (.long v :: st)) : mw_J Y k sl n M pc L st := by
  obtain ⟨G1, p, l1, e, R1, s, m, args, below, meth, c, nL, Q, ad0, n0⟩ := Y
  obtain ⟨⟨hx, hb, hml, hown, hts⟩, hK, hE, hnt, hlk, rfl, rfl, rfl⟩ := hC
  intro ad H locs ls hW hX hS hl
  exact lv_ldc2 hx hb hown (hts _ hw) d (kk ad H locs ls hW hX hS hl)
theorem jr_ldc (hC : mw_C G l R Y cc own) {i : Nat} {v : Int32} (hw : Cond.constant own i v ∈ TB) (d : decode cc pc = .ok (.ldc i, 2)) (kk : mw_J Y k sl n M (pc + 2) L (.int v :: st)) : mw_J Y k sl n M pc L st := by
  obtain ⟨G1, p, l1, e, R1, s, m, args, below, meth, c, nL, Q, ad0, n0⟩ := Y
  obtain ⟨⟨hx, hb, hml, hown, hts⟩, hK, hE, hnt, hlk, rfl, rfl, rfl⟩ := hC
  intro ad H locs ls hW hX hS hl
  exact lv_ldc hx hb hown (hts _ hw) d (kk ad H locs ls hW hX hS hl)
theorem jr_ldcw (hC : mw_C G l R Y cc own) {i : Nat} {v : Int32} (hw : Cond.constant own i v ∈ TB) (d : decode cc pc = .ok (.ldc_w i, 3)) (kk : mw_J Y k sl n M (pc + 3) L (.int v :: st)) : mw_J Y k sl n M pc L st := by
  obtain ⟨G1, p, l1, e, R1, s, m, args, below, meth, c, nL, Q, ad0, n0⟩ := Y
  obtain ⟨⟨hx, hb, hml, hown, hts⟩, hK, hE, hnt, hlk, rfl, rfl, rfl⟩ := hC
  intro ad H locs ls hW hX hS hl
  exact lv_ldcw hx hb hown (hts _ hw) d (kk ad H locs ls hW hX hS hl)
theorem jr_iadd (hC : mw_C G l R Y cc own) {x y : Int32} (d : decode cc pc = .ok (.iadd, 1)) (kk : mw_J Y k sl n M (pc + 1) L (.int (x + y) :: st)) : mw_J Y k sl n M pc L (.int y :: .int x :: st) := by
  obtain ⟨G1, p, l1, e, R1, s, m, args, below, meth, c, nL, Q, ad0, n0⟩ := Y
  obtain ⟨⟨hx, hb, hml, hown, hts⟩, hK, hE, hnt, hlk, rfl, rfl, rfl⟩ := hC
  intro ad H locs ls hW hX hS hl
  exact lv_iadd hx hb d (kk ad H locs ls hW hX hS hl)
theorem jr_isub (hC : mw_C G l R Y cc own) {x y : Int32} (d : decode cc pc = .ok (.isub, 1)) (kk : mw_J Y k sl n M (pc + 1) L (.int (x - y) :: st)) : mw_J Y k sl n M pc L (.int y :: .int x :: st) := by
  obtain ⟨G1, p, l1, e, R1, s, m, args, below, meth, c, nL, Q, ad0, n0⟩ := Y
  obtain ⟨⟨hx, hb, hml, hown, hts⟩, hK, hE, hnt, hlk, rfl, rfl, rfl⟩ := hC
  intro ad H locs ls hW hX hS hl
  exact lv_isub hx hb d (kk ad H locs ls hW hX hS hl)
theorem jr_imul (hC : mw_C G l R Y cc own) {x y : Int32} (d : decode cc pc = .ok (.imul, 1)) (kk : mw_J Y k sl n M (pc + 1) L (.int (x * y) :: st)) : mw_J Y k sl n M pc L (.int y :: .int x :: st) := by
  obtain ⟨G1, p, l1, e, R1, s, m, args, below, meth, c, nL, Q, ad0, n0⟩ := Y
  obtain ⟨⟨hx, hb, hml, hown, hts⟩, hK, hE, hnt, hlk, rfl, rfl, rfl⟩ := hC
  intro ad H locs ls hW hX hS hl
  exact lv_imul hx hb d (kk ad H locs ls hW hX hS hl)
theorem jr_iand (hC : mw_C G l R Y cc own) {x y : Int32} (d : decode cc pc = .ok (.iand, 1)) (kk : mw_J Y k sl n M (pc + 1) L (.int (x &&& y) :: st)) : mw_J Y k sl n M pc L (.int y :: .int x :: st) := by
  obtain ⟨G1, p, l1, e, R1, s, m, args, below, meth, c, nL, Q, ad0, n0⟩ := Y
  obtain ⟨⟨hx, hb, hml, hown, hts⟩, hK, hE, hnt, hlk, rfl, rfl, rfl⟩ := hC
  intro ad H locs ls hW hX hS hl
  exact lv_iand hx hb d (kk ad H locs ls hW hX hS hl)
theorem jr_ixor (hC : mw_C G l R Y cc own) {x y : Int32} (d : decode cc pc = .ok (.ixor, 1)) (kk : mw_J Y k sl n M (pc + 1) L (.int (x ^^^ y) :: st)) : mw_J Y k sl n M pc L (.int y :: .int x :: st) := by
  obtain ⟨G1, p, l1, e, R1, s, m, args, below, meth, c, nL, Q, ad0, n0⟩ := Y
  obtain ⟨⟨hx, hb, hml, hown, hts⟩, hK, hE, hnt, hlk, rfl, rfl, rfl⟩ := hC
  intro ad H locs ls hW hX hS hl
  exact lv_ixor hx hb d (kk ad H locs ls hW hX hS hl)
theorem jr_idiv (hC : mw_C G l R Y cc own) {x y : Int32} (d : decode cc pc = .ok (.idiv, 1)) (h0 : ¬ y = 0) (kk : mw_J Y k sl n M (pc + 1) L (.int (x / y) :: st)) : mw_J Y k sl n M pc L (.int y :: .int x :: st) := by
  obtain ⟨G1, p, l1, e, R1, s, m, args, below, meth, c, nL, Q, ad0, n0⟩ := Y
  obtain ⟨⟨hx, hb, hml, hown, hts⟩, hK, hE, hnt, hlk, rfl, rfl, rfl⟩ := hC
  intro ad H locs ls hW hX hS hl
  exact lv_idiv hx hb d h0 (kk ad H locs ls hW hX hS hl)
theorem jr_irem (hC : mw_C G l R Y cc own) {x y : Int32} (d : decode cc pc = .ok (.irem, 1)) (h0 : ¬ y = 0) (kk : mw_J Y k sl n M (pc + 1) L (.int (x - x / y * y) :: st)) : mw_J Y k sl n M pc L (.int y :: .int x :: st) := by
  obtain ⟨G1, p, l1, e, R1, s, m, args, below, meth, c, nL, Q, ad0, n0⟩ := Y
  obtain ⟨⟨hx, hb, hml, hown, hts⟩, hK, hE, hnt, hlk, rfl, rfl, rfl⟩ := hC
  intro ad H locs ls hW hX hS hl
  exact lv_irem hx hb d h0 (kk ad H locs ls hW hX hS hl)
theorem jr_ineg (hC : mw_C G l R Y cc own) {x : Int32} (d : decode cc pc = .ok (.ineg, 1)) (kk : mw_J Y k sl n M (pc + 1) L (.int (-x) :: st)) : mw_J Y k sl n M pc L (.int x :: st) := by
  obtain ⟨G1, p, l1, e, R1, s, m, args, below, meth, c, nL, Q, ad0, n0⟩ := Y
  obtain ⟨⟨hx, hb, hml, hown, hts⟩, hK, hE, hnt, hlk, rfl, rfl, rfl⟩ := hC
  intro ad H locs ls hW hX hS hl
  exact lv_ineg hx hb d (kk ad H locs ls hW hX hS hl)
theorem jr_ladd (hC : mw_C G l R Y cc own) {x y : Int64} (d : decode cc pc = .ok (.ladd, 1)) (kk : mw_J Y k sl n M (pc + 1) L (.long (x + y) :: st)) : mw_J Y k sl n M pc L (.long y :: .long x :: st) := by
  obtain ⟨G1, p, l1, e, R1, s, m, args, below, meth, c, nL, Q, ad0, n0⟩ := Y
  obtain ⟨⟨hx, hb, hml, hown, hts⟩, hK, hE, hnt, hlk, rfl, rfl, rfl⟩ := hC
  intro ad H locs ls hW hX hS hl
  exact lv_ladd hx hb d (kk ad H locs ls hW hX hS hl)
theorem jr_lsub (hC : mw_C G l R Y cc own) {x y : Int64} (d : decode cc pc = .ok (.lsub, 1)) (kk : mw_J Y k sl n M (pc + 1) L (.long (x - y) :: st)) : mw_J Y k sl n M pc L (.long y :: .long x :: st) := by
  obtain ⟨G1, p, l1, e, R1, s, m, args, below, meth, c, nL, Q, ad0, n0⟩ := Y
  obtain ⟨⟨hx, hb, hml, hown, hts⟩, hK, hE, hnt, hlk, rfl, rfl, rfl⟩ := hC
  intro ad H locs ls hW hX hS hl
  exact lv_lsub hx hb d (kk ad H locs ls hW hX hS hl)
theorem jr_lmul (hC : mw_C G l R Y cc own) {x y : Int64} (d : decode cc pc = .ok (.lmul, 1)) (kk : mw_J Y k sl n M (pc + 1) L (.long (x * y) :: st)) : mw_J Y k sl n M pc L (.long y :: .long x :: st) := by
  obtain ⟨G1, p, l1, e, R1, s, m, args, below, meth, c, nL, Q, ad0, n0⟩ := Y
  obtain ⟨⟨hx, hb, hml, hown, hts⟩, hK, hE, hnt, hlk, rfl, rfl, rfl⟩ := hC
  intro ad H locs ls hW hX hS hl
  exact lv_lmul hx hb d (kk ad H locs ls hW hX hS hl)
theorem jr_ldiv (hC : mw_C G l R Y cc own) {x y : Int64} (d : decode cc pc = .ok (.ldiv, 1)) (h0 : ¬ y = 0) (kk : mw_J Y k sl n M (pc + 1) L (.long (x / y) :: st)) : mw_J Y k sl n M pc L (.long y :: .long x :: st) := by
  obtain ⟨G1, p, l1, e, R1, s, m, args, below, meth, c, nL, Q, ad0, n0⟩ := Y
  obtain ⟨⟨hx, hb, hml, hown, hts⟩, hK, hE, hnt, hlk, rfl, rfl, rfl⟩ := hC
  intro ad H locs ls hW hX hS hl
  exact lv_ldiv hx hb d h0 (kk ad H locs ls hW hX hS hl)
theorem jr_lrem (hC : mw_C G l R Y cc own) {x y : Int64} (d : decode cc pc = .ok (.lrem, 1)) (h0 : ¬ y = 0) (kk : mw_J Y k sl n M (pc + 1) L (.long (x - x / y * y) :: st)) : mw_J Y k sl n M pc L (.long y :: .long x :: st) := by
  obtain ⟨G1, p, l1, e, R1, s, m, args, below, meth, c, nL, Q, ad0, n0⟩ := Y
  obtain ⟨⟨hx, hb, hml, hown, hts⟩, hK, hE, hnt, hlk, rfl, rfl, rfl⟩ := hC
  intro ad H locs ls hW hX hS hl
  exact lv_lrem hx hb d h0 (kk ad H locs ls hW hX hS hl)
theorem jr_i2l (hC : mw_C G l R Y cc own) {x : Int32} (d : decode cc pc = .ok (.i2l, 1)) (kk : mw_J Y k sl n M (pc + 1) L (.long x.toInt64 :: st)) : mw_J Y k sl n M pc L (.int x :: st) := by
  obtain ⟨G1, p, l1, e, R1, s, m, args, below, meth, c, nL, Q, ad0, n0⟩ := Y
  obtain ⟨⟨hx, hb, hml, hown, hts⟩, hK, hE, hnt, hlk, rfl, rfl, rfl⟩ := hC
  intro ad H locs ls hW hX hS hl
  exact lv_i2l hx hb d rfl (kk ad H locs ls hW hX hS hl)
theorem jr_l2i (hC : mw_C G l R Y cc own) {x : Int64} (d : decode cc pc = .ok (.l2i, 1)) (kk : mw_J Y k sl n M (pc + 1) L (.int x.toInt32 :: st)) : mw_J Y k sl n M pc L (.long x :: st) := by
  obtain ⟨G1, p, l1, e, R1, s, m, args, below, meth, c, nL, Q, ad0, n0⟩ := Y
  obtain ⟨⟨hx, hb, hml, hown, hts⟩, hK, hE, hnt, hlk, rfl, rfl, rfl⟩ := hC
  intro ad H locs ls hW hX hS hl
  exact lv_l2i hx hb d rfl (kk ad H locs ls hW hX hS hl)
theorem jr_dup (hC : mw_C G l R Y cc own) {a : Value} (d : decode cc pc = .ok (.dup, 1)) (ha : a.category = 1) (kk : mw_J Y k sl n M (pc + 1) L (a :: a :: st)) : mw_J Y k sl n M pc L (a :: st) := by
  obtain ⟨G1, p, l1, e, R1, s, m, args, below, meth, c, nL, Q, ad0, n0⟩ := Y
  obtain ⟨⟨hx, hb, hml, hown, hts⟩, hK, hE, hnt, hlk, rfl, rfl, rfl⟩ := hC
  intro ad H locs ls hW hX hS hl
  exact lv_dup hx hb d (by rw [mw_v_cat]; exact ha) (kk ad H locs ls hW hX hS hl)
theorem jr_dup2 (hC : mw_C G l R Y cc own) {a b : Value} (d : decode cc pc = .ok (.dup2, 1)) (ha : a.category = 1) (hb2 : b.category = 1) (kk : mw_J Y k sl n M (pc + 1) L (a :: b :: a :: b :: st)) : mw_J Y k sl n M pc L (a :: b :: st) := by
  obtain ⟨G1, p, l1, e, R1, s, m, args, below, meth, c, nL, Q, ad0, n0⟩ := Y
  obtain ⟨⟨hx, hb, hml, hown, hts⟩, hK, hE, hnt, hlk, rfl, rfl, rfl⟩ := hC
  intro ad H locs ls hW hX hS hl
  exact lv_dup2_11 hx hb d (by rw [mw_v_cat]; exact ha) (by rw [mw_v_cat]; exact hb2) (kk ad H locs ls hW hX hS hl)
theorem jr_dup_x1 (hC : mw_C G l R Y cc own) {a b : Value} (d : decode cc pc = .ok (.dup_x1, 1)) (ha : a.category = 1) (hb2 : b.category = 1) (kk : mw_J Y k sl n M (pc + 1) L (a :: b :: a :: st)) : mw_J Y k sl n M pc L (a :: b :: st) := by
  obtain ⟨G1, p, l1, e, R1, s, m, args, below, meth, c, nL, Q, ad0, n0⟩ := Y
  obtain ⟨⟨hx, hb, hml, hown, hts⟩, hK, hE, hnt, hlk, rfl, rfl, rfl⟩ := hC
  intro ad H locs ls hW hX hS hl
  exact lv_dup_x1 hx hb d (by rw [mw_v_cat]; exact ha) (by rw [mw_v_cat]; exact hb2) (kk ad H locs ls hW hX hS hl)
theorem jr_dup_x2 (hC : mw_C G l R Y cc own) {a b c9 : Value} (d : decode cc pc = .ok (.dup_x2, 1)) (ha : a.category = 1) (hb2 : b.category = 1) (hc2 : c9.category = 1) (kk : mw_J Y k sl n M (pc + 1) L (a :: b :: c9 :: a :: st)) : mw_J Y k sl n M pc L (a :: b :: c9 :: st) := by
  obtain ⟨G1, p, l1, e, R1, s, m, args, below, meth, c, nL, Q, ad0, n0⟩ := Y
  obtain ⟨⟨hx, hb, hml, hown, hts⟩, hK, hE, hnt, hlk, rfl, rfl, rfl⟩ := hC
  intro ad H locs ls hW hX hS hl
  exact lv_dup_x2 hx hb d (by rw [mw_v_cat]; exact ha) (by rw [mw_v_cat]; exact hb2) (by rw [mw_v_cat]; exact hc2) (kk ad H locs ls hW hX hS hl)
theorem jr_pop (hC : mw_C G l R Y cc own) {a : Value} (d : decode cc pc = .ok (.pop, 1)) (ha : a.category = 1) (kk : mw_J Y k sl n M (pc + 1) L st) : mw_J Y k sl n M pc L (a :: st) := by
  obtain ⟨G1, p, l1, e, R1, s, m, args, below, meth, c, nL, Q, ad0, n0⟩ := Y
  obtain ⟨⟨hx, hb, hml, hown, hts⟩, hK, hE, hnt, hlk, rfl, rfl, rfl⟩ := hC
  intro ad H locs ls hW hX hS hl
  exact lv_pop hx hb d (by rw [mw_v_cat]; exact ha) (kk ad H locs ls hW hX hS hl)
theorem jr_iload_n (hC : mw_C G l R Y cc own) {f : Fin 4} {i j : Nat} {x : Int32} (d : decode cc pc = .ok (.iload_n f, 1)) (hi : (f : Nat) = i) (hk : L[j]? = some (i, .int x)) (kk : mw_J Y k sl n M (pc + 1) L (.int x :: st)) : mw_J Y k sl n M pc L st := by
  obtain ⟨G1, p, l1, e, R1, s, m, args, below, meth, c, nL, Q, ad0, n0⟩ := Y
  obtain ⟨⟨hx, hb, hml, hown, hts⟩, hK, hE, hnt, hlk, rfl, rfl, rfl⟩ := hC
  intro ad H locs ls hW hX hS hl
  exact lv_iload_n hx hb d hi (lv_at hl j (mw_lm_at hk)) (kk ad H locs ls hW hX hS hl)
theorem jr_iload (hC : mw_C G l R Y cc own) {i j : Nat} {x : Int32} (d : decode cc pc = .ok (.iload i, 2)) (hk : L[j]? = some (i, .int x)) (kk : mw_J Y k sl n M (pc + 2) L (.int x :: st)) : mw_J Y k sl n M pc L st := by
  obtain ⟨G1, p, l1, e, R1, s, m, args, below, meth, c, nL, Q, ad0, n0⟩ := Y
  obtain ⟨⟨hx, hb, hml, hown, hts⟩, hK, hE, hnt, hlk, rfl, rfl, rfl⟩ := hC
  intro ad H locs ls hW hX hS hl
  exact lv_iload hx hb d (lv_at hl j (mw_lm_at hk)) (kk ad H locs ls hW hX hS hl)
theorem jr_lload_n (hC : mw_C G l R Y cc own) {f : Fin 4} {i j : Nat} {x : Int64} (d : decode cc pc = .ok (.lload_n f, 1)) (hi : (f : Nat) = i) (hk : L[j]? = some (i, .long x)) (kk : mw_J Y k sl n M (pc + 1) L (.long x :: st)) : mw_J Y k sl n M pc L st := by
  obtain ⟨G1, p, l1, e, R1, s, m, args, below, meth, c, nL, Q, ad0, n0⟩ := Y
  obtain ⟨⟨hx, hb, hml, hown, hts⟩, hK, hE, hnt, hlk, rfl, rfl, rfl⟩ := hC
  intro ad H locs ls hW hX hS hl
  exact lv_lload_n hx hb d hi (lv_at hl j (mw_lm_at hk)) (kk ad H locs ls hW hX hS hl)
theorem jr_lload (hC : mw_C G l R Y cc own) {i j : Nat} {x : Int64} (d : decode cc pc = .ok (.lload i, 2)) (hk : L[j]? = some (i, .long x)) (kk : mw_J Y k sl n M (pc + 2) L (.long x :: st)) : mw_J Y k sl n M pc L st := by
  obtain ⟨G1, p, l1, e, R1, s, m, args, below, meth, c, nL, Q, ad0, n0⟩ := Y
  obtain ⟨⟨hx, hb, hml, hown, hts⟩, hK, hE, hnt, hlk, rfl, rfl, rfl⟩ := hC
  intro ad H locs ls hW hX hS hl
  exact lv_lload hx hb d (lv_at hl j (mw_lm_at hk)) (kk ad H locs ls hW hX hS hl)
theorem jr_aload_n (hC : mw_C G l R Y cc own) {f : Fin 4} {i j x : Nat} (d : decode cc pc = .ok (.aload_n f, 1)) (hi : (f : Nat) = i) (hk : L[j]? = some (i, .ref x)) (kk : mw_J Y k sl n M (pc + 1) L (.ref x :: st)) : mw_J Y k sl n M pc L st := by
  obtain ⟨G1, p, l1, e, R1, s, m, args, below, meth, c, nL, Q, ad0, n0⟩ := Y
  obtain ⟨⟨hx, hb, hml, hown, hts⟩, hK, hE, hnt, hlk, rfl, rfl, rfl⟩ := hC
  intro ad H locs ls hW hX hS hl
  have h1 := lv_at hl j (mw_lm_at hk)
  have h2 := kk ad H locs ls hW hX hS hl
  simp only [List.map_cons, mw_v_ref] at h1 h2
  by_cases h0 : x = 0
  · subst h0
    exact lv_aload_nN hx hb d hi h1 h2
  · rw [mw_r_pos (Nat.pos_of_ne_zero h0)] at h1 h2
    exact lv_aload_n hx hb d hi h1 h2
theorem jr_aload (hC : mw_C G l R Y cc own) {i j x : Nat} (d : decode cc pc = .ok (.aload i, 2)) (hk : L[j]? = some (i, .ref x)) (kk : mw_J Y k sl n M (pc + 2) L (.ref x :: st)) : mw_J Y k sl n M pc L st := by
  obtain ⟨G1, p, l1, e, R1, s, m, args, below, meth, c, nL, Q, ad0, n0⟩ := Y
  obtain ⟨⟨hx, hb, hml, hown, hts⟩, hK, hE, hnt, hlk, rfl, rfl, rfl⟩ := hC
  intro ad H locs ls hW hX hS hl
  have h1 := lv_at hl j (mw_lm_at hk)
  have h2 := kk ad H locs ls hW hX hS hl
  simp only [List.map_cons, mw_v_ref] at h1 h2
  by_cases h0 : x = 0
  · subst h0
    exact lv_aloadN hx hb d h1 h2
  · rw [mw_r_pos (Nat.pos_of_ne_zero h0)] at h1 h2
    exact lv_aload hx hb d h1 h2
def mw_nL : mw_Y → Nat
  | (_, _, _, _, _, _, _, _, _, _, _, nL, _, _, _) => nL
theorem jr_istore_n (hC : mw_C G l R Y cc own) {f : Fin 4} {i nn : Nat} {x : Int32} {L1 : List (Nat × Value)} (d : decode cc pc = .ok (.istore_n f, 1)) (hi : (f : Nat) = i) (hnn : mw_nL Y = nn) (hn : i < nn) (hL : mw_set1 L i (.int x) = L1) (kk : mw_J Y k sl n M (pc + 1) L1 st) : mw_J Y k sl n M pc L (.int x :: st) := by
  obtain ⟨G1, p, l1, e, R1, s, m, args, below, meth, c, nL, Q, ad0, n0⟩ := Y
  obtain ⟨⟨hx, hb, hml, hown, hts⟩, hK, hE, hnt, hlk, rfl, rfl, rfl⟩ := hC
  intro ad H locs ls hW hX hS hl
  subst hL; subst hnn
  exact lv_istore_n (lv' := mw_lm ad (mw_set1 L i (.int x))) hx hb d hi hl hn (mw_set1_lm ad L i (.int x)) (fun ls1 hl1 => kk ad H locs ls1 hW hX hS hl1)
theorem jr_lstore_n (hC : mw_C G l R Y cc own) {f : Fin 4} {i nn : Nat} {x : Int64} {L1 : List (Nat × Value)} (d : decode cc pc = .ok (.lstore_n f, 1)) (hi : (f : Nat) = i) (hnn : mw_nL Y = nn) (hn : i + 1 < nn) (hL : mw_set2 L i (.long x) = L1) (kk : mw_J Y k sl n M (pc + 1) L1 st) : mw_J Y k sl n M pc L (.long x :: st) := by
  obtain ⟨G1, p, l1, e, R1, s, m, args, below, meth, c, nL, Q, ad0, n0⟩ := Y
  obtain ⟨⟨hx, hb, hml, hown, hts⟩, hK, hE, hnt, hlk, rfl, rfl, rfl⟩ := hC
  intro ad H locs ls hW hX hS hl
  subst hL; subst hnn
  exact lv_lstore_n (lv' := mw_lm ad (mw_set2 L i (.long x))) hx hb d hi hl hn (mw_set2_lm ad L i (.long x)) (fun ls1 hl1 => kk ad H locs ls1 hW hX hS hl1)
theorem jr_istore (hC : mw_C G l R Y cc own) {i nn : Nat} {x : Int32} {L1 : List (Nat × Value)} (d : decode cc pc = .ok (.istore i, 2)) (hnn : mw_nL Y = nn) (hn : i < nn) (hL : mw_set1 L i (.int x) = L1) (kk : mw_J Y k sl n M (pc + 2) L1 st) : mw_J Y k sl n M pc L (.int x :: st) := by
  obtain ⟨G1, p, l1, e, R1, s, m, args, below, meth, c, nL, Q, ad0, n0⟩ := Y
  obtain ⟨⟨hx, hb, hml, hown, hts⟩, hK, hE, hnt, hlk, rfl, rfl, rfl⟩ := hC
  intro ad H locs ls hW hX hS hl
  subst hL; subst hnn
  exact lv_istore (lv' := mw_lm ad (mw_set1 L i (.int x))) hx hb d hl hn (mw_set1_lm ad L i (.int x)) (fun ls1 hl1 => kk ad H locs ls1 hW hX hS hl1)
theorem jr_lstore (hC : mw_C G l R Y cc own) {i nn : Nat} {x : Int64} {L1 : List (Nat × Value)} (d : decode cc pc = .ok (.lstore i, 2)) (hnn : mw_nL Y = nn) (hn : i + 1 < nn) (hL : mw_set2 L i (.long x) = L1) (kk : mw_J Y k sl n M (pc + 2) L1 st) : mw_J Y k sl n M pc L (.long x :: st) := by
  obtain ⟨G1, p, l1, e, R1, s, m, args, below, meth, c, nL, Q, ad0, n0⟩ := Y
  obtain ⟨⟨hx, hb, hml, hown, hts⟩, hK, hE, hnt, hlk, rfl, rfl, rfl⟩ := hC
  intro ad H locs ls hW hX hS hl
  subst hL; subst hnn
  exact lv_lstore (lv' := mw_lm ad (mw_set2 L i (.long x))) hx hb d hl hn (mw_set2_lm ad L i (.long x)) (fun ls1 hl1 => kk ad H locs ls1 hW hX hS hl1)
theorem jr_astore_n (hC : mw_C G l R Y cc own) {f : Fin 4} {i x nn : Nat} {L1 : List (Nat × Value)} (d : decode cc pc = .ok (.astore_n f, 1)) (hi : (f : Nat) = i) (hnn : mw_nL Y = nn) (hn : i < nn) (hL : mw_set1 L i (.ref x) = L1) (kk : mw_J Y k sl n M (pc + 1) L1 st) : mw_J Y k sl n M pc L (.ref x :: st) := by
  obtain ⟨G1, p, l1, e, R1, s, m, args, below, meth, c, nL, Q, ad0, n0⟩ := Y
  obtain ⟨⟨hx, hb, hml, hown, hts⟩, hK, hE, hnt, hlk, rfl, rfl, rfl⟩ := hC
  intro ad H locs ls hW hX hS hl
  subst hL; subst hnn
  have h1 := mw_set1_lm ad L i (.ref x)
  simp only [List.map_cons, mw_v_ref] at h1 ⊢
  by_cases h0 : x = 0
  · subst h0
    exact lv_astore_nN hx hb d hi hl hn h1 (fun ls1 hl1 => kk ad H locs ls1 hW hX hS hl1)
  · rw [mw_r_pos (Nat.pos_of_ne_zero h0)] at h1 ⊢
    exact lv_astore_n hx hb d hi hl hn h1 (fun ls1 hl1 => kk ad H locs ls1 hW hX hS hl1)
theorem jr_astore (hC : mw_C G l R Y cc own) {i x nn : Nat} {L1 : List (Nat × Value)} (d : decode cc pc = .ok (.astore i, 2)) (hnn : mw_nL Y = nn) (hn : i < nn) (hL : mw_set1 L i (.ref x) = L1) (kk : mw_J Y k sl n M (pc + 2) L1 st) : mw_J Y k sl n M pc L (.ref x :: st) := by
  obtain ⟨G1, p, l1, e, R1, s, m, args, below, meth, c, nL, Q, ad0, n0⟩ := Y
  obtain ⟨⟨hx, hb, hml, hown, hts⟩, hK, hE, hnt, hlk, rfl, rfl, rfl⟩ := hC
  intro ad H locs ls hW hX hS hl
  subst hL; subst hnn
  have h1 := mw_set1_lm ad L i (.ref x)
  simp only [List.map_cons, mw_v_ref] at h1 ⊢
  by_cases h0 : x = 0
  · subst h0
    exact lv_astoreN hx hb d hl hn h1 (fun ls1 hl1 => kk ad H locs ls1 hW hX hS hl1)
  · rw [mw_r_pos (Nat.pos_of_ne_zero h0)] at h1 ⊢
    exact lv_astore hx hb d hl hn h1 (fun ls1 hl1 => kk ad H locs ls1 hW hX hS hl1)
theorem jr_iinc (hC : mw_C G l R Y cc own) {i j nn : Nat} {a : Int} {x v : Int32} {L1 : List (Nat × Value)} (d : decode cc pc = .ok (.iinc i a, 3)) (hk : L[j]? = some (i, .int x)) (hv : x + Int32.ofInt a = v) (hnn : mw_nL Y = nn) (hn : i < nn) (hL : mw_set1 L i (.int v) = L1) (kk : mw_J Y k sl n M (pc + 3) L1 st) : mw_J Y k sl n M pc L st := by
  obtain ⟨G1, p, l1, e, R1, s, m, args, below, meth, c, nL, Q, ad0, n0⟩ := Y
  obtain ⟨⟨hx, hb, hml, hown, hts⟩, hK, hE, hnt, hlk, rfl, rfl, rfl⟩ := hC
  intro ad H locs ls hW hX hS hl
  subst hL; subst hnn
  exact lv_iinc (lv' := mw_lm ad (mw_set1 L i (.int v))) hx hb d hl (mw_lm_at hk) hv hn (mw_set1_lm ad L i (.int v)) (fun ls1 hl1 => kk ad H locs ls1 hW hX hS hl1)
theorem jr_sub (ks : List Nat) {L1 : List (Nat × Value)} (h : lv_pick L ks = L1) (kk : mw_J Y k sl n M pc L1 st) : mw_J Y k sl n M pc L st := by
  obtain ⟨G1, p, l1, e, R1, s, m, args, below, meth, c, nL, Q, ad0, n0⟩ := Y
  intro ad H locs ls hW hX hS hl
  exact kk ad H locs ls hW hX hS (lv_sub hl ks (mw_lm_pick ks h))
theorem jr_widen {k1 sl1 : Nat} (h1 : k ≤ k1) (h2 : sl ≤ sl1) (kk : mw_J Y k1 sl1 n M pc L st) : mw_J Y k sl n M pc L st := by
  obtain ⟨G1, p, l1, e, R1, s, m, args, below, meth, c, nL, Q, ad0, n0⟩ := Y
  intro ad H locs ls hW hX hS hl
  exact W.widen (k := k1) (n := sl1) h1 h2 (kk ad H locs ls hW hX hS hl)
theorem jr_if_eq (hC : mw_C G l R Y cc own) {x : Int32} {off : Int} {tgt : Nat} (d : decode cc pc = .ok (.ifCond .eq off, 3)) (ht : (pc : Int) + off = (tgt : Int)) (kt : x = 0 → mw_J Y k sl n M (tgt) L st) (kf : ¬ x = 0 → mw_J Y k sl n M (pc + 3) L st) : mw_J Y k sl n M pc L (.int x :: st) := by
  obtain ⟨G1, p, l1, e, R1, s, m, args, below, meth, c, nL, Q, ad0, n0⟩ := Y
  obtain ⟨⟨hx, hb, hml, hown, hts⟩, hK, hE, hnt, hlk, rfl, rfl, rfl⟩ := hC
  intro ad H locs ls hW hX hS hl
  exact lv_if_eq hx hb d ht (fun q => kt q ad H locs ls hW hX hS hl) (fun q => kf q ad H locs ls hW hX hS hl)
theorem jr_ic_eq (hC : mw_C G l R Y cc own) {x y : Int32} {off : Int} {tgt : Nat} (d : decode cc pc = .ok (.if_icmp .eq off, 3)) (ht : (pc : Int) + off = (tgt : Int)) (kt : x = y → mw_J Y k sl n M (tgt) L st) (kf : ¬ x = y → mw_J Y k sl n M (pc + 3) L st) : mw_J Y k sl n M pc L (.int y :: .int x :: st) := by
  obtain ⟨G1, p, l1, e, R1, s, m, args, below, meth, c, nL, Q, ad0, n0⟩ := Y
  obtain ⟨⟨hx, hb, hml, hown, hts⟩, hK, hE, hnt, hlk, rfl, rfl, rfl⟩ := hC
  intro ad H locs ls hW hX hS hl
  exact lv_icmp_eq hx hb d ht (fun q => kt q ad H locs ls hW hX hS hl) (fun q => kf q ad H locs ls hW hX hS hl)
theorem jr_lc_eq (hC : mw_C G l R Y cc own) {x y : Int64} {off : Int} {tgt : Nat} (d0 : decode cc pc = .ok (.lcmp, 1)) (d : decode cc (pc + 1) = .ok (.ifCond .eq off, 3)) (ht : ((pc + 1 : Nat) : Int) + off = (tgt : Int)) (kt : x = y → mw_J Y k sl n M (tgt) L st) (kf : ¬ x = y → mw_J Y k sl n M (pc + 1 + 3) L st) : mw_J Y k sl n M pc L (.long y :: .long x :: st) := by
  obtain ⟨G1, p, l1, e, R1, s, m, args, below, meth, c, nL, Q, ad0, n0⟩ := Y
  obtain ⟨⟨hx, hb, hml, hown, hts⟩, hK, hE, hnt, hlk, rfl, rfl, rfl⟩ := hC
  intro ad H locs ls hW hX hS hl
  exact W.lcmp hx hb d0 (lv_if_eq hx hb d ht (fun q => kt ((lg_cmp_eq x y).mp q) ad H locs ls hW hX hS hl) (fun q => kf (fun e => q ((lg_cmp_eq x y).mpr e)) ad H locs ls hW hX hS hl))
theorem jr_if_ne (hC : mw_C G l R Y cc own) {x : Int32} {off : Int} {tgt : Nat} (d : decode cc pc = .ok (.ifCond .ne off, 3)) (ht : (pc : Int) + off = (tgt : Int)) (kt : ¬ x = 0 → mw_J Y k sl n M (tgt) L st) (kf : x = 0 → mw_J Y k sl n M (pc + 3) L st) : mw_J Y k sl n M pc L (.int x :: st) := by
  obtain ⟨G1, p, l1, e, R1, s, m, args, below, meth, c, nL, Q, ad0, n0⟩ := Y
  obtain ⟨⟨hx, hb, hml, hown, hts⟩, hK, hE, hnt, hlk, rfl, rfl, rfl⟩ := hC
  intro ad H locs ls hW hX hS hl
  exact lv_if_ne hx hb d ht (fun q => kt q ad H locs ls hW hX hS hl) (fun q => kf q ad H locs ls hW hX hS hl)
theorem jr_ic_ne (hC : mw_C G l R Y cc own) {x y : Int32} {off : Int} {tgt : Nat} (d : decode cc pc = .ok (.if_icmp .ne off, 3)) (ht : (pc : Int) + off = (tgt : Int)) (kt : ¬ x = y → mw_J Y k sl n M (tgt) L st) (kf : x = y → mw_J Y k sl n M (pc + 3) L st) : mw_J Y k sl n M pc L (.int y :: .int x :: st) := by
  obtain ⟨G1, p, l1, e, R1, s, m, args, below, meth, c, nL, Q, ad0, n0⟩ := Y
  obtain ⟨⟨hx, hb, hml, hown, hts⟩, hK, hE, hnt, hlk, rfl, rfl, rfl⟩ := hC
  intro ad H locs ls hW hX hS hl
  exact lv_icmp_ne hx hb d ht (fun q => kt q ad H locs ls hW hX hS hl) (fun q => kf q ad H locs ls hW hX hS hl)
theorem jr_lc_ne (hC : mw_C G l R Y cc own) {x y : Int64} {off : Int} {tgt : Nat} (d0 : decode cc pc = .ok (.lcmp, 1)) (d : decode cc (pc + 1) = .ok (.ifCond .ne off, 3)) (ht : ((pc + 1 : Nat) : Int) + off = (tgt : Int)) (kt : ¬ x = y → mw_J Y k sl n M (tgt) L st) (kf : x = y → mw_J Y k sl n M (pc + 1 + 3) L st) : mw_J Y k sl n M pc L (.long y :: .long x :: st) := by
  obtain ⟨G1, p, l1, e, R1, s, m, args, below, meth, c, nL, Q, ad0, n0⟩ := Y
  obtain ⟨⟨hx, hb, hml, hown, hts⟩, hK, hE, hnt, hlk, rfl, rfl, rfl⟩ := hC
  intro ad H locs ls hW hX hS hl
  exact W.lcmp hx hb d0 (lv_if_ne hx hb d ht (fun q => kt (fun e => q ((lg_cmp_eq x y).mpr e)) ad H locs ls hW hX hS hl) (fun q => kf ((lg_cmp_eq x y).mp q) ad H locs ls hW hX hS hl))
theorem jr_if_lt (hC : mw_C G l R Y cc own) {x : Int32} {off : Int} {tgt : Nat} (d : decode cc pc = .ok (.ifCond .lt off, 3)) (ht : (pc : Int) + off = (tgt : Int)) (kt : x < 0 → mw_J Y k sl n M (tgt) L st) (kf : ¬ x < 0 → mw_J Y k sl n M (pc + 3) L st) : mw_J Y k sl n M pc L (.int x :: st) := by
  obtain ⟨G1, p, l1, e, R1, s, m, args, below, meth, c, nL, Q, ad0, n0⟩ := Y
  obtain ⟨⟨hx, hb, hml, hown, hts⟩, hK, hE, hnt, hlk, rfl, rfl, rfl⟩ := hC
  intro ad H locs ls hW hX hS hl
  exact lv_if_lt hx hb d ht (fun q => kt q ad H locs ls hW hX hS hl) (fun q => kf q ad H locs ls hW hX hS hl)
theorem jr_ic_lt (hC : mw_C G l R Y cc own) {x y : Int32} {off : Int} {tgt : Nat} (d : decode cc pc = .ok (.if_icmp .lt off, 3)) (ht : (pc : Int) + off = (tgt : Int)) (kt : x < y → mw_J Y k sl n M (tgt) L st) (kf : ¬ x < y → mw_J Y k sl n M (pc + 3) L st) : mw_J Y k sl n M pc L (.int y :: .int x :: st) := by
  obtain ⟨G1, p, l1, e, R1, s, m, args, below, meth, c, nL, Q, ad0, n0⟩ := Y
  obtain ⟨⟨hx, hb, hml, hown, hts⟩, hK, hE, hnt, hlk, rfl, rfl, rfl⟩ := hC
  intro ad H locs ls hW hX hS hl
  exact lv_icmp_lt hx hb d ht (fun q => kt q ad H locs ls hW hX hS hl) (fun q => kf q ad H locs ls hW hX hS hl)
theorem jr_lc_lt (hC : mw_C G l R Y cc own) {x y : Int64} {off : Int} {tgt : Nat} (d0 : decode cc pc = .ok (.lcmp, 1)) (d : decode cc (pc + 1) = .ok (.ifCond .lt off, 3)) (ht : ((pc + 1 : Nat) : Int) + off = (tgt : Int)) (kt : x < y → mw_J Y k sl n M (tgt) L st) (kf : ¬ x < y → mw_J Y k sl n M (pc + 1 + 3) L st) : mw_J Y k sl n M pc L (.long y :: .long x :: st) := by
  obtain ⟨G1, p, l1, e, R1, s, m, args, below, meth, c, nL, Q, ad0, n0⟩ := Y
  obtain ⟨⟨hx, hb, hml, hown, hts⟩, hK, hE, hnt, hlk, rfl, rfl, rfl⟩ := hC
  intro ad H locs ls hW hX hS hl
  exact W.lcmp hx hb d0 (lv_if_lt hx hb d ht (fun q => kt ((lg_cmp_lt x y).mp q) ad H locs ls hW hX hS hl) (fun q => kf (fun e => q ((lg_cmp_lt x y).mpr e)) ad H locs ls hW hX hS hl))
theorem jr_if_ge (hC : mw_C G l R Y cc own) {x : Int32} {off : Int} {tgt : Nat} (d : decode cc pc = .ok (.ifCond .ge off, 3)) (ht : (pc : Int) + off = (tgt : Int)) (kt : 0 ≤ x → mw_J Y k sl n M (tgt) L st) (kf : ¬ 0 ≤ x → mw_J Y k sl n M (pc + 3) L st) : mw_J Y k sl n M pc L (.int x :: st) := by
  obtain ⟨G1, p, l1, e, R1, s, m, args, below, meth, c, nL, Q, ad0, n0⟩ := Y
  obtain ⟨⟨hx, hb, hml, hown, hts⟩, hK, hE, hnt, hlk, rfl, rfl, rfl⟩ := hC
  intro ad H locs ls hW hX hS hl
  exact lv_if_ge hx hb d ht (fun q => kt q ad H locs ls hW hX hS hl) (fun q => kf q ad H locs ls hW hX hS hl)
theorem jr_ic_ge (hC : mw_C G l R Y cc own) {x y : Int32} {off : Int} {tgt : Nat} (d : decode cc pc = .ok (.if_icmp .ge off, 3)) (ht : (pc : Int) + off = (tgt : Int)) (kt : y ≤ x → mw_J Y k sl n M (tgt) L st) (kf : ¬ y ≤ x → mw_J Y k sl n M (pc + 3) L st) : mw_J Y k sl n M pc L (.int y :: .int x :: st) := by
  obtain ⟨G1, p, l1, e, R1, s, m, args, below, meth, c, nL, Q, ad0, n0⟩ := Y
  obtain ⟨⟨hx, hb, hml, hown, hts⟩, hK, hE, hnt, hlk, rfl, rfl, rfl⟩ := hC
  intro ad H locs ls hW hX hS hl
  exact lv_icmp_ge hx hb d ht (fun q => kt q ad H locs ls hW hX hS hl) (fun q => kf q ad H locs ls hW hX hS hl)
theorem jr_lc_ge (hC : mw_C G l R Y cc own) {x y : Int64} {off : Int} {tgt : Nat} (d0 : decode cc pc = .ok (.lcmp, 1)) (d : decode cc (pc + 1) = .ok (.ifCond .ge off, 3)) (ht : ((pc + 1 : Nat) : Int) + off = (tgt : Int)) (kt : y ≤ x → mw_J Y k sl n M (tgt) L st) (kf : ¬ y ≤ x → mw_J Y k sl n M (pc + 1 + 3) L st) : mw_J Y k sl n M pc L (.long y :: .long x :: st) := by
  obtain ⟨G1, p, l1, e, R1, s, m, args, below, meth, c, nL, Q, ad0, n0⟩ := Y
  obtain ⟨⟨hx, hb, hml, hown, hts⟩, hK, hE, hnt, hlk, rfl, rfl, rfl⟩ := hC
  intro ad H locs ls hW hX hS hl
  exact W.lcmp hx hb d0 (lv_if_ge hx hb d ht (fun q => kt ((lg_cmp_ge x y).mp q) ad H locs ls hW hX hS hl) (fun q => kf (fun e => q ((lg_cmp_ge x y).mpr e)) ad H locs ls hW hX hS hl))
theorem jr_if_gt (hC : mw_C G l R Y cc own) {x : Int32} {off : Int} {tgt : Nat} (d : decode cc pc = .ok (.ifCond .gt off, 3)) (ht : (pc : Int) + off = (tgt : Int)) (kt : 0 < x → mw_J Y k sl n M (tgt) L st) (kf : ¬ 0 < x → mw_J Y k sl n M (pc + 3) L st) : mw_J Y k sl n M pc L (.int x :: st) := by
  obtain ⟨G1, p, l1, e, R1, s, m, args, below, meth, c, nL, Q, ad0, n0⟩ := Y
  obtain ⟨⟨hx, hb, hml, hown, hts⟩, hK, hE, hnt, hlk, rfl, rfl, rfl⟩ := hC
  intro ad H locs ls hW hX hS hl
  exact lv_if_gt hx hb d ht (fun q => kt q ad H locs ls hW hX hS hl) (fun q => kf q ad H locs ls hW hX hS hl)
theorem jr_ic_gt (hC : mw_C G l R Y cc own) {x y : Int32} {off : Int} {tgt : Nat} (d : decode cc pc = .ok (.if_icmp .gt off, 3)) (ht : (pc : Int) + off = (tgt : Int)) (kt : y < x → mw_J Y k sl n M (tgt) L st) (kf : ¬ y < x → mw_J Y k sl n M (pc + 3) L st) : mw_J Y k sl n M pc L (.int y :: .int x :: st) := by
  obtain ⟨G1, p, l1, e, R1, s, m, args, below, meth, c, nL, Q, ad0, n0⟩ := Y
  obtain ⟨⟨hx, hb, hml, hown, hts⟩, hK, hE, hnt, hlk, rfl, rfl, rfl⟩ := hC
  intro ad H locs ls hW hX hS hl
  exact lv_icmp_gt hx hb d ht (fun q => kt q ad H locs ls hW hX hS hl) (fun q => kf q ad H locs ls hW hX hS hl)
theorem jr_lc_gt (hC : mw_C G l R Y cc own) {x y : Int64} {off : Int} {tgt : Nat} (d0 : decode cc pc = .ok (.lcmp, 1)) (d : decode cc (pc + 1) = .ok (.ifCond .gt off, 3)) (ht : ((pc + 1 : Nat) : Int) + off = (tgt : Int)) (kt : y < x → mw_J Y k sl n M (tgt) L st) (kf : ¬ y < x → mw_J Y k sl n M (pc + 1 + 3) L st) : mw_J Y k sl n M pc L (.long y :: .long x :: st) := by
  obtain ⟨G1, p, l1, e, R1, s, m, args, below, meth, c, nL, Q, ad0, n0⟩ := Y
  obtain ⟨⟨hx, hb, hml, hown, hts⟩, hK, hE, hnt, hlk, rfl, rfl, rfl⟩ := hC
  intro ad H locs ls hW hX hS hl
  exact W.lcmp hx hb d0 (lv_if_gt hx hb d ht (fun q => kt ((lg_cmp_gt x y).mp q) ad H locs ls hW hX hS hl) (fun q => kf (fun e => q ((lg_cmp_gt x y).mpr e)) ad H locs ls hW hX hS hl))
theorem jr_if_le (hC : mw_C G l R Y cc own) {x : Int32} {off : Int} {tgt : Nat} (d : decode cc pc = .ok (.ifCond .le off, 3)) (ht : (pc : Int) + off = (tgt : Int)) (kt : x ≤ 0 → mw_J Y k sl n M (tgt) L st) (kf : ¬ x ≤ 0 → mw_J Y k sl n M (pc + 3) L st) : mw_J Y k sl n M pc L (.int x :: st) := by
  obtain ⟨G1, p, l1, e, R1, s, m, args, below, meth, c, nL, Q, ad0, n0⟩ := Y
  obtain ⟨⟨hx, hb, hml, hown, hts⟩, hK, hE, hnt, hlk, rfl, rfl, rfl⟩ := hC
  intro ad H locs ls hW hX hS hl
  exact lv_if_le hx hb d ht (fun q => kt q ad H locs ls hW hX hS hl) (fun q => kf q ad H locs ls hW hX hS hl)
theorem jr_ic_le (hC : mw_C G l R Y cc own) {x y : Int32} {off : Int} {tgt : Nat} (d : decode cc pc = .ok (.if_icmp .le off, 3)) (ht : (pc : Int) + off = (tgt : Int)) (kt : x ≤ y → mw_J Y k sl n M (tgt) L st) (kf : ¬ x ≤ y → mw_J Y k sl n M (pc + 3) L st) : mw_J Y k sl n M pc L (.int y :: .int x :: st) := by
  obtain ⟨G1, p, l1, e, R1, s, m, args, below, meth, c, nL, Q, ad0, n0⟩ := Y
  obtain ⟨⟨hx, hb, hml, hown, hts⟩, hK, hE, hnt, hlk, rfl, rfl, rfl⟩ := hC
  intro ad H locs ls hW hX hS hl
  exact lv_icmp_le hx hb d ht (fun q => kt q ad H locs ls hW hX hS hl) (fun q => kf q ad H locs ls hW hX hS hl)
theorem jr_lc_le (hC : mw_C G l R Y cc own) {x y : Int64} {off : Int} {tgt : Nat} (d0 : decode cc pc = .ok (.lcmp, 1)) (d : decode cc (pc + 1) = .ok (.ifCond .le off, 3)) (ht : ((pc + 1 : Nat) : Int) + off = (tgt : Int)) (kt : x ≤ y → mw_J Y k sl n M (tgt) L st) (kf : ¬ x ≤ y → mw_J Y k sl n M (pc + 1 + 3) L st) : mw_J Y k sl n M pc L (.long y :: .long x :: st) := by
  obtain ⟨G1, p, l1, e, R1, s, m, args, below, meth, c, nL, Q, ad0, n0⟩ := Y
  obtain ⟨⟨hx, hb, hml, hown, hts⟩, hK, hE, hnt, hlk, rfl, rfl, rfl⟩ := hC
  intro ad H locs ls hW hX hS hl
  exact W.lcmp hx hb d0 (lv_if_le hx hb d ht (fun q => kt ((lg_cmp_le x y).mp q) ad H locs ls hW hX hS hl) (fun q => kf (fun e => q ((lg_cmp_le x y).mpr e)) ad H locs ls hW hX hS hl))
theorem jr_goto (hC : mw_C G l R Y cc own) {off : Int} {tgt : Nat} (d : decode cc pc = .ok (.goto off, 3)) (ht : (pc : Int) + off = (tgt : Int)) (kk : mw_J Y k sl n M (tgt) L st) : mw_J Y k sl n M pc L st := by
  obtain ⟨G1, p, l1, e, R1, s, m, args, below, meth, c, nL, Q, ad0, n0⟩ := Y
  obtain ⟨⟨hx, hb, hml, hown, hts⟩, hK, hE, hnt, hlk, rfl, rfl, rfl⟩ := hC
  intro ad H locs ls hW hX hS hl
  exact lv_goto hx hb d ht (kk ad H locs ls hW hX hS hl)
theorem jr_tin (hC : mw_C G l R Y cc own) {dflt lo hi : Int} {offs : Array Int} {len : Nat} {x : Int32} {off : Int} {tgt : Nat} (v : Int) (hv : x.toInt = v) (d : decode cc pc = .ok (.tableswitch dflt lo hi offs, len)) (h1 : ¬ v < lo) (h2 : ¬ hi < v) (ho : offs[(v - lo).toNat]? = some off) (ht : (pc : Int) + off = (tgt : Int)) (kk : mw_J Y k sl n M (tgt) L st) : mw_J Y k sl n M pc L (.int x :: st) := by
  obtain ⟨G1, p, l1, e, R1, s, m, args, below, meth, c, nL, Q, ad0, n0⟩ := Y
  obtain ⟨⟨hx, hb, hml, hown, hts⟩, hK, hE, hnt, hlk, rfl, rfl, rfl⟩ := hC
  intro ad H locs ls hW hX hS hl
  exact lv_tableIn hx hb d (by rw [hv]; exact h1) (by rw [hv]; exact h2) (by rw [hv]; exact ho) ht (kk ad H locs ls hW hX hS hl)
theorem jr_tout (hC : mw_C G l R Y cc own) {dflt lo hi : Int} {offs : Array Int} {len : Nat} {x : Int32} {tgt : Nat} (h : x.toInt < lo ∨ hi < x.toInt) (d : decode cc pc = .ok (.tableswitch dflt lo hi offs, len)) (ht : (pc : Int) + dflt = (tgt : Int)) (kk : mw_J Y k sl n M (tgt) L st) : mw_J Y k sl n M pc L (.int x :: st) := by
  obtain ⟨G1, p, l1, e, R1, s, m, args, below, meth, c, nL, Q, ad0, n0⟩ := Y
  obtain ⟨⟨hx, hb, hml, hown, hts⟩, hK, hE, hnt, hlk, rfl, rfl, rfl⟩ := hC
  intro ad H locs ls hW hX hS hl
  exact lv_tableOut hx hb d h ht (kk ad H locs ls hW hX hS hl)
theorem jr_nmI {x : Int32} (kk : ∀ y : Int32, y = x → mw_J Y k sl n M pc L (.int y :: st)) : mw_J Y k sl n M pc L (.int x :: st) := kk x rfl
theorem jr_nmJ {x : Int64} (kk : ∀ y : Int64, y = x → mw_J Y k sl n M pc L (.long y :: st)) : mw_J Y k sl n M pc L (.long x :: st) := kk x rfl
theorem jr_nmA {x : Nat} (kk : ∀ y : Nat, y = x → mw_J Y k sl n M pc L (.ref y :: st)) : mw_J Y k sl n M pc L (.ref x :: st) := kk x rfl
theorem jr_mmax (hC : mw_C G l R Y cc own) {x y : Int32} {i : Nat} (h1 : Cond.methodLink own i Lib.Math.max.name ∈ TB) (h2 : Cond.static Lib.Math.max.name ∈ TB) (h3 : Cond.initialized "java/lang/Math" ∈ TB) (h4 : Cond.code Lib.Math.max.name Lib.Math.max.code 2 (some .int) ∈ TB) (hRf : 1 ≤ R.frames) (hRl : 21 ≤ R.locals) (hcat : (st.map fun v => v.category).sum ≤ 8) (hkc : k ≤ R.cells) (hks : sl ≤ R.slots) (d : decode cc pc = .ok (.invokestatic i, 3)) (kk : mw_J Y k sl n M (pc + 3) L (.int (if x < y then y else x) :: st)) : mw_J Y k sl n M pc L (.int y :: .int x :: st) := by
  obtain ⟨G1, p, l1, e, R1, s, m, args, below, meth, c, nL, Q, ad0, n0⟩ := Y
  obtain ⟨⟨hx, hb, hml, hown, hts⟩, hK, hE, hnt, hlk, rfl, rfl, rfl⟩ := hC
  intro ad H locs ls hW hX hS hl
  exact va_mmax hx hb (hml.trans hl.1.symm) hown (hts _ h1) (hts _ h2) (hts _ h3) (hts _ h4) hRf (by have := mw_cats ad st; omega) hkc hks d (kk ad H locs ls hW hX hS hl)
theorem jr_mmin (hC : mw_C G l R Y cc own) {x y : Int32} {i : Nat} (h1 : Cond.methodLink own i Lib.Math.min.name ∈ TB) (h2 : Cond.static Lib.Math.min.name ∈ TB) (h3 : Cond.initialized "java/lang/Math" ∈ TB) (h4 : Cond.code Lib.Math.min.name Lib.Math.min.code 2 (some .int) ∈ TB) (hRf : 1 ≤ R.frames) (hRl : 21 ≤ R.locals) (hcat : (st.map fun v => v.category).sum ≤ 8) (hkc : k ≤ R.cells) (hks : sl ≤ R.slots) (d : decode cc pc = .ok (.invokestatic i, 3)) (kk : mw_J Y k sl n M (pc + 3) L (.int (if y < x then y else x) :: st)) : mw_J Y k sl n M pc L (.int y :: .int x :: st) := by
  obtain ⟨G1, p, l1, e, R1, s, m, args, below, meth, c, nL, Q, ad0, n0⟩ := Y
  obtain ⟨⟨hx, hb, hml, hown, hts⟩, hK, hE, hnt, hlk, rfl, rfl, rfl⟩ := hC
  intro ad H locs ls hW hX hS hl
  exact va_mmin hx hb (hml.trans hl.1.symm) hown (hts _ h1) (hts _ h2) (hts _ h3) (hts _ h4) hRf (by have := mw_cats ad st; omega) hkc hks d (kk ad H locs ls hW hX hS hl)
theorem jr_mabs (hC : mw_C G l R Y cc own) {x : Int32} {i : Nat} (h1 : Cond.methodLink own i Lib.Math.abs.name ∈ TB) (h2 : Cond.static Lib.Math.abs.name ∈ TB) (h3 : Cond.initialized "java/lang/Math" ∈ TB) (h4 : Cond.code Lib.Math.abs.name Lib.Math.abs.code 1 (some .int) ∈ TB) (hRf : 1 ≤ R.frames) (hRl : 21 ≤ R.locals) (hcat : (st.map fun v => v.category).sum ≤ 8) (hkc : k ≤ R.cells) (hks : sl ≤ R.slots) (d : decode cc pc = .ok (.invokestatic i, 3)) (kk : mw_J Y k sl n M (pc + 3) L (.int (if 0 ≤ x then x else 0 - x) :: st)) : mw_J Y k sl n M pc L (.int x :: st) := by
  obtain ⟨G1, p, l1, e, R1, s, m, args, below, meth, c, nL, Q, ad0, n0⟩ := Y
  obtain ⟨⟨hx, hb, hml, hown, hts⟩, hK, hE, hnt, hlk, rfl, rfl, rfl⟩ := hC
  intro ad H locs ls hW hX hS hl
  exact va_mabs hx hb (hml.trans hl.1.symm) hown (hts _ h1) (hts _ h2) (hts _ h3) (hts _ h4) hRf (by have := mw_cats ad st; omega) hkc hks d (kk ad H locs ls hW hX hS hl)
theorem jr_mmaxl (hC : mw_C G l R Y cc own) {x y : Int64} {i : Nat} (h1 : Cond.methodLink own i Lib.MathLoose.max_long.x ∈ TB) (h2 : Cond.static Lib.MathLoose.max_long.x ∈ TB) (h3 : Cond.initialized "java/lang/Math" ∈ TB) (h4 : Cond.code Lib.MathLoose.max_long.x Lib.MathLoose.max_long.code 4 (some .long) ∈ TB) (hRf : 1 ≤ R.frames) (hRl : 23 ≤ R.locals) (hcat : (st.map fun v => v.category).sum ≤ 8) (hkc : k ≤ R.cells) (hks : sl ≤ R.slots) (d : decode cc pc = .ok (.invokestatic i, 3)) (kk : mw_J Y k sl n M (pc + 3) L (.long (if y < x then x else y) :: st)) : mw_J Y k sl n M pc L (.long y :: .long x :: st) := by
  obtain ⟨G1, p, l1, e, R1, s, m, args, below, meth, c, nL, Q, ad0, n0⟩ := Y
  obtain ⟨⟨hx, hb, hml, hown, hts⟩, hK, hE, hnt, hlk, rfl, rfl, rfl⟩ := hC
  intro ad H locs ls hW hX hS hl
  exact va_mmax_long hx hb (hml.trans hl.1.symm) hown (hts _ h1) (hts _ h2) (hts _ h3) (hts _ h4) hRf (by have := mw_cats ad st; omega) hkc hks d (kk ad H locs ls hW hX hS hl)
theorem mw_r_rf (ad : Nat → Nat) (x : Nat) : mw_r ad x = va_rf (if x = 0 then none else some (ad x)) := by
  unfold mw_r
  split <;> rfl
theorem mw_rf_eq {G : mw_G} {ad : Nat → Nat} {n : Nat} {M : mw_M} {H : Heap} (hW : mw_W G ad n M H) {x y : Nat} (hx : x < n) (hy : y < n) : (if x = 0 then none else some (ad x)) = (if y = 0 then none else some (ad y)) ↔ x = y := by
  by_cases h1 : x = 0 <;> by_cases h2 : y = 0
  · simp [h1, h2]
  · simp [h1, h2]; omega
  · simp [h1, h2]
  · simp only [if_neg h1, if_neg h2, Option.some.injEq]
    exact ⟨fun e => hW.2 x y (by omega) hx (by omega) hy e, fun e => by rw [e]⟩
theorem jr_ac_eq (hC : mw_C G l R Y cc own) {x y : Nat} {off : Int} {tgt : Nat} (hx9 : x < n) (hy9 : y < n) (d : decode cc pc = .ok (.if_acmp .eq off, 3)) (ht : (pc : Int) + off = (tgt : Int)) (kt : x = y → mw_J Y k sl n M (tgt) L st) (kf : ¬ x = y → mw_J Y k sl n M (pc + 3) L st) : mw_J Y k sl n M pc L (.ref y :: .ref x :: st) := by
  obtain ⟨G1, p, l1, e, R1, s, m, args, below, meth, c, nL, Q, ad0, n0⟩ := Y
  obtain ⟨⟨hx, hb, hml, hown, hts⟩, hK, hE, hnt, hlk, rfl, rfl, rfl⟩ := hC
  intro ad H locs ls hW hX hS hl
  simp only [List.map_cons, mw_v_ref, mw_r_rf]
  exact lv_acmp_eq hx hb d ht (fun q => kt ((mw_rf_eq hW hx9 hy9).mp q) ad H locs ls hW hX hS hl) (fun q => kf (fun e => q ((mw_rf_eq hW hx9 hy9).mpr e)) ad H locs ls hW hX hS hl)
theorem jr_ac_ne (hC : mw_C G l R Y cc own) {x y : Nat} {off : Int} {tgt : Nat} (hx9 : x < n) (hy9 : y < n) (d : decode cc pc = .ok (.if_acmp .ne off, 3)) (ht : (pc : Int) + off = (tgt : Int)) (kt : ¬ x = y → mw_J Y k sl n M (tgt) L st) (kf : x = y → mw_J Y k sl n M (pc + 3) L st) : mw_J Y k sl n M pc L (.ref y :: .ref x :: st) := by
  obtain ⟨G1, p, l1, e, R1, s, m, args, below, meth, c, nL, Q, ad0, n0⟩ := Y
  obtain ⟨⟨hx, hb, hml, hown, hts⟩, hK, hE, hnt, hlk, rfl, rfl, rfl⟩ := hC
  intro ad H locs ls hW hX hS hl
  simp only [List.map_cons, mw_v_ref, mw_r_rf]
  exact lv_acmp_ne hx hb d ht (fun q => kt (fun e => q ((mw_rf_eq hW hx9 hy9).mpr e)) ad H locs ls hW hX hS hl) (fun q => kf ((mw_rf_eq hW hx9 hy9).mp q) ad H locs ls hW hX hS hl)
theorem mw_fv_si {ad : Nat → Nat} {M : mw_M} {a f j c : Nat} {x : Int32} (h : j ≠ f) : mw_fv ad (sI M a f x) a j c = mw_fv ad M a j c := by
  unfold mw_fv
  have e : mI (sI M a f x) a j = mI M a j := by rw [mI_sI]; exact if_neg (fun q => h q.2)
  rw [e]
  rfl
theorem mw_fv_sl {ad : Nat → Nat} {M : mw_M} {a f j c : Nat} {x : Int64} (h : j ≠ f) : mw_fv ad (sL M a f x) a j c = mw_fv ad M a j c := by
  unfold mw_fv
  have e : mL (sL M a f x) a j = mL M a j := by rw [mL_sL]; exact if_neg (fun q => h q.2)
  rw [e]
  rfl
theorem mw_fv_sp {ad : Nat → Nat} {M : mw_M} {a f j c : Nat} {x : Nat} (h : j ≠ f) : mw_fv ad (sP M a f x) a j c = mw_fv ad M a j c := by
  unfold mw_fv
  have e : mP (sP M a f x) a j = mP M a j := by rw [mP_sP]; exact if_neg (fun q => h q.2)
  rw [e]
  rfl
end JR
/-- a class of the picture, with its words -/
def mw_Cl (t : Nat) (C : String) (T : u_T) (N : Nat) : Prop := mw_cl[t]? = some (C, T, N) ∧ (∀ w ∈ u_ws C T N, w ∈ TB) ∧ (∃ ty0 : Nat → FieldType, ∀ k, k < N → parseFieldDescriptor (T k).2.2.1 = some (ty0 k)) ∧ (∀ a, a < N → ∀ b, b < N → a ≠ b → (T a).2.1 ≠ (T b).2.1) ∧ ∀ k, k < N → (T k).1 = C
def mw_F (own : String) (idx t f c : Nat) : Prop := ∃ (C : String) (T : u_T) (N : Nat), mw_Cl t C T N ∧ f < N ∧ mw_kd (T f).2.2.1 = c ∧ Cond.fieldLink own idx C (T f).2.1 (T f).2.2.1 ∈ TB
def mw_FP (own : String) (idx t f c : Nat) (ty : FieldType) (fin : Bool) : Prop := ∃ (C : String) (T : u_T) (N : Nat), mw_Cl t C T N ∧ f < N ∧ mw_kd (T f).2.2.1 = c ∧ Cond.fieldLink own idx C (T f).2.1 (T f).2.2.1 ∈ TB ∧ parseFieldDescriptor (T f).2.2.1 = some ty ∧ (T f).2.2.2 = fin
theorem mw_tys_none {t : Nat} (h : 9 ≤ t) : mw_cl[t]? = none := List.getElem?_eq_none h
/-- what the picture's write of one field gives -/
theorem mw_putOB {G : mw_G} {ad : Nat → Nat} {M M1 : mw_M} {a t f : Nat} {C : String} {T : u_T} {N : Nat} {H1 : Heap} {cell : Cell} {v : Value} (ht : Tg a = t) (h9 : t < 9) (hc : mw_cl[t]? = some (C, T, N))
    (q2 : cell.cls = G.1 t) (q3 : cell.vm = .none) (q4 : ∀ k, k < N → cell.slots[G.2.1 t k]? = some (mw_fv ad M a k (mw_kd (T k).2.2.1))) (hf : f < N) (hap : ∀ x y, x < N → y < N → x ≠ y → G.2.1 t x ≠ G.2.1 t y)
    (e1 : H1[ad a]? = some (cell.setSlot (G.2.1 t f) v)) (hv : v = mw_fv ad M1 a f (mw_kd (T f).2.2.1)) (ho : ∀ j c, j ≠ f → mw_fv ad M1 a j c = mw_fv ad M a j c) : mw_at G ad M1 a H1 := by
  refine ⟨fun r hr => ?_, fun x y => by rw [ht] at x; omega, (Array.getElem?_eq_some_iff.mp e1).1⟩
  rw [ht] at hr ⊢
  cases hr.symm.trans hc
  refine ⟨_, e1, q2, q3, fun j hj => ?_⟩
  have h5 := t_set q4 hap hf v j hj
  rw [h5]
  congr 1
  by_cases e : j = f
  · subst e
    simp [updV, hv]
  · simp only [updV, if_neg e]
    exact (ho j _ e).symm
section JR2
variable {G : mw_G} {l : Launch} {R : Room} {Y : mw_Y} {cc : ByteArray} {own : String} {k sl n : Nat} {M : mw_M} {pc : Nat} {L : List (Nat × Value)} {st : List Value}
theorem jr_get0 (hC : mw_C G l R Y cc own) {i t f a : Nat} (hF : mw_F own i t f 0) (his : mw_is n a t) (d : decode cc pc = .ok (.getfield i, 3)) (kk : mw_J Y k sl n M (pc + 3) L (.int (mI M a f) :: st)) : mw_J Y k sl n M pc L (.ref a :: st) := by
  obtain ⟨G1, p, l1, e, R1, s, m, args, below, meth, c, nL, Q, ad0, n0⟩ := Y
  obtain ⟨⟨hx, hb, hml, hown, hts⟩, hK, hE, hnt, hlk, rfl, rfl, rfl⟩ := hC
  obtain ⟨C, T, N, ⟨hc, hin, -, -, hdc⟩, hf, hkd, hlk9⟩ := hF
  obtain ⟨ht, h0, han⟩ := his
  intro ad H locs ls hW hX hS hl
  obtain ⟨cell, q1, q2, q3, q4⟩ := (hW.1 a h0 han).1.1 _ (by rw [ht]; exact hc)
  obtain ⟨hS9, hfc, kC, hkC, hkind⟩ := hK.1 t _ hc
  obtain ⟨cf, kf, fi, f9, hi, hsl⟩ := hS9 f hf
  have hi2 := hi
  dsimp only at hi2
  rw [hdc f hf] at hi2
  have hv : cell.slots[f9.slot]? = some (mw_v ad (.int (mI M a f))) := by
    rw [hsl]
    have h4 := q4 f hf
    dsimp only at h4
    rw [ht, hkd] at h4
    exact h4
  show W _ _ _ _ _ _ _ _ _ _ _ _ _ _ _ (F0 m pc ls (mw_r ad a :: st.map (mw_v ad)))
  rw [mw_r_pos h0]
  exact W.getf hx hb hown (hts _ hlk9) hi2 (u_facts hfc hkC (u_lays hts hin hf) hi).1 q1 (by rw [q3]; exact fun h => by cases h) hv rfl rfl d (kk ad H locs ls hW hX hS hl)
theorem jr_get1 (hC : mw_C G l R Y cc own) {i t f a : Nat} (hF : mw_F own i t f 1) (his : mw_is n a t) (d : decode cc pc = .ok (.getfield i, 3)) (kk : mw_J Y k sl n M (pc + 3) L (.long (mL M a f) :: st)) : mw_J Y k sl n M pc L (.ref a :: st) := by
  obtain ⟨G1, p, l1, e, R1, s, m, args, below, meth, c, nL, Q, ad0, n0⟩ := Y
  obtain ⟨⟨hx, hb, hml, hown, hts⟩, hK, hE, hnt, hlk, rfl, rfl, rfl⟩ := hC
  obtain ⟨C, T, N, ⟨hc, hin, -, -, hdc⟩, hf, hkd, hlk9⟩ := hF
  obtain ⟨ht, h0, han⟩ := his
  intro ad H locs ls hW hX hS hl
  obtain ⟨cell, q1, q2, q3, q4⟩ := (hW.1 a h0 han).1.1 _ (by rw [ht]; exact hc)
  obtain ⟨hS9, hfc, kC, hkC, hkind⟩ := hK.1 t _ hc
  obtain ⟨cf, kf, fi, f9, hi, hsl⟩ := hS9 f hf
  have hi2 := hi
  dsimp only at hi2
  rw [hdc f hf] at hi2
  have hv : cell.slots[f9.slot]? = some (mw_v ad (.long (mL M a f))) := by
    rw [hsl]
    have h4 := q4 f hf
    dsimp only at h4
    rw [ht, hkd] at h4
    exact h4
  show W _ _ _ _ _ _ _ _ _ _ _ _ _ _ _ (F0 m pc ls (mw_r ad a :: st.map (mw_v ad)))
  rw [mw_r_pos h0]
  exact W.getf hx hb hown (hts _ hlk9) hi2 (u_facts hfc hkC (u_lays hts hin hf) hi).1 q1 (by rw [q3]; exact fun h => by cases h) hv rfl rfl d (kk ad H locs ls hW hX hS hl)
theorem jr_get2 (hC : mw_C G l R Y cc own) {i t f a : Nat} (hF : mw_F own i t f 2) (his : mw_is n a t) (d : decode cc pc = .ok (.getfield i, 3)) (kk : mw_J Y k sl n M (pc + 3) L (.ref (mP M a f) :: st)) : mw_J Y k sl n M pc L (.ref a :: st) := by
  obtain ⟨G1, p, l1, e, R1, s, m, args, below, meth, c, nL, Q, ad0, n0⟩ := Y
  obtain ⟨⟨hx, hb, hml, hown, hts⟩, hK, hE, hnt, hlk, rfl, rfl, rfl⟩ := hC
  obtain ⟨C, T, N, ⟨hc, hin, -, -, hdc⟩, hf, hkd, hlk9⟩ := hF
  obtain ⟨ht, h0, han⟩ := his
  intro ad H locs ls hW hX hS hl
  obtain ⟨cell, q1, q2, q3, q4⟩ := (hW.1 a h0 han).1.1 _ (by rw [ht]; exact hc)
  obtain ⟨hS9, hfc, kC, hkC, hkind⟩ := hK.1 t _ hc
  obtain ⟨cf, kf, fi, f9, hi, hsl⟩ := hS9 f hf
  have hi2 := hi
  dsimp only at hi2
  rw [hdc f hf] at hi2
  have hv : cell.slots[f9.slot]? = some (mw_v ad (.ref (mP M a f))) := by
    rw [hsl]
    have h4 := q4 f hf
    dsimp only at h4
    rw [ht, hkd] at h4
    exact h4
  show W _ _ _ _ _ _ _ _ _ _ _ _ _ _ _ (F0 m pc ls (mw_r ad a :: st.map (mw_v ad)))
  rw [mw_r_pos h0]
  exact W.getf hx hb hown (hts _ hlk9) hi2 (u_facts hfc hkC (u_lays hts hin hf) hi).1 q1 (by rw [q3]; exact fun h => by cases h) hv rfl rfl d (kk ad H locs ls hW hX hS hl)
def mw_init : mw_Y → Prop
  | (_, _, _, _, _, _, _, _, _, meth, _, _, _, _, _) => meth.name = "<init>"
def mw_own (t : Nat) (own : String) : Prop := ∀ (C : String) (T : u_T) (N : Nat), mw_cl[t]? = some (C, T, N) → C = own
def mw_b01 (x : Int32) : Prop := x = 0 ∨ x = 1
theorem mw_b01_nar {x : Int32} (h : mw_b01 x) : narrow .boolean (.int x) = .int x := by rcases h with rfl | rfl <;> rfl
theorem mw_b01_fit {x : Int32} (h : mw_b01 x) : fits .boolean (.int x) = true := by rcases h with rfl | rfl <;> rfl
theorem mw_ref_nar {ad : Nat → Nat} {x : Nat} {C : String} : narrow (.object C) (mw_r ad x) = mw_r ad x := by unfold mw_r; split <;> rfl
theorem mw_ref_fit {ad : Nat → Nat} {x : Nat} {C : String} : fits (.object C) (mw_r ad x) = true := by unfold mw_r; split <;> rfl
theorem mw_arr_nar {ad : Nat → Nat} {x : Nat} {C : FieldType} : narrow (.array C) (mw_r ad x) = mw_r ad x := by unfold mw_r; split <;> rfl
theorem mw_arr_fit {ad : Nat → Nat} {x : Nat} {C : FieldType} : fits (.array C) (mw_r ad x) = true := by unfold mw_r; split <;> rfl
theorem jr_putI (hC : mw_C G l R Y cc own) {i t f a : Nat} {x : Int32} {M1 : mw_M} (hF : mw_FP own i t f 0 (.int) false) (his : mw_is n a t) (hM : M1 = sI M a f x) (d : decode cc pc = .ok (.putfield i, 3)) (kk : mw_J Y k sl n M1 (pc + 3) L st) : mw_J Y k sl n M pc L (.int x :: .ref a :: st) := by
  obtain ⟨G1, p, l1, e, R1, s, m, args, below, meth, c, nL, Q, ad0, n0⟩ := Y
  obtain ⟨⟨hx, hb, hml, hown, hts⟩, hK, hE, hnt, hlk, rfl, rfl, rfl⟩ := hC
  obtain ⟨C, T, N, ⟨hc, hin, ⟨ty0, hty⟩, hnm, hdc⟩, hf, hkd, hlk9, hpt, hfin⟩ := hF
  obtain ⟨ht, h0, han⟩ := his
  have h9 : t < 9 := (List.getElem?_eq_some_iff.mp hc).1
  intro ad H locs ls hW hX hS hl
  have hap := va_apart (own := own) hts hin ty0 hty hnm hK hc
  obtain ⟨cell, q1, q2, q3, q4⟩ := (hW.1 a h0 han).1.1 _ (by rw [ht]; exact hc)
  obtain ⟨hS9, hfc, kC, hkC, hkind⟩ := hK.1 t _ hc
  obtain ⟨cf, kf, fi, f9, hi, hsl⟩ := hS9 f hf
  have hi2 := hi
  dsimp only at hi2
  rw [hdc f hf] at hi2
  have hlay := hts _ (hin _ (u_in_lay hf))
  unfold u_lay at hlay
  rw [if_neg (by rw [hfin]; decide)] at hlay
  show W _ _ _ _ _ _ _ _ _ _ _ _ _ _ _ (F0 m pc ls (mw_v ad (.int x) :: mw_r ad a :: st.map (mw_v ad)))
  rw [mw_r_pos h0]
  refine W.putK hx hb (f := f9) ⟨hown, hts _ hlk9, ⟨_, _, _, hi2⟩, (u_facts hfc hkC (u_lays hts hin hf) hi).1⟩ (by rw [q2, ht]; exact u_store hfc hkC hkind hlay hi hpt (by rfl) (by rfl)) q1 q3 (by rw [hsl]; exact k2_hasslot (by have h4 := q4 f hf; rw [ht] at h4; exact h4)) rfl rfl d fun H1 e1 e2 e3 => ?_
  rw [hsl] at e1 ⊢
  subst hM
  rw [ht] at q2 q4
  refine kk ad H1 _ ls (hW.upd h0 han e3 (mw_putOB ht h9 hc q2 q3 q4 hf hap e1 ?_ ?_) (fun k9 hk9 => mw_eq.si hk9)) hX (hS.put e2 e3 (hW.1 a h0 han).2) hl
  · rw [hkd]
    first | (simp only [mw_fv_0, mI_sI, and_self, if_true]; rfl) | (simp only [mw_fv_1, mL_sL, and_self, if_true]; rfl) | (simp only [mw_fv_2, mP_sP, and_self, if_true]; rfl)
  · intro j c9 hj
    first | exact mw_fv_si hj | exact mw_fv_sl hj | exact mw_fv_sp hj
theorem jr_putZ (hC : mw_C G l R Y cc own) {i t f a : Nat} {x : Int32} {M1 : mw_M} (hF : mw_FP own i t f 0 (.boolean) false) (his : mw_is n a t) (h01 : mw_b01 x) (hM : M1 = sI M a f x) (d : decode cc pc = .ok (.putfield i, 3)) (kk : mw_J Y k sl n M1 (pc + 3) L st) : mw_J Y k sl n M pc L (.int x :: .ref a :: st) := by
  obtain ⟨G1, p, l1, e, R1, s, m, args, below, meth, c, nL, Q, ad0, n0⟩ := Y
  obtain ⟨⟨hx, hb, hml, hown, hts⟩, hK, hE, hnt, hlk, rfl, rfl, rfl⟩ := hC
  obtain ⟨C, T, N, ⟨hc, hin, ⟨ty0, hty⟩, hnm, hdc⟩, hf, hkd, hlk9, hpt, hfin⟩ := hF
  obtain ⟨ht, h0, han⟩ := his
  have h9 : t < 9 := (List.getElem?_eq_some_iff.mp hc).1
  intro ad H locs ls hW hX hS hl
  have hap := va_apart (own := own) hts hin ty0 hty hnm hK hc
  obtain ⟨cell, q1, q2, q3, q4⟩ := (hW.1 a h0 han).1.1 _ (by rw [ht]; exact hc)
  obtain ⟨hS9, hfc, kC, hkC, hkind⟩ := hK.1 t _ hc
  obtain ⟨cf, kf, fi, f9, hi, hsl⟩ := hS9 f hf
  have hi2 := hi
  dsimp only at hi2
  rw [hdc f hf] at hi2
  have hlay := hts _ (hin _ (u_in_lay hf))
  unfold u_lay at hlay
  rw [if_neg (by rw [hfin]; decide)] at hlay
  show W _ _ _ _ _ _ _ _ _ _ _ _ _ _ _ (F0 m pc ls (mw_v ad (.int x) :: mw_r ad a :: st.map (mw_v ad)))
  rw [mw_r_pos h0]
  refine W.putK hx hb (f := f9) ⟨hown, hts _ hlk9, ⟨_, _, _, hi2⟩, (u_facts hfc hkC (u_lays hts hin hf) hi).1⟩ (by rw [q2, ht]; exact u_store hfc hkC hkind hlay hi hpt (mw_b01_nar h01) (mw_b01_fit h01)) q1 q3 (by rw [hsl]; exact k2_hasslot (by have h4 := q4 f hf; rw [ht] at h4; exact h4)) rfl rfl d fun H1 e1 e2 e3 => ?_
  rw [hsl] at e1 ⊢
  subst hM
  rw [ht] at q2 q4
  refine kk ad H1 _ ls (hW.upd h0 han e3 (mw_putOB ht h9 hc q2 q3 q4 hf hap e1 ?_ ?_) (fun k9 hk9 => mw_eq.si hk9)) hX (hS.put e2 e3 (hW.1 a h0 han).2) hl
  · rw [hkd]
    first | (simp only [mw_fv_0, mI_sI, and_self, if_true]; rfl) | (simp only [mw_fv_1, mL_sL, and_self, if_true]; rfl) | (simp only [mw_fv_2, mP_sP, and_self, if_true]; rfl)
  · intro j c9 hj
    first | exact mw_fv_si hj | exact mw_fv_sl hj | exact mw_fv_sp hj
theorem jr_putL (hC : mw_C G l R Y cc own) {i t f a : Nat} {x : Int64} {M1 : mw_M} (hF : mw_FP own i t f 1 (.long) false) (his : mw_is n a t) (hM : M1 = sL M a f x) (d : decode cc pc = .ok (.putfield i, 3)) (kk : mw_J Y k sl n M1 (pc + 3) L st) : mw_J Y k sl n M pc L (.long x :: .ref a :: st) := by
  obtain ⟨G1, p, l1, e, R1, s, m, args, below, meth, c, nL, Q, ad0, n0⟩ := Y
  obtain ⟨⟨hx, hb, hml, hown, hts⟩, hK, hE, hnt, hlk, rfl, rfl, rfl⟩ := hC
  obtain ⟨C, T, N, ⟨hc, hin, ⟨ty0, hty⟩, hnm, hdc⟩, hf, hkd, hlk9, hpt, hfin⟩ := hF
  obtain ⟨ht, h0, han⟩ := his
  have h9 : t < 9 := (List.getElem?_eq_some_iff.mp hc).1
  intro ad H locs ls hW hX hS hl
  have hap := va_apart (own := own) hts hin ty0 hty hnm hK hc
  obtain ⟨cell, q1, q2, q3, q4⟩ := (hW.1 a h0 han).1.1 _ (by rw [ht]; exact hc)
  obtain ⟨hS9, hfc, kC, hkC, hkind⟩ := hK.1 t _ hc
  obtain ⟨cf, kf, fi, f9, hi, hsl⟩ := hS9 f hf
  have hi2 := hi
  dsimp only at hi2
  rw [hdc f hf] at hi2
  have hlay := hts _ (hin _ (u_in_lay hf))
  unfold u_lay at hlay
  rw [if_neg (by rw [hfin]; decide)] at hlay
  show W _ _ _ _ _ _ _ _ _ _ _ _ _ _ _ (F0 m pc ls (mw_v ad (.long x) :: mw_r ad a :: st.map (mw_v ad)))
  rw [mw_r_pos h0]
  refine W.putK hx hb (f := f9) ⟨hown, hts _ hlk9, ⟨_, _, _, hi2⟩, (u_facts hfc hkC (u_lays hts hin hf) hi).1⟩ (by rw [q2, ht]; exact u_store hfc hkC hkind hlay hi hpt (by rfl) (by rfl)) q1 q3 (by rw [hsl]; exact k2_hasslot (by have h4 := q4 f hf; rw [ht] at h4; exact h4)) rfl rfl d fun H1 e1 e2 e3 => ?_
  rw [hsl] at e1 ⊢
  subst hM
  rw [ht] at q2 q4
  refine kk ad H1 _ ls (hW.upd h0 han e3 (mw_putOB ht h9 hc q2 q3 q4 hf hap e1 ?_ ?_) (fun k9 hk9 => mw_eq.sl hk9)) hX (hS.put e2 e3 (hW.1 a h0 han).2) hl
  · rw [hkd]
    first | (simp only [mw_fv_0, mI_sI, and_self, if_true]; rfl) | (simp only [mw_fv_1, mL_sL, and_self, if_true]; rfl) | (simp only [mw_fv_2, mP_sP, and_self, if_true]; rfl)
  · intro j c9 hj
    first | exact mw_fv_si hj | exact mw_fv_sl hj | exact mw_fv_sp hj
theorem jr_putO (hC : mw_C G l R Y cc own) {i t f a : Nat} {x : Nat} {D9 : String} {M1 : mw_M} (hF : mw_FP own i t f 2 (.object D9) false) (his : mw_is n a t) (hM : M1 = sP M a f x) (d : decode cc pc = .ok (.putfield i, 3)) (kk : mw_J Y k sl n M1 (pc + 3) L st) : mw_J Y k sl n M pc L (.ref x :: .ref a :: st) := by
  obtain ⟨G1, p, l1, e, R1, s, m, args, below, meth, c, nL, Q, ad0, n0⟩ := Y
  obtain ⟨⟨hx, hb, hml, hown, hts⟩, hK, hE, hnt, hlk, rfl, rfl, rfl⟩ := hC
  obtain ⟨C, T, N, ⟨hc, hin, ⟨ty0, hty⟩, hnm, hdc⟩, hf, hkd, hlk9, hpt, hfin⟩ := hF
  obtain ⟨ht, h0, han⟩ := his
  have h9 : t < 9 := (List.getElem?_eq_some_iff.mp hc).1
  intro ad H locs ls hW hX hS hl
  have hap := va_apart (own := own) hts hin ty0 hty hnm hK hc
  obtain ⟨cell, q1, q2, q3, q4⟩ := (hW.1 a h0 han).1.1 _ (by rw [ht]; exact hc)
  obtain ⟨hS9, hfc, kC, hkC, hkind⟩ := hK.1 t _ hc
  obtain ⟨cf, kf, fi, f9, hi, hsl⟩ := hS9 f hf
  have hi2 := hi
  dsimp only at hi2
  rw [hdc f hf] at hi2
  have hlay := hts _ (hin _ (u_in_lay hf))
  unfold u_lay at hlay
  rw [if_neg (by rw [hfin]; decide)] at hlay
  show W _ _ _ _ _ _ _ _ _ _ _ _ _ _ _ (F0 m pc ls (mw_v ad (.ref x) :: mw_r ad a :: st.map (mw_v ad)))
  rw [mw_r_pos h0]
  refine W.putK hx hb (f := f9) ⟨hown, hts _ hlk9, ⟨_, _, _, hi2⟩, (u_facts hfc hkC (u_lays hts hin hf) hi).1⟩ (by rw [q2, ht]; exact u_store hfc hkC hkind hlay hi hpt mw_ref_nar mw_ref_fit) q1 q3 (by rw [hsl]; exact k2_hasslot (by have h4 := q4 f hf; rw [ht] at h4; exact h4)) rfl rfl d fun H1 e1 e2 e3 => ?_
  rw [hsl] at e1 ⊢
  subst hM
  rw [ht] at q2 q4
  refine kk ad H1 _ ls (hW.upd h0 han e3 (mw_putOB ht h9 hc q2 q3 q4 hf hap e1 ?_ ?_) (fun k9 hk9 => mw_eq.sp hk9)) hX (hS.put e2 e3 (hW.1 a h0 han).2) hl
  · rw [hkd]
    first | (simp only [mw_fv_0, mI_sI, and_self, if_true]; rfl) | (simp only [mw_fv_1, mL_sL, and_self, if_true]; rfl) | (simp only [mw_fv_2, mP_sP, and_self, if_true]; rfl)
  · intro j c9 hj
    first | exact mw_fv_si hj | exact mw_fv_sl hj | exact mw_fv_sp hj
theorem jr_putA (hC : mw_C G l R Y cc own) {i t f a : Nat} {x : Nat} {D9 : FieldType} {M1 : mw_M} (hF : mw_FP own i t f 2 (.array D9) false) (his : mw_is n a t) (hM : M1 = sP M a f x) (d : decode cc pc = .ok (.putfield i, 3)) (kk : mw_J Y k sl n M1 (pc + 3) L st) : mw_J Y k sl n M pc L (.ref x :: .ref a :: st) := by
  obtain ⟨G1, p, l1, e, R1, s, m, args, below, meth, c, nL, Q, ad0, n0⟩ := Y
  obtain ⟨⟨hx, hb, hml, hown, hts⟩, hK, hE, hnt, hlk, rfl, rfl, rfl⟩ := hC
  obtain ⟨C, T, N, ⟨hc, hin, ⟨ty0, hty⟩, hnm, hdc⟩, hf, hkd, hlk9, hpt, hfin⟩ := hF
  obtain ⟨ht, h0, han⟩ := his
  have h9 : t < 9 := (List.getElem?_eq_some_iff.mp hc).1
  intro ad H locs ls hW hX hS hl
  have hap := va_apart (own := own) hts hin ty0 hty hnm hK hc
  obtain ⟨cell, q1, q2, q3, q4⟩ := (hW.1 a h0 han).1.1 _ (by rw [ht]; exact hc)
  obtain ⟨hS9, hfc, kC, hkC, hkind⟩ := hK.1 t _ hc
  obtain ⟨cf, kf, fi, f9, hi, hsl⟩ := hS9 f hf
  have hi2 := hi
  dsimp only at hi2
  rw [hdc f hf] at hi2
  have hlay := hts _ (hin _ (u_in_lay hf))
  unfold u_lay at hlay
  rw [if_neg (by rw [hfin]; decide)] at hlay
  show W _ _ _ _ _ _ _ _ _ _ _ _ _ _ _ (F0 m pc ls (mw_v ad (.ref x) :: mw_r ad a :: st.map (mw_v ad)))
  rw [mw_r_pos h0]
  refine W.putK hx hb (f := f9) ⟨hown, hts _ hlk9, ⟨_, _, _, hi2⟩, (u_facts hfc hkC (u_lays hts hin hf) hi).1⟩ (by rw [q2, ht]; exact u_store hfc hkC hkind hlay hi hpt mw_arr_nar mw_arr_fit) q1 q3 (by rw [hsl]; exact k2_hasslot (by have h4 := q4 f hf; rw [ht] at h4; exact h4)) rfl rfl d fun H1 e1 e2 e3 => ?_
  rw [hsl] at e1 ⊢
  subst hM
  rw [ht] at q2 q4
  refine kk ad H1 _ ls (hW.upd h0 han e3 (mw_putOB ht h9 hc q2 q3 q4 hf hap e1 ?_ ?_) (fun k9 hk9 => mw_eq.sp hk9)) hX (hS.put e2 e3 (hW.1 a h0 han).2) hl
  · rw [hkd]
    first | (simp only [mw_fv_0, mI_sI, and_self, if_true]; rfl) | (simp only [mw_fv_1, mL_sL, and_self, if_true]; rfl) | (simp only [mw_fv_2, mP_sP, and_self, if_true]; rfl)
  · intro j c9 hj
    first | exact mw_fv_si hj | exact mw_fv_sl hj | exact mw_fv_sp hj
theorem jr_putIF (hC : mw_C G l R Y cc own) {i t f a : Nat} {x : Int32} {M1 : mw_M} (hF : mw_FP own i t f 0 (.int) true) (his : mw_is n a t) (hin9 : mw_init Y) (hdc9 : mw_own t own) (hM : M1 = sI M a f x) (d : decode cc pc = .ok (.putfield i, 3)) (kk : mw_J Y k sl n M1 (pc + 3) L st) : mw_J Y k sl n M pc L (.int x :: .ref a :: st) := by
  obtain ⟨G1, p, l1, e, R1, s, m, args, below, meth, c, nL, Q, ad0, n0⟩ := Y
  obtain ⟨⟨hx, hb, hml, hown, hts⟩, hK, hE, hnt, hlk, rfl, rfl, rfl⟩ := hC
  obtain ⟨C, T, N, ⟨hc, hin, ⟨ty0, hty⟩, hnm, hdc⟩, hf, hkd, hlk9, hpt, hfin⟩ := hF
  obtain ⟨ht, h0, han⟩ := his
  have h9 : t < 9 := (List.getElem?_eq_some_iff.mp hc).1
  intro ad H locs ls hW hX hS hl
  have hap := va_apart (own := own) hts hin ty0 hty hnm hK hc
  obtain ⟨cell, q1, q2, q3, q4⟩ := (hW.1 a h0 han).1.1 _ (by rw [ht]; exact hc)
  obtain ⟨hS9, hfc, kC, hkC, hkind⟩ := hK.1 t _ hc
  obtain ⟨cf, kf, fi, f9, hi, hsl⟩ := hS9 f hf
  have hi2 := hi
  dsimp only at hi2
  rw [hdc f hf] at hi2
  have hlay := hts _ (hin _ (u_in_lay hf))
  unfold u_lay at hlay
  rw [if_pos hfin] at hlay
  show W _ _ _ _ _ _ _ _ _ _ _ _ _ _ _ (F0 m pc ls (mw_v ad (.int x) :: mw_r ad a :: st.map (mw_v ad)))
  rw [mw_r_pos h0]
  have hcf : m.cls = cf := by
    obtain ⟨_, _, c9, _, _, _, -, -, hf9, -, -, -, hown2, -⟩ := Cond.laysFinal_spec hlay
    have e1 : c9 = cf := by have := hi.symm.trans hf9; simp at this; exact this.1.symm
    try dsimp only at hown2
    rw [hdc f hf, hdc9 C T N hc] at hown2
    rw [← e1]; exact Option.some.inj (hown.symm.trans hown2)
  refine W.putFinK hx hb hown (hts _ hlk9) hi2 (u_facts hfc hkC (u_lays hts hin hf) hi).1 hcf hin9 (by rw [q2, ht]; exact u_fits hfc hkC hkind (u_lays hts hin hf) hi hpt (by rfl) (by rfl)) q1 q3 (by rw [hsl]; exact k2_hasslot (by have h4 := q4 f hf; rw [ht] at h4; exact h4)) rfl rfl d fun H1 e1 e2 e3 => ?_
  rw [hsl] at e1 ⊢
  subst hM
  rw [ht] at q2 q4
  refine kk ad H1 _ ls (hW.upd h0 han e3 (mw_putOB ht h9 hc q2 q3 q4 hf hap e1 ?_ ?_) (fun k9 hk9 => mw_eq.si hk9)) hX (hS.put e2 e3 (hW.1 a h0 han).2) hl
  · rw [hkd]
    first | (simp only [mw_fv_0, mI_sI, and_self, if_true]; rfl) | (simp only [mw_fv_1, mL_sL, and_self, if_true]; rfl) | (simp only [mw_fv_2, mP_sP, and_self, if_true]; rfl)
  · intro j c9 hj
    first | exact mw_fv_si hj | exact mw_fv_sl hj | exact mw_fv_sp hj
theorem jr_putZF (hC : mw_C G l R Y cc own) {i t f a : Nat} {x : Int32} {M1 : mw_M} (hF : mw_FP own i t f 0 (.boolean) true) (his : mw_is n a t) (hin9 : mw_init Y) (hdc9 : mw_own t own) (h01 : mw_b01 x) (hM : M1 = sI M a f x) (d : decode cc pc = .ok (.putfield i, 3)) (kk : mw_J Y k sl n M1 (pc + 3) L st) : mw_J Y k sl n M pc L (.int x :: .ref a :: st) := by
  obtain ⟨G1, p, l1, e, R1, s, m, args, below, meth, c, nL, Q, ad0, n0⟩ := Y
  obtain ⟨⟨hx, hb, hml, hown, hts⟩, hK, hE, hnt, hlk, rfl, rfl, rfl⟩ := hC
  obtain ⟨C, T, N, ⟨hc, hin, ⟨ty0, hty⟩, hnm, hdc⟩, hf, hkd, hlk9, hpt, hfin⟩ := hF
  obtain ⟨ht, h0, han⟩ := his
  have h9 : t < 9 := (List.getElem?_eq_some_iff.mp hc).1
  intro ad H locs ls hW hX hS hl
  have hap := va_apart (own := own) hts hin ty0 hty hnm hK hc
  obtain ⟨cell, q1, q2, q3, q4⟩ := (hW.1 a h0 han).1.1 _ (by rw [ht]; exact hc)
  obtain ⟨hS9, hfc, kC, hkC, hkind⟩ := hK.1 t _ hc
  obtain ⟨cf, kf, fi, f9, hi, hsl⟩ := hS9 f hf
  have hi2 := hi
  dsimp only at hi2
  rw [hdc f hf] at hi2
  have hlay := hts _ (hin _ (u_in_lay hf))
  unfold u_lay at hlay
  rw [if_pos hfin] at hlay
  show W _ _ _ _ _ _ _ _ _ _ _ _ _ _ _ (F0 m pc ls (mw_v ad (.int x) :: mw_r ad a :: st.map (mw_v ad)))
  rw [mw_r_pos h0]
  have hcf : m.cls = cf := by
    obtain ⟨_, _, c9, _, _, _, -, -, hf9, -, -, -, hown2, -⟩ := Cond.laysFinal_spec hlay
    have e1 : c9 = cf := by have := hi.symm.trans hf9; simp at this; exact this.1.symm
    try dsimp only at hown2
    rw [hdc f hf, hdc9 C T N hc] at hown2
    rw [← e1]; exact Option.some.inj (hown.symm.trans hown2)
  refine W.putFinK hx hb hown (hts _ hlk9) hi2 (u_facts hfc hkC (u_lays hts hin hf) hi).1 hcf hin9 (by rw [q2, ht]; exact u_fits hfc hkC hkind (u_lays hts hin hf) hi hpt (mw_b01_nar h01) (mw_b01_fit h01)) q1 q3 (by rw [hsl]; exact k2_hasslot (by have h4 := q4 f hf; rw [ht] at h4; exact h4)) rfl rfl d fun H1 e1 e2 e3 => ?_
  rw [hsl] at e1 ⊢
  subst hM
  rw [ht] at q2 q4
  refine kk ad H1 _ ls (hW.upd h0 han e3 (mw_putOB ht h9 hc q2 q3 q4 hf hap e1 ?_ ?_) (fun k9 hk9 => mw_eq.si hk9)) hX (hS.put e2 e3 (hW.1 a h0 han).2) hl
  · rw [hkd]
    first | (simp only [mw_fv_0, mI_sI, and_self, if_true]; rfl) | (simp only [mw_fv_1, mL_sL, and_self, if_true]; rfl) | (simp only [mw_fv_2, mP_sP, and_self, if_true]; rfl)
  · intro j c9 hj
    first | exact mw_fv_si hj | exact mw_fv_sl hj | exact mw_fv_sp hj
theorem jr_putLF (hC : mw_C G l R Y cc own) {i t f a : Nat} {x : Int64} {M1 : mw_M} (hF : mw_FP own i t f 1 (.long) true) (his : mw_is n a t) (hin9 : mw_init Y) (hdc9 : mw_own t own) (hM : M1 = sL M a f x) (d : decode cc pc = .ok (.putfield i, 3)) (kk : mw_J Y k sl n M1 (pc + 3) L st) : mw_J Y k sl n M pc L (.long x :: .ref a :: st) := by
  obtain ⟨G1, p, l1, e, R1, s, m, args, below, meth, c, nL, Q, ad0, n0⟩ := Y
  obtain ⟨⟨hx, hb, hml, hown, hts⟩, hK, hE, hnt, hlk, rfl, rfl, rfl⟩ := hC
  obtain ⟨C, T, N, ⟨hc, hin, ⟨ty0, hty⟩, hnm, hdc⟩, hf, hkd, hlk9, hpt, hfin⟩ := hF
  obtain ⟨ht, h0, han⟩ := his
  have h9 : t < 9 := (List.getElem?_eq_some_iff.mp hc).1
  intro ad H locs ls hW hX hS hl
  have hap := va_apart (own := own) hts hin ty0 hty hnm hK hc
  obtain ⟨cell, q1, q2, q3, q4⟩ := (hW.1 a h0 han).1.1 _ (by rw [ht]; exact hc)
  obtain ⟨hS9, hfc, kC, hkC, hkind⟩ := hK.1 t _ hc
  obtain ⟨cf, kf, fi, f9, hi, hsl⟩ := hS9 f hf
  have hi2 := hi
  dsimp only at hi2
  rw [hdc f hf] at hi2
  have hlay := hts _ (hin _ (u_in_lay hf))
  unfold u_lay at hlay
  rw [if_pos hfin] at hlay
  show W _ _ _ _ _ _ _ _ _ _ _ _ _ _ _ (F0 m pc ls (mw_v ad (.long x) :: mw_r ad a :: st.map (mw_v ad)))
  rw [mw_r_pos h0]
  have hcf : m.cls = cf := by
    obtain ⟨_, _, c9, _, _, _, -, -, hf9, -, -, -, hown2, -⟩ := Cond.laysFinal_spec hlay
    have e1 : c9 = cf := by have := hi.symm.trans hf9; simp at this; exact this.1.symm
    try dsimp only at hown2
    rw [hdc f hf, hdc9 C T N hc] at hown2
    rw [← e1]; exact Option.some.inj (hown.symm.trans hown2)
  refine W.putFinK hx hb hown (hts _ hlk9) hi2 (u_facts hfc hkC (u_lays hts hin hf) hi).1 hcf hin9 (by rw [q2, ht]; exact u_fits hfc hkC hkind (u_lays hts hin hf) hi hpt (by rfl) (by rfl)) q1 q3 (by rw [hsl]; exact k2_hasslot (by have h4 := q4 f hf; rw [ht] at h4; exact h4)) rfl rfl d fun H1 e1 e2 e3 => ?_
  rw [hsl] at e1 ⊢
  subst hM
  rw [ht] at q2 q4
  refine kk ad H1 _ ls (hW.upd h0 han e3 (mw_putOB ht h9 hc q2 q3 q4 hf hap e1 ?_ ?_) (fun k9 hk9 => mw_eq.sl hk9)) hX (hS.put e2 e3 (hW.1 a h0 han).2) hl
  · rw [hkd]
    first | (simp only [mw_fv_0, mI_sI, and_self, if_true]; rfl) | (simp only [mw_fv_1, mL_sL, and_self, if_true]; rfl) | (simp only [mw_fv_2, mP_sP, and_self, if_true]; rfl)
  · intro j c9 hj
    first | exact mw_fv_si hj | exact mw_fv_sl hj | exact mw_fv_sp hj
theorem jr_putOF (hC : mw_C G l R Y cc own) {i t f a : Nat} {x : Nat} {D9 : String} {M1 : mw_M} (hF : mw_FP own i t f 2 (.object D9) true) (his : mw_is n a t) (hin9 : mw_init Y) (hdc9 : mw_own t own) (hM : M1 = sP M a f x) (d : decode cc pc = .ok (.putfield i, 3)) (kk : mw_J Y k sl n M1 (pc + 3) L st) : mw_J Y k sl n M pc L (.ref x :: .ref a :: st) := by
  obtain ⟨G1, p, l1, e, R1, s, m, args, below, meth, c, nL, Q, ad0, n0⟩ := Y
  obtain ⟨⟨hx, hb, hml, hown, hts⟩, hK, hE, hnt, hlk, rfl, rfl, rfl⟩ := hC
  obtain ⟨C, T, N, ⟨hc, hin, ⟨ty0, hty⟩, hnm, hdc⟩, hf, hkd, hlk9, hpt, hfin⟩ := hF
  obtain ⟨ht, h0, han⟩ := his
  have h9 : t < 9 := (List.getElem?_eq_some_iff.mp hc).1
  intro ad H locs ls hW hX hS hl
  have hap := va_apart (own := own) hts hin ty0 hty hnm hK hc
  obtain ⟨cell, q1, q2, q3, q4⟩ := (hW.1 a h0 han).1.1 _ (by rw [ht]; exact hc)
  obtain ⟨hS9, hfc, kC, hkC, hkind⟩ := hK.1 t _ hc
  obtain ⟨cf, kf, fi, f9, hi, hsl⟩ := hS9 f hf
  have hi2 := hi
  dsimp only at hi2
  rw [hdc f hf] at hi2
  have hlay := hts _ (hin _ (u_in_lay hf))
  unfold u_lay at hlay
  rw [if_pos hfin] at hlay
  show W _ _ _ _ _ _ _ _ _ _ _ _ _ _ _ (F0 m pc ls (mw_v ad (.ref x) :: mw_r ad a :: st.map (mw_v ad)))
  rw [mw_r_pos h0]
  have hcf : m.cls = cf := by
    obtain ⟨_, _, c9, _, _, _, -, -, hf9, -, -, -, hown2, -⟩ := Cond.laysFinal_spec hlay
    have e1 : c9 = cf := by have := hi.symm.trans hf9; simp at this; exact this.1.symm
    try dsimp only at hown2
    rw [hdc f hf, hdc9 C T N hc] at hown2
    rw [← e1]; exact Option.some.inj (hown.symm.trans hown2)
  refine W.putFinK hx hb hown (hts _ hlk9) hi2 (u_facts hfc hkC (u_lays hts hin hf) hi).1 hcf hin9 (by rw [q2, ht]; exact u_fits hfc hkC hkind (u_lays hts hin hf) hi hpt mw_ref_nar mw_ref_fit) q1 q3 (by rw [hsl]; exact k2_hasslot (by have h4 := q4 f hf; rw [ht] at h4; exact h4)) rfl rfl d fun H1 e1 e2 e3 => ?_
  rw [hsl] at e1 ⊢
  subst hM
  rw [ht] at q2 q4
  refine kk ad H1 _ ls (hW.upd h0 han e3 (mw_putOB ht h9 hc q2 q3 q4 hf hap e1 ?_ ?_) (fun k9 hk9 => mw_eq.sp hk9)) hX (hS.put e2 e3 (hW.1 a h0 han).2) hl
  · rw [hkd]
    first | (simp only [mw_fv_0, mI_sI, and_self, if_true]; rfl) | (simp only [mw_fv_1, mL_sL, and_self, if_true]; rfl) | (simp only [mw_fv_2, mP_sP, and_self, if_true]; rfl)
  · intro j c9 hj
    first | exact mw_fv_si hj | exact mw_fv_sl hj | exact mw_fv_sp hj
theorem jr_putAF (hC : mw_C G l R Y cc own) {i t f a : Nat} {x : Nat} {D9 : FieldType} {M1 : mw_M} (hF : mw_FP own i t f 2 (.array D9) true) (his : mw_is n a t) (hin9 : mw_init Y) (hdc9 : mw_own t own) (hM : M1 = sP M a f x) (d : decode cc pc = .ok (.putfield i, 3)) (kk : mw_J Y k sl n M1 (pc + 3) L st) : mw_J Y k sl n M pc L (.ref x :: .ref a :: st) := by
  obtain ⟨G1, p, l1, e, R1, s, m, args, below, meth, c, nL, Q, ad0, n0⟩ := Y
  obtain ⟨⟨hx, hb, hml, hown, hts⟩, hK, hE, hnt, hlk, rfl, rfl, rfl⟩ := hC
  obtain ⟨C, T, N, ⟨hc, hin, ⟨ty0, hty⟩, hnm, hdc⟩, hf, hkd, hlk9, hpt, hfin⟩ := hF
  obtain ⟨ht, h0, han⟩ := his
  have h9 : t < 9 := (List.getElem?_eq_some_iff.mp hc).1
  intro ad H locs ls hW hX hS hl
  have hap := va_apart (own := own) hts hin ty0 hty hnm hK hc
  obtain ⟨cell, q1, q2, q3, q4⟩ := (hW.1 a h0 han).1.1 _ (by rw [ht]; exact hc)
  obtain ⟨hS9, hfc, kC, hkC, hkind⟩ := hK.1 t _ hc
  obtain ⟨cf, kf, fi, f9, hi, hsl⟩ := hS9 f hf
  have hi2 := hi
  dsimp only at hi2
  rw [hdc f hf] at hi2
  have hlay := hts _ (hin _ (u_in_lay hf))
  unfold u_lay at hlay
  rw [if_pos hfin] at hlay
  show W _ _ _ _ _ _ _ _ _ _ _ _ _ _ _ (F0 m pc ls (mw_v ad (.ref x) :: mw_r ad a :: st.map (mw_v ad)))
  rw [mw_r_pos h0]
  have hcf : m.cls = cf := by
    obtain ⟨_, _, c9, _, _, _, -, -, hf9, -, -, -, hown2, -⟩ := Cond.laysFinal_spec hlay
    have e1 : c9 = cf := by have := hi.symm.trans hf9; simp at this; exact this.1.symm
    try dsimp only at hown2
    rw [hdc f hf, hdc9 C T N hc] at hown2
    rw [← e1]; exact Option.some.inj (hown.symm.trans hown2)
  refine W.putFinK hx hb hown (hts _ hlk9) hi2 (u_facts hfc hkC (u_lays hts hin hf) hi).1 hcf hin9 (by rw [q2, ht]; exact u_fits hfc hkC hkind (u_lays hts hin hf) hi hpt mw_arr_nar mw_arr_fit) q1 q3 (by rw [hsl]; exact k2_hasslot (by have h4 := q4 f hf; rw [ht] at h4; exact h4)) rfl rfl d fun H1 e1 e2 e3 => ?_
  rw [hsl] at e1 ⊢
  subst hM
  rw [ht] at q2 q4
  refine kk ad H1 _ ls (hW.upd h0 han e3 (mw_putOB ht h9 hc q2 q3 q4 hf hap e1 ?_ ?_) (fun k9 hk9 => mw_eq.sp hk9)) hX (hS.put e2 e3 (hW.1 a h0 han).2) hl
  · rw [hkd]
    first | (simp only [mw_fv_0, mI_sI, and_self, if_true]; rfl) | (simp only [mw_fv_1, mL_sL, and_self, if_true]; rfl) | (simp only [mw_fv_2, mP_sP, and_self, if_true]; rfl)
  · intro j c9 hj
    first | exact mw_fv_si hj | exact mw_fv_sl hj | exact mw_fv_sp hj
theorem jr_iald (hC : mw_C G l R Y cc own) {a : Nat} {i : Int32} (his : mw_is n a 10) (hin : vp_in i (Ln a)) (d : decode cc pc = .ok (.iaload, 1)) (kk : mw_J Y k sl n M (pc + 1) L (.int (mI M a i.toNatClampNeg) :: st)) : mw_J Y k sl n M pc L (.int i :: .ref a :: st) := by
  obtain ⟨G1, p, l1, e, R1, s, m, args, below, meth, c, nL, Q, ad0, n0⟩ := Y
  obtain ⟨⟨hx, hb, hml, hown, hts⟩, hK, hE, hnt, hlk, rfl, rfl, rfl⟩ := hC
  obtain ⟨ht, h0, han⟩ := his
  intro ad H locs ls hW hX hS hl
  have hcell := (hW.1 a h0 han).1.2.1 (by rw [ht]; decide) (by rw [ht]; decide)
  rw [ht] at hcell
  have hlt : i.toNatClampNeg < Ln a := Nat.not_le.mp fun q => hin (Or.inr q)
  show W _ _ _ _ _ _ _ _ _ _ _ _ _ _ _ (F0 m pc ls (.int i :: mw_r ad a :: st.map (mw_v ad)))
  rw [mw_r_pos h0]
  exact W.iald (v := .int (mI M a i.toNatClampNeg)) hx hb hcell ((hK.2 (10 - 10) _ (mw_tys_at G1 (t := 10) (by decide) (by decide))).1 _ _) (fun q => by cases q) (by rw [arrV_size]; exact hin) (by rw [arrV_read _ _ hlt]; rfl) rfl rfl d (kk ad H locs ls hW hX hS hl)
theorem jr_lald (hC : mw_C G l R Y cc own) {a : Nat} {i : Int32} (his : mw_is n a 11) (hin : vp_in i (Ln a)) (d : decode cc pc = .ok (.laload, 1)) (kk : mw_J Y k sl n M (pc + 1) L (.long (mL M a i.toNatClampNeg) :: st)) : mw_J Y k sl n M pc L (.int i :: .ref a :: st) := by
  obtain ⟨G1, p, l1, e, R1, s, m, args, below, meth, c, nL, Q, ad0, n0⟩ := Y
  obtain ⟨⟨hx, hb, hml, hown, hts⟩, hK, hE, hnt, hlk, rfl, rfl, rfl⟩ := hC
  obtain ⟨ht, h0, han⟩ := his
  intro ad H locs ls hW hX hS hl
  have hcell := (hW.1 a h0 han).1.2.1 (by rw [ht]; decide) (by rw [ht]; decide)
  rw [ht] at hcell
  have hlt : i.toNatClampNeg < Ln a := Nat.not_le.mp fun q => hin (Or.inr q)
  show W _ _ _ _ _ _ _ _ _ _ _ _ _ _ _ (F0 m pc ls (.int i :: mw_r ad a :: st.map (mw_v ad)))
  rw [mw_r_pos h0]
  exact W.lald (v := .long (mL M a i.toNatClampNeg)) hx hb hcell ((hK.2 (11 - 10) _ (mw_tys_at G1 (t := 11) (by decide) (by decide))).1 _ _) (fun q => by cases q) (by rw [arrV_size]; exact hin) (by rw [arrV_read _ _ hlt]; rfl) rfl rfl d (kk ad H locs ls hW hX hS hl)
theorem jr_zald (hC : mw_C G l R Y cc own) {a : Nat} {i : Int32} (his : mw_is n a 12) (hin : vp_in i (Ln a)) (d : decode cc pc = .ok (.baload, 1)) (kk : mw_J Y k sl n M (pc + 1) L (.int (mI M a i.toNatClampNeg) :: st)) : mw_J Y k sl n M pc L (.int i :: .ref a :: st) := by
  obtain ⟨G1, p, l1, e, R1, s, m, args, below, meth, c, nL, Q, ad0, n0⟩ := Y
  obtain ⟨⟨hx, hb, hml, hown, hts⟩, hK, hE, hnt, hlk, rfl, rfl, rfl⟩ := hC
  obtain ⟨ht, h0, han⟩ := his
  intro ad H locs ls hW hX hS hl
  have hcell := (hW.1 a h0 han).1.2.1 (by rw [ht]; decide) (by rw [ht]; decide)
  rw [ht] at hcell
  have hlt : i.toNatClampNeg < Ln a := Nat.not_le.mp fun q => hin (Or.inr q)
  show W _ _ _ _ _ _ _ _ _ _ _ _ _ _ _ (F0 m pc ls (.int i :: mw_r ad a :: st.map (mw_v ad)))
  rw [mw_r_pos h0]
  exact W.zald (v := .int (mI M a i.toNatClampNeg)) hx hb hcell ((hK.2 (12 - 10) _ (mw_tys_at G1 (t := 12) (by decide) (by decide))).1 _ _) (fun q => by cases q) (by rw [arrV_size]; exact hin) (by rw [arrV_read _ _ hlt]; rfl) rfl rfl d (kk ad H locs ls hW hX hS hl)
theorem jr_aald (hC : mw_C G l R Y cc own) {a t : Nat} {i : Int32} (h13 : 13 ≤ t) (h18 : t < 18) (his : mw_is n a t) (hin : vp_in i (Ln a)) (d : decode cc pc = .ok (.aaload, 1)) (kk : mw_J Y k sl n M (pc + 1) L (.ref (mP M a i.toNatClampNeg) :: st)) : mw_J Y k sl n M pc L (.int i :: .ref a :: st) := by
  obtain ⟨G1, p, l1, e, R1, s, m, args, below, meth, c, nL, Q, ad0, n0⟩ := Y
  obtain ⟨⟨hx, hb, hml, hown, hts⟩, hK, hE, hnt, hlk, rfl, rfl, rfl⟩ := hC
  obtain ⟨ht, h0, han⟩ := his
  intro ad H locs ls hW hX hS hl
  have hcell := (hW.1 a h0 han).1.2.1 (by rw [ht]; omega) (by rw [ht]; omega)
  rw [ht] at hcell
  have hlt : i.toNatClampNeg < Ln a := Nat.not_le.mp fun q => hin (Or.inr q)
  have hak : mw_ak t = 2 := by unfold mw_ak; rw [if_neg (by omega), if_neg (by omega)]
  have hrt : (mw_ty t).isReference = true := by
    rcases (show t = 13 ∨ t = 14 ∨ t = 15 ∨ t = 16 ∨ t = 17 by omega) with rfl | rfl | rfl | rfl | rfl <;> rfl
  show W _ _ _ _ _ _ _ _ _ _ _ _ _ _ _ (F0 m pc ls (.int i :: mw_r ad a :: st.map (mw_v ad)))
  rw [mw_r_pos h0]
  exact W.aald (v := mw_r ad (mP M a i.toNatClampNeg)) (ty := mw_ty t) hx hb hcell ((hK.2 (t - 10) _ (mw_tys_at G1 (t := t) (by omega) h18)).1 _ _) hrt (fun q => by cases q) (by rw [arrV_size]; exact hin) (by rw [arrV_read _ _ hlt, hak]; rfl) rfl rfl d (kk ad H locs ls hW hX hS hl)
theorem jr_alen (hC : mw_C G l R Y cc own) {a t : Nat} (h10 : 10 ≤ t) (h18 : t < 18) (his : mw_is n a t) (d : decode cc pc = .ok (.arraylength, 1)) (kk : mw_J Y k sl n M (pc + 1) L (.int (nI (Ln a)) :: st)) : mw_J Y k sl n M pc L (.ref a :: st) := by
  obtain ⟨G1, p, l1, e, R1, s, m, args, below, meth, c, nL, Q, ad0, n0⟩ := Y
  obtain ⟨⟨hx, hb, hml, hown, hts⟩, hK, hE, hnt, hlk, rfl, rfl, rfl⟩ := hC
  obtain ⟨ht, h0, han⟩ := his
  intro ad H locs ls hW hX hS hl
  have hcell := (hW.1 a h0 han).1.2.1 (by rw [ht]; omega) (by rw [ht]; omega)
  rw [ht] at hcell
  show W _ _ _ _ _ _ _ _ _ _ _ _ _ _ _ (F0 m pc ls (mw_r ad a :: st.map (mw_v ad)))
  rw [mw_r_pos h0]
  exact W.alen (n := nI (Ln a)) hx hb hcell ((hK.2 (t - 10) _ (mw_tys_at G1 (t := t) h10 h18)).1 _ _) (by rw [arrV_size]; rfl) rfl rfl d (kk ad H locs ls hW hX hS hl)
/-- a place of an array written -/
theorem mw_putAR {G : mw_G} {ad : Nat → Nat} {M M1 : mw_M} {a t j0 : Nat} {H1 : Heap} {cell : Cell} {v : Value} (ht : Tg a = t) (h10 : 10 ≤ t) (hcell : cell = arrV (G.2.2.1 t) (Ln a) (fun j => mw_fv ad M a j (mw_ak t))) (e1 : H1[ad a]? = some (cell.setSlot j0 v))
    (hv : v = mw_fv ad M1 a j0 (mw_ak t)) (ho : ∀ j c, j ≠ j0 → mw_fv ad M1 a j c = mw_fv ad M a j c) : mw_at G ad M1 a H1 := by
  refine ⟨fun r hr => ?_, fun _ _ => ?_, (Array.getElem?_eq_some_iff.mp e1).1⟩
  · rw [ht, mw_tys_none (by omega)] at hr
    cases hr
  · rw [ht, e1, hcell, arrV_store]
    congr 2
    funext q
    by_cases e : q = j0
    · subst e
      simp [updV, hv]
    · simp only [updV, if_neg e]
      exact (ho q _ e).symm
theorem jr_iast (hC : mw_C G l R Y cc own) {a : Nat} {i : Int32} {x : Int32} {M1 : mw_M} (his : mw_is n a 10) (hin : vp_in i (Ln a)) (hM : M1 = sI M a i.toNatClampNeg x) (d : decode cc pc = .ok (.iastore, 1)) (kk : mw_J Y k sl n M1 (pc + 1) L st) : mw_J Y k sl n M pc L (.int x :: .int i :: .ref a :: st) := by
  obtain ⟨G1, p, l1, e, R1, s, m, args, below, meth, c, nL, Q, ad0, n0⟩ := Y
  obtain ⟨⟨hx, hb, hml, hown, hts⟩, hK, hE, hnt, hlk, rfl, rfl, rfl⟩ := hC
  obtain ⟨ht, h0, han⟩ := his
  intro ad H locs ls hW hX hS hl
  have hcell := (hW.1 a h0 han).1.2.1 (by rw [ht]; decide) (by rw [ht]; decide)
  rw [ht] at hcell
  show W _ _ _ _ _ _ _ _ _ _ _ _ _ _ _ (F0 m pc ls (.int x :: .int i :: mw_r ad a :: st.map (mw_v ad)))
  rw [mw_r_pos h0]
  refine W.iast hx hb hcell ((hK.2 (10 - 10) _ (mw_tys_at G1 (t := 10) (by decide) (by decide))).1 _ _) (fun q => by cases q) (by rw [arrV_size]; exact hin) rfl rfl d fun H1 e1 e2 e3 => ?_
  subst hM
  refine kk ad H1 _ ls (hW.upd h0 han e3 (mw_putAR ht (by decide) rfl e1 ?_ ?_) (fun k9 hk9 => mw_eq.si hk9)) hX (hS.put e2 e3 (hW.1 a h0 han).2) hl
  · first | (show Value.int x = Value.int (mI (sI M a _ _) a _); rw [mI_sI, if_pos ⟨rfl, rfl⟩]) | (show Value.int x = Value.long (mL (sL M a _ _) a _); rw [mL_sL, if_pos ⟨rfl, rfl⟩])
  · intro j c9 hj
    first | exact mw_fv_si hj | exact mw_fv_sl hj
theorem jr_last (hC : mw_C G l R Y cc own) {a : Nat} {i : Int32} {x : Int64} {M1 : mw_M} (his : mw_is n a 11) (hin : vp_in i (Ln a)) (hM : M1 = sL M a i.toNatClampNeg x) (d : decode cc pc = .ok (.lastore, 1)) (kk : mw_J Y k sl n M1 (pc + 1) L st) : mw_J Y k sl n M pc L (.long x :: .int i :: .ref a :: st) := by
  obtain ⟨G1, p, l1, e, R1, s, m, args, below, meth, c, nL, Q, ad0, n0⟩ := Y
  obtain ⟨⟨hx, hb, hml, hown, hts⟩, hK, hE, hnt, hlk, rfl, rfl, rfl⟩ := hC
  obtain ⟨ht, h0, han⟩ := his
  intro ad H locs ls hW hX hS hl
  have hcell := (hW.1 a h0 han).1.2.1 (by rw [ht]; decide) (by rw [ht]; decide)
  rw [ht] at hcell
  show W _ _ _ _ _ _ _ _ _ _ _ _ _ _ _ (F0 m pc ls (.long x :: .int i :: mw_r ad a :: st.map (mw_v ad)))
  rw [mw_r_pos h0]
  refine W.last hx hb hcell ((hK.2 (11 - 10) _ (mw_tys_at G1 (t := 11) (by decide) (by decide))).1 _ _) (fun q => by cases q) (by rw [arrV_size]; exact hin) rfl rfl d fun H1 e1 e2 e3 => ?_
  subst hM
  refine kk ad H1 _ ls (hW.upd h0 han e3 (mw_putAR ht (by decide) rfl e1 ?_ ?_) (fun k9 hk9 => mw_eq.sl hk9)) hX (hS.put e2 e3 (hW.1 a h0 han).2) hl
  · first | (show Value.long x = Value.int (mI (sI M a _ _) a _); rw [mI_sI, if_pos ⟨rfl, rfl⟩]) | (show Value.long x = Value.long (mL (sL M a _ _) a _); rw [mL_sL, if_pos ⟨rfl, rfl⟩])
  · intro j c9 hj
    first | exact mw_fv_si hj | exact mw_fv_sl hj
theorem jr_zast (hC : mw_C G l R Y cc own) {a : Nat} {i : Int32} {x : Int32} {M1 : mw_M} (his : mw_is n a 12) (hin : vp_in i (Ln a)) (h01 : mw_b01 x) (hM : M1 = sI M a i.toNatClampNeg x) (d : decode cc pc = .ok (.bastore, 1)) (kk : mw_J Y k sl n M1 (pc + 1) L st) : mw_J Y k sl n M pc L (.int x :: .int i :: .ref a :: st) := by
  obtain ⟨G1, p, l1, e, R1, s, m, args, below, meth, c, nL, Q, ad0, n0⟩ := Y
  obtain ⟨⟨hx, hb, hml, hown, hts⟩, hK, hE, hnt, hlk, rfl, rfl, rfl⟩ := hC
  obtain ⟨ht, h0, han⟩ := his
  intro ad H locs ls hW hX hS hl
  have hcell := (hW.1 a h0 han).1.2.1 (by rw [ht]; decide) (by rw [ht]; decide)
  rw [ht] at hcell
  show W _ _ _ _ _ _ _ _ _ _ _ _ _ _ _ (F0 m pc ls (.int x :: .int i :: mw_r ad a :: st.map (mw_v ad)))
  rw [mw_r_pos h0]
  refine W.zast hx hb hcell ((hK.2 (12 - 10) _ (mw_tys_at G1 (t := 12) (by decide) (by decide))).1 _ _) (fun q => by cases q) (by rw [arrV_size]; exact hin) rfl rfl d fun H1 e1 e2 e3 => ?_
  rw [mw_b01_nar h01] at e1
  subst hM
  refine kk ad H1 _ ls (hW.upd h0 han e3 (mw_putAR ht (by decide) rfl e1 ?_ ?_) (fun k9 hk9 => mw_eq.si hk9)) hX (hS.put e2 e3 (hW.1 a h0 han).2) hl
  · first | (show Value.int x = Value.int (mI (sI M a _ _) a _); rw [mI_sI, if_pos ⟨rfl, rfl⟩]) | (show Value.int x = Value.long (mL (sL M a _ _) a _); rw [mL_sL, if_pos ⟨rfl, rfl⟩])
  · intro j c9 hj
    first | exact mw_fv_si hj | exact mw_fv_sl hj
theorem jr_aast (hC : mw_C G l R Y cc own) {a t x tc : Nat} {i : Int32} {C9 : String} {T9 : u_T} {N9 : Nat} {M1 : mw_M} (h13 : 13 ≤ t) (h18 : t < 18) (hct : mw_cl[tc]? = some (C9, T9, N9)) (hty : mw_ty t = .object C9) (his : mw_is n a t) (hix : mw_is n x tc) (hin : vp_in i (Ln a)) (hM : M1 = sP M a i.toNatClampNeg x) (d : decode cc pc = .ok (.aastore, 1)) (kk : mw_J Y k sl n M1 (pc + 1) L st) : mw_J Y k sl n M pc L (.ref x :: .int i :: .ref a :: st) := by
  obtain ⟨G1, p, l1, e, R1, s, m, args, below, meth, c, nL, Q, ad0, n0⟩ := Y
  obtain ⟨⟨hx, hb, hml, hown, hts⟩, hK, hE, hnt, hlk, rfl, rfl, rfl⟩ := hC
  obtain ⟨ht, h0, han⟩ := his
  obtain ⟨htx, h0x, hxn⟩ := hix
  intro ad H locs ls hW hX hS hl
  have hcell := (hW.1 a h0 han).1.2.1 (by rw [ht]; omega) (by rw [ht]; omega)
  rw [ht] at hcell
  have hlt : i.toNatClampNeg < Ln a := Nat.not_le.mp fun q => hin (Or.inr q)
  have hi0 : ¬ i < 0 := fun q => hin (Or.inl q)
  have hak : mw_ak t = 2 := by unfold mw_ak; rw [if_neg (by omega), if_neg (by omega)]
  obtain ⟨cellV, g1, g2, g3, -⟩ := (hW.1 x h0x hxn).1.1 _ (by rw [htx]; exact hct)
  have hra := (hK.2 (t - 10) _ (mw_tys_at G1 (t := t) (by omega) h18)).2
  dsimp only at hra
  rw [hty] at hra
  obtain ⟨kA, comp, k1, k2, k3, -⟩ := hra
  have hcls := (hK.1 tc _ hct).2
  have hcomp : comp = G1.1 tc := Option.some.inj (k3.symm.trans hcls.1)
  subst hcomp
  obtain ⟨kC, hkC, -⟩ := hcls.2
  rw [htx] at g2
  show W _ _ _ _ _ _ _ _ _ _ _ _ _ _ _ (F0 m pc ls (mw_r ad x :: .int i :: mw_r ad a :: st.map (mw_v ad)))
  rw [mw_r_pos h0, mw_r_pos h0x]
  refine W.aast hx hb hcell (fun q h => by cases h) (fun h => by cases h) k1 k2 rfl hkC ⟨hi0, by rw [arrV_size]; exact hlt⟩ g1 (fun q h => by rw [g3] at h; cases h) (by rw [g2]; exact hkC) (by rw [g2]; exact va_assign hcls) rfl rfl d fun H1 e1 e2 e3 => ?_
  subst hM
  refine kk ad H1 _ ls (hW.upd h0 han e3 (mw_putAR ht (by omega) rfl e1 ?_ ?_) (fun k9 hk9 => mw_eq.sp hk9)) hX (hS.put e2 e3 (hW.1 a h0 han).2) hl
  · rw [hak, mw_fv_2, mP_sP, if_pos ⟨rfl, rfl⟩, mw_r_pos h0x]
  · intro j c9 hj
    exact mw_fv_sp hj
theorem jr_ireti (hC : mw_C G l R Y cc own) {x : Int32} {P : Nat → mw_M → Option Value → Prop} {X : mw_M → String → Prop} {mc ms : Nat} (hZ : mw_Z P X mc ms (some .int) Y) (hk : k ≤ mc) (hs : sl ≤ ms) (d : decode cc pc = .ok (.ireturn, 1)) (h : P n M (some (.int x))) : mw_J Y k sl n M pc L [.int x] := by
  obtain ⟨G1, p, l1, e, R1, s, m, args, below, meth, c, nL, Q, ad0, n0⟩ := Y
  obtain ⟨⟨hx, hb, hml, hown, hts⟩, hK, hE, hnt, hlk, rfl, rfl, rfl⟩ := hC
  obtain ⟨rfl, hr, -⟩ := hZ
  intro ad H locs ls hW hX hS hl
  refine W.widen (k := mc) (n := ms) hk hs (vx_ret ?_)
  exact W.iret hx hb hr (fun t ht hW9 => ⟨⟨some (.int x), ad, n, M, rfl, hX, by rw [ht]; exact hW, h⟩, hS.F ht⟩) hS.2.2 d (hlocks := hlk)
theorem jr_iretz (hC : mw_C G l R Y cc own) {x : Int32} {P : Nat → mw_M → Option Value → Prop} {X : mw_M → String → Prop} {mc ms : Nat} (hZ : mw_Z P X mc ms (some .boolean) Y) (hk : k ≤ mc) (hs : sl ≤ ms) (h01 : mw_b01 x) (d : decode cc pc = .ok (.ireturn, 1)) (h : P n M (some (.int x))) : mw_J Y k sl n M pc L [.int x] := by
  obtain ⟨G1, p, l1, e, R1, s, m, args, below, meth, c, nL, Q, ad0, n0⟩ := Y
  obtain ⟨⟨hx, hb, hml, hown, hts⟩, hK, hE, hnt, hlk, rfl, rfl, rfl⟩ := hC
  obtain ⟨rfl, hr, -⟩ := hZ
  intro ad H locs ls hW hX hS hl
  refine W.widen (k := mc) (n := ms) hk hs (vx_ret ?_)
  exact W.zret hx hb hr (mw_b01_nar h01) (fun t ht hW9 => ⟨⟨some (.int x), ad, n, M, rfl, hX, by rw [ht]; exact hW, h⟩, hS.F ht⟩) hS.2.2 d (hlocks := hlk)
theorem jr_lret (hC : mw_C G l R Y cc own) {x : Int64} {P : Nat → mw_M → Option Value → Prop} {X : mw_M → String → Prop} {mc ms : Nat} (hZ : mw_Z P X mc ms (some .long) Y) (hk : k ≤ mc) (hs : sl ≤ ms) (d : decode cc pc = .ok (.lreturn, 1)) (h : P n M (some (.long x))) : mw_J Y k sl n M pc L [.long x] := by
  obtain ⟨G1, p, l1, e, R1, s, m, args, below, meth, c, nL, Q, ad0, n0⟩ := Y
  obtain ⟨⟨hx, hb, hml, hown, hts⟩, hK, hE, hnt, hlk, rfl, rfl, rfl⟩ := hC
  obtain ⟨rfl, hr, -⟩ := hZ
  intro ad H locs ls hW hX hS hl
  refine W.widen (k := mc) (n := ms) hk hs (vx_ret ?_)
  exact W.lret hx hb hr (fun t ht hW9 => ⟨⟨some (.long x), ad, n, M, rfl, hX, by rw [ht]; exact hW, h⟩, hS.F ht⟩) hS.2.2 d (hlocks := hlk)
theorem jr_vret (hC : mw_C G l R Y cc own) {P : Nat → mw_M → Option Value → Prop} {X : mw_M → String → Prop} {mc ms : Nat} (hZ : mw_Z P X mc ms none Y) (hk : k ≤ mc) (hs : sl ≤ ms) (d : decode cc pc = .ok (.return_, 1)) (h : P n M none) : mw_J Y k sl n M pc L [] := by
  obtain ⟨G1, p, l1, e, R1, s, m, args, below, meth, c, nL, Q, ad0, n0⟩ := Y
  obtain ⟨⟨hx, hb, hml, hown, hts⟩, hK, hE, hnt, hlk, rfl, rfl, rfl⟩ := hC
  obtain ⟨rfl, hr, -⟩ := hZ
  intro ad H locs ls hW hX hS hl
  refine W.widen (k := mc) (n := ms) hk hs (vx_ret ?_)
  exact W.vret hx hb hr (fun t ht hW9 => ⟨⟨none, ad, n, M, rfl, hX, by rw [ht]; exact hW, h⟩, hS.F ht⟩) hS.2.2 d (hlocks := hlk)
theorem jr_aret (hC : mw_C G l R Y cc own) {x : Nat} {C : String} {P : Nat → mw_M → Option Value → Prop} {X : mw_M → String → Prop} {mc ms : Nat} (hZ : mw_Z P X mc ms (some (.object C)) Y) (hk : k ≤ mc) (hs : sl ≤ ms) (d : decode cc pc = .ok (.areturn, 1)) (h : P n M (some (.ref x))) : mw_J Y k sl n M pc L [.ref x] := by
  obtain ⟨G1, p, l1, e, R1, s, m, args, below, meth, c, nL, Q, ad0, n0⟩ := Y
  obtain ⟨⟨hx, hb, hml, hown, hts⟩, hK, hE, hnt, hlk, rfl, rfl, rfl⟩ := hC
  obtain ⟨rfl, hr, -⟩ := hZ
  intro ad H locs ls hW hX hS hl
  refine W.widen (k := mc) (n := ms) hk hs (vx_ret ?_)
  exact W.aret (v := mw_r ad x) hx hb hr (Or.inl ⟨C, rfl⟩) (by unfold mw_r; split; exact Or.inl rfl; exact Or.inr ⟨_, rfl⟩) (fun t ht hW9 => ⟨⟨some (.ref x), ad, n, M, rfl, hX, by rw [ht]; exact hW, h⟩, hS.F ht⟩) hS.2.2 d (hlocks := hlk)
end JR2
