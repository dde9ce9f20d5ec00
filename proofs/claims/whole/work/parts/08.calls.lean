def mw_n0 : mw_Y → Nat
  | (_, _, _, _, _, _, _, _, _, _, _, _, _, _, n0) => n0
theorem mw_lg_len (f : Value → Value) (hf : ∀ v, (f v).category = v.category) (as : List Value) : (lg_sl (as.map f)).length = (lg_sl as).length := by
  induction as with
  | nil => rfl
  | cons v vs ih =>
    have e1 : lg_sl ((v :: vs).map f) = (if (f v).category = 2 then [.val (f v), .second] else [.val (f v)]) ++ lg_sl (vs.map f) := by simp [lg_sl]
    have e2 : lg_sl (v :: vs) = (if v.category = 2 then [.val v, .second] else [.val v]) ++ lg_sl vs := by simp [lg_sl]
    rw [e1, e2, List.length_append, List.length_append, ih, hf]
    split <;> rfl
theorem mw_lv_args (ad : Nat → Nat) : ∀ (as : List Value) (i : Nat), lv_args i (as.map (mw_v ad)) = mw_lm ad (lv_args i as)
  | [], _ => rfl
  | v :: vs, i => by
    show (i, mw_v ad v) :: lv_args (if (mw_v ad v).category = 2 then i + 2 else i + 1) (vs.map (mw_v ad)) = (i, mw_v ad v) :: mw_lm ad (lv_args (if v.category = 2 then i + 2 else i + 1) vs)
    rw [mw_v_cat, mw_lv_args ad vs]
/-- the kit's vx_ofW, with the method's own plainness -/
theorem mw_ofW {l : Launch} {y : MethodName} {ws ws' : List Cond} {rm : Room} {Pc : Array Value → State → Prop} {Qc : Array Value → State → Outcome → State → Prop} {XC : String → State → State → Prop} {mc ms : Nat} {free : Addr → Prop} {cc : ByteArray} {maxL : Nat} {ret : Option FieldType}
    (hy : plainFor y = true) (hw : ws = Cond.code y cc maxL ret :: ws')
    (body : ∀ p e s m args below meth c s₁, BodyLoose p l y (headSpec ws rm) cc maxL ret e s m args below meth c s₁ → c.maxLocals = maxL → (∀ x ∈ c.exceptionTable.toList, False) → Pc args s →
      W p l e (headSpec ws rm).room s m args below meth c s.heap [] 0 0 (vx_MQ below Qc XC args s mc ms free) (entryFrame m args maxL)) : vx_Met l y ws rm Pc Qc XC mc ms free := by
  refine MetFree.of_bodySF (code := cc) (maxLocals := maxL) (ret := ret) hy ?_ ?_
  · intro args s m h hn
    obtain ⟨meth, c, h1, h2, h3, h4, h5, h6, -, -⟩ := Cond.code_spec hn (atoms_spec (ws := ws) h _ (by rw [hw]; exact List.mem_cons_self))
    exact ⟨meth, c, h1, h2, h3, h4, h5, h6⟩
  · intro p e s m args below meth c s₁ B hml hP _
    have hh0 : s₁.heap = s.heap := by rw [B.state]; rfl
    have ht : ∀ x ∈ c.exceptionTable.toList, False := by
      obtain ⟨meth9, c9, h1, h2, -, -, -, -, h7, -⟩ := Cond.code_spec B.named (atoms_spec (ws := ws) B.pre _ (by rw [hw]; exact List.mem_cons_self))
      cases Option.some.inj (h1.symm.trans B.method)
      cases Option.some.inj (h2.symm.trans (Stand.of_body B).code)
      intro x hx
      rw [Array.isEmpty_iff.mp h7] at hx
      cases hx
    obtain ⟨t, a1, o, b1, b2, b3⟩ := body p e s m args below meth c s₁ B hml ht hP s₁ hh0 (Stand.of_body B)
    exact ⟨t, o, a1, b1, b2, b3⟩
/-- a method's contract out of the walk of its body -/
theorem mw_enter {G : mw_G} {l : Launch} {y : MethodName} {cc : ByteArray} {maxL : Nat} {ret : Option FieldType} {rm : Room} {n : Nat} {M : mw_M} {as : List Value} {P : Nat → mw_M → Option Value → Prop} {X : mw_M → String → Prop} {mc ms : Nat} {L0 : List (Nat × Value)}
    (hl : l.stackTraces = false) (hmc : rm.cells = mc) (hms : rm.slots = ms) (hy : plainFor y = true) (hlen : (lg_sl as).length ≤ maxL) (hL : lv_args 0 as = L0)
    (body : ∀ Y : mw_Y, mw_C G l rm Y cc y.cls → mw_Z P X mc ms ret Y → mw_nL Y = maxL → (y.name = "<init>" → mw_init Y) → mw_n0 Y = n → mw_J Y 0 0 n M 0 L0 []) : mw_Met G l y (.code y cc maxL ret) rm n M as P X := by
  intro ad
  refine mw_ofW (cc := cc) (maxL := maxL) (ret := ret) hy rfl ?_
  intro p e s m args below meth c s₁ B hml hexc hv
  obtain ⟨rfl, hW, hK, hE⟩ := hv
  have hts : ∀ w ∈ TB, w.before ((as.map (mw_v ad)).toArray) s = true := fun w hw => atoms_spec (ws := .code y cc maxL ret :: TB) B.pre w (List.mem_cons_of_mem _ hw)
  have hown : s.vm.findClass y.cls = some m.cls := findClass_of_methodNamed B.named
  subst hmc; subst hms
  have hb := body (G, p, l, e, rm, s, m, (as.map (mw_v ad)).toArray, below, meth, c, maxL, vx_MQ below (mw_Q G ad n P) (mw_XC G ad n X) (as.map (mw_v ad)).toArray s rm.cells rm.slots (mw_A G), ad, n)
    ⟨⟨B.exec, B.bytes, hml, hown, hts⟩, hK, hE, hl, B.notSynchronized, rfl, rfl, rfl⟩ ⟨rfl, B.returns, hexc⟩ rfl (fun hi => (name_of_methodNamed B.named B.method).1.trans hi) rfl
  have h := lv_entry (as.map (mw_v ad)) (n := maxL) (by rw [mw_lg_len _ (mw_v_cat ad)]; exact hlen)
  rw [mw_lv_args, hL] at h
  rw [lg_entry_eq]
  exact hb ad s.heap [] _ hW (mw_X.rf ad n) va_S.rf h
theorem mw_P_blind {G : mw_G} {ad : Nat → Nat} {n : Nat} {M : mw_M} {as : List Value} : FrameBlind (mw_P G ad n M as) := by
  intro a U g mk h
  obtain ⟨h1, h2, h3, h4⟩ := h
  refine ⟨h1, h2, va_K.moved (u := U) (U := U.calling g mk a) (Vm.Alike.refl U.vm) h3, ?_⟩
  obtain ⟨e1, e2, e3, e4, e5, e6, e7⟩ := h4
  exact ⟨e1, vx_Zq.moved (u := U) (U := U.calling g mk a) (Vm.Alike.refl U.vm) e2, vx_Zq.moved (u := U) (U := U.calling g mk a) (Vm.Alike.refl U.vm) e3, fun q hq => by obtain ⟨x, hx⟩ := e4 q hq; exact ⟨x, vk_R.same (u := U) rfl hx⟩, fun w hw => mw_nw_same w hw U (U.calling g mk a) rfl (e5 w hw), fun C hC => va_AO.moved (u := U) (U := U.calling g mk a) (Vm.Alike.refl U.vm) (e6 C hC), fun q hq => va_Nc.moved (u := U) (U := U.calling g mk a) (Vm.Alike.refl U.vm) (e7 q hq)⟩
theorem mw_P_at {G : mw_G} {ad : Nat → Nat} {n : Nat} {M : mw_M} {as : List Value} {s : State} {H : Heap} {locs : List Loc} (hW : mw_W G ad n M H) (hK : mw_K G s) (hE : mw_E G s) (hS : va_S (mw_A G) s.heap H locs) : ∀ U : State, U.heap = H → s.WarmedH U.vm → mw_P G ad n M as (as.map (mw_v ad)).toArray U :=
  fun U hU hWm => ⟨rfl, by rw [hU]; exact hW, va_K.moved hWm.alike hK, hE.next hS hU hWm⟩
/-- a class's object, by its place in the picture -/
theorem mw_recv {G : mw_G} {ad : Nat → Nat} {n : Nat} {M : mw_M} {H : Heap} {s : State} {a t : Nat} {C : String} {T : u_T} {N : Nat} (hW : mw_W G ad n M H) (hK : mw_K G s) (his : mw_is n a t) (hc : mw_cl[t]? = some (C, T, N)) : ∃ cellB : Cell, H[ad a]? = some cellB ∧ cellB.vm.isStatics = false ∧ s.vm.findClass C = some cellB.cls := by
  obtain ⟨ht, h0, han⟩ := his
  obtain ⟨cell, q1, q2, q3, -⟩ := (hW.1 a h0 han).1.1 _ (by rw [ht]; exact hc)
  exact ⟨cell, q1, by rw [q3]; rfl, by rw [q2, ht]; exact (hK.1 t _ hc).2.1⟩
theorem tb_one {w : Cond} (h : w ∈ TB) : w ∈ TB ∧ ((w.onTables && w.keeps) = true ∨ ∃ ty, w = .arrayClass ty) := tb_good w h
theorem tb_cons {ws : List Cond} {w : Cond} (h : w ∈ TB) (hs : GoodIn TB ws) : GoodIn TB (w :: ws) := fun x hx => (List.mem_cons.mp hx).elim (fun e => by rw [e]; exact tb_good w h) (hs x)
theorem tb_TB : GoodIn TB TB := tb_good
/-- a contract that never throws, as the kit's calls want it -/
theorem mw_met {l : Launch} {y : MethodName} {ws : List Cond} {rm : Room} {Pc : Array Value → State → Prop} {Qc : Array Value → State → Outcome → State → Prop} {XC : String → State → State → Prop} {mc ms : Nat} {free : Addr → Prop} (h : vx_Met l y ws rm Pc Qc XC mc ms free) (hX : ∀ E st t, ¬ XC E st t) : Met l y ws rm Pc Qc mc ms free := by
  intro p e ha hc hk s m args below hf happ hP ht
  obtain ⟨n, o, h1, h2, h3, h4⟩ := h p e ha hc hk s m args below hf happ hP ht
  refine ⟨n, o, h1, h2, h3, ?_⟩
  rcases h4 with h4 | ⟨q, -, E, ce, L, h5, -⟩
  · exact h4
  · exact absurd h5 (hX _ _ _)
theorem mw_XC_no {G : mw_G} {ad : Nat → Nat} {n : Nat} (E : String) (st t : State) : ¬ mw_XC G ad n (fun _ _ => False) E st t := by
  rintro ⟨⟨_, _, h⟩, _⟩
  exact h
section JC
variable {G : mw_G} {l : Launch} {R : Room} {Y : mw_Y} {cc : ByteArray} {own : String} {k sl n : Nat} {M : mw_M} {pc : Nat} {L : List (Nat × Value)} {st : List Value}
theorem mw_back {p : Program} {e : Env} {s : State} {m : MethodId} {args : Array Value} {below : List Frame} {meth : Method} {c : Code} {H : Heap} {locs : List Loc} {Q : State → Prop} {ls : Array Slot} {st0 rest : List Value} {mc ms : Nat} {ad : Nat → Nat} {P : Nat → mw_M → Option Value → Prop} {a : Array Value}
    (hr : va_Run p l e R s m args below meth c H locs k sl mc ms (F0 m pc ls st0) rest (mw_Q G ad n P a) (mw_A G)) (hE : mw_E G s) (hS : va_S (mw_A G) s.heap H locs)
    (kk : ∀ (v : Option Value) (ad1 : Nat → Nat) (n1 : Nat) (M1 : mw_M) (H1 : Heap) (locs1 : List Loc), mw_X ad n ad1 n1 → mw_W G ad1 n1 M1 H1 → P n1 M1 v → va_S (mw_A G) s.heap H1 locs1 → W p l e R s m args below meth c H1 locs1 (k + mc) (sl + ms) Q (F0 m (pc + 3) ls ((v.map (mw_v ad1)).toList ++ rest))) :
    W p l e R s m args below meth c H locs k sl Q (F0 m pc ls st0) := by
  intro T hT X
  obtain ⟨v, st₀, t, T', L, h0, X', hL, e1, e2, ⟨⟨v1, ad1, n1, M1, hv, hX, hW, hP⟩, hF⟩, st⟩ := hr T hT X
  cases hv
  obtain ⟨k1, k2, k3⟩ := vx_keep h0 e1 hS (fun _ _ h => h) (fun _ h => h) hL hF
  obtain ⟨t2, a1, b1⟩ := kk v1 ad1 n1 M1 T'.heap (locs ++ L) hX (by rw [e1]; exact hW) hP k3 T' rfl X'
  exact ⟨t2, st t2 a1, b1⟩
theorem mw_backX {p : Program} {e : Env} {s : State} {m : MethodId} {args : Array Value} {below : List Frame} {meth : Method} {c : Code} {H : Heap} {locs : List Loc} {Q : State → Prop} {ls : Array Slot} {st0 rest : List Value} {mc ms : Nat} {ad : Nat → Nat} {P : Nat → mw_M → Option Value → Prop} {XX : mw_M → String → Prop} {a : Array Value}
    (hr : vx_Run p l e R s m args below meth c H locs k sl mc ms (F0 m pc ls st0) rest (mw_Q G ad n P a) (mw_XC G ad n XX) (mw_A G)) (hE : mw_E G s) (hS : va_S (mw_A G) s.heap H locs)
    (kk : ∀ (v : Option Value) (ad1 : Nat → Nat) (n1 : Nat) (M1 : mw_M) (H1 : Heap) (locs1 : List Loc), mw_X ad n ad1 n1 → mw_W G ad1 n1 M1 H1 → P n1 M1 v → va_S (mw_A G) s.heap H1 locs1 → W p l e R s m args below meth c H1 locs1 (k + mc) (sl + ms) Q (F0 m (pc + 3) ls ((v.map (mw_v ad1)).toList ++ rest)))
    (kx : ∀ (E : String) (M1 : mw_M) (H1 : Heap) (locs1 : List Loc) (q : Addr) (ce : Cell), mw_W G ad n M1 H1 → XX M1 E → va_S (mw_A G) s.heap H1 locs1 → H1[q]? = some ce → ce.vm = .none → s.vm.findClass E = some ce.cls → vx_W p l e R s m args below meth c H1 locs1 (k + mc) (sl + ms) Q (F0 m pc ls rest) q) :
    W p l e R s m args below meth c H locs k sl Q (F0 m pc ls st0) := by
  intro T hT X
  rcases hr T hT X with ⟨v, st₀, t, T', L, h0, X', hL, e1, e2, ⟨⟨v1, ad1, n1, M1, hv, hX, hW, hP⟩, hF⟩, st⟩ | ⟨q, st₀, t, T', L, E, ce, h0, X', hL, e1, e2, ⟨⟨M1, hW, hP⟩, hF⟩, hce, hcv, hcl, st⟩
  · cases hv
    obtain ⟨k1, k2, k3⟩ := vx_keep h0 e1 hS (fun _ _ h => h) (fun _ h => h) hL hF
    obtain ⟨t2, a1, b1⟩ := kk v1 ad1 n1 M1 T'.heap (locs ++ L) hX (by rw [e1]; exact hW) hP k3 T' rfl X'
    exact ⟨t2, st t2 a1, b1⟩
  · obtain ⟨k1, k2, k3⟩ := vx_keep h0 e1 hS (fun _ _ h => h) (fun _ h => h) hL hF
    obtain ⟨t2, a1, b1⟩ := kx E M1 T'.heap (locs ++ L) q ce (by rw [e1]; exact hW) hP k3 (by rw [e1]; exact hce) hcv hcl T' rfl X'
    exact ⟨t2, st.trans a1, b1⟩
/-- the static facts of a call: of a virtual one, a static one, a constructor's; of nest mates -/
def mw_NA (y : MethodName) (cc : ByteArray) (maxL : Nat) (ret : Option FieldType) (nA : Nat) : Prop := (y.cls ≠ "java/lang/invoke/MethodHandle" ∧ y.cls ≠ "java/lang/invoke/VarHandle" ∧ (parseMethodDescriptor y.desc).map (fun d => d.parameters.length) = some nA) ∧ Cond.code y cc maxL ret ∈ TB ∧ Cond.initialized y.cls ∈ TB
def mw_NV (own : String) (i t : Nat) (y : MethodName) (cc : ByteArray) (maxL : Nat) (ret : Option FieldType) (nA : Nat) : Prop := mw_NA y cc maxL ret nA ∧ (∃ (T : u_T) (N : Nat), mw_cl[t]? = some (y.cls, T, N)) ∧ Cond.methodLink own i y ∈ TB ∧ Cond.instanceMethod y ∈ TB ∧ Cond.selects y.cls y y ∈ TB
def mw_NS (own : String) (i : Nat) (y : MethodName) (cc : ByteArray) (maxL : Nat) (ret : Option FieldType) (nA : Nat) : Prop := mw_NA y cc maxL ret nA ∧ Cond.methodLink own i y ∈ TB ∧ Cond.static y ∈ TB
def mw_NSn (own : String) (i : Nat) (y : MethodName) (cc : ByteArray) (maxL : Nat) (ret : Option FieldType) (nA : Nat) : Prop := mw_NA y cc maxL ret nA ∧ (∃ host : String, Cond.methodLinkNest own i y host ∈ mw_nw) ∧ Cond.static y ∈ TB
def mw_NI (own : String) (i : Nat) (y : MethodName) (cc : ByteArray) (maxL : Nat) (nA : Nat) : Prop := mw_NA y cc maxL none nA ∧ Cond.methodLink own i y ∈ TB ∧ Cond.instanceMethod y ∈ TB ∧ y.name = "<init>"
def mw_NIn (own : String) (i : Nat) (y : MethodName) (cc : ByteArray) (maxL : Nat) (nA : Nat) : Prop := mw_NA y cc maxL none nA ∧ (∃ host : String, Cond.methodLinkNest own i y host ∈ mw_nw) ∧ Cond.instanceMethod y ∈ TB ∧ y.name = "<init>"
/-- numbers that stay behind a call that makes objects -/
def mw_ok (n : Nat) : Value → Prop
  | .ref q => q < n ∨ 900 ≤ q
  | _ => True
theorem mw_ok_v {n n1 : Nat} {a b : Nat → Nat} (h : mw_X a n b n1) {v : Value} (hv : mw_ok n v) : mw_v b v = mw_v a v := by
  cases v with
  | ref q =>
    show mw_r b q = mw_r a q
    unfold mw_r
    rw [h.2.2 q hv]
  | _ => rfl
theorem mw_ok_st {n n1 : Nat} {a b : Nat → Nat} (h : mw_X a n b n1) {st : List Value} (hv : ∀ v ∈ st, mw_ok n v) : st.map (mw_v b) = st.map (mw_v a) := List.map_congr_left fun v hm => mw_ok_v h (hv v hm)
theorem mw_ok_lm {n n1 : Nat} {a b : Nat → Nat} (h : mw_X a n b n1) {L : List (Nat × Value)} (hv : ∀ q ∈ L, mw_ok n q.2) : mw_lm b L = mw_lm a L := List.map_congr_left fun q hm => by rw [mw_ok_v h (hv q hm)]
theorem mw_same_st {n n1 : Nat} {a b : Nat → Nat} (h : mw_X a n b n1) (e : n1 = n) : b = a := h.2.1 e
def mw_frm (rm R : Room) (maxL k sl mc ms : Nat) : Prop := (rm.cells = mc ∧ rm.slots = ms) ∧ (rm.frames + 1 ≤ R.frames ∧ 8 + (maxL + 11) + rm.locals ≤ R.locals) ∧ k + mc ≤ R.cells ∧ sl + ms ≤ R.slots
theorem mw_rev (ad : Nat → Nat) (As st : List Value) : (As.reverse ++ st).map (mw_v ad) = (As.map (mw_v ad)).reverse ++ st.map (mw_v ad) := by rw [List.map_append, List.map_reverse]
theorem jr_callV (hC : mw_C G l R Y cc own) {i nA maxL mc ms : Nat} {y : MethodName} {bc : ByteArray} {rm : Room} {As st0 : List Value} {P : mw_M → Option Value → Prop} {t b : Nat} {ret : Option FieldType} (hN : mw_NV own i t y bc maxL ret nA) (hM : mw_Met G l y (.code y bc maxL ret) rm n M (.ref b :: As) (fun n1 M1 v => n1 = n ∧ P M1 v) (fun _ _ => False)) (his : mw_is n b t) (hn : As.length = nA) (hst : st0 = As.reverse ++ .ref b :: st)
    (hf : mw_frm rm R maxL k sl mc ms) (hcat : (st.map fun v => v.category).sum ≤ 8) (d : decode cc pc = .ok (.invokevirtual i, 3)) (kk : ∀ (M1 : mw_M) (v : Option Value), P M1 v → mw_J Y (k + mc) (sl + ms) n M1 (pc + 3) L (v.toList ++ st)) : mw_J Y k sl n M pc L st0 := by
  obtain ⟨G1, p, l1, e, R1, s, m, args, below, meth, c, nL, Q, ad0, n0⟩ := Y
  obtain ⟨⟨hx, hb, hml, hown, hts⟩, hK, hE, hnt, hlk, rfl, rfl, rfl⟩ := hC
  obtain ⟨⟨hrc, hrs⟩, hroom, hcs⟩ := hf
  obtain ⟨⟨hd, hcode, hini⟩, ⟨T9, N9, hcl9⟩, hl9, hi9, hs9⟩ := hN
  intro ad H locs ls hW hX hS hl
  subst hst
  have hG : GoodIn TB (.code y bc maxL ret :: TB) := tb_cons hcode tb_TB
  have hcb : CallB R1 s args own i y bc maxL ret (.code y bc maxL ret :: TB) rm mc ms nA := callB_of nA hts hG rfl hrc hrs (hts _ hini) (hts _ hl9) hd hroom
  have hm := mw_met (hM ad) mw_XC_no
  rw [hrc, hrs] at hm
  have hpre := mw_P_at (G := G1) (as := .ref b :: As) hW hK hE hS
  simp only [List.map_cons, mw_v_ref] at hpre
  rw [mw_r_pos his.2.1] at hpre
  refine mw_back (va_runV (As := As.map (mw_v ad)) (rest := st.map (mw_v ad)) ⟨hx, hb, hml, hown, hts⟩ hm ⟨hcb, hts _ hi9, hts _ hs9⟩ ⟨mw_P_blind, mw_recv hW hK his hcl9, hpre⟩ rfl (by rw [List.length_map]; exact hn) hl.1 (by rw [mw_rev]; simp only [List.map_cons, mw_v_ref]; rw [mw_r_pos his.2.1]) (lv_room (by rw [mw_cats]; exact hcat)) d hcs) hE hS (fun v ad1 n1 M1 H1 locs1 hX1 hW1 hP1 hS1 => ?_)
  obtain ⟨hn1, hP2⟩ := hP1
  subst hn1
  have had := hX1.2.1 rfl
  subst had
  have h1 := kk M1 v hP2 ad1 H1 locs1 ls hW1 hX hS1 hl
  rw [List.map_append] at h1
  cases v <;> exact h1
theorem jr_callS (hC : mw_C G l R Y cc own) {i nA maxL mc ms : Nat} {y : MethodName} {bc : ByteArray} {rm : Room} {As st0 : List Value} {P : mw_M → Option Value → Prop} {ret : Option FieldType} (hN : mw_NS own i y bc maxL ret nA) (hM : mw_Met G l y (.code y bc maxL ret) rm n M As (fun n1 M1 v => n1 = n ∧ P M1 v) (fun _ _ => False)) (hn : As.length = nA) (hst : st0 = As.reverse ++ st)
    (hf : mw_frm rm R maxL k sl mc ms) (hcat : (st.map fun v => v.category).sum ≤ 8) (d : decode cc pc = .ok (.invokestatic i, 3)) (kk : ∀ (M1 : mw_M) (v : Option Value), P M1 v → mw_J Y (k + mc) (sl + ms) n M1 (pc + 3) L (v.toList ++ st)) : mw_J Y k sl n M pc L st0 := by
  obtain ⟨G1, p, l1, e, R1, s, m, args, below, meth, c, nL, Q, ad0, n0⟩ := Y
  obtain ⟨⟨hx, hb, hml, hown, hts⟩, hK, hE, hnt, hlk, rfl, rfl, rfl⟩ := hC
  obtain ⟨⟨hrc, hrs⟩, hroom, hcs⟩ := hf
  obtain ⟨⟨hd, hcode, hini⟩, hl9, hs9⟩ := hN
  intro ad H locs ls hW hX hS hl
  subst hst
  have hG : GoodIn TB (.code y bc maxL ret :: TB) := tb_cons hcode tb_TB
  have hcb : CallB R1 s args own i y bc maxL ret (.code y bc maxL ret :: TB) rm mc ms nA := callB_of nA hts hG rfl hrc hrs (hts _ hini) (hts _ hl9) hd hroom
  have hm := mw_met (hM ad) mw_XC_no
  rw [hrc, hrs] at hm
  have hpre := mw_P_at (G := G1) (as := As) hW hK hE hS
  refine mw_back (va_runS (As := As.map (mw_v ad)) (rest := st.map (mw_v ad)) ⟨hx, hb, hml, hown, hts⟩ hm ⟨hcb, hts _ hs9⟩ ⟨mw_P_blind, hpre⟩ rfl (by rw [List.length_map]; exact hn) hl.1 (by rw [mw_rev]) (lv_room (by rw [mw_cats]; exact hcat)) d hcs) hE hS (fun v ad1 n1 M1 H1 locs1 hX1 hW1 hP1 hS1 => ?_)
  obtain ⟨hn1, hP2⟩ := hP1
  subst hn1
  have had := hX1.2.1 rfl
  subst had
  have h1 := kk M1 v hP2 ad1 H1 locs1 ls hW1 hX hS1 hl
  rw [List.map_append] at h1
  cases v <;> exact h1
theorem jr_callSn (hC : mw_C G l R Y cc own) {i nA maxL mc ms : Nat} {y : MethodName} {bc : ByteArray} {rm : Room} {As st0 : List Value} {P : mw_M → Option Value → Prop} {ret : Option FieldType} (hN : mw_NSn own i y bc maxL ret nA) (hM : mw_Met G l y (.code y bc maxL ret) rm n M As (fun n1 M1 v => n1 = n ∧ P M1 v) (fun _ _ => False)) (hn : As.length = nA) (hst : st0 = As.reverse ++ st)
    (hf : mw_frm rm R maxL k sl mc ms) (hcat : (st.map fun v => v.category).sum ≤ 8) (d : decode cc pc = .ok (.invokestatic i, 3)) (kk : ∀ (M1 : mw_M) (v : Option Value), P M1 v → mw_J Y (k + mc) (sl + ms) n M1 (pc + 3) L (v.toList ++ st)) : mw_J Y k sl n M pc L st0 := by
  obtain ⟨G1, p, l1, e, R1, s, m, args, below, meth, c, nL, Q, ad0, n0⟩ := Y
  obtain ⟨⟨hx, hb, hml, hown, hts⟩, hK, hE, hnt, hlk, rfl, rfl, rfl⟩ := hC
  obtain ⟨⟨hrc, hrs⟩, hroom, hcs⟩ := hf
  obtain ⟨⟨hd, hcode, hini⟩, ⟨host, hl9⟩, hs9⟩ := hN
  intro ad H locs ls hW hX hS hl
  subst hst
  have hG : GoodIn TB (.code y bc maxL ret :: TB) := tb_cons hcode tb_TB
  have hcn : va_CN R1 s args own i y host bc maxL ret (.code y bc maxL ret :: TB) rm mc ms nA := va_cnB nA hts hG rfl hrc hrs (hE.2.2.2.2.1 _ hl9) (hts _ hini) hd hroom
  have hm := mw_met (hM ad) mw_XC_no
  rw [hrc, hrs] at hm
  have hpre := mw_P_at (G := G1) (as := As) hW hK hE hS
  refine mw_back (va_runSN (As := As.map (mw_v ad)) (rest := st.map (mw_v ad)) ⟨hx, hb, hml, hown, hts⟩ hm ⟨hcn, hts _ hs9, trivial⟩ ⟨mw_P_blind, hpre⟩ rfl (by rw [List.length_map]; exact hn) hl.1 (by rw [mw_rev]) (lv_room (by rw [mw_cats]; exact hcat)) d hcs) hE hS (fun v ad1 n1 M1 H1 locs1 hX1 hW1 hP1 hS1 => ?_)
  obtain ⟨hn1, hP2⟩ := hP1
  subst hn1
  have had := hX1.2.1 rfl
  subst had
  have h1 := kk M1 v hP2 ad1 H1 locs1 ls hW1 hX hS1 hl
  rw [List.map_append] at h1
  cases v <;> exact h1
theorem jr_callI (hC : mw_C G l R Y cc own) {i nA maxL mc ms : Nat} {y : MethodName} {bc : ByteArray} {rm : Room} {As st0 : List Value} {P : mw_M → Option Value → Prop} {b : Nat} (hN : mw_NI own i y bc maxL nA) (hM : mw_Met G l y (.code y bc maxL none) rm n M (.ref b :: As) (fun n1 M1 v => n1 = n ∧ P M1 v) (fun _ _ => False)) (hb0 : 0 < b) (hn : As.length = nA) (hst : st0 = As.reverse ++ .ref b :: st)
    (hf : mw_frm rm R maxL k sl mc ms) (hcat : (st.map fun v => v.category).sum ≤ 8) (d : decode cc pc = .ok (.invokespecial i, 3)) (kk : ∀ (M1 : mw_M) (v : Option Value), P M1 v → mw_J Y (k + mc) (sl + ms) n M1 (pc + 3) L (v.toList ++ st)) : mw_J Y k sl n M pc L st0 := by
  obtain ⟨G1, p, l1, e, R1, s, m, args, below, meth, c, nL, Q, ad0, n0⟩ := Y
  obtain ⟨⟨hx, hb, hml, hown, hts⟩, hK, hE, hnt, hlk, rfl, rfl, rfl⟩ := hC
  obtain ⟨⟨hrc, hrs⟩, hroom, hcs⟩ := hf
  obtain ⟨⟨hd, hcode, hini⟩, hl9, hi9, hy1⟩ := hN
  intro ad H locs ls hW hX hS hl
  subst hst
  have hG : GoodIn TB (.code y bc maxL none :: TB) := tb_cons hcode tb_TB
  have hcb : CallB R1 s args own i y bc maxL none (.code y bc maxL none :: TB) rm mc ms nA := callB_of nA hts hG rfl hrc hrs (hts _ hini) (hts _ hl9) hd hroom
  have hm := mw_met (hM ad) mw_XC_no
  rw [hrc, hrs] at hm
  have hpre := mw_P_at (G := G1) (as := .ref b :: As) hW hK hE hS
  simp only [List.map_cons, mw_v_ref] at hpre
  rw [mw_r_pos hb0] at hpre
  refine mw_back (va_runI (As := As.map (mw_v ad)) (rest := st.map (mw_v ad)) ⟨hx, hb, hml, hown, hts⟩ hm ⟨hcb, hy1, hts _ hi9⟩ ⟨mw_P_blind, hpre⟩ rfl (by rw [List.length_map]; exact hn) hl.1 (by rw [mw_rev]; simp only [List.map_cons, mw_v_ref]; rw [mw_r_pos hb0]) (lv_room (by rw [mw_cats]; exact hcat)) d hcs) hE hS (fun v ad1 n1 M1 H1 locs1 hX1 hW1 hP1 hS1 => ?_)
  obtain ⟨hn1, hP2⟩ := hP1
  subst hn1
  have had := hX1.2.1 rfl
  subst had
  have h1 := kk M1 v hP2 ad1 H1 locs1 ls hW1 hX hS1 hl
  rw [List.map_append] at h1
  cases v <;> exact h1
theorem jr_callIn (hC : mw_C G l R Y cc own) {i nA maxL mc ms : Nat} {y : MethodName} {bc : ByteArray} {rm : Room} {As st0 : List Value} {P : mw_M → Option Value → Prop} {b : Nat} (hN : mw_NIn own i y bc maxL nA) (hM : mw_Met G l y (.code y bc maxL none) rm n M (.ref b :: As) (fun n1 M1 v => n1 = n ∧ P M1 v) (fun _ _ => False)) (hb0 : 0 < b) (hn : As.length = nA) (hst : st0 = As.reverse ++ .ref b :: st)
    (hf : mw_frm rm R maxL k sl mc ms) (hcat : (st.map fun v => v.category).sum ≤ 8) (d : decode cc pc = .ok (.invokespecial i, 3)) (kk : ∀ (M1 : mw_M) (v : Option Value), P M1 v → mw_J Y (k + mc) (sl + ms) n M1 (pc + 3) L (v.toList ++ st)) : mw_J Y k sl n M pc L st0 := by
  obtain ⟨G1, p, l1, e, R1, s, m, args, below, meth, c, nL, Q, ad0, n0⟩ := Y
  obtain ⟨⟨hx, hb, hml, hown, hts⟩, hK, hE, hnt, hlk, rfl, rfl, rfl⟩ := hC
  obtain ⟨⟨hrc, hrs⟩, hroom, hcs⟩ := hf
  obtain ⟨⟨hd, hcode, hini⟩, ⟨host, hl9⟩, hi9, hy1⟩ := hN
  intro ad H locs ls hW hX hS hl
  subst hst
  have hG : GoodIn TB (.code y bc maxL none :: TB) := tb_cons hcode tb_TB
  have hcn : va_CN R1 s args own i y host bc maxL none (.code y bc maxL none :: TB) rm mc ms nA := va_cnB nA hts hG rfl hrc hrs (hE.2.2.2.2.1 _ hl9) (hts _ hini) hd hroom
  have hm := mw_met (hM ad) mw_XC_no
  rw [hrc, hrs] at hm
  have hpre := mw_P_at (G := G1) (as := .ref b :: As) hW hK hE hS
  simp only [List.map_cons, mw_v_ref] at hpre
  rw [mw_r_pos hb0] at hpre
  refine mw_back (va_runIN (As := As.map (mw_v ad)) (rest := st.map (mw_v ad)) ⟨hx, hb, hml, hown, hts⟩ hm ⟨hcn, hy1, hts _ hi9⟩ ⟨mw_P_blind, hpre⟩ rfl (by rw [List.length_map]; exact hn) hl.1 (by rw [mw_rev]; simp only [List.map_cons, mw_v_ref]; rw [mw_r_pos hb0]) (lv_room (by rw [mw_cats]; exact hcat)) d hcs) hE hS (fun v ad1 n1 M1 H1 locs1 hX1 hW1 hP1 hS1 => ?_)
  obtain ⟨hn1, hP2⟩ := hP1
  subst hn1
  have had := hX1.2.1 rfl
  subst had
  have h1 := kk M1 v hP2 ad1 H1 locs1 ls hW1 hX hS1 hl
  rw [List.map_append] at h1
  cases v <;> exact h1
theorem jr_callIa (hC : mw_C G l R Y cc own) {i nA maxL mc ms : Nat} {y : MethodName} {bc : ByteArray} {rm : Room} {As st0 : List Value} {P : Nat → mw_M → Option Value → Prop} {b : Nat} (hN : mw_NI own i y bc maxL nA) (hM : mw_Met G l y (.code y bc maxL none) rm n M (.ref b :: As) P (fun _ _ => False)) (hb0 : 0 < b) (hokL : ∀ q ∈ L, mw_ok n q.2) (hokS : ∀ v ∈ st, mw_ok n v) (hn : As.length = nA) (hst : st0 = As.reverse ++ .ref b :: st)
    (hf : mw_frm rm R maxL k sl mc ms) (hcat : (st.map fun v => v.category).sum ≤ 8) (d : decode cc pc = .ok (.invokespecial i, 3)) (kk : ∀ (n1 : Nat) (M1 : mw_M) (v : Option Value), P n1 M1 v → mw_J Y (k + mc) (sl + ms) n1 M1 (pc + 3) L (v.toList ++ st)) : mw_J Y k sl n M pc L st0 := by
  obtain ⟨G1, p, l1, e, R1, s, m, args, below, meth, c, nL, Q, ad0, n0⟩ := Y
  obtain ⟨⟨hx, hb, hml, hown, hts⟩, hK, hE, hnt, hlk, rfl, rfl, rfl⟩ := hC
  obtain ⟨⟨hrc, hrs⟩, hroom, hcs⟩ := hf
  obtain ⟨⟨hd, hcode, hini⟩, hl9, hi9, hy1⟩ := hN
  intro ad H locs ls hW hX hS hl
  subst hst
  have hG : GoodIn TB (.code y bc maxL none :: TB) := tb_cons hcode tb_TB
  have hcb : CallB R1 s args own i y bc maxL none (.code y bc maxL none :: TB) rm mc ms nA := callB_of nA hts hG rfl hrc hrs (hts _ hini) (hts _ hl9) hd hroom
  have hm := mw_met (hM ad) mw_XC_no
  rw [hrc, hrs] at hm
  have hpre := mw_P_at (G := G1) (as := .ref b :: As) hW hK hE hS
  simp only [List.map_cons, mw_v_ref] at hpre
  rw [mw_r_pos hb0] at hpre
  refine mw_back (va_runI (As := As.map (mw_v ad)) (rest := st.map (mw_v ad)) ⟨hx, hb, hml, hown, hts⟩ hm ⟨hcb, hy1, hts _ hi9⟩ ⟨mw_P_blind, hpre⟩ rfl (by rw [List.length_map]; exact hn) hl.1 (by rw [mw_rev]; simp only [List.map_cons, mw_v_ref]; rw [mw_r_pos hb0]) (lv_room (by rw [mw_cats]; exact hcat)) d hcs) hE hS (fun v ad1 n1 M1 H1 locs1 hX1 hW1 hP1 hS1 => ?_)
  have h1 := kk n1 M1 v hP1 ad1 H1 locs1 ls hW1 (hX.trans hX1) hS1 (by rw [mw_ok_lm hX1 hokL]; exact hl)
  rw [List.map_append, mw_ok_st hX1 hokS] at h1
  cases v <;> exact h1
theorem jr_callIna (hC : mw_C G l R Y cc own) {i nA maxL mc ms : Nat} {y : MethodName} {bc : ByteArray} {rm : Room} {As st0 : List Value} {P : Nat → mw_M → Option Value → Prop} {b : Nat} (hN : mw_NIn own i y bc maxL nA) (hM : mw_Met G l y (.code y bc maxL none) rm n M (.ref b :: As) P (fun _ _ => False)) (hb0 : 0 < b) (hokL : ∀ q ∈ L, mw_ok n q.2) (hokS : ∀ v ∈ st, mw_ok n v) (hn : As.length = nA) (hst : st0 = As.reverse ++ .ref b :: st)
    (hf : mw_frm rm R maxL k sl mc ms) (hcat : (st.map fun v => v.category).sum ≤ 8) (d : decode cc pc = .ok (.invokespecial i, 3)) (kk : ∀ (n1 : Nat) (M1 : mw_M) (v : Option Value), P n1 M1 v → mw_J Y (k + mc) (sl + ms) n1 M1 (pc + 3) L (v.toList ++ st)) : mw_J Y k sl n M pc L st0 := by
  obtain ⟨G1, p, l1, e, R1, s, m, args, below, meth, c, nL, Q, ad0, n0⟩ := Y
  obtain ⟨⟨hx, hb, hml, hown, hts⟩, hK, hE, hnt, hlk, rfl, rfl, rfl⟩ := hC
  obtain ⟨⟨hrc, hrs⟩, hroom, hcs⟩ := hf
  obtain ⟨⟨hd, hcode, hini⟩, ⟨host, hl9⟩, hi9, hy1⟩ := hN
  intro ad H locs ls hW hX hS hl
  subst hst
  have hG : GoodIn TB (.code y bc maxL none :: TB) := tb_cons hcode tb_TB
  have hcn : va_CN R1 s args own i y host bc maxL none (.code y bc maxL none :: TB) rm mc ms nA := va_cnB nA hts hG rfl hrc hrs (hE.2.2.2.2.1 _ hl9) (hts _ hini) hd hroom
  have hm := mw_met (hM ad) mw_XC_no
  rw [hrc, hrs] at hm
  have hpre := mw_P_at (G := G1) (as := .ref b :: As) hW hK hE hS
  simp only [List.map_cons, mw_v_ref] at hpre
  rw [mw_r_pos hb0] at hpre
  refine mw_back (va_runIN (As := As.map (mw_v ad)) (rest := st.map (mw_v ad)) ⟨hx, hb, hml, hown, hts⟩ hm ⟨hcn, hy1, hts _ hi9⟩ ⟨mw_P_blind, hpre⟩ rfl (by rw [List.length_map]; exact hn) hl.1 (by rw [mw_rev]; simp only [List.map_cons, mw_v_ref]; rw [mw_r_pos hb0]) (lv_room (by rw [mw_cats]; exact hcat)) d hcs) hE hS (fun v ad1 n1 M1 H1 locs1 hX1 hW1 hP1 hS1 => ?_)
  have h1 := kk n1 M1 v hP1 ad1 H1 locs1 ls hW1 (hX.trans hX1) hS1 (by rw [mw_ok_lm hX1 hokL]; exact hl)
  rw [List.map_append, mw_ok_st hX1 hokS] at h1
  cases v <;> exact h1
theorem jr_callVx (hC : mw_C G l R Y cc own) {i nA maxL mc ms : Nat} {y : MethodName} {bc : ByteArray} {rm : Room} {As st0 : List Value} {P : mw_M → Option Value → Prop} {t b : Nat} {ret : Option FieldType} {XX X0 : mw_M → String → Prop} {P0 : Nat → mw_M → Option Value → Prop} {mc0 ms0 : Nat} {ret0 : Option FieldType} (hN : mw_NV own i t y bc maxL ret nA) (hM : mw_Met G l y (.code y bc maxL ret) rm n M (.ref b :: As) (fun n1 M1 v => n1 = n ∧ P M1 v) XX) (his : mw_is n b t) (hn : As.length = nA) (hst : st0 = As.reverse ++ .ref b :: st)
    (hf : mw_frm rm R maxL k sl mc ms) (hcat : (st.map fun v => v.category).sum ≤ 8) (hZ : mw_Z P0 X0 mc0 ms0 ret0 Y) (hn00 : mw_n0 Y = n) (hx0 : ∀ (M1 : mw_M) (E : String), XX M1 E → X0 M1 E) (hk0 : k + mc ≤ mc0) (hs0 : sl + ms ≤ ms0) (d : decode cc pc = .ok (.invokevirtual i, 3)) (kk : ∀ (M1 : mw_M) (v : Option Value), P M1 v → mw_J Y (k + mc) (sl + ms) n M1 (pc + 3) L (v.toList ++ st)) : mw_J Y k sl n M pc L st0 := by
  obtain ⟨G1, p, l1, e, R1, s, m, args, below, meth, c, nL, Q, ad0, n0⟩ := Y
  obtain ⟨⟨hx, hb, hml, hown, hts⟩, hK, hE, hnt, hlk, rfl, rfl, rfl⟩ := hC
  obtain ⟨⟨hrc, hrs⟩, hroom, hcs⟩ := hf
  obtain ⟨rfl, -, htab⟩ := hZ
  obtain ⟨⟨hd, hcode, hini⟩, ⟨T9, N9, hcl9⟩, hl9, hi9, hs9⟩ := hN
  intro ad H locs ls hW hX hS hl
  subst hst
  have hG : GoodIn TB (.code y bc maxL ret :: TB) := tb_cons hcode tb_TB
  have hcb : CallB R1 s args own i y bc maxL ret (.code y bc maxL ret :: TB) rm mc ms nA := callB_of nA hts hG rfl hrc hrs (hts _ hini) (hts _ hl9) hd hroom
  have hm := hM ad
  rw [hrc, hrs] at hm
  have hpre := mw_P_at (G := G1) (as := .ref b :: As) hW hK hE hS
  simp only [List.map_cons, mw_v_ref] at hpre
  rw [mw_r_pos his.2.1] at hpre
  refine mw_backX (vx_runV (As := As.map (mw_v ad)) (rest := st.map (mw_v ad)) ⟨hx, hb, hml, hown, hts⟩ hm ⟨hcb, hts _ hi9, hts _ hs9⟩ ⟨mw_P_blind, mw_recv hW hK his hcl9, hpre⟩ rfl (by rw [List.length_map]; exact hn) hl.1 (by rw [mw_rev]; simp only [List.map_cons, mw_v_ref]; rw [mw_r_pos his.2.1]) (lv_room (by rw [mw_cats]; exact hcat)) d hcs) hE hS (fun v ad1 n1 M1 H1 locs1 hX1 hW1 hP1 hS1 => ?_) (fun E M1 H1 locs1 q ce hW1 hP1 hS1 hce hcv hcl => ?_)
  rotate_left 1
  · have hnn := hn00
    subst hnn
    have hadn := hX.2.1 rfl
    subst hadn
    exact vx_outP hown hlk (fun z hz => (htab z hz).elim) hce hcv hcl (fun t ht ha => ⟨⟨M1, by rw [ht]; exact hW1, hx0 M1 E hP1⟩, hS1.F ht⟩) hS1.2.2 hk0 hs0
  obtain ⟨hn1, hP2⟩ := hP1
  subst hn1
  have had := hX1.2.1 rfl
  subst had
  have h1 := kk M1 v hP2 ad1 H1 locs1 ls hW1 hX hS1 hl
  rw [List.map_append] at h1
  cases v <;> exact h1
theorem jr_callSx (hC : mw_C G l R Y cc own) {i nA maxL mc ms : Nat} {y : MethodName} {bc : ByteArray} {rm : Room} {As st0 : List Value} {P : mw_M → Option Value → Prop} {ret : Option FieldType} {XX X0 : mw_M → String → Prop} {P0 : Nat → mw_M → Option Value → Prop} {mc0 ms0 : Nat} {ret0 : Option FieldType} (hN : mw_NS own i y bc maxL ret nA) (hM : mw_Met G l y (.code y bc maxL ret) rm n M As (fun n1 M1 v => n1 = n ∧ P M1 v) XX) (hn : As.length = nA) (hst : st0 = As.reverse ++ st)
    (hf : mw_frm rm R maxL k sl mc ms) (hcat : (st.map fun v => v.category).sum ≤ 8) (hZ : mw_Z P0 X0 mc0 ms0 ret0 Y) (hn00 : mw_n0 Y = n) (hx0 : ∀ (M1 : mw_M) (E : String), XX M1 E → X0 M1 E) (hk0 : k + mc ≤ mc0) (hs0 : sl + ms ≤ ms0) (d : decode cc pc = .ok (.invokestatic i, 3)) (kk : ∀ (M1 : mw_M) (v : Option Value), P M1 v → mw_J Y (k + mc) (sl + ms) n M1 (pc + 3) L (v.toList ++ st)) : mw_J Y k sl n M pc L st0 := by
  obtain ⟨G1, p, l1, e, R1, s, m, args, below, meth, c, nL, Q, ad0, n0⟩ := Y
  obtain ⟨⟨hx, hb, hml, hown, hts⟩, hK, hE, hnt, hlk, rfl, rfl, rfl⟩ := hC
  obtain ⟨⟨hrc, hrs⟩, hroom, hcs⟩ := hf
  obtain ⟨rfl, -, htab⟩ := hZ
  obtain ⟨⟨hd, hcode, hini⟩, hl9, hs9⟩ := hN
  intro ad H locs ls hW hX hS hl
  subst hst
  have hG : GoodIn TB (.code y bc maxL ret :: TB) := tb_cons hcode tb_TB
  have hcb : CallB R1 s args own i y bc maxL ret (.code y bc maxL ret :: TB) rm mc ms nA := callB_of nA hts hG rfl hrc hrs (hts _ hini) (hts _ hl9) hd hroom
  have hm := hM ad
  rw [hrc, hrs] at hm
  have hpre := mw_P_at (G := G1) (as := As) hW hK hE hS
  refine mw_backX (vx_runS (As := As.map (mw_v ad)) (rest := st.map (mw_v ad)) ⟨hx, hb, hml, hown, hts⟩ hm ⟨hcb, hts _ hs9⟩ ⟨mw_P_blind, hpre⟩ rfl (by rw [List.length_map]; exact hn) hl.1 (by rw [mw_rev]) (lv_room (by rw [mw_cats]; exact hcat)) d hcs) hE hS (fun v ad1 n1 M1 H1 locs1 hX1 hW1 hP1 hS1 => ?_) (fun E M1 H1 locs1 q ce hW1 hP1 hS1 hce hcv hcl => ?_)
  rotate_left 1
  · have hnn := hn00
    subst hnn
    have hadn := hX.2.1 rfl
    subst hadn
    exact vx_outP hown hlk (fun z hz => (htab z hz).elim) hce hcv hcl (fun t ht ha => ⟨⟨M1, by rw [ht]; exact hW1, hx0 M1 E hP1⟩, hS1.F ht⟩) hS1.2.2 hk0 hs0
  obtain ⟨hn1, hP2⟩ := hP1
  subst hn1
  have had := hX1.2.1 rfl
  subst had
  have h1 := kk M1 v hP2 ad1 H1 locs1 ls hW1 hX hS1 hl
  rw [List.map_append] at h1
  cases v <;> exact h1
theorem mw_okl_n {n : Nat} : ∀ q ∈ ([] : List (Nat × Value)), mw_ok n q.2 := fun _ h => absurd h List.not_mem_nil
theorem mw_okl_c {n i : Nat} {v : Value} {L : List (Nat × Value)} (h : mw_ok n v) (hs : ∀ q ∈ L, mw_ok n q.2) : ∀ q ∈ (i, v) :: L, mw_ok n q.2 := fun q hq => (List.mem_cons.mp hq).elim (fun e => by rw [e]; exact h) (hs q)
theorem mw_oks_n {n : Nat} : ∀ v ∈ ([] : List Value), mw_ok n v := fun _ h => absurd h List.not_mem_nil
theorem mw_oks_c {n : Nat} {v : Value} {L : List Value} (h : mw_ok n v) (hs : ∀ q ∈ L, mw_ok n q) : ∀ q ∈ v :: L, mw_ok n q := fun q hq => (List.mem_cons.mp hq).elim (fun e => by rw [e]; exact h) (hs q)
def mw_rV (Q : mw_M → Prop) (M : mw_M) (v : Option Value) : Prop := v = none ∧ Q M
def mw_rI (Q : mw_M → Int32 → Prop) (M : mw_M) (v : Option Value) : Prop := ∃ x : Int32, v = some (.int x) ∧ Q M x
def mw_rJ (Q : mw_M → Int64 → Prop) (M : mw_M) (v : Option Value) : Prop := ∃ x : Int64, v = some (.long x) ∧ Q M x
def mw_rA (Q : mw_M → Nat → Prop) (M : mw_M) (v : Option Value) : Prop := ∃ x : Nat, v = some (.ref x) ∧ Q M x
def mw_pV (M0 : mw_M) (Q : Prop) (M : mw_M) (v : Option Value) : Prop := M = M0 ∧ v = none ∧ Q
def mw_pI (M0 : mw_M) (Q : Int32 → Prop) (M : mw_M) (v : Option Value) : Prop := M = M0 ∧ ∃ x : Int32, v = some (.int x) ∧ Q x
def mw_pJ (M0 : mw_M) (Q : Int64 → Prop) (M : mw_M) (v : Option Value) : Prop := M = M0 ∧ ∃ x : Int64, v = some (.long x) ∧ Q x
def mw_pA (M0 : mw_M) (Q : Nat → Prop) (M : mw_M) (v : Option Value) : Prop := M = M0 ∧ ∃ x : Nat, v = some (.ref x) ∧ Q x
def mw_rN (Q : Nat → mw_M → Prop) (n : Nat) (M : mw_M) (v : Option Value) : Prop := v = none ∧ Q n M
theorem jr_callV_i (hC : mw_C G l R Y cc own) {i nA maxL mc ms : Nat} {y : MethodName} {bc : ByteArray} {rm : Room} {As st0 : List Value} {Q : mw_M → Int32 → Prop} {t b : Nat} {ret : Option FieldType} (hN : mw_NV own i t y bc maxL ret nA) (hM : mw_Met G l y (.code y bc maxL ret) rm n M (.ref b :: As) (fun n1 M1 v => n1 = n ∧ mw_rI Q M1 v) (fun _ _ => False)) (his : mw_is n b t) (hn : As.length = nA) (hst : st0 = As.reverse ++ .ref b :: st)
    (hf : mw_frm rm R maxL k sl mc ms) (hcat : (st.map fun v => v.category).sum ≤ 8) (d : decode cc pc = .ok (.invokevirtual i, 3)) (kk : ∀ (M1 : mw_M) (x : Int32), Q M1 x → mw_J Y (k + mc) (sl + ms) n M1 (pc + 3) L (.int x :: st)) : mw_J Y k sl n M pc L st0 :=
  jr_callV hC hN hM his hn hst hf hcat d fun M1 v hP => by obtain ⟨x, rfl, hq⟩ := hP; exact kk M1 x hq
theorem jr_callV_pi (hC : mw_C G l R Y cc own) {i nA maxL mc ms : Nat} {y : MethodName} {bc : ByteArray} {rm : Room} {As st0 : List Value} {Q : Int32 → Prop} {t b : Nat} {ret : Option FieldType} (hN : mw_NV own i t y bc maxL ret nA) (hM : mw_Met G l y (.code y bc maxL ret) rm n M (.ref b :: As) (fun n1 M1 v => n1 = n ∧ mw_pI M Q M1 v) (fun _ _ => False)) (his : mw_is n b t) (hn : As.length = nA) (hst : st0 = As.reverse ++ .ref b :: st)
    (hf : mw_frm rm R maxL k sl mc ms) (hcat : (st.map fun v => v.category).sum ≤ 8) (d : decode cc pc = .ok (.invokevirtual i, 3)) (kk : ∀ (x : Int32), Q x → mw_J Y (k + mc) (sl + ms) n M (pc + 3) L (.int x :: st)) : mw_J Y k sl n M pc L st0 :=
  jr_callV hC hN hM his hn hst hf hcat d fun M1 v hP => by obtain ⟨rfl, x, rfl, hq⟩ := hP; exact kk x hq
theorem jr_callV_j (hC : mw_C G l R Y cc own) {i nA maxL mc ms : Nat} {y : MethodName} {bc : ByteArray} {rm : Room} {As st0 : List Value} {Q : mw_M → Int64 → Prop} {t b : Nat} {ret : Option FieldType} (hN : mw_NV own i t y bc maxL ret nA) (hM : mw_Met G l y (.code y bc maxL ret) rm n M (.ref b :: As) (fun n1 M1 v => n1 = n ∧ mw_rJ Q M1 v) (fun _ _ => False)) (his : mw_is n b t) (hn : As.length = nA) (hst : st0 = As.reverse ++ .ref b :: st)
    (hf : mw_frm rm R maxL k sl mc ms) (hcat : (st.map fun v => v.category).sum ≤ 8) (d : decode cc pc = .ok (.invokevirtual i, 3)) (kk : ∀ (M1 : mw_M) (x : Int64), Q M1 x → mw_J Y (k + mc) (sl + ms) n M1 (pc + 3) L (.long x :: st)) : mw_J Y k sl n M pc L st0 :=
  jr_callV hC hN hM his hn hst hf hcat d fun M1 v hP => by obtain ⟨x, rfl, hq⟩ := hP; exact kk M1 x hq
theorem jr_callV_pj (hC : mw_C G l R Y cc own) {i nA maxL mc ms : Nat} {y : MethodName} {bc : ByteArray} {rm : Room} {As st0 : List Value} {Q : Int64 → Prop} {t b : Nat} {ret : Option FieldType} (hN : mw_NV own i t y bc maxL ret nA) (hM : mw_Met G l y (.code y bc maxL ret) rm n M (.ref b :: As) (fun n1 M1 v => n1 = n ∧ mw_pJ M Q M1 v) (fun _ _ => False)) (his : mw_is n b t) (hn : As.length = nA) (hst : st0 = As.reverse ++ .ref b :: st)
    (hf : mw_frm rm R maxL k sl mc ms) (hcat : (st.map fun v => v.category).sum ≤ 8) (d : decode cc pc = .ok (.invokevirtual i, 3)) (kk : ∀ (x : Int64), Q x → mw_J Y (k + mc) (sl + ms) n M (pc + 3) L (.long x :: st)) : mw_J Y k sl n M pc L st0 :=
  jr_callV hC hN hM his hn hst hf hcat d fun M1 v hP => by obtain ⟨rfl, x, rfl, hq⟩ := hP; exact kk x hq
theorem jr_callV_a (hC : mw_C G l R Y cc own) {i nA maxL mc ms : Nat} {y : MethodName} {bc : ByteArray} {rm : Room} {As st0 : List Value} {Q : mw_M → Nat → Prop} {t b : Nat} {ret : Option FieldType} (hN : mw_NV own i t y bc maxL ret nA) (hM : mw_Met G l y (.code y bc maxL ret) rm n M (.ref b :: As) (fun n1 M1 v => n1 = n ∧ mw_rA Q M1 v) (fun _ _ => False)) (his : mw_is n b t) (hn : As.length = nA) (hst : st0 = As.reverse ++ .ref b :: st)
    (hf : mw_frm rm R maxL k sl mc ms) (hcat : (st.map fun v => v.category).sum ≤ 8) (d : decode cc pc = .ok (.invokevirtual i, 3)) (kk : ∀ (M1 : mw_M) (x : Nat), Q M1 x → mw_J Y (k + mc) (sl + ms) n M1 (pc + 3) L (.ref x :: st)) : mw_J Y k sl n M pc L st0 :=
  jr_callV hC hN hM his hn hst hf hcat d fun M1 v hP => by obtain ⟨x, rfl, hq⟩ := hP; exact kk M1 x hq
theorem jr_callV_pa (hC : mw_C G l R Y cc own) {i nA maxL mc ms : Nat} {y : MethodName} {bc : ByteArray} {rm : Room} {As st0 : List Value} {Q : Nat → Prop} {t b : Nat} {ret : Option FieldType} (hN : mw_NV own i t y bc maxL ret nA) (hM : mw_Met G l y (.code y bc maxL ret) rm n M (.ref b :: As) (fun n1 M1 v => n1 = n ∧ mw_pA M Q M1 v) (fun _ _ => False)) (his : mw_is n b t) (hn : As.length = nA) (hst : st0 = As.reverse ++ .ref b :: st)
    (hf : mw_frm rm R maxL k sl mc ms) (hcat : (st.map fun v => v.category).sum ≤ 8) (d : decode cc pc = .ok (.invokevirtual i, 3)) (kk : ∀ (x : Nat), Q x → mw_J Y (k + mc) (sl + ms) n M (pc + 3) L (.ref x :: st)) : mw_J Y k sl n M pc L st0 :=
  jr_callV hC hN hM his hn hst hf hcat d fun M1 v hP => by obtain ⟨rfl, x, rfl, hq⟩ := hP; exact kk x hq
theorem jr_callV_v (hC : mw_C G l R Y cc own) {i nA maxL mc ms : Nat} {y : MethodName} {bc : ByteArray} {rm : Room} {As st0 : List Value} {Q : mw_M → Prop} {t b : Nat} {ret : Option FieldType} (hN : mw_NV own i t y bc maxL ret nA) (hM : mw_Met G l y (.code y bc maxL ret) rm n M (.ref b :: As) (fun n1 M1 v => n1 = n ∧ mw_rV Q M1 v) (fun _ _ => False)) (his : mw_is n b t) (hn : As.length = nA) (hst : st0 = As.reverse ++ .ref b :: st)
    (hf : mw_frm rm R maxL k sl mc ms) (hcat : (st.map fun v => v.category).sum ≤ 8) (d : decode cc pc = .ok (.invokevirtual i, 3)) (kk : ∀ (M1 : mw_M), Q M1 → mw_J Y (k + mc) (sl + ms) n M1 (pc + 3) L st) : mw_J Y k sl n M pc L st0 :=
  jr_callV hC hN hM his hn hst hf hcat d fun M1 v hP => by obtain ⟨rfl, hq⟩ := hP; exact kk M1 hq
theorem jr_callV_pv (hC : mw_C G l R Y cc own) {i nA maxL mc ms : Nat} {y : MethodName} {bc : ByteArray} {rm : Room} {As st0 : List Value} {Q : Prop} {t b : Nat} {ret : Option FieldType} (hN : mw_NV own i t y bc maxL ret nA) (hM : mw_Met G l y (.code y bc maxL ret) rm n M (.ref b :: As) (fun n1 M1 v => n1 = n ∧ mw_pV M Q M1 v) (fun _ _ => False)) (his : mw_is n b t) (hn : As.length = nA) (hst : st0 = As.reverse ++ .ref b :: st)
    (hf : mw_frm rm R maxL k sl mc ms) (hcat : (st.map fun v => v.category).sum ≤ 8) (d : decode cc pc = .ok (.invokevirtual i, 3)) (kk : Q → mw_J Y (k + mc) (sl + ms) n M (pc + 3) L st) : mw_J Y k sl n M pc L st0 :=
  jr_callV hC hN hM his hn hst hf hcat d fun M1 v hP => by obtain ⟨rfl, rfl, hq⟩ := hP; exact kk hq
theorem jr_callS_i (hC : mw_C G l R Y cc own) {i nA maxL mc ms : Nat} {y : MethodName} {bc : ByteArray} {rm : Room} {As st0 : List Value} {Q : mw_M → Int32 → Prop} {ret : Option FieldType} (hN : mw_NS own i y bc maxL ret nA) (hM : mw_Met G l y (.code y bc maxL ret) rm n M As (fun n1 M1 v => n1 = n ∧ mw_rI Q M1 v) (fun _ _ => False)) (hn : As.length = nA) (hst : st0 = As.reverse ++ st)
    (hf : mw_frm rm R maxL k sl mc ms) (hcat : (st.map fun v => v.category).sum ≤ 8) (d : decode cc pc = .ok (.invokestatic i, 3)) (kk : ∀ (M1 : mw_M) (x : Int32), Q M1 x → mw_J Y (k + mc) (sl + ms) n M1 (pc + 3) L (.int x :: st)) : mw_J Y k sl n M pc L st0 :=
  jr_callS hC hN hM hn hst hf hcat d fun M1 v hP => by obtain ⟨x, rfl, hq⟩ := hP; exact kk M1 x hq
theorem jr_callS_pi (hC : mw_C G l R Y cc own) {i nA maxL mc ms : Nat} {y : MethodName} {bc : ByteArray} {rm : Room} {As st0 : List Value} {Q : Int32 → Prop} {ret : Option FieldType} (hN : mw_NS own i y bc maxL ret nA) (hM : mw_Met G l y (.code y bc maxL ret) rm n M As (fun n1 M1 v => n1 = n ∧ mw_pI M Q M1 v) (fun _ _ => False)) (hn : As.length = nA) (hst : st0 = As.reverse ++ st)
    (hf : mw_frm rm R maxL k sl mc ms) (hcat : (st.map fun v => v.category).sum ≤ 8) (d : decode cc pc = .ok (.invokestatic i, 3)) (kk : ∀ (x : Int32), Q x → mw_J Y (k + mc) (sl + ms) n M (pc + 3) L (.int x :: st)) : mw_J Y k sl n M pc L st0 :=
  jr_callS hC hN hM hn hst hf hcat d fun M1 v hP => by obtain ⟨rfl, x, rfl, hq⟩ := hP; exact kk x hq
theorem jr_callS_j (hC : mw_C G l R Y cc own) {i nA maxL mc ms : Nat} {y : MethodName} {bc : ByteArray} {rm : Room} {As st0 : List Value} {Q : mw_M → Int64 → Prop} {ret : Option FieldType} (hN : mw_NS own i y bc maxL ret nA) (hM : mw_Met G l y (.code y bc maxL ret) rm n M As (fun n1 M1 v => n1 = n ∧ mw_rJ Q M1 v) (fun _ _ => False)) (hn : As.length = nA) (hst : st0 = As.reverse ++ st)
    (hf : mw_frm rm R maxL k sl mc ms) (hcat : (st.map fun v => v.category).sum ≤ 8) (d : decode cc pc = .ok (.invokestatic i, 3)) (kk : ∀ (M1 : mw_M) (x : Int64), Q M1 x → mw_J Y (k + mc) (sl + ms) n M1 (pc + 3) L (.long x :: st)) : mw_J Y k sl n M pc L st0 :=
  jr_callS hC hN hM hn hst hf hcat d fun M1 v hP => by obtain ⟨x, rfl, hq⟩ := hP; exact kk M1 x hq
theorem jr_callS_pj (hC : mw_C G l R Y cc own) {i nA maxL mc ms : Nat} {y : MethodName} {bc : ByteArray} {rm : Room} {As st0 : List Value} {Q : Int64 → Prop} {ret : Option FieldType} (hN : mw_NS own i y bc maxL ret nA) (hM : mw_Met G l y (.code y bc maxL ret) rm n M As (fun n1 M1 v => n1 = n ∧ mw_pJ M Q M1 v) (fun _ _ => False)) (hn : As.length = nA) (hst : st0 = As.reverse ++ st)
    (hf : mw_frm rm R maxL k sl mc ms) (hcat : (st.map fun v => v.category).sum ≤ 8) (d : decode cc pc = .ok (.invokestatic i, 3)) (kk : ∀ (x : Int64), Q x → mw_J Y (k + mc) (sl + ms) n M (pc + 3) L (.long x :: st)) : mw_J Y k sl n M pc L st0 :=
  jr_callS hC hN hM hn hst hf hcat d fun M1 v hP => by obtain ⟨rfl, x, rfl, hq⟩ := hP; exact kk x hq
theorem jr_callS_a (hC : mw_C G l R Y cc own) {i nA maxL mc ms : Nat} {y : MethodName} {bc : ByteArray} {rm : Room} {As st0 : List Value} {Q : mw_M → Nat → Prop} {ret : Option FieldType} (hN : mw_NS own i y bc maxL ret nA) (hM : mw_Met G l y (.code y bc maxL ret) rm n M As (fun n1 M1 v => n1 = n ∧ mw_rA Q M1 v) (fun _ _ => False)) (hn : As.length = nA) (hst : st0 = As.reverse ++ st)
    (hf : mw_frm rm R maxL k sl mc ms) (hcat : (st.map fun v => v.category).sum ≤ 8) (d : decode cc pc = .ok (.invokestatic i, 3)) (kk : ∀ (M1 : mw_M) (x : Nat), Q M1 x → mw_J Y (k + mc) (sl + ms) n M1 (pc + 3) L (.ref x :: st)) : mw_J Y k sl n M pc L st0 :=
  jr_callS hC hN hM hn hst hf hcat d fun M1 v hP => by obtain ⟨x, rfl, hq⟩ := hP; exact kk M1 x hq
theorem jr_callS_pa (hC : mw_C G l R Y cc own) {i nA maxL mc ms : Nat} {y : MethodName} {bc : ByteArray} {rm : Room} {As st0 : List Value} {Q : Nat → Prop} {ret : Option FieldType} (hN : mw_NS own i y bc maxL ret nA) (hM : mw_Met G l y (.code y bc maxL ret) rm n M As (fun n1 M1 v => n1 = n ∧ mw_pA M Q M1 v) (fun _ _ => False)) (hn : As.length = nA) (hst : st0 = As.reverse ++ st)
    (hf : mw_frm rm R maxL k sl mc ms) (hcat : (st.map fun v => v.category).sum ≤ 8) (d : decode cc pc = .ok (.invokestatic i, 3)) (kk : ∀ (x : Nat), Q x → mw_J Y (k + mc) (sl + ms) n M (pc + 3) L (.ref x :: st)) : mw_J Y k sl n M pc L st0 :=
  jr_callS hC hN hM hn hst hf hcat d fun M1 v hP => by obtain ⟨rfl, x, rfl, hq⟩ := hP; exact kk x hq
theorem jr_callS_v (hC : mw_C G l R Y cc own) {i nA maxL mc ms : Nat} {y : MethodName} {bc : ByteArray} {rm : Room} {As st0 : List Value} {Q : mw_M → Prop} {ret : Option FieldType} (hN : mw_NS own i y bc maxL ret nA) (hM : mw_Met G l y (.code y bc maxL ret) rm n M As (fun n1 M1 v => n1 = n ∧ mw_rV Q M1 v) (fun _ _ => False)) (hn : As.length = nA) (hst : st0 = As.reverse ++ st)
    (hf : mw_frm rm R maxL k sl mc ms) (hcat : (st.map fun v => v.category).sum ≤ 8) (d : decode cc pc = .ok (.invokestatic i, 3)) (kk : ∀ (M1 : mw_M), Q M1 → mw_J Y (k + mc) (sl + ms) n M1 (pc + 3) L st) : mw_J Y k sl n M pc L st0 :=
  jr_callS hC hN hM hn hst hf hcat d fun M1 v hP => by obtain ⟨rfl, hq⟩ := hP; exact kk M1 hq
theorem jr_callS_pv (hC : mw_C G l R Y cc own) {i nA maxL mc ms : Nat} {y : MethodName} {bc : ByteArray} {rm : Room} {As st0 : List Value} {Q : Prop} {ret : Option FieldType} (hN : mw_NS own i y bc maxL ret nA) (hM : mw_Met G l y (.code y bc maxL ret) rm n M As (fun n1 M1 v => n1 = n ∧ mw_pV M Q M1 v) (fun _ _ => False)) (hn : As.length = nA) (hst : st0 = As.reverse ++ st)
    (hf : mw_frm rm R maxL k sl mc ms) (hcat : (st.map fun v => v.category).sum ≤ 8) (d : decode cc pc = .ok (.invokestatic i, 3)) (kk : Q → mw_J Y (k + mc) (sl + ms) n M (pc + 3) L st) : mw_J Y k sl n M pc L st0 :=
  jr_callS hC hN hM hn hst hf hcat d fun M1 v hP => by obtain ⟨rfl, rfl, hq⟩ := hP; exact kk hq
theorem jr_callSn_i (hC : mw_C G l R Y cc own) {i nA maxL mc ms : Nat} {y : MethodName} {bc : ByteArray} {rm : Room} {As st0 : List Value} {Q : mw_M → Int32 → Prop} {ret : Option FieldType} (hN : mw_NSn own i y bc maxL ret nA) (hM : mw_Met G l y (.code y bc maxL ret) rm n M As (fun n1 M1 v => n1 = n ∧ mw_rI Q M1 v) (fun _ _ => False)) (hn : As.length = nA) (hst : st0 = As.reverse ++ st)
    (hf : mw_frm rm R maxL k sl mc ms) (hcat : (st.map fun v => v.category).sum ≤ 8) (d : decode cc pc = .ok (.invokestatic i, 3)) (kk : ∀ (M1 : mw_M) (x : Int32), Q M1 x → mw_J Y (k + mc) (sl + ms) n M1 (pc + 3) L (.int x :: st)) : mw_J Y k sl n M pc L st0 :=
  jr_callSn hC hN hM hn hst hf hcat d fun M1 v hP => by obtain ⟨x, rfl, hq⟩ := hP; exact kk M1 x hq
theorem jr_callSn_pi (hC : mw_C G l R Y cc own) {i nA maxL mc ms : Nat} {y : MethodName} {bc : ByteArray} {rm : Room} {As st0 : List Value} {Q : Int32 → Prop} {ret : Option FieldType} (hN : mw_NSn own i y bc maxL ret nA) (hM : mw_Met G l y (.code y bc maxL ret) rm n M As (fun n1 M1 v => n1 = n ∧ mw_pI M Q M1 v) (fun _ _ => False)) (hn : As.length = nA) (hst : st0 = As.reverse ++ st)
    (hf : mw_frm rm R maxL k sl mc ms) (hcat : (st.map fun v => v.category).sum ≤ 8) (d : decode cc pc = .ok (.invokestatic i, 3)) (kk : ∀ (x : Int32), Q x → mw_J Y (k + mc) (sl + ms) n M (pc + 3) L (.int x :: st)) : mw_J Y k sl n M pc L st0 :=
  jr_callSn hC hN hM hn hst hf hcat d fun M1 v hP => by obtain ⟨rfl, x, rfl, hq⟩ := hP; exact kk x hq
theorem jr_callSn_j (hC : mw_C G l R Y cc own) {i nA maxL mc ms : Nat} {y : MethodName} {bc : ByteArray} {rm : Room} {As st0 : List Value} {Q : mw_M → Int64 → Prop} {ret : Option FieldType} (hN : mw_NSn own i y bc maxL ret nA) (hM : mw_Met G l y (.code y bc maxL ret) rm n M As (fun n1 M1 v => n1 = n ∧ mw_rJ Q M1 v) (fun _ _ => False)) (hn : As.length = nA) (hst : st0 = As.reverse ++ st)
    (hf : mw_frm rm R maxL k sl mc ms) (hcat : (st.map fun v => v.category).sum ≤ 8) (d : decode cc pc = .ok (.invokestatic i, 3)) (kk : ∀ (M1 : mw_M) (x : Int64), Q M1 x → mw_J Y (k + mc) (sl + ms) n M1 (pc + 3) L (.long x :: st)) : mw_J Y k sl n M pc L st0 :=
  jr_callSn hC hN hM hn hst hf hcat d fun M1 v hP => by obtain ⟨x, rfl, hq⟩ := hP; exact kk M1 x hq
theorem jr_callSn_pj (hC : mw_C G l R Y cc own) {i nA maxL mc ms : Nat} {y : MethodName} {bc : ByteArray} {rm : Room} {As st0 : List Value} {Q : Int64 → Prop} {ret : Option FieldType} (hN : mw_NSn own i y bc maxL ret nA) (hM : mw_Met G l y (.code y bc maxL ret) rm n M As (fun n1 M1 v => n1 = n ∧ mw_pJ M Q M1 v) (fun _ _ => False)) (hn : As.length = nA) (hst : st0 = As.reverse ++ st)
    (hf : mw_frm rm R maxL k sl mc ms) (hcat : (st.map fun v => v.category).sum ≤ 8) (d : decode cc pc = .ok (.invokestatic i, 3)) (kk : ∀ (x : Int64), Q x → mw_J Y (k + mc) (sl + ms) n M (pc + 3) L (.long x :: st)) : mw_J Y k sl n M pc L st0 :=
  jr_callSn hC hN hM hn hst hf hcat d fun M1 v hP => by obtain ⟨rfl, x, rfl, hq⟩ := hP; exact kk x hq
theorem jr_callSn_a (hC : mw_C G l R Y cc own) {i nA maxL mc ms : Nat} {y : MethodName} {bc : ByteArray} {rm : Room} {As st0 : List Value} {Q : mw_M → Nat → Prop} {ret : Option FieldType} (hN : mw_NSn own i y bc maxL ret nA) (hM : mw_Met G l y (.code y bc maxL ret) rm n M As (fun n1 M1 v => n1 = n ∧ mw_rA Q M1 v) (fun _ _ => False)) (hn : As.length = nA) (hst : st0 = As.reverse ++ st)
    (hf : mw_frm rm R maxL k sl mc ms) (hcat : (st.map fun v => v.category).sum ≤ 8) (d : decode cc pc = .ok (.invokestatic i, 3)) (kk : ∀ (M1 : mw_M) (x : Nat), Q M1 x → mw_J Y (k + mc) (sl + ms) n M1 (pc + 3) L (.ref x :: st)) : mw_J Y k sl n M pc L st0 :=
  jr_callSn hC hN hM hn hst hf hcat d fun M1 v hP => by obtain ⟨x, rfl, hq⟩ := hP; exact kk M1 x hq
theorem jr_callSn_pa (hC : mw_C G l R Y cc own) {i nA maxL mc ms : Nat} {y : MethodName} {bc : ByteArray} {rm : Room} {As st0 : List Value} {Q : Nat → Prop} {ret : Option FieldType} (hN : mw_NSn own i y bc maxL ret nA) (hM : mw_Met G l y (.code y bc maxL ret) rm n M As (fun n1 M1 v => n1 = n ∧ mw_pA M Q M1 v) (fun _ _ => False)) (hn : As.length = nA) (hst : st0 = As.reverse ++ st)
    (hf : mw_frm rm R maxL k sl mc ms) (hcat : (st.map fun v => v.category).sum ≤ 8) (d : decode cc pc = .ok (.invokestatic i, 3)) (kk : ∀ (x : Nat), Q x → mw_J Y (k + mc) (sl + ms) n M (pc + 3) L (.ref x :: st)) : mw_J Y k sl n M pc L st0 :=
  jr_callSn hC hN hM hn hst hf hcat d fun M1 v hP => by obtain ⟨rfl, x, rfl, hq⟩ := hP; exact kk x hq
theorem jr_callSn_v (hC : mw_C G l R Y cc own) {i nA maxL mc ms : Nat} {y : MethodName} {bc : ByteArray} {rm : Room} {As st0 : List Value} {Q : mw_M → Prop} {ret : Option FieldType} (hN : mw_NSn own i y bc maxL ret nA) (hM : mw_Met G l y (.code y bc maxL ret) rm n M As (fun n1 M1 v => n1 = n ∧ mw_rV Q M1 v) (fun _ _ => False)) (hn : As.length = nA) (hst : st0 = As.reverse ++ st)
    (hf : mw_frm rm R maxL k sl mc ms) (hcat : (st.map fun v => v.category).sum ≤ 8) (d : decode cc pc = .ok (.invokestatic i, 3)) (kk : ∀ (M1 : mw_M), Q M1 → mw_J Y (k + mc) (sl + ms) n M1 (pc + 3) L st) : mw_J Y k sl n M pc L st0 :=
  jr_callSn hC hN hM hn hst hf hcat d fun M1 v hP => by obtain ⟨rfl, hq⟩ := hP; exact kk M1 hq
theorem jr_callSn_pv (hC : mw_C G l R Y cc own) {i nA maxL mc ms : Nat} {y : MethodName} {bc : ByteArray} {rm : Room} {As st0 : List Value} {Q : Prop} {ret : Option FieldType} (hN : mw_NSn own i y bc maxL ret nA) (hM : mw_Met G l y (.code y bc maxL ret) rm n M As (fun n1 M1 v => n1 = n ∧ mw_pV M Q M1 v) (fun _ _ => False)) (hn : As.length = nA) (hst : st0 = As.reverse ++ st)
    (hf : mw_frm rm R maxL k sl mc ms) (hcat : (st.map fun v => v.category).sum ≤ 8) (d : decode cc pc = .ok (.invokestatic i, 3)) (kk : Q → mw_J Y (k + mc) (sl + ms) n M (pc + 3) L st) : mw_J Y k sl n M pc L st0 :=
  jr_callSn hC hN hM hn hst hf hcat d fun M1 v hP => by obtain ⟨rfl, rfl, hq⟩ := hP; exact kk hq
theorem jr_callI_v (hC : mw_C G l R Y cc own) {i nA maxL mc ms : Nat} {y : MethodName} {bc : ByteArray} {rm : Room} {As st0 : List Value} {Q : mw_M → Prop} {b : Nat} (hN : mw_NI own i y bc maxL nA) (hM : mw_Met G l y (.code y bc maxL none) rm n M (.ref b :: As) (fun n1 M1 v => n1 = n ∧ mw_rV Q M1 v) (fun _ _ => False)) (hb0 : 0 < b) (hn : As.length = nA) (hst : st0 = As.reverse ++ .ref b :: st)
    (hf : mw_frm rm R maxL k sl mc ms) (hcat : (st.map fun v => v.category).sum ≤ 8) (d : decode cc pc = .ok (.invokespecial i, 3)) (kk : ∀ (M1 : mw_M), Q M1 → mw_J Y (k + mc) (sl + ms) n M1 (pc + 3) L st) : mw_J Y k sl n M pc L st0 :=
  jr_callI hC hN hM hb0 hn hst hf hcat d fun M1 v hP => by obtain ⟨rfl, hq⟩ := hP; exact kk M1 hq
theorem jr_callIa_v (hC : mw_C G l R Y cc own) {i nA maxL mc ms : Nat} {y : MethodName} {bc : ByteArray} {rm : Room} {As st0 : List Value} {Q : Nat → mw_M → Prop} {b : Nat} (hN : mw_NI own i y bc maxL nA) (hM : mw_Met G l y (.code y bc maxL none) rm n M (.ref b :: As) (mw_rN Q) (fun _ _ => False)) (hb0 : 0 < b) (hokL : ∀ q ∈ L, mw_ok n q.2) (hokS : ∀ v ∈ st, mw_ok n v) (hn : As.length = nA) (hst : st0 = As.reverse ++ .ref b :: st)
    (hf : mw_frm rm R maxL k sl mc ms) (hcat : (st.map fun v => v.category).sum ≤ 8) (d : decode cc pc = .ok (.invokespecial i, 3)) (kk : ∀ (n1 : Nat) (M1 : mw_M), Q n1 M1 → mw_J Y (k + mc) (sl + ms) n1 M1 (pc + 3) L st) : mw_J Y k sl n M pc L st0 :=
  jr_callIa hC hN hM hb0 hokL hokS hn hst hf hcat d fun n1 M1 v hP => by obtain ⟨rfl, hq⟩ := hP; exact kk n1 M1 hq
theorem jr_callIn_v (hC : mw_C G l R Y cc own) {i nA maxL mc ms : Nat} {y : MethodName} {bc : ByteArray} {rm : Room} {As st0 : List Value} {Q : mw_M → Prop} {b : Nat} (hN : mw_NIn own i y bc maxL nA) (hM : mw_Met G l y (.code y bc maxL none) rm n M (.ref b :: As) (fun n1 M1 v => n1 = n ∧ mw_rV Q M1 v) (fun _ _ => False)) (hb0 : 0 < b) (hn : As.length = nA) (hst : st0 = As.reverse ++ .ref b :: st)
    (hf : mw_frm rm R maxL k sl mc ms) (hcat : (st.map fun v => v.category).sum ≤ 8) (d : decode cc pc = .ok (.invokespecial i, 3)) (kk : ∀ (M1 : mw_M), Q M1 → mw_J Y (k + mc) (sl + ms) n M1 (pc + 3) L st) : mw_J Y k sl n M pc L st0 :=
  jr_callIn hC hN hM hb0 hn hst hf hcat d fun M1 v hP => by obtain ⟨rfl, hq⟩ := hP; exact kk M1 hq
theorem jr_callIna_v (hC : mw_C G l R Y cc own) {i nA maxL mc ms : Nat} {y : MethodName} {bc : ByteArray} {rm : Room} {As st0 : List Value} {Q : Nat → mw_M → Prop} {b : Nat} (hN : mw_NIn own i y bc maxL nA) (hM : mw_Met G l y (.code y bc maxL none) rm n M (.ref b :: As) (mw_rN Q) (fun _ _ => False)) (hb0 : 0 < b) (hokL : ∀ q ∈ L, mw_ok n q.2) (hokS : ∀ v ∈ st, mw_ok n v) (hn : As.length = nA) (hst : st0 = As.reverse ++ .ref b :: st)
    (hf : mw_frm rm R maxL k sl mc ms) (hcat : (st.map fun v => v.category).sum ≤ 8) (d : decode cc pc = .ok (.invokespecial i, 3)) (kk : ∀ (n1 : Nat) (M1 : mw_M), Q n1 M1 → mw_J Y (k + mc) (sl + ms) n1 M1 (pc + 3) L st) : mw_J Y k sl n M pc L st0 :=
  jr_callIna hC hN hM hb0 hokL hokS hn hst hf hcat d fun n1 M1 v hP => by obtain ⟨rfl, hq⟩ := hP; exact kk n1 M1 hq
theorem jr_callVx_i (hC : mw_C G l R Y cc own) {i nA maxL mc ms : Nat} {y : MethodName} {bc : ByteArray} {rm : Room} {As st0 : List Value} {Q : mw_M → Int32 → Prop} {t b : Nat} {ret : Option FieldType} {XX X0 : mw_M → String → Prop} {P0 : Nat → mw_M → Option Value → Prop} {mc0 ms0 : Nat} {ret0 : Option FieldType} (hN : mw_NV own i t y bc maxL ret nA) (hM : mw_Met G l y (.code y bc maxL ret) rm n M (.ref b :: As) (fun n1 M1 v => n1 = n ∧ mw_rI Q M1 v) XX) (his : mw_is n b t) (hn : As.length = nA) (hst : st0 = As.reverse ++ .ref b :: st)
    (hf : mw_frm rm R maxL k sl mc ms) (hcat : (st.map fun v => v.category).sum ≤ 8) (hZ : mw_Z P0 X0 mc0 ms0 ret0 Y) (hn00 : mw_n0 Y = n) (hx0 : ∀ (M1 : mw_M) (E : String), XX M1 E → X0 M1 E) (hk0 : k + mc ≤ mc0) (hs0 : sl + ms ≤ ms0) (d : decode cc pc = .ok (.invokevirtual i, 3)) (kk : ∀ (M1 : mw_M) (x : Int32), Q M1 x → mw_J Y (k + mc) (sl + ms) n M1 (pc + 3) L (.int x :: st)) : mw_J Y k sl n M pc L st0 :=
  jr_callVx hC hN hM his hn hst hf hcat hZ hn00 hx0 hk0 hs0 d fun M1 v hP => by obtain ⟨x, rfl, hq⟩ := hP; exact kk M1 x hq
theorem jr_callVx_pi (hC : mw_C G l R Y cc own) {i nA maxL mc ms : Nat} {y : MethodName} {bc : ByteArray} {rm : Room} {As st0 : List Value} {Q : Int32 → Prop} {t b : Nat} {ret : Option FieldType} {XX X0 : mw_M → String → Prop} {P0 : Nat → mw_M → Option Value → Prop} {mc0 ms0 : Nat} {ret0 : Option FieldType} (hN : mw_NV own i t y bc maxL ret nA) (hM : mw_Met G l y (.code y bc maxL ret) rm n M (.ref b :: As) (fun n1 M1 v => n1 = n ∧ mw_pI M Q M1 v) XX) (his : mw_is n b t) (hn : As.length = nA) (hst : st0 = As.reverse ++ .ref b :: st)
    (hf : mw_frm rm R maxL k sl mc ms) (hcat : (st.map fun v => v.category).sum ≤ 8) (hZ : mw_Z P0 X0 mc0 ms0 ret0 Y) (hn00 : mw_n0 Y = n) (hx0 : ∀ (M1 : mw_M) (E : String), XX M1 E → X0 M1 E) (hk0 : k + mc ≤ mc0) (hs0 : sl + ms ≤ ms0) (d : decode cc pc = .ok (.invokevirtual i, 3)) (kk : ∀ (x : Int32), Q x → mw_J Y (k + mc) (sl + ms) n M (pc + 3) L (.int x :: st)) : mw_J Y k sl n M pc L st0 :=
  jr_callVx hC hN hM his hn hst hf hcat hZ hn00 hx0 hk0 hs0 d fun M1 v hP => by obtain ⟨rfl, x, rfl, hq⟩ := hP; exact kk x hq
theorem jr_callVx_j (hC : mw_C G l R Y cc own) {i nA maxL mc ms : Nat} {y : MethodName} {bc : ByteArray} {rm : Room} {As st0 : List Value} {Q : mw_M → Int64 → Prop} {t b : Nat} {ret : Option FieldType} {XX X0 : mw_M → String → Prop} {P0 : Nat → mw_M → Option Value → Prop} {mc0 ms0 : Nat} {ret0 : Option FieldType} (hN : mw_NV own i t y bc maxL ret nA) (hM : mw_Met G l y (.code y bc maxL ret) rm n M (.ref b :: As) (fun n1 M1 v => n1 = n ∧ mw_rJ Q M1 v) XX) (his : mw_is n b t) (hn : As.length = nA) (hst : st0 = As.reverse ++ .ref b :: st)
    (hf : mw_frm rm R maxL k sl mc ms) (hcat : (st.map fun v => v.category).sum ≤ 8) (hZ : mw_Z P0 X0 mc0 ms0 ret0 Y) (hn00 : mw_n0 Y = n) (hx0 : ∀ (M1 : mw_M) (E : String), XX M1 E → X0 M1 E) (hk0 : k + mc ≤ mc0) (hs0 : sl + ms ≤ ms0) (d : decode cc pc = .ok (.invokevirtual i, 3)) (kk : ∀ (M1 : mw_M) (x : Int64), Q M1 x → mw_J Y (k + mc) (sl + ms) n M1 (pc + 3) L (.long x :: st)) : mw_J Y k sl n M pc L st0 :=
  jr_callVx hC hN hM his hn hst hf hcat hZ hn00 hx0 hk0 hs0 d fun M1 v hP => by obtain ⟨x, rfl, hq⟩ := hP; exact kk M1 x hq
theorem jr_callVx_pj (hC : mw_C G l R Y cc own) {i nA maxL mc ms : Nat} {y : MethodName} {bc : ByteArray} {rm : Room} {As st0 : List Value} {Q : Int64 → Prop} {t b : Nat} {ret : Option FieldType} {XX X0 : mw_M → String → Prop} {P0 : Nat → mw_M → Option Value → Prop} {mc0 ms0 : Nat} {ret0 : Option FieldType} (hN : mw_NV own i t y bc maxL ret nA) (hM : mw_Met G l y (.code y bc maxL ret) rm n M (.ref b :: As) (fun n1 M1 v => n1 = n ∧ mw_pJ M Q M1 v) XX) (his : mw_is n b t) (hn : As.length = nA) (hst : st0 = As.reverse ++ .ref b :: st)
    (hf : mw_frm rm R maxL k sl mc ms) (hcat : (st.map fun v => v.category).sum ≤ 8) (hZ : mw_Z P0 X0 mc0 ms0 ret0 Y) (hn00 : mw_n0 Y = n) (hx0 : ∀ (M1 : mw_M) (E : String), XX M1 E → X0 M1 E) (hk0 : k + mc ≤ mc0) (hs0 : sl + ms ≤ ms0) (d : decode cc pc = .ok (.invokevirtual i, 3)) (kk : ∀ (x : Int64), Q x → mw_J Y (k + mc) (sl + ms) n M (pc + 3) L (.long x :: st)) : mw_J Y k sl n M pc L st0 :=
  jr_callVx hC hN hM his hn hst hf hcat hZ hn00 hx0 hk0 hs0 d fun M1 v hP => by obtain ⟨rfl, x, rfl, hq⟩ := hP; exact kk x hq
theorem jr_callVx_a (hC : mw_C G l R Y cc own) {i nA maxL mc ms : Nat} {y : MethodName} {bc : ByteArray} {rm : Room} {As st0 : List Value} {Q : mw_M → Nat → Prop} {t b : Nat} {ret : Option FieldType} {XX X0 : mw_M → String → Prop} {P0 : Nat → mw_M → Option Value → Prop} {mc0 ms0 : Nat} {ret0 : Option FieldType} (hN : mw_NV own i t y bc maxL ret nA) (hM : mw_Met G l y (.code y bc maxL ret) rm n M (.ref b :: As) (fun n1 M1 v => n1 = n ∧ mw_rA Q M1 v) XX) (his : mw_is n b t) (hn : As.length = nA) (hst : st0 = As.reverse ++ .ref b :: st)
    (hf : mw_frm rm R maxL k sl mc ms) (hcat : (st.map fun v => v.category).sum ≤ 8) (hZ : mw_Z P0 X0 mc0 ms0 ret0 Y) (hn00 : mw_n0 Y = n) (hx0 : ∀ (M1 : mw_M) (E : String), XX M1 E → X0 M1 E) (hk0 : k + mc ≤ mc0) (hs0 : sl + ms ≤ ms0) (d : decode cc pc = .ok (.invokevirtual i, 3)) (kk : ∀ (M1 : mw_M) (x : Nat), Q M1 x → mw_J Y (k + mc) (sl + ms) n M1 (pc + 3) L (.ref x :: st)) : mw_J Y k sl n M pc L st0 :=
  jr_callVx hC hN hM his hn hst hf hcat hZ hn00 hx0 hk0 hs0 d fun M1 v hP => by obtain ⟨x, rfl, hq⟩ := hP; exact kk M1 x hq
theorem jr_callVx_pa (hC : mw_C G l R Y cc own) {i nA maxL mc ms : Nat} {y : MethodName} {bc : ByteArray} {rm : Room} {As st0 : List Value} {Q : Nat → Prop} {t b : Nat} {ret : Option FieldType} {XX X0 : mw_M → String → Prop} {P0 : Nat → mw_M → Option Value → Prop} {mc0 ms0 : Nat} {ret0 : Option FieldType} (hN : mw_NV own i t y bc maxL ret nA) (hM : mw_Met G l y (.code y bc maxL ret) rm n M (.ref b :: As) (fun n1 M1 v => n1 = n ∧ mw_pA M Q M1 v) XX) (his : mw_is n b t) (hn : As.length = nA) (hst : st0 = As.reverse ++ .ref b :: st)
    (hf : mw_frm rm R maxL k sl mc ms) (hcat : (st.map fun v => v.category).sum ≤ 8) (hZ : mw_Z P0 X0 mc0 ms0 ret0 Y) (hn00 : mw_n0 Y = n) (hx0 : ∀ (M1 : mw_M) (E : String), XX M1 E → X0 M1 E) (hk0 : k + mc ≤ mc0) (hs0 : sl + ms ≤ ms0) (d : decode cc pc = .ok (.invokevirtual i, 3)) (kk : ∀ (x : Nat), Q x → mw_J Y (k + mc) (sl + ms) n M (pc + 3) L (.ref x :: st)) : mw_J Y k sl n M pc L st0 :=
  jr_callVx hC hN hM his hn hst hf hcat hZ hn00 hx0 hk0 hs0 d fun M1 v hP => by obtain ⟨rfl, x, rfl, hq⟩ := hP; exact kk x hq
theorem jr_callVx_v (hC : mw_C G l R Y cc own) {i nA maxL mc ms : Nat} {y : MethodName} {bc : ByteArray} {rm : Room} {As st0 : List Value} {Q : mw_M → Prop} {t b : Nat} {ret : Option FieldType} {XX X0 : mw_M → String → Prop} {P0 : Nat → mw_M → Option Value → Prop} {mc0 ms0 : Nat} {ret0 : Option FieldType} (hN : mw_NV own i t y bc maxL ret nA) (hM : mw_Met G l y (.code y bc maxL ret) rm n M (.ref b :: As) (fun n1 M1 v => n1 = n ∧ mw_rV Q M1 v) XX) (his : mw_is n b t) (hn : As.length = nA) (hst : st0 = As.reverse ++ .ref b :: st)
    (hf : mw_frm rm R maxL k sl mc ms) (hcat : (st.map fun v => v.category).sum ≤ 8) (hZ : mw_Z P0 X0 mc0 ms0 ret0 Y) (hn00 : mw_n0 Y = n) (hx0 : ∀ (M1 : mw_M) (E : String), XX M1 E → X0 M1 E) (hk0 : k + mc ≤ mc0) (hs0 : sl + ms ≤ ms0) (d : decode cc pc = .ok (.invokevirtual i, 3)) (kk : ∀ (M1 : mw_M), Q M1 → mw_J Y (k + mc) (sl + ms) n M1 (pc + 3) L st) : mw_J Y k sl n M pc L st0 :=
  jr_callVx hC hN hM his hn hst hf hcat hZ hn00 hx0 hk0 hs0 d fun M1 v hP => by obtain ⟨rfl, hq⟩ := hP; exact kk M1 hq
theorem jr_callVx_pv (hC : mw_C G l R Y cc own) {i nA maxL mc ms : Nat} {y : MethodName} {bc : ByteArray} {rm : Room} {As st0 : List Value} {Q : Prop} {t b : Nat} {ret : Option FieldType} {XX X0 : mw_M → String → Prop} {P0 : Nat → mw_M → Option Value → Prop} {mc0 ms0 : Nat} {ret0 : Option FieldType} (hN : mw_NV own i t y bc maxL ret nA) (hM : mw_Met G l y (.code y bc maxL ret) rm n M (.ref b :: As) (fun n1 M1 v => n1 = n ∧ mw_pV M Q M1 v) XX) (his : mw_is n b t) (hn : As.length = nA) (hst : st0 = As.reverse ++ .ref b :: st)
    (hf : mw_frm rm R maxL k sl mc ms) (hcat : (st.map fun v => v.category).sum ≤ 8) (hZ : mw_Z P0 X0 mc0 ms0 ret0 Y) (hn00 : mw_n0 Y = n) (hx0 : ∀ (M1 : mw_M) (E : String), XX M1 E → X0 M1 E) (hk0 : k + mc ≤ mc0) (hs0 : sl + ms ≤ ms0) (d : decode cc pc = .ok (.invokevirtual i, 3)) (kk : Q → mw_J Y (k + mc) (sl + ms) n M (pc + 3) L st) : mw_J Y k sl n M pc L st0 :=
  jr_callVx hC hN hM his hn hst hf hcat hZ hn00 hx0 hk0 hs0 d fun M1 v hP => by obtain ⟨rfl, rfl, hq⟩ := hP; exact kk hq
theorem jr_callSx_v (hC : mw_C G l R Y cc own) {i nA maxL mc ms : Nat} {y : MethodName} {bc : ByteArray} {rm : Room} {As st0 : List Value} {Q : mw_M → Prop} {ret : Option FieldType} {XX X0 : mw_M → String → Prop} {P0 : Nat → mw_M → Option Value → Prop} {mc0 ms0 : Nat} {ret0 : Option FieldType} (hN : mw_NS own i y bc maxL ret nA) (hM : mw_Met G l y (.code y bc maxL ret) rm n M As (fun n1 M1 v => n1 = n ∧ mw_rV Q M1 v) XX) (hn : As.length = nA) (hst : st0 = As.reverse ++ st)
    (hf : mw_frm rm R maxL k sl mc ms) (hcat : (st.map fun v => v.category).sum ≤ 8) (hZ : mw_Z P0 X0 mc0 ms0 ret0 Y) (hn00 : mw_n0 Y = n) (hx0 : ∀ (M1 : mw_M) (E : String), XX M1 E → X0 M1 E) (hk0 : k + mc ≤ mc0) (hs0 : sl + ms ≤ ms0) (d : decode cc pc = .ok (.invokestatic i, 3)) (kk : ∀ (M1 : mw_M), Q M1 → mw_J Y (k + mc) (sl + ms) n M1 (pc + 3) L st) : mw_J Y k sl n M pc L st0 :=
  jr_callSx hC hN hM hn hst hf hcat hZ hn00 hx0 hk0 hs0 d fun M1 v hP => by obtain ⟨rfl, hq⟩ := hP; exact kk M1 hq
theorem jr_callSx_pv (hC : mw_C G l R Y cc own) {i nA maxL mc ms : Nat} {y : MethodName} {bc : ByteArray} {rm : Room} {As st0 : List Value} {Q : Prop} {ret : Option FieldType} {XX X0 : mw_M → String → Prop} {P0 : Nat → mw_M → Option Value → Prop} {mc0 ms0 : Nat} {ret0 : Option FieldType} (hN : mw_NS own i y bc maxL ret nA) (hM : mw_Met G l y (.code y bc maxL ret) rm n M As (fun n1 M1 v => n1 = n ∧ mw_pV M Q M1 v) XX) (hn : As.length = nA) (hst : st0 = As.reverse ++ st)
    (hf : mw_frm rm R maxL k sl mc ms) (hcat : (st.map fun v => v.category).sum ≤ 8) (hZ : mw_Z P0 X0 mc0 ms0 ret0 Y) (hn00 : mw_n0 Y = n) (hx0 : ∀ (M1 : mw_M) (E : String), XX M1 E → X0 M1 E) (hk0 : k + mc ≤ mc0) (hs0 : sl + ms ≤ ms0) (d : decode cc pc = .ok (.invokestatic i, 3)) (kk : Q → mw_J Y (k + mc) (sl + ms) n M (pc + 3) L st) : mw_J Y k sl n M pc L st0 :=
  jr_callSx hC hN hM hn hst hf hcat hZ hn00 hx0 hk0 hs0 d fun M1 v hP => by obtain ⟨rfl, rfl, hq⟩ := hP; exact kk hq
end JC
theorem mw_loop1 {A0 : Type} (P Inv : A0 → Prop) (mu : A0 → Nat) (hs : ∀ (a0 : A0), Inv a0 → (∀ (b0 : A0), Inv b0 ∧ mu b0 < mu a0 → P b0) → P a0) (a0 : A0) (h : Inv a0) : P a0 := by
  have H : ∀ (d : Nat) (a0 : A0), mu a0 < d → Inv a0 → P a0 := by
    intro d
    induction d with
    | zero => intro a0 h1; omega
    | succ d ih => intro a0 h1 h2; exact hs a0 h2 fun b0 h3 => ih b0 (by omega) h3.1
  exact H (mu a0 + 1) a0 (Nat.lt_succ_self _) h
theorem mw_loop2 {A0 : Type} {A1 : Type} (P Inv : A0 → A1 → Prop) (mu : A0 → A1 → Nat) (hs : ∀ (a0 : A0) (a1 : A1), Inv a0 a1 → (∀ (b0 : A0) (b1 : A1), Inv b0 b1 ∧ mu b0 b1 < mu a0 a1 → P b0 b1) → P a0 a1) (a0 : A0) (a1 : A1) (h : Inv a0 a1) : P a0 a1 := by
  have H : ∀ (d : Nat) (a0 : A0) (a1 : A1), mu a0 a1 < d → Inv a0 a1 → P a0 a1 := by
    intro d
    induction d with
    | zero => intro a0 a1 h1; omega
    | succ d ih => intro a0 a1 h1 h2; exact hs a0 a1 h2 fun b0 b1 h3 => ih b0 b1 (by omega) h3.1
  exact H (mu a0 a1 + 1) a0 a1 (Nat.lt_succ_self _) h
theorem mw_loop3 {A0 : Type} {A1 : Type} {A2 : Type} (P Inv : A0 → A1 → A2 → Prop) (mu : A0 → A1 → A2 → Nat) (hs : ∀ (a0 : A0) (a1 : A1) (a2 : A2), Inv a0 a1 a2 → (∀ (b0 : A0) (b1 : A1) (b2 : A2), Inv b0 b1 b2 ∧ mu b0 b1 b2 < mu a0 a1 a2 → P b0 b1 b2) → P a0 a1 a2) (a0 : A0) (a1 : A1) (a2 : A2) (h : Inv a0 a1 a2) : P a0 a1 a2 := by
  have H : ∀ (d : Nat) (a0 : A0) (a1 : A1) (a2 : A2), mu a0 a1 a2 < d → Inv a0 a1 a2 → P a0 a1 a2 := by
    intro d
    induction d with
    | zero => intro a0 a1 a2 h1; omega
    | succ d ih => intro a0 a1 a2 h1 h2; exact hs a0 a1 a2 h2 fun b0 b1 b2 h3 => ih b0 b1 b2 (by omega) h3.1
  exact H (mu a0 a1 a2 + 1) a0 a1 a2 (Nat.lt_succ_self _) h
theorem mw_loop4 {A0 : Type} {A1 : Type} {A2 : Type} {A3 : Type} (P Inv : A0 → A1 → A2 → A3 → Prop) (mu : A0 → A1 → A2 → A3 → Nat) (hs : ∀ (a0 : A0) (a1 : A1) (a2 : A2) (a3 : A3), Inv a0 a1 a2 a3 → (∀ (b0 : A0) (b1 : A1) (b2 : A2) (b3 : A3), Inv b0 b1 b2 b3 ∧ mu b0 b1 b2 b3 < mu a0 a1 a2 a3 → P b0 b1 b2 b3) → P a0 a1 a2 a3) (a0 : A0) (a1 : A1) (a2 : A2) (a3 : A3) (h : Inv a0 a1 a2 a3) : P a0 a1 a2 a3 := by
  have H : ∀ (d : Nat) (a0 : A0) (a1 : A1) (a2 : A2) (a3 : A3), mu a0 a1 a2 a3 < d → Inv a0 a1 a2 a3 → P a0 a1 a2 a3 := by
    intro d
    induction d with
    | zero => intro a0 a1 a2 a3 h1; omega
    | succ d ih => intro a0 a1 a2 a3 h1 h2; exact hs a0 a1 a2 a3 h2 fun b0 b1 b2 b3 h3 => ih b0 b1 b2 b3 (by omega) h3.1
  exact H (mu a0 a1 a2 a3 + 1) a0 a1 a2 a3 (Nat.lt_succ_self _) h
theorem mw_loop5 {A0 : Type} {A1 : Type} {A2 : Type} {A3 : Type} {A4 : Type} (P Inv : A0 → A1 → A2 → A3 → A4 → Prop) (mu : A0 → A1 → A2 → A3 → A4 → Nat) (hs : ∀ (a0 : A0) (a1 : A1) (a2 : A2) (a3 : A3) (a4 : A4), Inv a0 a1 a2 a3 a4 → (∀ (b0 : A0) (b1 : A1) (b2 : A2) (b3 : A3) (b4 : A4), Inv b0 b1 b2 b3 b4 ∧ mu b0 b1 b2 b3 b4 < mu a0 a1 a2 a3 a4 → P b0 b1 b2 b3 b4) → P a0 a1 a2 a3 a4) (a0 : A0) (a1 : A1) (a2 : A2) (a3 : A3) (a4 : A4) (h : Inv a0 a1 a2 a3 a4) : P a0 a1 a2 a3 a4 := by
  have H : ∀ (d : Nat) (a0 : A0) (a1 : A1) (a2 : A2) (a3 : A3) (a4 : A4), mu a0 a1 a2 a3 a4 < d → Inv a0 a1 a2 a3 a4 → P a0 a1 a2 a3 a4 := by
    intro d
    induction d with
    | zero => intro a0 a1 a2 a3 a4 h1; omega
    | succ d ih => intro a0 a1 a2 a3 a4 h1 h2; exact hs a0 a1 a2 a3 a4 h2 fun b0 b1 b2 b3 b4 h3 => ih b0 b1 b2 b3 b4 (by omega) h3.1
  exact H (mu a0 a1 a2 a3 a4 + 1) a0 a1 a2 a3 a4 (Nat.lt_succ_self _) h
theorem mw_loop6 {A0 : Type} {A1 : Type} {A2 : Type} {A3 : Type} {A4 : Type} {A5 : Type} (P Inv : A0 → A1 → A2 → A3 → A4 → A5 → Prop) (mu : A0 → A1 → A2 → A3 → A4 → A5 → Nat) (hs : ∀ (a0 : A0) (a1 : A1) (a2 : A2) (a3 : A3) (a4 : A4) (a5 : A5), Inv a0 a1 a2 a3 a4 a5 → (∀ (b0 : A0) (b1 : A1) (b2 : A2) (b3 : A3) (b4 : A4) (b5 : A5), Inv b0 b1 b2 b3 b4 b5 ∧ mu b0 b1 b2 b3 b4 b5 < mu a0 a1 a2 a3 a4 a5 → P b0 b1 b2 b3 b4 b5) → P a0 a1 a2 a3 a4 a5) (a0 : A0) (a1 : A1) (a2 : A2) (a3 : A3) (a4 : A4) (a5 : A5) (h : Inv a0 a1 a2 a3 a4 a5) : P a0 a1 a2 a3 a4 a5 := by
  have H : ∀ (d : Nat) (a0 : A0) (a1 : A1) (a2 : A2) (a3 : A3) (a4 : A4) (a5 : A5), mu a0 a1 a2 a3 a4 a5 < d → Inv a0 a1 a2 a3 a4 a5 → P a0 a1 a2 a3 a4 a5 := by
    intro d
    induction d with
    | zero => intro a0 a1 a2 a3 a4 a5 h1; omega
    | succ d ih => intro a0 a1 a2 a3 a4 a5 h1 h2; exact hs a0 a1 a2 a3 a4 a5 h2 fun b0 b1 b2 b3 b4 b5 h3 => ih b0 b1 b2 b3 b4 b5 (by omega) h3.1
  exact H (mu a0 a1 a2 a3 a4 a5 + 1) a0 a1 a2 a3 a4 a5 (Nat.lt_succ_self _) h
theorem mw_loop7 {A0 : Type} {A1 : Type} {A2 : Type} {A3 : Type} {A4 : Type} {A5 : Type} {A6 : Type} (P Inv : A0 → A1 → A2 → A3 → A4 → A5 → A6 → Prop) (mu : A0 → A1 → A2 → A3 → A4 → A5 → A6 → Nat) (hs : ∀ (a0 : A0) (a1 : A1) (a2 : A2) (a3 : A3) (a4 : A4) (a5 : A5) (a6 : A6), Inv a0 a1 a2 a3 a4 a5 a6 → (∀ (b0 : A0) (b1 : A1) (b2 : A2) (b3 : A3) (b4 : A4) (b5 : A5) (b6 : A6), Inv b0 b1 b2 b3 b4 b5 b6 ∧ mu b0 b1 b2 b3 b4 b5 b6 < mu a0 a1 a2 a3 a4 a5 a6 → P b0 b1 b2 b3 b4 b5 b6) → P a0 a1 a2 a3 a4 a5 a6) (a0 : A0) (a1 : A1) (a2 : A2) (a3 : A3) (a4 : A4) (a5 : A5) (a6 : A6) (h : Inv a0 a1 a2 a3 a4 a5 a6) : P a0 a1 a2 a3 a4 a5 a6 := by
  have H : ∀ (d : Nat) (a0 : A0) (a1 : A1) (a2 : A2) (a3 : A3) (a4 : A4) (a5 : A5) (a6 : A6), mu a0 a1 a2 a3 a4 a5 a6 < d → Inv a0 a1 a2 a3 a4 a5 a6 → P a0 a1 a2 a3 a4 a5 a6 := by
    intro d
    induction d with
    | zero => intro a0 a1 a2 a3 a4 a5 a6 h1; omega
    | succ d ih => intro a0 a1 a2 a3 a4 a5 a6 h1 h2; exact hs a0 a1 a2 a3 a4 a5 a6 h2 fun b0 b1 b2 b3 b4 b5 b6 h3 => ih b0 b1 b2 b3 b4 b5 b6 (by omega) h3.1
  exact H (mu a0 a1 a2 a3 a4 a5 a6 + 1) a0 a1 a2 a3 a4 a5 a6 (Nat.lt_succ_self _) h
theorem mw_loop8 {A0 : Type} {A1 : Type} {A2 : Type} {A3 : Type} {A4 : Type} {A5 : Type} {A6 : Type} {A7 : Type} (P Inv : A0 → A1 → A2 → A3 → A4 → A5 → A6 → A7 → Prop) (mu : A0 → A1 → A2 → A3 → A4 → A5 → A6 → A7 → Nat) (hs : ∀ (a0 : A0) (a1 : A1) (a2 : A2) (a3 : A3) (a4 : A4) (a5 : A5) (a6 : A6) (a7 : A7), Inv a0 a1 a2 a3 a4 a5 a6 a7 → (∀ (b0 : A0) (b1 : A1) (b2 : A2) (b3 : A3) (b4 : A4) (b5 : A5) (b6 : A6) (b7 : A7), Inv b0 b1 b2 b3 b4 b5 b6 b7 ∧ mu b0 b1 b2 b3 b4 b5 b6 b7 < mu a0 a1 a2 a3 a4 a5 a6 a7 → P b0 b1 b2 b3 b4 b5 b6 b7) → P a0 a1 a2 a3 a4 a5 a6 a7) (a0 : A0) (a1 : A1) (a2 : A2) (a3 : A3) (a4 : A4) (a5 : A5) (a6 : A6) (a7 : A7) (h : Inv a0 a1 a2 a3 a4 a5 a6 a7) : P a0 a1 a2 a3 a4 a5 a6 a7 := by
  have H : ∀ (d : Nat) (a0 : A0) (a1 : A1) (a2 : A2) (a3 : A3) (a4 : A4) (a5 : A5) (a6 : A6) (a7 : A7), mu a0 a1 a2 a3 a4 a5 a6 a7 < d → Inv a0 a1 a2 a3 a4 a5 a6 a7 → P a0 a1 a2 a3 a4 a5 a6 a7 := by
    intro d
    induction d with
    | zero => intro a0 a1 a2 a3 a4 a5 a6 a7 h1; omega
    | succ d ih => intro a0 a1 a2 a3 a4 a5 a6 a7 h1 h2; exact hs a0 a1 a2 a3 a4 a5 a6 a7 h2 fun b0 b1 b2 b3 b4 b5 b6 b7 h3 => ih b0 b1 b2 b3 b4 b5 b6 b7 (by omega) h3.1
  exact H (mu a0 a1 a2 a3 a4 a5 a6 a7 + 1) a0 a1 a2 a3 a4 a5 a6 a7 (Nat.lt_succ_self _) h
theorem mw_loop9 {A0 : Type} {A1 : Type} {A2 : Type} {A3 : Type} {A4 : Type} {A5 : Type} {A6 : Type} {A7 : Type} {A8 : Type} (P Inv : A0 → A1 → A2 → A3 → A4 → A5 → A6 → A7 → A8 → Prop) (mu : A0 → A1 → A2 → A3 → A4 → A5 → A6 → A7 → A8 → Nat) (hs : ∀ (a0 : A0) (a1 : A1) (a2 : A2) (a3 : A3) (a4 : A4) (a5 : A5) (a6 : A6) (a7 : A7) (a8 : A8), Inv a0 a1 a2 a3 a4 a5 a6 a7 a8 → (∀ (b0 : A0) (b1 : A1) (b2 : A2) (b3 : A3) (b4 : A4) (b5 : A5) (b6 : A6) (b7 : A7) (b8 : A8), Inv b0 b1 b2 b3 b4 b5 b6 b7 b8 ∧ mu b0 b1 b2 b3 b4 b5 b6 b7 b8 < mu a0 a1 a2 a3 a4 a5 a6 a7 a8 → P b0 b1 b2 b3 b4 b5 b6 b7 b8) → P a0 a1 a2 a3 a4 a5 a6 a7 a8) (a0 : A0) (a1 : A1) (a2 : A2) (a3 : A3) (a4 : A4) (a5 : A5) (a6 : A6) (a7 : A7) (a8 : A8) (h : Inv a0 a1 a2 a3 a4 a5 a6 a7 a8) : P a0 a1 a2 a3 a4 a5 a6 a7 a8 := by
  have H : ∀ (d : Nat) (a0 : A0) (a1 : A1) (a2 : A2) (a3 : A3) (a4 : A4) (a5 : A5) (a6 : A6) (a7 : A7) (a8 : A8), mu a0 a1 a2 a3 a4 a5 a6 a7 a8 < d → Inv a0 a1 a2 a3 a4 a5 a6 a7 a8 → P a0 a1 a2 a3 a4 a5 a6 a7 a8 := by
    intro d
    induction d with
    | zero => intro a0 a1 a2 a3 a4 a5 a6 a7 a8 h1; omega
    | succ d ih => intro a0 a1 a2 a3 a4 a5 a6 a7 a8 h1 h2; exact hs a0 a1 a2 a3 a4 a5 a6 a7 a8 h2 fun b0 b1 b2 b3 b4 b5 b6 b7 b8 h3 => ih b0 b1 b2 b3 b4 b5 b6 b7 b8 (by omega) h3.1
  exact H (mu a0 a1 a2 a3 a4 a5 a6 a7 a8 + 1) a0 a1 a2 a3 a4 a5 a6 a7 a8 (Nat.lt_succ_self _) h
theorem mw_loop10 {A0 : Type} {A1 : Type} {A2 : Type} {A3 : Type} {A4 : Type} {A5 : Type} {A6 : Type} {A7 : Type} {A8 : Type} {A9 : Type} (P Inv : A0 → A1 → A2 → A3 → A4 → A5 → A6 → A7 → A8 → A9 → Prop) (mu : A0 → A1 → A2 → A3 → A4 → A5 → A6 → A7 → A8 → A9 → Nat) (hs : ∀ (a0 : A0) (a1 : A1) (a2 : A2) (a3 : A3) (a4 : A4) (a5 : A5) (a6 : A6) (a7 : A7) (a8 : A8) (a9 : A9), Inv a0 a1 a2 a3 a4 a5 a6 a7 a8 a9 → (∀ (b0 : A0) (b1 : A1) (b2 : A2) (b3 : A3) (b4 : A4) (b5 : A5) (b6 : A6) (b7 : A7) (b8 : A8) (b9 : A9), Inv b0 b1 b2 b3 b4 b5 b6 b7 b8 b9 ∧ mu b0 b1 b2 b3 b4 b5 b6 b7 b8 b9 < mu a0 a1 a2 a3 a4 a5 a6 a7 a8 a9 → P b0 b1 b2 b3 b4 b5 b6 b7 b8 b9) → P a0 a1 a2 a3 a4 a5 a6 a7 a8 a9) (a0 : A0) (a1 : A1) (a2 : A2) (a3 : A3) (a4 : A4) (a5 : A5) (a6 : A6) (a7 : A7) (a8 : A8) (a9 : A9) (h : Inv a0 a1 a2 a3 a4 a5 a6 a7 a8 a9) : P a0 a1 a2 a3 a4 a5 a6 a7 a8 a9 := by
  have H : ∀ (d : Nat) (a0 : A0) (a1 : A1) (a2 : A2) (a3 : A3) (a4 : A4) (a5 : A5) (a6 : A6) (a7 : A7) (a8 : A8) (a9 : A9), mu a0 a1 a2 a3 a4 a5 a6 a7 a8 a9 < d → Inv a0 a1 a2 a3 a4 a5 a6 a7 a8 a9 → P a0 a1 a2 a3 a4 a5 a6 a7 a8 a9 := by
    intro d
    induction d with
    | zero => intro a0 a1 a2 a3 a4 a5 a6 a7 a8 a9 h1; omega
    | succ d ih => intro a0 a1 a2 a3 a4 a5 a6 a7 a8 a9 h1 h2; exact hs a0 a1 a2 a3 a4 a5 a6 a7 a8 a9 h2 fun b0 b1 b2 b3 b4 b5 b6 b7 b8 b9 h3 => ih b0 b1 b2 b3 b4 b5 b6 b7 b8 b9 (by omega) h3.1
  exact H (mu a0 a1 a2 a3 a4 a5 a6 a7 a8 a9 + 1) a0 a1 a2 a3 a4 a5 a6 a7 a8 a9 (Nat.lt_succ_self _) h
theorem mw_loop11 {A0 : Type} {A1 : Type} {A2 : Type} {A3 : Type} {A4 : Type} {A5 : Type} {A6 : Type} {A7 : Type} {A8 : Type} {A9 : Type} {A10 : Type} (P Inv : A0 → A1 → A2 → A3 → A4 → A5 → A6 → A7 → A8 → A9 → A10 → Prop) (mu : A0 → A1 → A2 → A3 → A4 → A5 → A6 → A7 → A8 → A9 → A10 → Nat) (hs : ∀ (a0 : A0) (a1 : A1) (a2 : A2) (a3 : A3) (a4 : A4) (a5 : A5) (a6 : A6) (a7 : A7) (a8 : A8) (a9 : A9) (a10 : A10), Inv a0 a1 a2 a3 a4 a5 a6 a7 a8 a9 a10 → (∀ (b0 : A0) (b1 : A1) (b2 : A2) (b3 : A3) (b4 : A4) (b5 : A5) (b6 : A6) (b7 : A7) (b8 : A8) (b9 : A9) (b10 : A10), Inv b0 b1 b2 b3 b4 b5 b6 b7 b8 b9 b10 ∧ mu b0 b1 b2 b3 b4 b5 b6 b7 b8 b9 b10 < mu a0 a1 a2 a3 a4 a5 a6 a7 a8 a9 a10 → P b0 b1 b2 b3 b4 b5 b6 b7 b8 b9 b10) → P a0 a1 a2 a3 a4 a5 a6 a7 a8 a9 a10) (a0 : A0) (a1 : A1) (a2 : A2) (a3 : A3) (a4 : A4) (a5 : A5) (a6 : A6) (a7 : A7) (a8 : A8) (a9 : A9) (a10 : A10) (h : Inv a0 a1 a2 a3 a4 a5 a6 a7 a8 a9 a10) : P a0 a1 a2 a3 a4 a5 a6 a7 a8 a9 a10 := by
  have H : ∀ (d : Nat) (a0 : A0) (a1 : A1) (a2 : A2) (a3 : A3) (a4 : A4) (a5 : A5) (a6 : A6) (a7 : A7) (a8 : A8) (a9 : A9) (a10 : A10), mu a0 a1 a2 a3 a4 a5 a6 a7 a8 a9 a10 < d → Inv a0 a1 a2 a3 a4 a5 a6 a7 a8 a9 a10 → P a0 a1 a2 a3 a4 a5 a6 a7 a8 a9 a10 := by
    intro d
    induction d with
    | zero => intro a0 a1 a2 a3 a4 a5 a6 a7 a8 a9 a10 h1; omega
    | succ d ih => intro a0 a1 a2 a3 a4 a5 a6 a7 a8 a9 a10 h1 h2; exact hs a0 a1 a2 a3 a4 a5 a6 a7 a8 a9 a10 h2 fun b0 b1 b2 b3 b4 b5 b6 b7 b8 b9 b10 h3 => ih b0 b1 b2 b3 b4 b5 b6 b7 b8 b9 b10 (by omega) h3.1
  exact H (mu a0 a1 a2 a3 a4 a5 a6 a7 a8 a9 a10 + 1) a0 a1 a2 a3 a4 a5 a6 a7 a8 a9 a10 (Nat.lt_succ_self _) h
theorem mw_loop12 {A0 : Type} {A1 : Type} {A2 : Type} {A3 : Type} {A4 : Type} {A5 : Type} {A6 : Type} {A7 : Type} {A8 : Type} {A9 : Type} {A10 : Type} {A11 : Type} (P Inv : A0 → A1 → A2 → A3 → A4 → A5 → A6 → A7 → A8 → A9 → A10 → A11 → Prop) (mu : A0 → A1 → A2 → A3 → A4 → A5 → A6 → A7 → A8 → A9 → A10 → A11 → Nat) (hs : ∀ (a0 : A0) (a1 : A1) (a2 : A2) (a3 : A3) (a4 : A4) (a5 : A5) (a6 : A6) (a7 : A7) (a8 : A8) (a9 : A9) (a10 : A10) (a11 : A11), Inv a0 a1 a2 a3 a4 a5 a6 a7 a8 a9 a10 a11 → (∀ (b0 : A0) (b1 : A1) (b2 : A2) (b3 : A3) (b4 : A4) (b5 : A5) (b6 : A6) (b7 : A7) (b8 : A8) (b9 : A9) (b10 : A10) (b11 : A11), Inv b0 b1 b2 b3 b4 b5 b6 b7 b8 b9 b10 b11 ∧ mu b0 b1 b2 b3 b4 b5 b6 b7 b8 b9 b10 b11 < mu a0 a1 a2 a3 a4 a5 a6 a7 a8 a9 a10 a11 → P b0 b1 b2 b3 b4 b5 b6 b7 b8 b9 b10 b11) → P a0 a1 a2 a3 a4 a5 a6 a7 a8 a9 a10 a11) (a0 : A0) (a1 : A1) (a2 : A2) (a3 : A3) (a4 : A4) (a5 : A5) (a6 : A6) (a7 : A7) (a8 : A8) (a9 : A9) (a10 : A10) (a11 : A11) (h : Inv a0 a1 a2 a3 a4 a5 a6 a7 a8 a9 a10 a11) : P a0 a1 a2 a3 a4 a5 a6 a7 a8 a9 a10 a11 := by
  have H : ∀ (d : Nat) (a0 : A0) (a1 : A1) (a2 : A2) (a3 : A3) (a4 : A4) (a5 : A5) (a6 : A6) (a7 : A7) (a8 : A8) (a9 : A9) (a10 : A10) (a11 : A11), mu a0 a1 a2 a3 a4 a5 a6 a7 a8 a9 a10 a11 < d → Inv a0 a1 a2 a3 a4 a5 a6 a7 a8 a9 a10 a11 → P a0 a1 a2 a3 a4 a5 a6 a7 a8 a9 a10 a11 := by
    intro d
    induction d with
    | zero => intro a0 a1 a2 a3 a4 a5 a6 a7 a8 a9 a10 a11 h1; omega
    | succ d ih => intro a0 a1 a2 a3 a4 a5 a6 a7 a8 a9 a10 a11 h1 h2; exact hs a0 a1 a2 a3 a4 a5 a6 a7 a8 a9 a10 a11 h2 fun b0 b1 b2 b3 b4 b5 b6 b7 b8 b9 b10 b11 h3 => ih b0 b1 b2 b3 b4 b5 b6 b7 b8 b9 b10 b11 (by omega) h3.1
  exact H (mu a0 a1 a2 a3 a4 a5 a6 a7 a8 a9 a10 a11 + 1) a0 a1 a2 a3 a4 a5 a6 a7 a8 a9 a10 a11 (Nat.lt_succ_self _) h
theorem mw_loop13 {A0 : Type} {A1 : Type} {A2 : Type} {A3 : Type} {A4 : Type} {A5 : Type} {A6 : Type} {A7 : Type} {A8 : Type} {A9 : Type} {A10 : Type} {A11 : Type} {A12 : Type} (P Inv : A0 → A1 → A2 → A3 → A4 → A5 → A6 → A7 → A8 → A9 → A10 → A11 → A12 → Prop) (mu : A0 → A1 → A2 → A3 → A4 → A5 → A6 → A7 → A8 → A9 → A10 → A11 → A12 → Nat) (hs : ∀ (a0 : A0) (a1 : A1) (a2 : A2) (a3 : A3) (a4 : A4) (a5 : A5) (a6 : A6) (a7 : A7) (a8 : A8) (a9 : A9) (a10 : A10) (a11 : A11) (a12 : A12), Inv a0 a1 a2 a3 a4 a5 a6 a7 a8 a9 a10 a11 a12 → (∀ (b0 : A0) (b1 : A1) (b2 : A2) (b3 : A3) (b4 : A4) (b5 : A5) (b6 : A6) (b7 : A7) (b8 : A8) (b9 : A9) (b10 : A10) (b11 : A11) (b12 : A12), Inv b0 b1 b2 b3 b4 b5 b6 b7 b8 b9 b10 b11 b12 ∧ mu b0 b1 b2 b3 b4 b5 b6 b7 b8 b9 b10 b11 b12 < mu a0 a1 a2 a3 a4 a5 a6 a7 a8 a9 a10 a11 a12 → P b0 b1 b2 b3 b4 b5 b6 b7 b8 b9 b10 b11 b12) → P a0 a1 a2 a3 a4 a5 a6 a7 a8 a9 a10 a11 a12) (a0 : A0) (a1 : A1) (a2 : A2) (a3 : A3) (a4 : A4) (a5 : A5) (a6 : A6) (a7 : A7) (a8 : A8) (a9 : A9) (a10 : A10) (a11 : A11) (a12 : A12) (h : Inv a0 a1 a2 a3 a4 a5 a6 a7 a8 a9 a10 a11 a12) : P a0 a1 a2 a3 a4 a5 a6 a7 a8 a9 a10 a11 a12 := by
  have H : ∀ (d : Nat) (a0 : A0) (a1 : A1) (a2 : A2) (a3 : A3) (a4 : A4) (a5 : A5) (a6 : A6) (a7 : A7) (a8 : A8) (a9 : A9) (a10 : A10) (a11 : A11) (a12 : A12), mu a0 a1 a2 a3 a4 a5 a6 a7 a8 a9 a10 a11 a12 < d → Inv a0 a1 a2 a3 a4 a5 a6 a7 a8 a9 a10 a11 a12 → P a0 a1 a2 a3 a4 a5 a6 a7 a8 a9 a10 a11 a12 := by
    intro d
    induction d with
    | zero => intro a0 a1 a2 a3 a4 a5 a6 a7 a8 a9 a10 a11 a12 h1; omega
    | succ d ih => intro a0 a1 a2 a3 a4 a5 a6 a7 a8 a9 a10 a11 a12 h1 h2; exact hs a0 a1 a2 a3 a4 a5 a6 a7 a8 a9 a10 a11 a12 h2 fun b0 b1 b2 b3 b4 b5 b6 b7 b8 b9 b10 b11 b12 h3 => ih b0 b1 b2 b3 b4 b5 b6 b7 b8 b9 b10 b11 b12 (by omega) h3.1
  exact H (mu a0 a1 a2 a3 a4 a5 a6 a7 a8 a9 a10 a11 a12 + 1) a0 a1 a2 a3 a4 a5 a6 a7 a8 a9 a10 a11 a12 (Nat.lt_succ_self _) h
theorem mw_loop14 {A0 : Type} {A1 : Type} {A2 : Type} {A3 : Type} {A4 : Type} {A5 : Type} {A6 : Type} {A7 : Type} {A8 : Type} {A9 : Type} {A10 : Type} {A11 : Type} {A12 : Type} {A13 : Type} (P Inv : A0 → A1 → A2 → A3 → A4 → A5 → A6 → A7 → A8 → A9 → A10 → A11 → A12 → A13 → Prop) (mu : A0 → A1 → A2 → A3 → A4 → A5 → A6 → A7 → A8 → A9 → A10 → A11 → A12 → A13 → Nat) (hs : ∀ (a0 : A0) (a1 : A1) (a2 : A2) (a3 : A3) (a4 : A4) (a5 : A5) (a6 : A6) (a7 : A7) (a8 : A8) (a9 : A9) (a10 : A10) (a11 : A11) (a12 : A12) (a13 : A13), Inv a0 a1 a2 a3 a4 a5 a6 a7 a8 a9 a10 a11 a12 a13 → (∀ (b0 : A0) (b1 : A1) (b2 : A2) (b3 : A3) (b4 : A4) (b5 : A5) (b6 : A6) (b7 : A7) (b8 : A8) (b9 : A9) (b10 : A10) (b11 : A11) (b12 : A12) (b13 : A13), Inv b0 b1 b2 b3 b4 b5 b6 b7 b8 b9 b10 b11 b12 b13 ∧ mu b0 b1 b2 b3 b4 b5 b6 b7 b8 b9 b10 b11 b12 b13 < mu a0 a1 a2 a3 a4 a5 a6 a7 a8 a9 a10 a11 a12 a13 → P b0 b1 b2 b3 b4 b5 b6 b7 b8 b9 b10 b11 b12 b13) → P a0 a1 a2 a3 a4 a5 a6 a7 a8 a9 a10 a11 a12 a13) (a0 : A0) (a1 : A1) (a2 : A2) (a3 : A3) (a4 : A4) (a5 : A5) (a6 : A6) (a7 : A7) (a8 : A8) (a9 : A9) (a10 : A10) (a11 : A11) (a12 : A12) (a13 : A13) (h : Inv a0 a1 a2 a3 a4 a5 a6 a7 a8 a9 a10 a11 a12 a13) : P a0 a1 a2 a3 a4 a5 a6 a7 a8 a9 a10 a11 a12 a13 := by
  have H : ∀ (d : Nat) (a0 : A0) (a1 : A1) (a2 : A2) (a3 : A3) (a4 : A4) (a5 : A5) (a6 : A6) (a7 : A7) (a8 : A8) (a9 : A9) (a10 : A10) (a11 : A11) (a12 : A12) (a13 : A13), mu a0 a1 a2 a3 a4 a5 a6 a7 a8 a9 a10 a11 a12 a13 < d → Inv a0 a1 a2 a3 a4 a5 a6 a7 a8 a9 a10 a11 a12 a13 → P a0 a1 a2 a3 a4 a5 a6 a7 a8 a9 a10 a11 a12 a13 := by
    intro d
    induction d with
    | zero => intro a0 a1 a2 a3 a4 a5 a6 a7 a8 a9 a10 a11 a12 a13 h1; omega
    | succ d ih => intro a0 a1 a2 a3 a4 a5 a6 a7 a8 a9 a10 a11 a12 a13 h1 h2; exact hs a0 a1 a2 a3 a4 a5 a6 a7 a8 a9 a10 a11 a12 a13 h2 fun b0 b1 b2 b3 b4 b5 b6 b7 b8 b9 b10 b11 b12 b13 h3 => ih b0 b1 b2 b3 b4 b5 b6 b7 b8 b9 b10 b11 b12 b13 (by omega) h3.1
  exact H (mu a0 a1 a2 a3 a4 a5 a6 a7 a8 a9 a10 a11 a12 a13 + 1) a0 a1 a2 a3 a4 a5 a6 a7 a8 a9 a10 a11 a12 a13 (Nat.lt_succ_self _) h
