/-! Methods with an exception table: their entry and ends, a call inside the try, what is caught; a call of such a method -/
def mw_Zh (P : Nat → mw_M → Option Value → Prop) (hh : List (Nat × Nat × Nat × Nat)) (mc ms : Nat) (ret : Option FieldType) : mw_Y → Prop
  | (G, _, _, _, _, s, _, args, below, meth, c, _, Q, ad0, n0) => Q = vx_MQ below (mw_Q G ad0 n0 P) (mw_XC G ad0 n0 (fun _ _ => False)) args s mc ms (mw_A G) ∧ meth.sig.returnType = ret ∧ c.exceptionTable.toList = tableOf hh
/-- an exception of the class E under way, thrown at pc -/
def mw_JX : mw_Y → Nat → Nat → Nat → mw_M → Nat → List (Nat × Value) → String → Prop
  | (G, p, l, e, R, s, m, args, below, meth, c, nL, Q, ad0, n0), k, sl, n, M, pc, L, E =>
    ∀ (ad : Nat → Nat) (H : Heap) (locs : List Loc) (ls : Array Slot) (q : Addr) (ce : Cell) (rest : List Value), mw_W G ad n M H → mw_X ad0 n0 ad n → va_S (mw_A G) s.heap H locs → lv_has ls nL (mw_lm ad L) → H[q]? = some ce → ce.vm = .none → s.vm.findClass E = some ce.cls → vx_W p l e R s m args below meth c H locs k sl Q (F0 m pc ls rest) q
theorem mw_enterH {G : mw_G} {l : Launch} {y : MethodName} {cc : ByteArray} {maxL : Nat} {ret : Option FieldType} {hh : List (Nat × Nat × Nat × Nat)} {rm : Room} {n : Nat} {M : mw_M} {as : List Value} {P : Nat → mw_M → Option Value → Prop} {mc ms : Nat} {L0 : List (Nat × Value)}
    (hl : l.stackTraces = false) (hmc : rm.cells = mc) (hms : rm.slots = ms) (hy : plainName y.cls = true) (hlen : (lg_sl as).length ≤ maxL) (hL : lv_args 0 as = L0)
    (body : ∀ Y : mw_Y, mw_C G l rm Y cc y.cls → mw_Zh P hh mc ms ret Y → mw_nL Y = maxL → mw_n0 Y = n → mw_J Y 0 0 n M 0 L0 []) : mw_Met G l y (.codeWith y cc maxL ret hh) rm n M as P (fun _ _ => False) := by
  intro ad
  refine vx_ofWH (cc := cc) (maxL := maxL) (ret := ret) (hh := hh) hy rfl ?_
  intro p e s m args below meth c s₁ B hml hv
  obtain ⟨rfl, hW, hK, hE⟩ := hv
  have hts : ∀ w ∈ TB, w.before ((as.map (mw_v ad)).toArray) s = true := fun w hw => atoms_spec (ws := .codeWith y cc maxL ret hh :: TB) B.pre w (List.mem_cons_of_mem _ hw)
  have hexc : c.exceptionTable.toList = tableOf hh := vx_table (x := y) B (atoms_spec (ws := .codeWith y cc maxL ret hh :: TB) B.pre _ List.mem_cons_self)
  have hown : s.vm.findClass y.cls = some m.cls := findClass_of_methodNamed B.named
  subst hmc; subst hms
  have hb := body (G, p, l, e, rm, s, m, (as.map (mw_v ad)).toArray, below, meth, c, maxL, vx_MQ below (mw_Q G ad n P) (mw_XC G ad n (fun _ _ => False)) (as.map (mw_v ad)).toArray s rm.cells rm.slots (mw_A G), ad, n)
    ⟨⟨B.exec, B.bytes, hml, hown, hts⟩, hK, hE, hl, B.notSynchronized, rfl, rfl, rfl⟩ ⟨rfl, B.returns, hexc⟩ rfl rfl
  have h := lv_entry (as.map (mw_v ad)) (n := maxL) (by rw [mw_lg_len _ (mw_v_cat ad)]; exact hlen)
  rw [mw_lv_args, hL] at h
  rw [lg_entry_eq]
  exact hb ad s.heap [] _ hW (mw_X.rf ad n) va_S.rf h
section JT
variable {G : mw_G} {l : Launch} {R : Room} {Y : mw_Y} {cc : ByteArray} {own : String} {k sl n : Nat} {M : mw_M} {pc : Nat} {L : List (Nat × Value)} {st : List Value}
theorem jr_iretH (hC : mw_C G l R Y cc own) {x : Int32} {P : Nat → mw_M → Option Value → Prop} {hh : List (Nat × Nat × Nat × Nat)} {mc ms : Nat} (hZ : mw_Zh P hh mc ms (some .int) Y) (hk : k ≤ mc) (hs : sl ≤ ms) (d : decode cc pc = .ok (.ireturn, 1)) (h : P n M (some (.int x))) : mw_J Y k sl n M pc L [.int x] := by
  obtain ⟨G1, p, l1, e, R1, s, m, args, below, meth, c, nL, Q, ad0, n0⟩ := Y
  obtain ⟨⟨hx, hb, hml, hown, hts⟩, hK, hE, hnt, hlk, rfl, rfl, rfl⟩ := hC
  obtain ⟨rfl, hr, -⟩ := hZ
  intro ad H locs ls hW hX hS hl
  refine W.widen (k := mc) (n := ms) hk hs (vx_ret ?_)
  exact W.iret hx hb hr (fun t ht hW9 => ⟨⟨some (.int x), ad, n, M, rfl, hX, by rw [ht]; exact hW, h⟩, hS.F ht⟩) hS.2.2 d (hlocks := hlk)
theorem jr_callVt (hC : mw_C G l R Y cc own) {i nA maxL mc ms : Nat} {y : MethodName} {bc : ByteArray} {rm : Room} {As st0 : List Value} {P : mw_M → Option Value → Prop} {t b : Nat} {ret : Option FieldType} {XX : mw_M → String → Prop} (hN : mw_NV own i t y bc maxL ret nA) (hM : mw_Met G l y (.code y bc maxL ret) rm n M (.ref b :: As) (fun n1 M1 v => n1 = n ∧ P M1 v) XX) (his : mw_is n b t) (hn : As.length = nA) (hst : st0 = As.reverse ++ .ref b :: st)
    (hf : mw_frm rm R maxL k sl mc ms) (hcat : (st.map fun v => v.category).sum ≤ 8) (hn00 : mw_n0 Y = n) (d : decode cc pc = .ok (.invokevirtual i, 3)) (kx : ∀ (M1 : mw_M) (E : String), XX M1 E → mw_JX Y (k + mc) (sl + ms) n M1 pc L E) (kk : ∀ (M1 : mw_M) (v : Option Value), P M1 v → mw_J Y (k + mc) (sl + ms) n M1 (pc + 3) L (v.toList ++ st)) : mw_J Y k sl n M pc L st0 := by
  obtain ⟨G1, p, l1, e, R1, s, m, args, below, meth, c, nL, Q, ad0, n0⟩ := Y
  obtain ⟨⟨hx, hb, hml, hown, hts⟩, hK, hE, hnt, hlk, rfl, rfl, rfl⟩ := hC
  obtain ⟨⟨hrc, hrs⟩, hroom, hcs⟩ := hf
  obtain ⟨⟨hd, hcode, hini⟩, ⟨T9, N9, hcl9⟩, hl9, hi9, hs9⟩ := hN
  intro ad H locs ls hW hX hS hl
  subst hst
  have hG : GoodIn TB (.code y bc maxL ret :: TB) := tb_cons hcode tb_TB
  have hcb : CallB R1 s args own i y bc maxL ret (.code y bc maxL ret :: TB) rm mc ms nA := callB_of nA hts hG rfl hrc hrs (hts _ hini) (hts _ hl9) hd hroom
  have hm := hM ad
  rw [hrc, hrs] at hm
  have hpre := mw_P_at (G := G1) (as := .ref b :: As) hW hK hE hS
  simp only [List.map_cons, mw_v_ref] at hpre
  rw [mw_r_pos his.2.1] at hpre
  refine mw_backX (vx_runV (As := As.map (mw_v ad)) (rest := st.map (mw_v ad)) ⟨hx, hb, hml, hown, hts⟩ hm ⟨hcb, hts _ hi9, hts _ hs9⟩ ⟨mw_P_blind, mw_recv hW hK his hcl9, hpre⟩ rfl (by rw [List.length_map]; exact hn) hl.1 (by rw [mw_rev]; simp only [List.map_cons, mw_v_ref]; rw [mw_r_pos his.2.1]) (lv_room (by rw [mw_cats]; exact hcat)) d hcs) hE hS (fun v ad1 n1 M1 H1 locs1 hX1 hW1 hP1 hS1 => ?_) (fun E M1 H1 locs1 q ce hW1 hP1 hS1 hce hcv hcl => kx M1 E hP1 ad H1 locs1 ls q ce _ hW1 hX hS1 hl hce hcv hcl)
  obtain ⟨hn1, hP2⟩ := hP1
  subst hn1
  have had := hX1.2.1 rfl
  subst had
  have h1 := kk M1 v hP2 ad1 H1 locs1 ls hW1 hX hS1 hl
  rw [List.map_append] at h1
  cases v <;> exact h1
/-- what is caught: the handler drops it and answers a number -/
theorem jr_catch (hC : mw_C G l R Y cc own) {P : Nat → mw_M → Option Value → Prop} {hh pre suf : List (Nat × Nat × Nat × Nat)} {mc ms a0 a1 hpc ct j nn : Nat} {E : String} {z : Int} {v : Int32} {lg : Nat} (hZ : mw_Zh P hh mc ms (some .int) Y) (hsplit : hh = pre ++ (a0, a1, hpc, ct) :: suf)
    (hpass : ∀ q ∈ pre, q.2.2.2 ≠ 0 ∧ ∃ nm : String, Cond.classLink own q.2.2.2 nm ∈ TB ∧ (E, nm) ∈ mw_nc) (hcov : covers ⟨a0, a1, hpc, ct⟩ pc = true) (h0 : ct ≠ 0) (hlink : Cond.classLink own ct E ∈ TB) (hcast : Cond.castable E E ∈ mw_nw)
    (hnn : mw_nL Y = nn) (hj : j < nn) (d0 : (decode cc hpc = .ok (.astore j, 2) ∧ lg = 2) ∨ (∃ f : _root_.Fin 4, decode cc hpc = .ok (.astore_n f, 1) ∧ (f : Nat) = j ∧ lg = 1)) (d1 : decode cc (hpc + lg) = .ok (.iconst z, 1)) (hv : Int32.ofInt z = v) (d2 : decode cc (hpc + lg + 1) = .ok (.ireturn, 1)) (hk : k ≤ mc) (hs : sl ≤ ms) (h : P n M (some (.int v))) : mw_JX Y k sl n M pc L E := by
  obtain ⟨G1, p, l1, e, R1, s, m, args, below, meth, c, nL, Q, ad0, n0⟩ := Y
  obtain ⟨⟨hx, hb, hml, hown, hts⟩, hK, hE, hnt, hlk, rfl, rfl, rfl⟩ := hC
  obtain ⟨rfl, hr, htab⟩ := hZ
  subst hnn
  intro ad H locs ls q ce rest hW hX hS hl hce hcv hcl
  have htab2 : c.exceptionTable.toList = tableOf pre ++ (⟨a0, a1, hpc, ct⟩ : ExceptionTableEntry) :: tableOf suf := by
    rw [htab, hsplit]
    unfold tableOf
    rw [List.map_append, List.map_cons]
  refine vx_catch hown (tableOf pre) ⟨a0, a1, hpc, ct⟩ (tableOf suf) htab2 (fun w hw => ?_) hcov h0 (hts _ hlink) (va_Nw.use (mw_nw_on _ hcast) (hE.2.2.2.2.1 _ hcast)) hce hcv hcl ?_
  · obtain ⟨r, hr1, rfl⟩ := List.mem_map.mp hw
    obtain ⟨g1, nm, g2, g3⟩ := hpass r hr1
    exact Or.inr ⟨g1, nm, hts _ g2, hE.2.2.2.2.2.2 _ g3⟩
  · have fin : ∀ ls1 : Array Slot, W p l1 e R1 s m args below meth c H locs k sl (vx_MQ below (mw_Q G1 ad0 n0 P) (mw_XC G1 ad0 n0 (fun _ _ => False)) args s mc ms (mw_A G1)) (F0 m (hpc + lg) ls1 []) := fun ls1 => by
      refine lv_iconst hx hb d1 hv ?_
      refine W.widen (k := mc) (n := ms) hk hs (vx_ret ?_)
      exact W.iret hx hb hr (fun t ht hW9 => ⟨⟨some (.int v), ad, n, M, rfl, hX, by rw [ht]; exact hW, h⟩, hS.F ht⟩) hS.2.2 d2 (hlocks := hlk)
    rcases d0 with ⟨d0, rfl⟩ | ⟨f, d0, hf, rfl⟩
    · exact lv_astore hx hb d0 hl hj rfl (fun ls1 _ => fin ls1)
    · exact lv_astore_n hx hb d0 hf hl hj rfl (fun ls1 _ => fin ls1)
def mw_NSW (own : String) (i : Nat) (y : MethodName) (cc : ByteArray) (maxL : Nat) (ret : Option FieldType) (hh : List (Nat × Nat × Nat × Nat)) (nA : Nat) : Prop := (y.cls ≠ "java/lang/invoke/MethodHandle" ∧ y.cls ≠ "java/lang/invoke/VarHandle" ∧ (parseMethodDescriptor y.desc).map (fun d => d.parameters.length) = some nA) ∧ Cond.codeWith y cc maxL ret hh ∈ TB ∧ Cond.initialized y.cls ∈ TB ∧ Cond.methodLink own i y ∈ TB ∧ Cond.static y ∈ TB
theorem jr_callSW (hC : mw_C G l R Y cc own) {i nA maxL mc ms : Nat} {y : MethodName} {bc : ByteArray} {rm : Room} {As st0 : List Value} {P : mw_M → Option Value → Prop} {ret : Option FieldType} {hh : List (Nat × Nat × Nat × Nat)} (hN : mw_NSW own i y bc maxL ret hh nA) (hM : mw_Met G l y (.codeWith y bc maxL ret hh) rm n M As (fun n1 M1 v => n1 = n ∧ P M1 v) (fun _ _ => False)) (hn : As.length = nA) (hst : st0 = As.reverse ++ st)
    (hf : mw_frm rm R maxL k sl mc ms) (hcat : (st.map fun v => v.category).sum ≤ 8) (d : decode cc pc = .ok (.invokestatic i, 3)) (kk : ∀ (M1 : mw_M) (v : Option Value), P M1 v → mw_J Y (k + mc) (sl + ms) n M1 (pc + 3) L (v.toList ++ st)) : mw_J Y k sl n M pc L st0 := by
  obtain ⟨G1, p, l1, e, R1, s, m, args, below, meth, c, nL, Q, ad0, n0⟩ := Y
  obtain ⟨⟨hx, hb, hml, hown, hts⟩, hK, hE, hnt, hlk, rfl, rfl, rfl⟩ := hC
  obtain ⟨⟨hrc, hrs⟩, hroom, hcs⟩ := hf
  obtain ⟨hd, hcode, hini, hl9, hs9⟩ := hN
  intro ad H locs ls hW hX hS hl
  subst hst
  have hG : GoodIn TB (.codeWith y bc maxL ret hh :: TB) := tb_cons hcode tb_TB
  have hcb : vx_CSW R1 s args own i y bc maxL ret hh (.codeWith y bc maxL ret hh :: TB) rm mc ms nA :=
    ⟨⟨hrc, hrs, hroom.1, hroom.2, pay_in hts hG, List.mem_cons_self⟩, hts _ hcode, hts _ hini, ⟨hd.1, hd.2.1⟩, fun sig h => by
      have h2 := hd.2.2
      rw [h] at h2
      exact (Option.some.inj h2).symm, hts _ hl9, hts _ hs9⟩
  have hm := mw_met (hM ad) mw_XC_no
  rw [hrc, hrs] at hm
  have hpre := mw_P_at (G := G1) (as := As) hW hK hE hS
  refine mw_back (vx_runSW (As := As.map (mw_v ad)) (rest := st.map (mw_v ad)) ⟨hx, hb, hml, hown, hts⟩ hm hcb ⟨mw_P_blind, hpre⟩ rfl (by rw [List.length_map]; exact hn) hl.1 (by rw [mw_rev]) (lv_room (by rw [mw_cats]; exact hcat)) d hcs) hE hS (fun v ad1 n1 M1 H1 locs1 hX1 hW1 hP1 hS1 => ?_)
  obtain ⟨hn1, hP2⟩ := hP1
  subst hn1
  have had := hX1.2.1 rfl
  subst had
  have h1 := kk M1 v hP2 ad1 H1 locs1 ls hW1 hX hS1 hl
  rw [List.map_append] at h1
  cases v <;> exact h1
end JT
