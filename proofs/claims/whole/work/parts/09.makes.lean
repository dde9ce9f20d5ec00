theorem mw_W.grow {G : mw_G} {ad : Nat → Nat} {n : Nat} {M : mw_M} {H H1 : Heap} (hW : mw_W G ad n M H) (h : ∀ q : Nat, q < H.size → H1[q]? = H[q]?) : mw_W G ad n M H1 :=
  ⟨fun k a b => ⟨(hW.1 k a b).1.kept (h _ (hW.1 k a b).1.2.2) (mw_eq.rf M k), (hW.1 k a b).2⟩, hW.2⟩
theorem tb_ot {w : Cond} (h : w ∈ TB) : vx_ot w = true := by
  have h1 := (List.mem_filter.mp h).2
  unfold vx_ot
  rw [h1, Bool.or_true]
def mw_dv (c : Nat) : Value := if c = 1 then .long 0 else if c = 0 then .int 0 else .null
def mw_fresh (n : Nat) (M : mw_M) (t : Nat) : Prop := Tg n = t ∧ 0 < n ∧ n < 900 ∧ (∀ j, mI M n j = 0 ∧ mL M n j = 0 ∧ mP M n j = 0) ∧ ∀ k j, mP M k j < n
theorem mw_fv_z {ad : Nat → Nat} {M : mw_M} {n : Nat} (h : ∀ j, mI M n j = 0 ∧ mL M n j = 0 ∧ mP M n j = 0) (j c : Nat) : mw_fv ad M n j c = mw_dv c := by
  obtain ⟨h1, h2, h3⟩ := h j
  unfold mw_fv mw_dv
  rw [h1, h2, h3]
  rfl
def mw_ad1 (ad : Nat → Nat) (n q : Nat) : Nat → Nat := fun i => if i = n then q else ad i
theorem mw_X1 (ad : Nat → Nat) (n q : Nat) (h : n < 900) : mw_X ad n (mw_ad1 ad n q) (n + 1) := ⟨Nat.le_succ n, fun e => absurd e (by omega), fun i hi => if_neg (by omega)⟩
theorem mw_ad1_n (ad : Nat → Nat) (n q : Nat) : mw_ad1 ad n q n = q := if_pos rfl
section JM
variable {G : mw_G} {l : Launch} {R : Room} {Y : mw_Y} {cc : ByteArray} {own : String} {k sl n : Nat} {M : mw_M} {pc : Nat} {L : List (Nat × Value)} {st : List Value}
theorem jr_throwS (hC : mw_C G l R Y cc own) {P0 : Nat → mw_M → Option Value → Prop} {X0 : mw_M → String → Prop} {mc0 ms0 : Nat} {ret0 : Option FieldType} {cls text : String} {names : List String} {ik is ic : Nat} (hZ : mw_Z P0 X0 mc0 ms0 ret0 Y) (hn00 : mw_n0 Y = n)
    (hcls : Bundle.fit cls = true) (hnames : ∀ x ∈ names, Bundle.fit x = true) (hk9 : Cond.classLink own ik cls ∈ TB) (hini9 : Cond.initialized cls ∈ TB) (hstr : (own, is, text) ∈ mw_strs) (hat9 : ∀ w ∈ vx_atS own ic cls names, w ∈ TB ∨ w ∈ mw_nw)
    (d0 : decode cc pc = .ok (.new ik, 3)) (d3 : decode cc (pc + 3) = .ok (.dup, 1)) (d4 : decode cc (pc + 4) = .ok (.ldc is, 2)) (d6 : decode cc (pc + 6) = .ok (.invokespecial ic, 3)) (d9 : decode cc (pc + 9) = .ok (.athrow, 1))
    (hRf : names.length + 3 < R.frames) (hRl : 13 * (names.length + 1) + 43 ≤ R.locals) (hRc : k + 1 ≤ R.cells) (hRs : sl + 6 ≤ R.slots) (hc9 : k + 1 ≤ mc0) (hs9 : sl + 6 ≤ ms0) (h : X0 M cls) : mw_J Y k sl n M pc L [] := by
  obtain ⟨G1, p, l1, e, R1, s, m, args, below, meth, c, nL, Q, ad0, n0⟩ := Y
  obtain ⟨⟨hx, hb, hml, hown, hts⟩, hK, hE, hnt, hlk, rfl, rfl, rfl⟩ := hC
  obtain ⟨rfl, -, htab⟩ := hZ
  have hnn := hn00
  subst hnn
  intro ad H locs ls hW hX hS hl
  have hadn := hX.2.1 rfl
  subst hadn
  obtain ⟨sa, hsa⟩ := hE.2.2.2.1 _ hstr
  exact vx_throwS hx hb hnt hown hcls hnames (hts _ hk9) (hts _ hini9) hsa (fun w hw => (hat9 w hw).elim (fun h9 => hts _ h9) (fun h9 => va_Nw.use (mw_nw_on w h9) (hE.2.2.2.2.1 w h9))) (fun w hw => (List.mem_cons.mp hw).elim (fun e9 => by rw [e9]; exact tb_ot hk9) (fun hw => (List.mem_cons.mp hw).elim (fun e9 => by rw [e9]; exact tb_ot hini9) (fun hw => (hat9 w hw).elim tb_ot (fun h9 => by unfold vx_ot; rw [mw_nw_on w h9, Bool.true_or])))) hE.2.1 hE.2.2.1 hS (hl.1.trans hml.symm) d0 d3 d4 d6 d9
    (fun x hx9 => (htab x hx9).elim) hRf (by simpa using hRl) hRc hRs hlk (fun t ha h1 h2 => ⟨⟨M, hW.grow h2, h⟩, Nat.le_trans hS.1 h1, fun q q1 q2 => (h2 q (Nat.lt_of_lt_of_le q1 hS.1)).trans (hS.2.1 q q1 q2)⟩) hS.2.2 hc9 hs9
theorem jr_throwSW (hC : mw_C G l R Y cc own) {P0 : Nat → mw_M → Option Value → Prop} {X0 : mw_M → String → Prop} {mc0 ms0 : Nat} {ret0 : Option FieldType} {cls text : String} {names : List String} {ik is ic : Nat} (hZ : mw_Z P0 X0 mc0 ms0 ret0 Y) (hn00 : mw_n0 Y = n)
    (hcls : Bundle.fit cls = true) (hnames : ∀ x ∈ names, Bundle.fit x = true) (hk9 : Cond.classLink own ik cls ∈ TB) (hini9 : Cond.initialized cls ∈ TB) (hstr : (own, is, text) ∈ mw_strs) (hat9 : ∀ w ∈ vx_atS own ic cls names, w ∈ TB ∨ w ∈ mw_nw)
    (d0 : decode cc pc = .ok (.new ik, 3)) (d3 : decode cc (pc + 3) = .ok (.dup, 1)) (d4 : decode cc (pc + 4) = .ok (.ldc_w is, 3)) (d6 : decode cc (pc + 7) = .ok (.invokespecial ic, 3)) (d9 : decode cc (pc + 10) = .ok (.athrow, 1))
    (hRf : names.length + 3 < R.frames) (hRl : 13 * (names.length + 1) + 43 ≤ R.locals) (hRc : k + 1 ≤ R.cells) (hRs : sl + 6 ≤ R.slots) (hc9 : k + 1 ≤ mc0) (hs9 : sl + 6 ≤ ms0) (h : X0 M cls) : mw_J Y k sl n M pc L [] := by
  obtain ⟨G1, p, l1, e, R1, s, m, args, below, meth, c, nL, Q, ad0, n0⟩ := Y
  obtain ⟨⟨hx, hb, hml, hown, hts⟩, hK, hE, hnt, hlk, rfl, rfl, rfl⟩ := hC
  obtain ⟨rfl, -, htab⟩ := hZ
  have hnn := hn00
  subst hnn
  intro ad H locs ls hW hX hS hl
  have hadn := hX.2.1 rfl
  subst hadn
  obtain ⟨sa, hsa⟩ := hE.2.2.2.1 _ hstr
  exact vx_throwSW hx hb hnt hown hcls hnames (hts _ hk9) (hts _ hini9) hsa (fun w hw => (hat9 w hw).elim (fun h9 => hts _ h9) (fun h9 => va_Nw.use (mw_nw_on w h9) (hE.2.2.2.2.1 w h9))) (fun w hw => (List.mem_cons.mp hw).elim (fun e9 => by rw [e9]; exact tb_ot hk9) (fun hw => (List.mem_cons.mp hw).elim (fun e9 => by rw [e9]; exact tb_ot hini9) (fun hw => (hat9 w hw).elim tb_ot (fun h9 => by unfold vx_ot; rw [mw_nw_on w h9, Bool.true_or])))) hE.2.1 hE.2.2.1 hS (hl.1.trans hml.symm) d0 d3 d4 d6 d9
    (fun x hx9 => (htab x hx9).elim) hRf (by simpa using hRl) hRc hRs hlk (fun t ha h1 h2 => ⟨⟨M, hW.grow h2, h⟩, Nat.le_trans hS.1 h1, fun q q1 q2 => (h2 q (Nat.lt_of_lt_of_le q1 hS.1)).trans (hS.2.1 q q1 q2)⟩) hS.2.2 hc9 hs9
theorem jr_new (hC : mw_C G l R Y cc own) {i t N : Nat} {C : String} {T : u_T} (hc : mw_Cl t C T N) (ty0 : Nat → FieldType) (hty : ∀ j, j < N → parseFieldDescriptor (T j).2.2.1 = some (ty0 j)) (hdf : ∀ j, j < N → defaultValue (ty0 j) = mw_dv (mw_kd (T j).2.2.1)) (hl9 : Cond.classLink own i C ∈ TB) (hins : Cond.instantiable C N ∈ TB) (hini : Cond.initialized C ∈ TB) (hf : mw_fresh n M t)
    (hokL : ∀ q ∈ L, mw_ok n q.2) (hokS : ∀ v ∈ st, mw_ok n v) (hRc : k + 1 ≤ R.cells) (hRs : sl + N ≤ R.slots) (d : decode cc pc = .ok (.new i, 3)) (kk : mw_J Y (k + 1) (sl + N) (n + 1) M (pc + 3) L (.ref n :: st)) : mw_J Y k sl n M pc L st := by
  obtain ⟨G1, p, l1, e, R1, s, m, args, below, meth, c, nL, Q, ad0, n0⟩ := Y
  obtain ⟨⟨hx, hb, hml, hown, hts⟩, hK, hE, hnt, hlk, rfl, rfl, rfl⟩ := hC
  obtain ⟨hc9, hin, -, -, hdc⟩ := hc
  obtain ⟨ht, h0, h900, hz, hp⟩ := hf
  intro ad H locs ls hW hX hS hl
  have hKn := hK.1 t _ hc9
  refine W.newcK hx hb hown (hts _ hl9) (hts _ hins) (hts _ hini) rfl d hRc hRs hKn.2.1 rfl fun H1 kC hkC e1 z1 o1 => ?_
  have hX1 := mw_X1 ad n H.size h900
  have ha := mw_ad1_n ad n H.size
  have hat : mw_at G1 (mw_ad1 ad n H.size) M n H1 := by
    refine ⟨fun r hr => ?_, fun x9 _ => ?_, by rw [ha, z1]; exact Nat.lt_succ_self _⟩
    · rw [ht] at hr ⊢
      cases hr.symm.trans hc9
      rw [ha]
      exact (u_born ty0 hts hin hKn hkC e1 hty).to (fun j hj => (hdf j hj).trans (mw_fv_z hz j _).symm)
    · rw [ht] at x9
      have := (List.getElem?_eq_some_iff.mp hc9).1
      have h9 : t < 9 := this
      omega
  have h1 := kk (mw_ad1 ad n H.size) H1 locs ls (hW.push (fun k9 _ _ j => hp k9 j) (Nat.le_trans hE.1 hS.1) ha (fun k9 hk9 => if_neg (by omega)) o1 hat) (hX.trans hX1) ⟨Nat.le_trans hS.1 (by omega), fun x h1 h2 => (o1 x (Nat.lt_of_lt_of_le h1 hS.1)).trans (hS.2.1 x h1 h2), hS.2.2⟩ (by rw [mw_ok_lm hX1 hokL]; exact hl)
  simp only [List.map_cons, mw_v_ref] at h1
  rw [mw_r_pos h0, ha, mw_ok_st hX1 hokS] at h1
  exact h1
theorem jr_newi (hC : mw_C G l R Y cc own) {N : Nat} {x : Int32} (harr : Cond.arrayClass .int ∈ TB) (hf : mw_fresh n M 10) (hN : Ln n = N) (hx9 : x = nI N) (hN9 : N ≤ 5000)
    (hokL : ∀ q ∈ L, mw_ok n q.2) (hokS : ∀ v ∈ st, mw_ok n v) (hRc : k + 1 ≤ R.cells) (hRs : sl + N ≤ R.slots) (d : decode cc pc = .ok (.newarray .int, 2)) (kk : mw_J Y (k + 1) (sl + N) (n + 1) M (pc + 2) L (.ref n :: st)) : mw_J Y k sl n M pc L (.int x :: st) := by
  obtain ⟨G1, p, l1, e, R1, s, m, args, below, meth, c, nL, Q, ad0, n0⟩ := Y
  obtain ⟨⟨hx, hb, hml, hown, hts⟩, hK, hE, hnt, hlk, rfl, rfl, rfl⟩ := hC
  obtain ⟨ht, h0, h900, hz, hp⟩ := hf
  intro ad H locs ls hW hX hS hl
  subst hx9; subst hN
  have hra := (hK.2 (10 - 10) _ (mw_tys_at G1 (t := 10) (by decide) (by decide))).2
  have hby : Ln n * componentBytes (newarray.typeOf .int) ≤ 536870912 := by
    have e9 : componentBytes (newarray.typeOf .int) ≤ 8 := by decide
    have e8 := Nat.mul_le_mul hN9 e9
    omega
  refine va_newaK hx hb (atype := .int) (hts _ harr) rfl d rfl (nI_pos (by omega)) (nI_clamp (by omega)) hby hRc hRs rfl fun H1 cA e1 z1 o1 hAr hNm => ?_
  have hcA : cA = G1.2.2.1 10 := Option.some.inj (hNm.symm.trans hra)
  subst hcA
  have hX1 := mw_X1 ad n H.size h900
  have ha := mw_ad1_n ad n H.size
  have hat : mw_at G1 (mw_ad1 ad n H.size) M n H1 := by
    refine ⟨fun r hr => ?_, fun _ _ => ?_, by rw [ha, z1]; exact Nat.lt_succ_self _⟩
    · rw [ht] at hr
      cases hr
    · rw [ha, ht, e1]
      congr 2
      funext j
      rw [mw_fv_z hz]
      rfl
  have h1 := kk (mw_ad1 ad n H.size) H1 locs ls (hW.push (fun k9 _ _ j => hp k9 j) (Nat.le_trans hE.1 hS.1) ha (fun k9 hk9 => if_neg (by omega)) o1 hat) (hX.trans hX1) ⟨Nat.le_trans hS.1 (by omega), fun x h1 h2 => (o1 x (Nat.lt_of_lt_of_le h1 hS.1)).trans (hS.2.1 x h1 h2), hS.2.2⟩ (by rw [mw_ok_lm hX1 hokL]; exact hl)
  simp only [List.map_cons, mw_v_ref] at h1
  rw [mw_r_pos h0, ha, mw_ok_st hX1 hokS] at h1
  exact h1
theorem jr_newl (hC : mw_C G l R Y cc own) {N : Nat} {x : Int32} (harr : Cond.arrayClass .long ∈ TB) (hf : mw_fresh n M 11) (hN : Ln n = N) (hx9 : x = nI N) (hN9 : N ≤ 5000)
    (hokL : ∀ q ∈ L, mw_ok n q.2) (hokS : ∀ v ∈ st, mw_ok n v) (hRc : k + 1 ≤ R.cells) (hRs : sl + N ≤ R.slots) (d : decode cc pc = .ok (.newarray .long, 2)) (kk : mw_J Y (k + 1) (sl + N) (n + 1) M (pc + 2) L (.ref n :: st)) : mw_J Y k sl n M pc L (.int x :: st) := by
  obtain ⟨G1, p, l1, e, R1, s, m, args, below, meth, c, nL, Q, ad0, n0⟩ := Y
  obtain ⟨⟨hx, hb, hml, hown, hts⟩, hK, hE, hnt, hlk, rfl, rfl, rfl⟩ := hC
  obtain ⟨ht, h0, h900, hz, hp⟩ := hf
  intro ad H locs ls hW hX hS hl
  subst hx9; subst hN
  have hra := (hK.2 (11 - 10) _ (mw_tys_at G1 (t := 11) (by decide) (by decide))).2
  have hby : Ln n * componentBytes (newarray.typeOf .long) ≤ 536870912 := by
    have e9 : componentBytes (newarray.typeOf .long) ≤ 8 := by decide
    have e8 := Nat.mul_le_mul hN9 e9
    omega
  refine va_newaK hx hb (atype := .long) (hts _ harr) rfl d rfl (nI_pos (by omega)) (nI_clamp (by omega)) hby hRc hRs rfl fun H1 cA e1 z1 o1 hAr hNm => ?_
  have hcA : cA = G1.2.2.1 11 := Option.some.inj (hNm.symm.trans hra)
  subst hcA
  have hX1 := mw_X1 ad n H.size h900
  have ha := mw_ad1_n ad n H.size
  have hat : mw_at G1 (mw_ad1 ad n H.size) M n H1 := by
    refine ⟨fun r hr => ?_, fun _ _ => ?_, by rw [ha, z1]; exact Nat.lt_succ_self _⟩
    · rw [ht] at hr
      cases hr
    · rw [ha, ht, e1]
      congr 2
      funext j
      rw [mw_fv_z hz]
      rfl
  have h1 := kk (mw_ad1 ad n H.size) H1 locs ls (hW.push (fun k9 _ _ j => hp k9 j) (Nat.le_trans hE.1 hS.1) ha (fun k9 hk9 => if_neg (by omega)) o1 hat) (hX.trans hX1) ⟨Nat.le_trans hS.1 (by omega), fun x h1 h2 => (o1 x (Nat.lt_of_lt_of_le h1 hS.1)).trans (hS.2.1 x h1 h2), hS.2.2⟩ (by rw [mw_ok_lm hX1 hokL]; exact hl)
  simp only [List.map_cons, mw_v_ref] at h1
  rw [mw_r_pos h0, ha, mw_ok_st hX1 hokS] at h1
  exact h1
theorem jr_newz (hC : mw_C G l R Y cc own) {N : Nat} {x : Int32} (harr : Cond.arrayClass .boolean ∈ TB) (hf : mw_fresh n M 12) (hN : Ln n = N) (hx9 : x = nI N) (hN9 : N ≤ 5000)
    (hokL : ∀ q ∈ L, mw_ok n q.2) (hokS : ∀ v ∈ st, mw_ok n v) (hRc : k + 1 ≤ R.cells) (hRs : sl + N ≤ R.slots) (d : decode cc pc = .ok (.newarray .boolean, 2)) (kk : mw_J Y (k + 1) (sl + N) (n + 1) M (pc + 2) L (.ref n :: st)) : mw_J Y k sl n M pc L (.int x :: st) := by
  obtain ⟨G1, p, l1, e, R1, s, m, args, below, meth, c, nL, Q, ad0, n0⟩ := Y
  obtain ⟨⟨hx, hb, hml, hown, hts⟩, hK, hE, hnt, hlk, rfl, rfl, rfl⟩ := hC
  obtain ⟨ht, h0, h900, hz, hp⟩ := hf
  intro ad H locs ls hW hX hS hl
  subst hx9; subst hN
  have hra := (hK.2 (12 - 10) _ (mw_tys_at G1 (t := 12) (by decide) (by decide))).2
  have hby : Ln n * componentBytes (newarray.typeOf .boolean) ≤ 536870912 := by
    have e9 : componentBytes (newarray.typeOf .boolean) ≤ 8 := by decide
    have e8 := Nat.mul_le_mul hN9 e9
    omega
  refine va_newaK hx hb (atype := .boolean) (hts _ harr) rfl d rfl (nI_pos (by omega)) (nI_clamp (by omega)) hby hRc hRs rfl fun H1 cA e1 z1 o1 hAr hNm => ?_
  have hcA : cA = G1.2.2.1 12 := Option.some.inj (hNm.symm.trans hra)
  subst hcA
  have hX1 := mw_X1 ad n H.size h900
  have ha := mw_ad1_n ad n H.size
  have hat : mw_at G1 (mw_ad1 ad n H.size) M n H1 := by
    refine ⟨fun r hr => ?_, fun _ _ => ?_, by rw [ha, z1]; exact Nat.lt_succ_self _⟩
    · rw [ht] at hr
      cases hr
    · rw [ha, ht, e1]
      congr 2
      funext j
      rw [mw_fv_z hz]
      rfl
  have h1 := kk (mw_ad1 ad n H.size) H1 locs ls (hW.push (fun k9 _ _ j => hp k9 j) (Nat.le_trans hE.1 hS.1) ha (fun k9 hk9 => if_neg (by omega)) o1 hat) (hX.trans hX1) ⟨Nat.le_trans hS.1 (by omega), fun x h1 h2 => (o1 x (Nat.lt_of_lt_of_le h1 hS.1)).trans (hS.2.1 x h1 h2), hS.2.2⟩ (by rw [mw_ok_lm hX1 hokL]; exact hl)
  simp only [List.map_cons, mw_v_ref] at h1
  rw [mw_r_pos h0, ha, mw_ok_st hX1 hokS] at h1
  exact h1
theorem jr_newq (hC : mw_C G l R Y cc own) {i t N : Nat} {C : String} {x : Int32} (h13 : 13 ≤ t) (h18 : t < 18) (hty9 : mw_ty t = .object C) (hl9 : Cond.classLink own i C ∈ TB) (hov : C ∈ mw_ov) (hf : mw_fresh n M t) (hN : Ln n = N) (hx9 : x = nI N) (hN9 : N ≤ 5000)
    (hokL : ∀ q ∈ L, mw_ok n q.2) (hokS : ∀ v ∈ st, mw_ok n v) (hRc : k + 1 ≤ R.cells) (hRs : sl + N ≤ R.slots) (d : decode cc pc = .ok (.anewarray i, 3)) (kk : mw_J Y (k + 1) (sl + N) (n + 1) M (pc + 3) L (.ref n :: st)) : mw_J Y k sl n M pc L (.int x :: st) := by
  obtain ⟨G1, p, l1, e, R1, s, m, args, below, meth, c, nL, Q, ad0, n0⟩ := Y
  obtain ⟨⟨hx, hb, hml, hown, hts⟩, hK, hE, hnt, hlk, rfl, rfl, rfl⟩ := hC
  obtain ⟨ht, h0, h900, hz, hp⟩ := hf
  intro ad H locs ls hW hX hS hl
  subst hx9; subst hN
  have hra := (hK.2 (t - 10) _ (mw_tys_at G1 (t := t) (by omega) h18)).2
  dsimp only at hra
  rw [hty9] at hra
  obtain ⟨kA9, comp9, g1, g2, g3, g4⟩ := hra
  have hcl9 : (nI (Ln n)).toNatClampNeg = Ln n := nI_clamp (by omega)
  refine W.anew hx hb hown (hts _ hl9) (va_AO.use (hE.2.2.2.2.2.1 C hov)) rfl d rfl (nI_pos (by omega)) (by rw [hcl9]; omega) hRc (by rw [hcl9]; exact hRs) fun cA kA comp f1 f2 f3 f4 => ?_
  have hcA : cA = G1.2.2.1 t := Option.some.inj (f1.symm.trans g4)
  subst hcA
  rw [hcl9]
  generalize hH1 : H.push ({ cls := G1.2.2.1 t, slots := Array.replicate (Ln n) .null, vm := .none } : Cell) = H1
  have z1 : H1.size = H.size + 1 := by rw [← hH1, Array.size_push]
  have e1 : H1[H.size]? = some (arrV (G1.2.2.1 t) (Ln n) (fun _ => .null)) := by rw [← hH1, Array.getElem?_push_size, ← arrV_new]
  have o1 : ∀ q : Nat, q < H.size → H1[q]? = H[q]? := fun q hq => by rw [← hH1, Array.getElem?_push, if_neg (Nat.ne_of_lt hq)]
  have hX1 := mw_X1 ad n H.size h900
  have ha := mw_ad1_n ad n H.size
  have hat : mw_at G1 (mw_ad1 ad n H.size) M n H1 := by
    refine ⟨fun r hr => ?_, fun _ _ => ?_, by rw [ha, z1]; exact Nat.lt_succ_self _⟩
    · rw [ht, mw_tys_none (by omega)] at hr
      cases hr
    · rw [ha, ht, e1]
      congr 2
      funext j
      rw [mw_fv_z hz]
      have hak : mw_ak t = 2 := by unfold mw_ak; rw [if_neg (by omega), if_neg (by omega)]
      rw [hak]
      rfl
  have h1 := kk (mw_ad1 ad n H.size) H1 locs ls (hW.push (fun k9 _ _ j => hp k9 j) (Nat.le_trans hE.1 hS.1) ha (fun k9 hk9 => if_neg (by omega)) o1 hat) (hX.trans hX1) ⟨Nat.le_trans hS.1 (by omega), fun x h1 h2 => (o1 x (Nat.lt_of_lt_of_le h1 hS.1)).trans (hS.2.1 x h1 h2), hS.2.2⟩ (by rw [mw_ok_lm hX1 hokL]; exact hl)
  simp only [List.map_cons, mw_v_ref] at h1
  rw [mw_r_pos h0, ha, mw_ok_st hX1 hokS] at h1
  exact h1
theorem jr_objinit (hC : mw_C G l R Y cc own) {i b : Nat} (hb0 : 0 < b) (hl9 : Cond.methodLink own i objectInit ∈ TB) (hi9 : Cond.instanceMethod objectInit ∈ TB) (hc9 : Cond.code objectInit ⟨#[0xb1]⟩ 1 none ∈ TB) (hRf : 1 ≤ R.frames) (hRl : 12 ≤ R.locals) (d : decode cc pc = .ok (.invokespecial i, 3)) (kk : mw_J Y k sl n M (pc + 3) L []) : mw_J Y k sl n M pc L [.ref b] := by
  obtain ⟨G1, p, l1, e, R1, s, m, args, below, meth, c, nL, Q, ad0, n0⟩ := Y
  obtain ⟨⟨hx, hb, hml, hown, hts⟩, hK, hE, hnt, hlk, rfl, rfl, rfl⟩ := hC
  intro ad H locs ls hW hX hS hl
  show W _ _ _ _ _ _ _ _ _ _ _ _ _ _ _ (F0 m pc ls [mw_r ad b])
  rw [mw_r_pos hb0]
  exact W.objInit hx hb hown (hts _ hl9) (hts _ hi9) (hts _ hc9) rfl (by rw [hml]; exact hl.1) rfl d hRf (by simpa [JFrame.monitorRoom] using hRl) (kk ad H locs ls hW hX hS hl)
end JM
