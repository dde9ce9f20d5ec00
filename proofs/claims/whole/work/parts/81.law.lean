/-! THE CLAIM OUT OF ONE WALK OF THE LAW'S BODY. Your part is whole_start (and what it stands on); all else here is the same for every law, but numbers. -/
def R_law : String := "ClipMixerLaw"
def lw_P (b : Addr) (xs : List Int32) (args : Array Value) (s : State) : Prop := args = #[.ref b] ∧ s.IntsAt b xs ∧ xs.length ≤ 3584 ∧ (Jvm.Cond.and given_1 narrow_1).before args s = true
def lw_Q (_ : Array Value) (s : State) (o : Outcome) (t : State) : Prop := o = .returned (some (.int 1)) ∧ Framed s o t [] 601024 7293034
def lw_Z (below : List Frame) (a : Array Value) (s : State) : State → Prop := fun t => ∃ o, t.status = .running ∧ Ended t below o ∧ lw_Q a s o t
/-- the law's own end, with 1 on the stack, nothing written that was there before, its room as the claim has it -/
theorem lw_ret {p : Program} {l : Launch} {e : Env} {s : State} {m : MethodId} {below : List Frame} {meth : Method} {c : Code} {b : Nat} (hx : p.tables.exec = Jvm.exec) (hb : c.code = code) (hr : meth.sig.returnType = ret) (hlocks : meth.locks = false) {pc : Nat} {H : Heap} {ls : Array Slot} (hdg : decode code pc = .ok (.ireturn, 1)) : W p l e room_1 s m #[Value.ref b] below meth c H [] 601024 7293034 (lw_Z below #[Value.ref b] s) (F0 m pc ls [.int 1]) := by
  intro T hT X
  obtain ⟨fs, hret, hrun, hended, hW, hframe⟩ := X.leave (v := some (.int 1)) (hlocks := hlocks) (fun h => by rw [hr] at h; cases h)
  have hmeth' : T.vm.method? m = some meth := X.method'
  refine ⟨T.setFrames fs, ?_, .returned (some (.int 1)), hrun, hended, rfl, ⟨_, rfl⟩, hW, hframe⟩
  jvm_step X.here [X.here.top, hx, hb, hdg, hmeth', hr, ret, narrow_b1]
  (try refine ⟨rfl, ?_⟩); (try refine ⟨rfl, ?_⟩)
  first | (intro acts; rw [hret _ acts rfl rfl rfl]) | rw [hret _ _ rfl rfl rfl]
  exact Steps.refl _
/-- what holds at the law's entry: the machine, the code, the tables' words (any of lw_tbl by 'hts w (by decide +kernel)'), the script of L ints xs at the cell b, what the Statement gives of the start (any of its parts by flat_of_before) -/
def lw_At (p : Program) (s : State) (m : MethodId) (meth : Method) (c : Code) (b L : Nat) (xs : Nat → Int32) : Prop :=
  p.tables.exec = Jvm.exec ∧ c.code = code ∧ meth.sig.returnType = ret ∧ c.maxLocals = 8 ∧ s.vm.findClass R_law = some m.cls ∧ (∀ w ∈ lw_tbl, w.before #[Value.ref b] s = true) ∧ va_X b L xs s s.heap ∧ b < s.heap.size ∧ meth.locks = false ∧ (Jvm.Cond.and given_1 narrow_1).before #[Value.ref b] s = true
/-! The law's own body: the script, its reads, the ends of a call -/
def mw_S (b L : Nat) (xs : Nat → Int32) : mw_Y → Prop
  | (G, _, _, _, _, s, _, _, _, _, _, _, _, ad0, _) => va_X b L xs s s.heap ∧ b < s.heap.size ∧ ad0 900 = b ∧ G.2.2.2 = s.heap.size
def mw_ZL (b : Nat) : mw_Y → Prop
  | (G, _, _, _, R, s, _, args, below, meth, _, _, Q, _, _) => R = room_1 ∧ args = #[.ref b] ∧ Q = lw_Z below #[.ref b] s ∧ meth.sig.returnType = ret ∧ G.2.2.2 = s.heap.size
def tz (x : Int32) : Int32 := if x = 0 then 0 else 1
theorem tz01 (x : Int32) : mw_b01 (tz x) := by
  unfold tz mw_b01
  split
  · exact Or.inl rfl
  · exact Or.inr rfl
section JL
variable {G : mw_G} {l : Launch} {Y : mw_Y} {cc : ByteArray} {own : String} {k sl n : Nat} {M : mw_M} {pc : Nat} {L : List (Nat × Value)} {st : List Value} {R : Room}
theorem jr_sld {b N : Nat} {xs : Nat → Int32} {i : Int32} (hC : mw_C G l R Y cc own) (hS0 : mw_S b N xs Y) (hin : vp_in i N) (d : decode cc pc = .ok (.iaload, 1)) (kk : mw_J Y k sl n M (pc + 1) L (.int (xs i.toNatClampNeg) :: st)) : mw_J Y k sl n M pc L (.int i :: .ref 900 :: st) := by
  obtain ⟨G1, p, l1, e, R1, s, m, args, below, meth, c, nL, Q, ad0, n0⟩ := Y
  obtain ⟨⟨hx, hb, hml, hown, hts⟩, hK, hE, hnt, hlk, rfl, rfl, rfl⟩ := hC
  obtain ⟨hsx, hbl, h900, hGA⟩ := hS0
  intro ad H locs ls hW hX hS hl
  show W _ _ _ _ _ _ _ _ _ _ _ _ _ _ _ (F0 m pc ls (.int i :: mw_r ad 900 :: st.map (mw_v ad)))
  rw [mw_r_pos (by decide), hX.2.2 900 (Or.inr (Nat.le_refl _)), h900]
  exact va_sld (A := mw_A G1) hx hb hsx hbl (by unfold mw_A; omega) hS hin d (kk ad H locs ls hW hX hS hl)
theorem jr_slen {b N : Nat} {xs : Nat → Int32} (hC : mw_C G l R Y cc own) (hS0 : mw_S b N xs Y) (d : decode cc pc = .ok (.arraylength, 1)) (kk : mw_J Y k sl n M (pc + 1) L (.int (nI N) :: st)) : mw_J Y k sl n M pc L (.ref 900 :: st) := by
  obtain ⟨G1, p, l1, e, R1, s, m, args, below, meth, c, nL, Q, ad0, n0⟩ := Y
  obtain ⟨⟨hx, hb, hml, hown, hts⟩, hK, hE, hnt, hlk, rfl, rfl, rfl⟩ := hC
  obtain ⟨hsx, hbl, h900, hGA⟩ := hS0
  intro ad H locs ls hW hX hS hl
  show W _ _ _ _ _ _ _ _ _ _ _ _ _ _ _ (F0 m pc ls (mw_r ad 900 :: st.map (mw_v ad)))
  rw [mw_r_pos (by decide), hX.2.2 900 (Or.inr (Nat.le_refl _)), h900]
  exact va_slen (A := mw_A G1) hx hb hsx hbl (by unfold mw_A; omega) hS d (kk ad H locs ls hW hX hS hl)
theorem jr_tabIn (hC : mw_C G l R Y cc own) {dflt lo hi : Int} {offs : Array Int} {len : Nat} {x : Int32} {off : Int} {tgt : Nat} (d : decode cc pc = .ok (.tableswitch dflt lo hi offs, len)) (h1 : ¬ x.toInt < lo) (h2 : ¬ hi < x.toInt) (ho : offs[(x.toInt - lo).toNat]? = some off) (ht : (pc : Int) + off = (tgt : Int)) (kk : mw_J Y k sl n M tgt L st) : mw_J Y k sl n M pc L (.int x :: st) := by
  obtain ⟨G1, p, l1, e, R1, s, m, args, below, meth, c, nL, Q, ad0, n0⟩ := Y
  obtain ⟨⟨hx, hb, hml, hown, hts⟩, hK, hE, hnt, hlk, rfl, rfl, rfl⟩ := hC
  intro ad H locs ls hW hX hS hl
  exact lv_tableIn hx hb d h1 h2 ho ht (kk ad H locs ls hW hX hS hl)
theorem jr_tabOut (hC : mw_C G l R Y cc own) {dflt lo hi : Int} {offs : Array Int} {len : Nat} {x : Int32} {tgt : Nat} (d : decode cc pc = .ok (.tableswitch dflt lo hi offs, len)) (h : x.toInt < lo ∨ hi < x.toInt) (ht : (pc : Int) + dflt = (tgt : Int)) (kk : mw_J Y k sl n M tgt L st) : mw_J Y k sl n M pc L (.int x :: st) := by
  obtain ⟨G1, p, l1, e, R1, s, m, args, below, meth, c, nL, Q, ad0, n0⟩ := Y
  obtain ⟨⟨hx, hb, hml, hown, hts⟩, hK, hE, hnt, hlk, rfl, rfl, rfl⟩ := hC
  intro ad H locs ls hW hX hS hl
  exact lv_tableOut hx hb d h ht (kk ad H locs ls hW hX hS hl)
theorem jr_end {b : Nat} (hC : mw_C G l R Y code own) (hZ : mw_ZL b Y) (hk : k ≤ 601024) (hs : sl ≤ 7293034) (d : decode code pc = .ok (.ireturn, 1)) : mw_J Y k sl n M pc L [.int 1] := by
  obtain ⟨G1, p, l1, e, R1, s, m, args, below, meth, c, nL, Q, ad0, n0⟩ := Y
  obtain ⟨⟨hx, hb, hml, hown, hts⟩, hK, hE, hnt, hlk, rfl, rfl, rfl⟩ := hC
  obtain ⟨rfl, rfl, rfl, hr, hG⟩ := hZ
  intro ad H locs ls hW hX hS hl
  refine va_forget (fun q hq => ?_) (W.widen hk hs (lw_ret hx hb hr hlk d))
  rw [← hG]
  exact hS.2.2 q hq
theorem jr_argc (hC : mw_C G l R Y cc own) {b N : Nat} {xs : Nat → Int32} (hS0 : mw_S b N xs Y) {j0 j4 t q : Nat} {z : Int} (hN : N ≤ 3584) (h0 : L[j0]? = some (0, .ref 900)) (h4 : L[j4]? = some (4, .int (nI (7 * t)))) (hlt : 7 * t + q < N) (d0 : decode cc pc = .ok (.aload_n 0, 1)) (d1 : decode cc (pc + 1) = .ok (.iload 4, 2)) (d2 : decode cc (pc + 3) = .ok (.iconst z, 1)) (hz : Int32.ofInt z = nI q) (d3 : decode cc (pc + 4) = .ok (.iadd, 1)) (d4 : decode cc (pc + 5) = .ok (.iaload, 1)) (kk : mw_J Y k sl n M (pc + 6) L (.int (xs (7 * t + q)) :: st)) : mw_J Y k sl n M pc L st := by
  refine jr_aload_n (j := j0) hC d0 rfl h0 ?_
  refine jr_iload (j := j4) hC d1 h4 ?_
  refine jr_iconst hC d2 hz ?_
  refine jr_iadd hC d3 ?_
  rw [nI_add]
  refine jr_sld hC hS0 (vp_n hlt (by omega)) d4 ?_
  rw [nI_clamp (by omega)]
  exact kk
theorem jr_argb (hC : mw_C G l R Y cc own) {b N : Nat} {xs : Nat → Int32} (hS0 : mw_S b N xs Y) {j0 j4 t q : Nat} {z : Int} (hN : N ≤ 3584) (h0 : L[j0]? = some (0, .ref 900)) (h4 : L[j4]? = some (4, .int (nI (7 * t)))) (hlt : 7 * t + q < N) (d0 : decode cc pc = .ok (.aload_n 0, 1)) (d1 : decode cc (pc + 1) = .ok (.iload 4, 2)) (d2 : decode cc (pc + 3) = .ok (.bipush z, 2)) (hz : (Int8.ofInt z).toInt32 = nI q) (d3 : decode cc (pc + 5) = .ok (.iadd, 1)) (d4 : decode cc (pc + 6) = .ok (.iaload, 1)) (kk : mw_J Y k sl n M (pc + 7) L (.int (xs (7 * t + q)) :: st)) : mw_J Y k sl n M pc L st := by
  refine jr_aload_n (j := j0) hC d0 rfl h0 ?_
  refine jr_iload (j := j4) hC d1 h4 ?_
  refine jr_bipush hC d2 hz ?_
  refine jr_iadd hC d3 ?_
  rw [nI_add]
  refine jr_sld hC hS0 (vp_n hlt (by omega)) d4 ?_
  rw [nI_clamp (by omega)]
  exact kk
theorem jr_bool (hC : mw_C G l R Y cc own) {x : Int32} (d0 : decode cc pc = .ok (.ifCond .eq 7, 3)) (d3 : decode cc (pc + 3) = .ok (.iconst 1, 1)) (d4 : decode cc (pc + 4) = .ok (.goto 4, 3)) (d7 : decode cc (pc + 7) = .ok (.iconst 0, 1)) (kk : mw_J Y k sl n M (pc + 8) L (.int (tz x) :: st)) : mw_J Y k sl n M pc L (.int x :: st) := by
  refine jr_if_eq (tgt := pc + 7) hC d0 (by omega) (fun h => ?_) (fun h => ?_)
  · refine jr_iconst hC d7 (v := tz x) (by unfold tz; rw [if_pos h]; rfl) kk
  · refine jr_iconst hC d3 (v := tz x) (by unfold tz; rw [if_neg h]; rfl) ?_
    exact jr_goto (tgt := pc + 8) hC d4 (by omega) kk
/-- the locals at the loop's head -/
def Lc (t : Nat) : List (Nat × Value) := [(0, .ref 900), (1, .ref 1), (2, .ref 247), (3, .ref 254), (4, .int (nI (7 * t)))]
/-- the words of the end of a call that answers an int -/
def tlI (pc : Nat) (off : Int) : Prop := decode cL_law pc = .ok (.istore 6, 2) ∧ decode cL_law (pc + 2) = .ok (.aload_n 2, 1) ∧ decode cL_law (pc + 3) = .ok (.invokevirtual 120, 3) ∧ decode cL_law (pc + 6) = .ok (.iload 5, 2) ∧ decode cL_law (pc + 8) = .ok (.if_icmp .eq 5, 3) ∧ decode cL_law (pc + 13) = .ok (.iload 5, 2) ∧ decode cL_law (pc + 15) = .ok (.ifCond .ne 15, 3) ∧ decode cL_law (pc + 18) = .ok (.aload_n 3, 1) ∧ decode cL_law (pc + 19) = .ok (.iconst 0, 1) ∧ decode cL_law (pc + 20) = .ok (.laload, 1) ∧ decode cL_law (pc + 21) = .ok (.iload 6, 2) ∧ decode cL_law (pc + 23) = .ok (.i2l, 1) ∧ decode cL_law (pc + 24) = .ok (.lcmp, 1) ∧ decode cL_law (pc + 25) = .ok (.ifCond .eq 5, 3) ∧ decode cL_law (pc + 30) = .ok (.goto off, 3) ∧ ((pc + 30 : Nat) : Int) + off = 2276
theorem jr_tailI (hC : mw_C G l room_1 Y cL_law RL) (hlt : l.stackTraces = false) (hnL : mw_nL Y = 8) {pc : Nat} {off : Int} (D : tlI pc off) {t e : Nat} {d : Int} {N : mw_M} {b : Int32} (he : e < 100) (hF : Fin d e b.toInt64 N) (hk : k ≤ 9000) (hs : sl ≤ 90000) (kk : ∀ N, LI N d → mw_J Y k sl 255 N 2276 (Lc t) []) : mw_J Y k sl 255 N pc ((5, .int (nI e)) :: Lc t) [.int b] := by
  obtain ⟨d0, d2, d3, d6, d8, d13, d15, d18, d19, d20, d21, d23, d24, d25, d30, ho⟩ := D
  obtain ⟨h5, h0, hI⟩ := hF
  refine jr_istore (L1 := (6, .int b) :: (5, .int (nI e)) :: Lc t) hC d0 hnL (by decide) rfl ?_
  refine jr_aload_n (j := 4) hC d2 rfl rfl ?_
  refine jr_callV (As := []) (st := []) hC xv_120 (c_X8_thrown (Q := fun v => v = mI N 247 5) hlt (by unfold w_X8_thrown; exact ⟨is247, rfl⟩)) is247 rfl rfl ⟨⟨rfl, rfl⟩, ⟨by decide, by decide⟩, by show k + 0 ≤ 601024; omega, by show sl + 0 ≤ 7293034; omega⟩ (Nat.le_of_ble_eq_true rfl) d3 (fun M1 v hP => ?_)
  obtain ⟨rfl, x, rfl, hx⟩ := hP
  rw [h5] at hx
  subst hx
  refine jr_iload (j := 1) hC d6 rfl ?_
  refine jr_ic_eq (tgt := pc + 13) hC d8 (by omega) (fun _ => ?_) (fun h => absurd rfl h)
  refine jr_iload (j := 1) hC d13 rfl ?_
  refine jr_if_ne (tgt := pc + 30) hC d15 (by omega) (fun _ => ?_) (fun hz => ?_)
  · refine jr_sub [2, 3, 4, 5, 6] (L1 := Lc t) rfl ?_
    exact jr_goto (tgt := 2276) hC d30 ho (kk M1 hI)
  · have e0 : e = 0 := by
      have h1 : (nI e).toInt = (0 : Int32).toInt := by rw [hz]
      rw [nI_toInt (by omega)] at h1
      have h2 : (0 : Int32).toInt = 0 := by decide
      omega
    refine jr_aload_n (j := 5) hC d18 rfl rfl ?_
    refine jr_iconst hC d19 rfl ?_
    refine jr_lald hC is254 vi254 d20 ?_
    refine jr_iload (j := 0) hC d21 rfl ?_
    refine jr_i2l hC d23 ?_
    refine jr_lc_eq (tgt := pc + 30) hC d24 d25 (by omega) (fun _ => ?_) (fun h => absurd (h0 e0) h)
    refine jr_sub [2, 3, 4, 5, 6] (L1 := Lc t) rfl ?_
    exact jr_goto (tgt := 2276) hC d30 ho (kk M1 hI)
end JL
