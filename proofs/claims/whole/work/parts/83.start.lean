/-! The law's start: the classes, the exceptions' surroundings -/
set_option maxRecDepth 100000 in
theorem TY_0 : lw_tbl[60]? = some (Cond.initialized RX7) ∧ goodWord (Cond.initialized RX7) = true ∧ lw_tbl[68]? = some (Cond.initialized RX8) ∧ goodWord (Cond.initialized RX8) = true ∧ lw_tbl[77]? = some (Cond.classLink RL 8 RX7) ∧ goodWord (Cond.classLink RL 8 RX7) = true ∧ lw_tbl[78]? = some (Cond.instantiable RX7 6) ∧ goodWord (Cond.instantiable RX7 6) = true := by decide +kernel
theorem ty_60 : Cond.initialized RX7 ∈ TB := tb_in 60 TY_0.1 TY_0.2.1
theorem ty_68 : Cond.initialized RX8 ∈ TB := tb_in 68 TY_0.2.2.1 TY_0.2.2.2.1
theorem ty_77 : Cond.classLink RL 8 RX7 ∈ TB := tb_in 77 TY_0.2.2.2.2.1 TY_0.2.2.2.2.2.1
theorem ty_78 : Cond.instantiable RX7 6 ∈ TB := tb_in 78 TY_0.2.2.2.2.2.2.1 TY_0.2.2.2.2.2.2.2
set_option maxRecDepth 100000 in
theorem TY_1 : lw_tbl[86]? = some (Cond.instantiable RX5 9) ∧ goodWord (Cond.instantiable RX5 9) = true ∧ lw_tbl[98]? = some (Cond.instantiable RX3 5) ∧ goodWord (Cond.instantiable RX3 5) = true ∧ lw_tbl[121]? = some (Cond.instantiable RX4 4) ∧ goodWord (Cond.instantiable RX4 4) = true ∧ lw_tbl[144]? = some (Cond.instantiable RX0 9) ∧ goodWord (Cond.instantiable RX0 9) = true := by decide +kernel
theorem ty_86 : Cond.instantiable RX5 9 ∈ TB := tb_in 86 TY_1.1 TY_1.2.1
theorem ty_98 : Cond.instantiable RX3 5 ∈ TB := tb_in 98 TY_1.2.2.1 TY_1.2.2.2.1
theorem ty_121 : Cond.instantiable RX4 4 ∈ TB := tb_in 121 TY_1.2.2.2.2.1 TY_1.2.2.2.2.2.1
theorem ty_144 : Cond.instantiable RX0 9 ∈ TB := tb_in 144 TY_1.2.2.2.2.2.2.1 TY_1.2.2.2.2.2.2.2
set_option maxRecDepth 100000 in
theorem TY_2 : lw_tbl[189]? = some (Cond.instantiable RX6 13) ∧ goodWord (Cond.instantiable RX6 13) = true ∧ lw_tbl[250]? = some (Cond.arrayClass .int) ∧ goodWord (Cond.arrayClass .int) = true ∧ lw_tbl[251]? = some (Cond.arrayClass .boolean) ∧ goodWord (Cond.arrayClass .boolean) = true ∧ lw_tbl[293]? = some (Cond.instantiable RX2 3) ∧ goodWord (Cond.instantiable RX2 3) = true := by decide +kernel
theorem ty_189 : Cond.instantiable RX6 13 ∈ TB := tb_in 189 TY_2.1 TY_2.2.1
theorem ty_250 : Cond.arrayClass .int ∈ TB := tb_in 250 TY_2.2.2.1 TY_2.2.2.2.1
theorem ty_251 : Cond.arrayClass .boolean ∈ TB := tb_in 251 TY_2.2.2.2.2.1 TY_2.2.2.2.2.2.1
theorem ty_293 : Cond.instantiable RX2 3 ∈ TB := tb_in 293 TY_2.2.2.2.2.2.2.1 TY_2.2.2.2.2.2.2.2
set_option maxRecDepth 100000 in
theorem TY_3 : lw_tbl[313]? = some (Cond.instantiable RX1 2) ∧ goodWord (Cond.instantiable RX1 2) = true ∧ lw_tbl[1019]? = some (Cond.classLink RL 111 RX8) ∧ goodWord (Cond.classLink RL 111 RX8) = true ∧ lw_tbl[1020]? = some (Cond.instantiable RX8 14) ∧ goodWord (Cond.instantiable RX8 14) = true ∧ lw_tbl[1072]? = some (Cond.arrayClass .long) ∧ goodWord (Cond.arrayClass .long) = true := by decide +kernel
theorem ty_313 : Cond.instantiable RX1 2 ∈ TB := tb_in 313 TY_3.1 TY_3.2.1
theorem ty_1019 : Cond.classLink RL 111 RX8 ∈ TB := tb_in 1019 TY_3.2.2.1 TY_3.2.2.2.1
theorem ty_1020 : Cond.instantiable RX8 14 ∈ TB := tb_in 1020 TY_3.2.2.2.2.1 TY_3.2.2.2.2.2.1
theorem ty_1072 : Cond.arrayClass .long ∈ TB := tb_in 1072 TY_3.2.2.2.2.2.2.1 TY_3.2.2.2.2.2.2.2
set_option maxRecDepth 100000 in
theorem mw_ov_in : ∀ C ∈ mw_ov, Cond.arrayOver (.object C) ∈ lw_tbl := by decide +kernel
set_option maxRecDepth 100000 in
theorem mw_nw_in : ∀ w ∈ mw_nw, w ∈ lw_tbl := by decide +kernel
set_option maxRecDepth 100000 in
theorem mw_nc_in : ∀ q ∈ mw_nc, Cond.not (.castable q.1 q.2) ∈ flatC (Jvm.Cond.and given_1 narrow_1) := by decide +kernel
set_option maxRecDepth 100000 in
theorem mw_strs_in : ∀ q ∈ mw_strs, Cond.stringRef q.1 q.2.1 q.2.2 ∈ lw_tbl ∧ Cond.exactly (.string q.1 q.2.1) "java/lang/String" ∈ flatC (Jvm.Cond.and given_1 narrow_1) := by decide +kernel
set_option maxRecDepth 100000 in
theorem st_lay : lw_tbl[599]? = some (Cond.laysStatic Bundle.tN "UNASSIGNED_STACK" Bundle.steD) ∧ lw_tbl[601]? = some (Cond.laysStatic Bundle.tN "SUPPRESSED_SENTINEL" Bundle.listD) ∧ Cond.initialized Bundle.tN ∈ lw_tbl ∧ Cond.isRef (.static Bundle.tN "UNASSIGNED_STACK" Bundle.steD) ∈ flatC (Jvm.Cond.and given_1 narrow_1) ∧ Cond.isRef (.static Bundle.tN "SUPPRESSED_SENTINEL" Bundle.listD) ∈ flatC (Jvm.Cond.and given_1 narrow_1) := by decide +kernel
theorem st_arr {s : State} {args : Array Value} {ty : FieldType} (h : (Cond.arrayClass ty).before args s = true) : ∃ cA : ClassId, ArrOfT s cA ty ∧ s.vm.findClass ("[" ++ ty.toString) = some cA := by
  obtain ⟨cA, kA, comp, h1, h2, h3⟩ := Cond.arrayClass_spec h
  exact ⟨cA, fun n z => ⟨fun k h => (by cases h), kA, h2, comp, h3⟩, h1⟩
theorem st_arrO {s : State} {args : Array Value} {C : String} (h : (Cond.arrayOver (.object C)).before args s = true) : ∃ cA : ClassId, ArrOfT s cA (.object C) ∧ va_RA s cA (.object C) := by
  obtain ⟨comp, cA, kA, h1, -, h2, h3, h4⟩ := Cond.arrayOver_spec h
  exact ⟨cA, fun n z => ⟨fun k h => (by cases h), kA, h2, comp, h3⟩, kA, comp, h2, h3, h1, h4⟩
theorem st_A {s : State} {args : Array Value} (hts : ∀ w ∈ lw_tbl, w.before args s = true) : ∀ i : Nat, ∃ cA : ClassId, i < 8 → ArrOfT s cA (mw_ty (10 + i)) ∧ va_RA s cA (mw_ty (10 + i)) := by
  have htb : ∀ w ∈ TB, w.before args s = true := fun w hw => hts w (List.mem_filter.mp hw).1
  have ov := fun C hC => st_arrO (hts _ (mw_ov_in C hC))
  intro i
  match i with
  | 0 => obtain ⟨cA, h⟩ := st_arr (htb _ ty_250); exact ⟨cA, fun _ => h⟩
  | 1 => obtain ⟨cA, h⟩ := st_arr (htb _ ty_1072); exact ⟨cA, fun _ => h⟩
  | 2 => obtain ⟨cA, h⟩ := st_arr (htb _ ty_251); exact ⟨cA, fun _ => h⟩
  | 3 => obtain ⟨cA, h⟩ := ov RX4 (by decide); exact ⟨cA, fun _ => h⟩
  | 4 => obtain ⟨cA, h⟩ := ov RX0 (by decide); exact ⟨cA, fun _ => h⟩
  | 5 => obtain ⟨cA, h⟩ := ov RX6 (by decide); exact ⟨cA, fun _ => h⟩
  | 6 => obtain ⟨cA, h⟩ := ov RX5 (by decide); exact ⟨cA, fun _ => h⟩
  | 7 => obtain ⟨cA, h⟩ := ov RX1 (by decide); exact ⟨cA, fun _ => h⟩
  | j + 8 => obtain ⟨cA, -⟩ := ov RX1 (by decide); exact ⟨cA, fun h => absurd h (by omega)⟩
theorem st_D {s : State} {args : Array Value} (hts : ∀ w ∈ lw_tbl, w.before args s = true) : ∀ c : Nat, ∃ y : ClassId × (Nat → Nat), ∀ q, mw_cl[c]? = some q → u_Kn s q.1 q.2.1 q.2.2 y.1 y.2 := by
  have htb : ∀ w ∈ TB, w.before args s = true := fun w hw => hts w (List.mem_filter.mp hw).1
  intro c
  match c with
  | 0 => obtain ⟨a, f, h⟩ := u_known htb mw_in0 (htb _ ty_144); exact ⟨(a, f), fun q hq => by cases hq; exact h⟩
  | 1 => obtain ⟨a, f, h⟩ := u_known htb mw_in1 (htb _ ty_313); exact ⟨(a, f), fun q hq => by cases hq; exact h⟩
  | 2 => obtain ⟨a, f, h⟩ := u_known htb mw_in2 (htb _ ty_293); exact ⟨(a, f), fun q hq => by cases hq; exact h⟩
  | 3 => obtain ⟨a, f, h⟩ := u_known htb mw_in3 (htb _ ty_98); exact ⟨(a, f), fun q hq => by cases hq; exact h⟩
  | 4 => obtain ⟨a, f, h⟩ := u_known htb mw_in4 (htb _ ty_121); exact ⟨(a, f), fun q hq => by cases hq; exact h⟩
  | 5 => obtain ⟨a, f, h⟩ := u_known htb mw_in5 (htb _ ty_86); exact ⟨(a, f), fun q hq => by cases hq; exact h⟩
  | 6 => obtain ⟨a, f, h⟩ := u_known htb mw_in6 (htb _ ty_189); exact ⟨(a, f), fun q hq => by cases hq; exact h⟩
  | 7 => obtain ⟨a, f, h⟩ := u_known htb mw_in7 (htb _ ty_78); exact ⟨(a, f), fun q hq => by cases hq; exact h⟩
  | 8 => obtain ⟨a, f, h⟩ := u_known htb mw_in8 (htb _ ty_1020); exact ⟨(a, f), fun q hq => by cases hq; exact h⟩
  | j + 9 => obtain ⟨a, f, -⟩ := u_known htb mw_in0 (htb _ ty_144); exact ⟨(a, f), fun q hq => by
      have h9 := (List.getElem?_eq_some_iff.mp hq).1
      have h8 : j + 9 < 9 := h9
      omega⟩
theorem st_G {s : State} {args : Array Value} (hts : ∀ w ∈ lw_tbl, w.before args s = true) : ∃ G : mw_G, mw_K G s ∧ G.2.2.2 = s.heap.size := by
  obtain ⟨D, hD⟩ := Classical.axiomOfChoice (st_D hts)
  obtain ⟨A, hA⟩ := Classical.axiomOfChoice (st_A hts)
  refine ⟨(fun c => (D c).1, fun c => (D c).2, fun t => A (t - 10), s.heap.size), ⟨fun c q hq => hD c q hq, fun k q hq => ?_⟩, rfl⟩
  have hk : k < 8 := by
    have h9 := (List.getElem?_eq_some_iff.mp hq).1
    unfold mw_tys at h9
    rw [List.length_map, List.length_range] at h9
    exact h9
  have h1 := mw_tys_at (fun c => (D c).1, fun c => (D c).2, fun t => A (t - 10), s.heap.size) (t := 10 + k) (by omega) (by omega)
  rw [show 10 + k - 10 = k by omega] at h1
  have h2 := Option.some.inj (h1.symm.trans hq)
  rw [← h2]
  show ArrOfT s (A (10 + k - 10)) _ ∧ va_RA s (A (10 + k - 10)) _
  rw [show 10 + k - 10 = k by omega]
  exact hA k hk
theorem st_E {G : mw_G} {s : State} {args : Array Value} (hts : ∀ w ∈ lw_tbl, w.before args s = true) (hgv : (Jvm.Cond.and given_1 narrow_1).before args s = true) (hG : G.2.2.2 = s.heap.size) : mw_E G s := by
  have hf := flat_of_before _ hgv
  have hA : ∀ a : Nat, a < s.heap.size → ¬ mw_A G a := fun a ha q => by
    have q2 : G.2.2.2 ≤ a := q
    omega
  obtain ⟨l1, l2, hi, r1, r2⟩ := st_lay
  refine ⟨by omega, vx_Zqof (hts _ (List.mem_of_getElem? l1)) (hts _ hi) (hf _ r1) hA, vx_Zqof (hts _ (List.mem_of_getElem? l2)) (hts _ hi) (hf _ r2) hA, fun q hq => ?_, fun w hw => va_Nw.of (mw_nw_on w hw) (hts _ (mw_nw_in w hw)), fun C hC => va_AO.of (hts _ (mw_ov_in C hC)), fun q hq => va_Nc.of (hf _ (mw_nc_in q hq))⟩
  obtain ⟨a, -, -, -, ha, -⟩ := Cond.exactly_spec (hf _ (mw_strs_in q hq).2)
  exact ⟨a, vk_R.of (hts _ (mw_strs_in q hq).1) ha⟩
def mz : mw_M := (fun _ _ => 0, fun _ _ => 0, fun _ _ => 0)
theorem mz_z : zr mz 1 := fun _ _ _ => ⟨rfl, rfl, rfl⟩
theorem mz_p : ptb mz 1 := fun _ _ => Nat.zero_lt_one
/-- the law's prologue: the class, the reference, the place for an answer -/
theorem law_start {G : mw_G} {l : Launch} {Y : mw_Y} (hlt : l.stackTraces = false) (hC : mw_C G l room_1 Y cL_law RL) (hnL : mw_nL Y = 8) (kk : ∀ M, LI M 0 → mw_J Y 254 4264 255 M 23 (Lc 0) []) : mw_J Y 0 0 1 mz 0 [(0, .ref 900)] [] := by
  have ok9 : mw_ok 1 (.ref 900) := Or.inr (by decide)
  refine jr_new hC mw_Cl7 tyX7 tyX7_ok mw_df7 ty_77 ty_78 ty_60 (fresh mz_z mz_p (by decide +kernel) (by decide) (by decide)) (mw_okl_c ok9 mw_okl_n) mw_oks_n (by decide) (by decide) dL_law_0 ?_
  refine jr_dup hC dL_law_3 rfl ?_
  refine jr_callIa_v (As := []) (st := [.ref 1]) hC xi_110 (c_X7_init hlt (s_X7_init (Q := fun n M => n = 247 ∧ CF0 M ∧ zr M 247 ∧ ptb M 247) mz_z (mz_p.le (by decide)) (fun O h1 h2 h3 => ⟨rfl, h1, h2, h3⟩))) (by decide) (mw_okl_c (Or.inr (by decide)) mw_okl_n) (mw_oks_c (Or.inl (by decide)) mw_oks_n) rfl rfl ⟨⟨rfl, rfl⟩, ⟨by decide, by decide⟩, by decide, by decide⟩ (Nat.le_of_ble_eq_true rfl) dL_law_4 (fun n1 M1 hq => ?_)
  obtain ⟨rfl, c1, z1, p1⟩ := hq
  refine jr_astore_n (L1 := [(1, .ref 1), (0, .ref 900)]) hC dL_law_7 rfl hnL (by decide) rfl ?_
  refine jr_new hC mw_Cl8 tyX8 tyX8_ok mw_df8 ty_1019 ty_1020 ty_68 (fresh z1 p1 (by decide +kernel) (by decide) (by decide)) (mw_okl_c (Or.inl (by decide)) (mw_okl_c (Or.inr (by decide)) mw_okl_n)) mw_oks_n (by decide) (by decide) dL_law_8 ?_
  refine jr_dup hC dL_law_11 rfl ?_
  refine jr_callIa_v (As := []) (st := [.ref 247]) hC xi_113 (c_X8_init hlt (s_X8_init (Q := fun n O => n = 254 ∧ (fo T8 M1 O ∧ MK O ∧ nw O = row0) ∧ (mL O 247 1 = 7 ∧ mI O 247 4 = 0) ∧ zr O 254 ∧ ptb O 254) z1 (p1.le (by decide)) (fun O a1 a2 a3 a4 a5 a6 a7 => ⟨rfl, ⟨a1, a2, a3⟩, ⟨a4, a5⟩, a6, a7⟩))) (by decide) (mw_okl_c (Or.inl (by decide)) (mw_okl_c (Or.inr (by decide)) mw_okl_n)) (mw_oks_c (Or.inl (by decide)) mw_oks_n) rfl rfl ⟨⟨rfl, rfl⟩, ⟨by decide, by decide⟩, by decide, by decide⟩ (Nat.le_of_ble_eq_true rfl) dL_law_12 (fun n2 M2 hq => ?_)
  obtain ⟨rfl, ⟨a1, a2, a3⟩, ⟨a4, a5⟩, a6, a7⟩ := hq
  refine jr_astore_n (L1 := [(2, .ref 247), (1, .ref 1), (0, .ref 900)]) hC dL_law_15 rfl hnL (by decide) rfl ?_
  refine jr_iconst hC dL_law_16 rfl ?_
  refine jr_newl (N := 1) hC ty_1072 (fresh a6 a7 (by decide +kernel) (by decide) (by decide)) (by decide +kernel) (by decide) (by decide) (mw_okl_c (Or.inl (by decide)) (mw_okl_c (Or.inl (by decide)) (mw_okl_c (Or.inr (by decide)) mw_okl_n))) mw_oks_n (by decide) (by decide) dL_law_17 ?_
  refine jr_astore_n (L1 := [(3, .ref 254), (2, .ref 247), (1, .ref 1), (0, .ref 900)]) hC dL_law_19 rfl hnL (by decide) rfl ?_
  refine jr_iconst hC dL_law_20 rfl ?_
  refine jr_istore (L1 := [(4, .int 0), (3, .ref 254), (2, .ref 247), (1, .ref 1), (0, .ref 900)]) hC dL_law_21 hnL (by decide) rfl ?_
  refine jr_sub [4, 3, 2, 1, 0] (L1 := Lc 0) rfl ?_
  exact kk M2 (li_start (CF_T8 c1 a1) a2 a3 a4 a5)
/-- the script's masked word -/
theorem and31 (x : Int32) : ∃ j : Nat, j < 32 ∧ x &&& 31 = nI j := by
  refine ⟨(x &&& 31).toBitVec.toNat, ?_, ?_⟩
  · have h : (x &&& 31).toBitVec.toNat = x.toBitVec.toNat &&& 31 := by
      rw [Int32.toBitVec_and, BitVec.toNat_and]
      rfl
    rw [h]
    exact Nat.lt_of_le_of_lt Nat.and_le_right (by decide)
  · have e : (nI (x &&& 31).toBitVec.toNat).toBitVec = (x &&& 31).toBitVec := by
      show BitVec.ofNat 32 (x &&& 31).toBitVec.toNat = _
      exact BitVec.eq_of_toNat_eq (by rw [BitVec.toNat_ofNat]; exact Nat.mod_eq_of_lt (x &&& 31).toBitVec.isLt)
    exact Int32.toBitVec_inj.mp e.symm
