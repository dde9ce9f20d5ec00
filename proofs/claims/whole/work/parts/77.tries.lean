/-! The law's methods with a try -/
theorem v_setSource {G : mw_G} {l : Launch} (hlt : l.stackTraces = false) {M : mw_M} {x1 x2 x3 x4 x5 : Int32} {W : mw_M → Nat → Prop} (h : w_X7_setSource 255 M 1 x1 x2 x3 x4 x5 (fun M1 v => W (kept M1 v.toInt64) 0) (fun M1 nm => ∃ e, hS2[e]? = some nm ∧ W M1 (e + 1))) : mw_Met G l yL_setSource (.codeWith yL_setSource cL_setSource 8 (some .int) [(0, 16, 19, 13), (0, 16, 23, 15)]) { frames := 8, cells := 2, slots := 12, locals := 128 } 255 M [.ref 1, .int x1, .int x2, .int x3, .int x4, .int x5, .ref 254] (fun n1 M1 v => n1 = 255 ∧ ∃ e : Nat, e < 100 ∧ v = some (.int (nI e)) ∧ W M1 e) (fun _ _ => False) := by
  refine mw_enterH (L0 := [(0, .ref 1), (1, .int x1), (2, .int x2), (3, .int x3), (4, .int x4), (5, .int x5), (6, .ref 254)]) hlt rfl rfl (by decide) (Nat.le_of_ble_eq_true rfl) rfl ?_
  intro Y hC0 hZ hnL hn00
  have hC : mw_C G l _ Y cL_setSource RL := hC0
  refine jr_aload (j := 6) hC dL_setSource_0 rfl ?_
  refine jr_iconst hC dL_setSource_2 rfl ?_
  refine jr_aload_n (j := 0) hC dL_setSource_3 rfl rfl ?_
  refine jr_iload_n (j := 1) hC dL_setSource_4 rfl rfl ?_
  refine jr_iload_n (j := 2) hC dL_setSource_5 rfl rfl ?_
  refine jr_iload_n (j := 3) hC dL_setSource_6 rfl rfl ?_
  refine jr_iload (j := 4) hC dL_setSource_7 rfl ?_
  refine jr_iload (j := 5) hC dL_setSource_9 rfl ?_
  refine jr_callVt (As := [.int x1, .int x2, .int x3, .int x4, .int x5]) (st := [.int 0, .ref 254]) hC xv_7 (c_X7_setSource hlt h) is1 rfl rfl ⟨⟨rfl, rfl⟩, ⟨by decide, by decide⟩, by decide, by decide⟩ (Nat.le_of_ble_eq_true rfl) hn00 dL_setSource_11 (fun M1 E hx => ?_) (fun M1 v hP => ?_)
  · obtain ⟨e, he, hq⟩ := hx
    rcases hS2_is he with ⟨rfl, rfl⟩ | ⟨rfl, rfl⟩
    · exact jr_catch hC (pre := []) (suf := [(0, 16, 23, 15)]) (j := 7) hZ rfl (fun q hq => nomatch hq) rfl (by decide) tx_560 (by decide +kernel) hnL (by decide) (Or.inl ⟨dL_setSource_19, rfl⟩) dL_setSource_21 rfl dL_setSource_22 (by decide) (by decide) ⟨rfl, _, by decide, rfl, hq⟩
    · exact jr_catch hC (pre := [(0, 16, 19, 13)]) (suf := []) (j := 7) hZ rfl (fun q hq => by
        simp only [List.mem_cons, List.not_mem_nil, or_false] at hq
        rcases hq with rfl
        · exact ⟨by decide, _, tx_560, by decide +kernel⟩) rfl (by decide) tx_561 (by decide +kernel) hnL (by decide) (Or.inl ⟨dL_setSource_23, rfl⟩) dL_setSource_25 rfl dL_setSource_26 (by decide) (by decide) ⟨rfl, _, by decide, rfl, hq⟩
  · obtain ⟨x, rfl, hq⟩ := hP
    refine jr_i2l hC dL_setSource_14 ?_
    refine jr_last hC is254 vi254 rfl dL_setSource_15 ?_
    refine jr_goto (tgt := 27) hC dL_setSource_16 (by decide) ?_
    refine jr_iconst hC dL_setSource_27 rfl ?_
    exact jr_iretH hC hZ (by decide) (by decide) dL_setSource_28 ⟨rfl, _, by decide, rfl, hq⟩
theorem v_sample {G : mw_G} {l : Launch} (hlt : l.stackTraces = false) {M : mw_M} {x1 x2 : Int32} {W : mw_M → Nat → Prop} (h : w_X7_sample 255 M 1 x1 x2 (fun v => W (kept M v.toInt64) 0) (fun M1 nm => ∃ e, hS1[e]? = some nm ∧ W M1 (e + 1))) : mw_Met G l yL_sample (.codeWith yL_sample cL_sample 5 (some .int) [(0, 10, 13, 13)]) { frames := 8, cells := 2, slots := 12, locals := 124 } 255 M [.ref 1, .int x1, .int x2, .ref 254] (fun n1 M1 v => n1 = 255 ∧ ∃ e : Nat, e < 100 ∧ v = some (.int (nI e)) ∧ W M1 e) (fun _ _ => False) := by
  refine mw_enterH (L0 := [(0, .ref 1), (1, .int x1), (2, .int x2), (3, .ref 254)]) hlt rfl rfl (by decide) (Nat.le_of_ble_eq_true rfl) rfl ?_
  intro Y hC0 hZ hnL hn00
  have hC : mw_C G l _ Y cL_sample RL := hC0
  refine jr_aload_n (j := 3) hC dL_sample_0 rfl rfl ?_
  refine jr_iconst hC dL_sample_1 rfl ?_
  refine jr_aload_n (j := 0) hC dL_sample_2 rfl rfl ?_
  refine jr_iload_n (j := 1) hC dL_sample_3 rfl rfl ?_
  refine jr_iload_n (j := 2) hC dL_sample_4 rfl rfl ?_
  refine jr_callVt (As := [.int x1, .int x2]) (st := [.int 0, .ref 254]) hC xv_17 (c_X7_sample hlt h) is1 rfl rfl ⟨⟨rfl, rfl⟩, ⟨by decide, by decide⟩, by decide, by decide⟩ (Nat.le_of_ble_eq_true rfl) hn00 dL_sample_5 (fun M1 E hx => ?_) (fun M1 v hP => ?_)
  · obtain ⟨e, he, hq⟩ := hx
    rcases hS1_is he with ⟨rfl, rfl⟩
    · exact jr_catch hC (pre := []) (suf := []) (j := 4) hZ rfl (fun q hq => nomatch hq) rfl (by decide) tx_560 (by decide +kernel) hnL (by decide) (Or.inl ⟨dL_sample_13, rfl⟩) dL_sample_15 rfl dL_sample_16 (by decide) (by decide) ⟨rfl, _, by decide, rfl, hq⟩
  · obtain ⟨rfl, x, rfl, hq⟩ := hP
    refine jr_i2l hC dL_sample_8 ?_
    refine jr_last hC is254 vi254 rfl dL_sample_9 ?_
    refine jr_goto (tgt := 17) hC dL_sample_10 (by decide) ?_
    refine jr_iconst hC dL_sample_17 rfl ?_
    exact jr_iretH hC hZ (by decide) (by decide) dL_sample_18 ⟨rfl, _, by decide, rfl, hq⟩
theorem v_addClip {G : mw_G} {l : Launch} (hlt : l.stackTraces = false) {M : mw_M} {x1 x2 x3 x4 x5 x6 : Int32} {W : mw_M → Nat → Prop} (h : w_X7_addClip 255 M 1 x1 x2 x3 x4 x5 x6 (fun M1 v => W (kept M1 v.toInt64) 0) (fun M1 nm => ∃ e, hSA[e]? = some nm ∧ W M1 (e + 1))) : mw_Met G l yL_addClip (.codeWith yL_addClip cL_addClip 9 (some .int) [(0, 18, 21, 15), (0, 18, 25, 25), (0, 18, 29, 27)]) { frames := 8, cells := 2, slots := 12, locals := 130 } 255 M [.ref 1, .int x1, .int x2, .int x3, .int x4, .int x5, .int x6, .ref 254] (fun n1 M1 v => n1 = 255 ∧ ∃ e : Nat, e < 100 ∧ v = some (.int (nI e)) ∧ W M1 e) (fun _ _ => False) := by
  refine mw_enterH (L0 := [(0, .ref 1), (1, .int x1), (2, .int x2), (3, .int x3), (4, .int x4), (5, .int x5), (6, .int x6), (7, .ref 254)]) hlt rfl rfl (by decide) (Nat.le_of_ble_eq_true rfl) rfl ?_
  intro Y hC0 hZ hnL hn00
  have hC : mw_C G l _ Y cL_addClip RL := hC0
  refine jr_aload (j := 7) hC dL_addClip_0 rfl ?_
  refine jr_iconst hC dL_addClip_2 rfl ?_
  refine jr_aload_n (j := 0) hC dL_addClip_3 rfl rfl ?_
  refine jr_iload_n (j := 1) hC dL_addClip_4 rfl rfl ?_
  refine jr_iload_n (j := 2) hC dL_addClip_5 rfl rfl ?_
  refine jr_iload_n (j := 3) hC dL_addClip_6 rfl rfl ?_
  refine jr_iload (j := 4) hC dL_addClip_7 rfl ?_
  refine jr_iload (j := 5) hC dL_addClip_9 rfl ?_
  refine jr_iload (j := 6) hC dL_addClip_11 rfl ?_
  refine jr_callVt (As := [.int x1, .int x2, .int x3, .int x4, .int x5, .int x6]) (st := [.int 0, .ref 254]) hC xv_21 (c_X7_addClip hlt h) is1 rfl rfl ⟨⟨rfl, rfl⟩, ⟨by decide, by decide⟩, by decide, by decide⟩ (Nat.le_of_ble_eq_true rfl) hn00 dL_addClip_13 (fun M1 E hx => ?_) (fun M1 v hP => ?_)
  · obtain ⟨e, he, hq⟩ := hx
    rcases hSA_is he with ⟨rfl, rfl⟩ | ⟨rfl, rfl⟩ | ⟨rfl, rfl⟩
    · exact jr_catch hC (pre := []) (suf := [(0, 18, 25, 25), (0, 18, 29, 27)]) (j := 8) hZ rfl (fun q hq => nomatch hq) rfl (by decide) tx_561 (by decide +kernel) hnL (by decide) (Or.inl ⟨dL_addClip_21, rfl⟩) dL_addClip_23 rfl dL_addClip_24 (by decide) (by decide) ⟨rfl, _, by decide, rfl, hq⟩
    · exact jr_catch hC (pre := [(0, 18, 21, 15)]) (suf := [(0, 18, 29, 27)]) (j := 8) hZ rfl (fun q hq => by
        simp only [List.mem_cons, List.not_mem_nil, or_false] at hq
        rcases hq with rfl
        · exact ⟨by decide, _, tx_561, by decide +kernel⟩) rfl (by decide) tx_682 (by decide +kernel) hnL (by decide) (Or.inl ⟨dL_addClip_25, rfl⟩) dL_addClip_27 rfl dL_addClip_28 (by decide) (by decide) ⟨rfl, _, by decide, rfl, hq⟩
    · exact jr_catch hC (pre := [(0, 18, 21, 15), (0, 18, 25, 25)]) (suf := []) (j := 8) hZ rfl (fun q hq => by
        simp only [List.mem_cons, List.not_mem_nil, or_false] at hq
        rcases hq with rfl | rfl
        · exact ⟨by decide, _, tx_561, by decide +kernel⟩
        · exact ⟨by decide, _, tx_682, by decide +kernel⟩) rfl (by decide) tx_683 (by decide +kernel) hnL (by decide) (Or.inl ⟨dL_addClip_29, rfl⟩) dL_addClip_31 rfl dL_addClip_32 (by decide) (by decide) ⟨rfl, _, by decide, rfl, hq⟩
  · obtain ⟨x, rfl, hq⟩ := hP
    refine jr_i2l hC dL_addClip_16 ?_
    refine jr_last hC is254 vi254 rfl dL_addClip_17 ?_
    refine jr_goto (tgt := 33) hC dL_addClip_18 (by decide) ?_
    refine jr_iconst hC dL_addClip_33 rfl ?_
    exact jr_iretH hC hZ (by decide) (by decide) dL_addClip_34 ⟨rfl, _, by decide, rfl, hq⟩
theorem v_setFades {G : mw_G} {l : Launch} (hlt : l.stackTraces = false) {M : mw_M} {x1 x2 x3 x4 : Int32} {W : mw_M → Nat → Prop} (h : w_X7_setFades 255 M 1 x1 x2 x3 x4 (fun M1 v => W (kept M1 v.toInt64) 0) (fun M1 nm => ∃ e, hS2[e]? = some nm ∧ W M1 (e + 1))) : mw_Met G l yL_setFades (.codeWith yL_setFades cL_setFades 7 (some .int) [(0, 14, 17, 13), (0, 14, 21, 15)]) { frames := 8, cells := 2, slots := 12, locals := 128 } 255 M [.ref 1, .int x1, .int x2, .int x3, .int x4, .ref 254] (fun n1 M1 v => n1 = 255 ∧ ∃ e : Nat, e < 100 ∧ v = some (.int (nI e)) ∧ W M1 e) (fun _ _ => False) := by
  refine mw_enterH (L0 := [(0, .ref 1), (1, .int x1), (2, .int x2), (3, .int x3), (4, .int x4), (5, .ref 254)]) hlt rfl rfl (by decide) (Nat.le_of_ble_eq_true rfl) rfl ?_
  intro Y hC0 hZ hnL hn00
  have hC : mw_C G l _ Y cL_setFades RL := hC0
  refine jr_aload (j := 5) hC dL_setFades_0 rfl ?_
  refine jr_iconst hC dL_setFades_2 rfl ?_
  refine jr_aload_n (j := 0) hC dL_setFades_3 rfl rfl ?_
  refine jr_iload_n (j := 1) hC dL_setFades_4 rfl rfl ?_
  refine jr_iload_n (j := 2) hC dL_setFades_5 rfl rfl ?_
  refine jr_iload_n (j := 3) hC dL_setFades_6 rfl rfl ?_
  refine jr_iload (j := 4) hC dL_setFades_7 rfl ?_
  refine jr_callVt (As := [.int x1, .int x2, .int x3, .int x4]) (st := [.int 0, .ref 254]) hC xv_29 (c_X7_setFades hlt h) is1 rfl rfl ⟨⟨rfl, rfl⟩, ⟨by decide, by decide⟩, by decide, by decide⟩ (Nat.le_of_ble_eq_true rfl) hn00 dL_setFades_9 (fun M1 E hx => ?_) (fun M1 v hP => ?_)
  · obtain ⟨e, he, hq⟩ := hx
    rcases hS2_is he with ⟨rfl, rfl⟩ | ⟨rfl, rfl⟩
    · exact jr_catch hC (pre := []) (suf := [(0, 14, 21, 15)]) (j := 6) hZ rfl (fun q hq => nomatch hq) rfl (by decide) tx_560 (by decide +kernel) hnL (by decide) (Or.inl ⟨dL_setFades_17, rfl⟩) dL_setFades_19 rfl dL_setFades_20 (by decide) (by decide) ⟨rfl, _, by decide, rfl, hq⟩
    · exact jr_catch hC (pre := [(0, 14, 17, 13)]) (suf := []) (j := 6) hZ rfl (fun q hq => by
        simp only [List.mem_cons, List.not_mem_nil, or_false] at hq
        rcases hq with rfl
        · exact ⟨by decide, _, tx_560, by decide +kernel⟩) rfl (by decide) tx_561 (by decide +kernel) hnL (by decide) (Or.inl ⟨dL_setFades_21, rfl⟩) dL_setFades_23 rfl dL_setFades_24 (by decide) (by decide) ⟨rfl, _, by decide, rfl, hq⟩
  · obtain ⟨x, rfl, hq⟩ := hP
    refine jr_i2l hC dL_setFades_12 ?_
    refine jr_last hC is254 vi254 rfl dL_setFades_13 ?_
    refine jr_goto (tgt := 25) hC dL_setFades_14 (by decide) ?_
    refine jr_iconst hC dL_setFades_25 rfl ?_
    exact jr_iretH hC hZ (by decide) (by decide) dL_setFades_26 ⟨rfl, _, by decide, rfl, hq⟩
theorem v_moveClip {G : mw_G} {l : Launch} (hlt : l.stackTraces = false) {M : mw_M} {x1 x2 : Int32} {W : mw_M → Nat → Prop} (h : w_X7_moveClip 255 M 1 x1 x2 (fun M1 v => W (kept M1 v.toInt64) 0) (fun M1 nm => ∃ e, hSU[e]? = some nm ∧ W M1 (e + 1))) : mw_Met G l yL_moveClip (.codeWith yL_moveClip cL_moveClip 5 (some .int) [(0, 10, 13, 13), (0, 10, 17, 15), (0, 10, 21, 27)]) { frames := 8, cells := 2, slots := 12, locals := 127 } 255 M [.ref 1, .int x1, .int x2, .ref 254] (fun n1 M1 v => n1 = 255 ∧ ∃ e : Nat, e < 100 ∧ v = some (.int (nI e)) ∧ W M1 e) (fun _ _ => False) := by
  refine mw_enterH (L0 := [(0, .ref 1), (1, .int x1), (2, .int x2), (3, .ref 254)]) hlt rfl rfl (by decide) (Nat.le_of_ble_eq_true rfl) rfl ?_
  intro Y hC0 hZ hnL hn00
  have hC : mw_C G l _ Y cL_moveClip RL := hC0
  refine jr_aload_n (j := 3) hC dL_moveClip_0 rfl rfl ?_
  refine jr_iconst hC dL_moveClip_1 rfl ?_
  refine jr_aload_n (j := 0) hC dL_moveClip_2 rfl rfl ?_
  refine jr_iload_n (j := 1) hC dL_moveClip_3 rfl rfl ?_
  refine jr_iload_n (j := 2) hC dL_moveClip_4 rfl rfl ?_
  refine jr_callVt (As := [.int x1, .int x2]) (st := [.int 0, .ref 254]) hC xv_33 (c_X7_moveClip hlt h) is1 rfl rfl ⟨⟨rfl, rfl⟩, ⟨by decide, by decide⟩, by decide, by decide⟩ (Nat.le_of_ble_eq_true rfl) hn00 dL_moveClip_5 (fun M1 E hx => ?_) (fun M1 v hP => ?_)
  · obtain ⟨e, he, hq⟩ := hx
    rcases hSU_is he with ⟨rfl, rfl⟩ | ⟨rfl, rfl⟩ | ⟨rfl, rfl⟩
    · exact jr_catch hC (pre := []) (suf := [(0, 10, 17, 15), (0, 10, 21, 27)]) (j := 4) hZ rfl (fun q hq => nomatch hq) rfl (by decide) tx_560 (by decide +kernel) hnL (by decide) (Or.inl ⟨dL_moveClip_13, rfl⟩) dL_moveClip_15 rfl dL_moveClip_16 (by decide) (by decide) ⟨rfl, _, by decide, rfl, hq⟩
    · exact jr_catch hC (pre := [(0, 10, 13, 13)]) (suf := [(0, 10, 21, 27)]) (j := 4) hZ rfl (fun q hq => by
        simp only [List.mem_cons, List.not_mem_nil, or_false] at hq
        rcases hq with rfl
        · exact ⟨by decide, _, tx_560, by decide +kernel⟩) rfl (by decide) tx_561 (by decide +kernel) hnL (by decide) (Or.inl ⟨dL_moveClip_17, rfl⟩) dL_moveClip_19 rfl dL_moveClip_20 (by decide) (by decide) ⟨rfl, _, by decide, rfl, hq⟩
    · exact jr_catch hC (pre := [(0, 10, 13, 13), (0, 10, 17, 15)]) (suf := []) (j := 4) hZ rfl (fun q hq => by
        simp only [List.mem_cons, List.not_mem_nil, or_false] at hq
        rcases hq with rfl | rfl
        · exact ⟨by decide, _, tx_560, by decide +kernel⟩
        · exact ⟨by decide, _, tx_561, by decide +kernel⟩) rfl (by decide) tx_683 (by decide +kernel) hnL (by decide) (Or.inl ⟨dL_moveClip_21, rfl⟩) dL_moveClip_23 rfl dL_moveClip_24 (by decide) (by decide) ⟨rfl, _, by decide, rfl, hq⟩
  · obtain ⟨x, rfl, hq⟩ := hP
    refine jr_i2l hC dL_moveClip_8 ?_
    refine jr_last hC is254 vi254 rfl dL_moveClip_9 ?_
    refine jr_goto (tgt := 25) hC dL_moveClip_10 (by decide) ?_
    refine jr_iconst hC dL_moveClip_25 rfl ?_
    exact jr_iretH hC hZ (by decide) (by decide) dL_moveClip_26 ⟨rfl, _, by decide, rfl, hq⟩
theorem v_trimClip {G : mw_G} {l : Launch} (hlt : l.stackTraces = false) {M : mw_M} {x1 x2 x3 : Int32} {W : mw_M → Nat → Prop} (h : w_X7_trimClip 255 M 1 x1 x2 x3 (fun M1 v => W (kept M1 v.toInt64) 0) (fun M1 nm => ∃ e, hSU[e]? = some nm ∧ W M1 (e + 1))) : mw_Met G l yL_trimClip (.codeWith yL_trimClip cL_trimClip 6 (some .int) [(0, 12, 15, 13), (0, 12, 19, 15), (0, 12, 23, 27)]) { frames := 8, cells := 2, slots := 12, locals := 128 } 255 M [.ref 1, .int x1, .int x2, .int x3, .ref 254] (fun n1 M1 v => n1 = 255 ∧ ∃ e : Nat, e < 100 ∧ v = some (.int (nI e)) ∧ W M1 e) (fun _ _ => False) := by
  refine mw_enterH (L0 := [(0, .ref 1), (1, .int x1), (2, .int x2), (3, .int x3), (4, .ref 254)]) hlt rfl rfl (by decide) (Nat.le_of_ble_eq_true rfl) rfl ?_
  intro Y hC0 hZ hnL hn00
  have hC : mw_C G l _ Y cL_trimClip RL := hC0
  refine jr_aload (j := 4) hC dL_trimClip_0 rfl ?_
  refine jr_iconst hC dL_trimClip_2 rfl ?_
  refine jr_aload_n (j := 0) hC dL_trimClip_3 rfl rfl ?_
  refine jr_iload_n (j := 1) hC dL_trimClip_4 rfl rfl ?_
  refine jr_iload_n (j := 2) hC dL_trimClip_5 rfl rfl ?_
  refine jr_iload_n (j := 3) hC dL_trimClip_6 rfl rfl ?_
  refine jr_callVt (As := [.int x1, .int x2, .int x3]) (st := [.int 0, .ref 254]) hC xv_36 (c_X7_trimClip hlt h) is1 rfl rfl ⟨⟨rfl, rfl⟩, ⟨by decide, by decide⟩, by decide, by decide⟩ (Nat.le_of_ble_eq_true rfl) hn00 dL_trimClip_7 (fun M1 E hx => ?_) (fun M1 v hP => ?_)
  · obtain ⟨e, he, hq⟩ := hx
    rcases hSU_is he with ⟨rfl, rfl⟩ | ⟨rfl, rfl⟩ | ⟨rfl, rfl⟩
    · exact jr_catch hC (pre := []) (suf := [(0, 12, 19, 15), (0, 12, 23, 27)]) (j := 5) hZ rfl (fun q hq => nomatch hq) rfl (by decide) tx_560 (by decide +kernel) hnL (by decide) (Or.inl ⟨dL_trimClip_15, rfl⟩) dL_trimClip_17 rfl dL_trimClip_18 (by decide) (by decide) ⟨rfl, _, by decide, rfl, hq⟩
    · exact jr_catch hC (pre := [(0, 12, 15, 13)]) (suf := [(0, 12, 23, 27)]) (j := 5) hZ rfl (fun q hq => by
        simp only [List.mem_cons, List.not_mem_nil, or_false] at hq
        rcases hq with rfl
        · exact ⟨by decide, _, tx_560, by decide +kernel⟩) rfl (by decide) tx_561 (by decide +kernel) hnL (by decide) (Or.inl ⟨dL_trimClip_19, rfl⟩) dL_trimClip_21 rfl dL_trimClip_22 (by decide) (by decide) ⟨rfl, _, by decide, rfl, hq⟩
    · exact jr_catch hC (pre := [(0, 12, 15, 13), (0, 12, 19, 15)]) (suf := []) (j := 5) hZ rfl (fun q hq => by
        simp only [List.mem_cons, List.not_mem_nil, or_false] at hq
        rcases hq with rfl | rfl
        · exact ⟨by decide, _, tx_560, by decide +kernel⟩
        · exact ⟨by decide, _, tx_561, by decide +kernel⟩) rfl (by decide) tx_683 (by decide +kernel) hnL (by decide) (Or.inl ⟨dL_trimClip_23, rfl⟩) dL_trimClip_25 rfl dL_trimClip_26 (by decide) (by decide) ⟨rfl, _, by decide, rfl, hq⟩
  · obtain ⟨x, rfl, hq⟩ := hP
    refine jr_i2l hC dL_trimClip_10 ?_
    refine jr_last hC is254 vi254 rfl dL_trimClip_11 ?_
    refine jr_goto (tgt := 27) hC dL_trimClip_12 (by decide) ?_
    refine jr_iconst hC dL_trimClip_27 rfl ?_
    exact jr_iretH hC hZ (by decide) (by decide) dL_trimClip_28 ⟨rfl, _, by decide, rfl, hq⟩
theorem v_splitClip {G : mw_G} {l : Launch} (hlt : l.stackTraces = false) {M : mw_M} {x1 x2 : Int32} {W : mw_M → Nat → Prop} (h : w_X7_splitClip 255 M 1 x1 x2 (fun M1 v => W (kept M1 v.toInt64) 0) (fun M1 nm => ∃ e, hS4[e]? = some nm ∧ W M1 (e + 1))) : mw_Met G l yL_splitClip (.codeWith yL_splitClip cL_splitClip 5 (some .int) [(0, 10, 13, 13), (0, 10, 17, 15), (0, 10, 21, 25), (0, 10, 25, 27)]) { frames := 8, cells := 3, slots := 18, locals := 128 } 255 M [.ref 1, .int x1, .int x2, .ref 254] (fun n1 M1 v => n1 = 255 ∧ ∃ e : Nat, e < 100 ∧ v = some (.int (nI e)) ∧ W M1 e) (fun _ _ => False) := by
  refine mw_enterH (L0 := [(0, .ref 1), (1, .int x1), (2, .int x2), (3, .ref 254)]) hlt rfl rfl (by decide) (Nat.le_of_ble_eq_true rfl) rfl ?_
  intro Y hC0 hZ hnL hn00
  have hC : mw_C G l _ Y cL_splitClip RL := hC0
  refine jr_aload_n (j := 3) hC dL_splitClip_0 rfl rfl ?_
  refine jr_iconst hC dL_splitClip_1 rfl ?_
  refine jr_aload_n (j := 0) hC dL_splitClip_2 rfl rfl ?_
  refine jr_iload_n (j := 1) hC dL_splitClip_3 rfl rfl ?_
  refine jr_iload_n (j := 2) hC dL_splitClip_4 rfl rfl ?_
  refine jr_callVt (As := [.int x1, .int x2]) (st := [.int 0, .ref 254]) hC xv_40 (c_X7_splitClip hlt h) is1 rfl rfl ⟨⟨rfl, rfl⟩, ⟨by decide, by decide⟩, by decide, by decide⟩ (Nat.le_of_ble_eq_true rfl) hn00 dL_splitClip_5 (fun M1 E hx => ?_) (fun M1 v hP => ?_)
  · obtain ⟨e, he, hq⟩ := hx
    rcases hS4_is he with ⟨rfl, rfl⟩ | ⟨rfl, rfl⟩ | ⟨rfl, rfl⟩ | ⟨rfl, rfl⟩
    · exact jr_catch hC (pre := []) (suf := [(0, 10, 17, 15), (0, 10, 21, 25), (0, 10, 25, 27)]) (j := 4) hZ rfl (fun q hq => nomatch hq) rfl (by decide) tx_560 (by decide +kernel) hnL (by decide) (Or.inl ⟨dL_splitClip_13, rfl⟩) dL_splitClip_15 rfl dL_splitClip_16 (by decide) (by decide) ⟨rfl, _, by decide, rfl, hq⟩
    · exact jr_catch hC (pre := [(0, 10, 13, 13)]) (suf := [(0, 10, 21, 25), (0, 10, 25, 27)]) (j := 4) hZ rfl (fun q hq => by
        simp only [List.mem_cons, List.not_mem_nil, or_false] at hq
        rcases hq with rfl
        · exact ⟨by decide, _, tx_560, by decide +kernel⟩) rfl (by decide) tx_561 (by decide +kernel) hnL (by decide) (Or.inl ⟨dL_splitClip_17, rfl⟩) dL_splitClip_19 rfl dL_splitClip_20 (by decide) (by decide) ⟨rfl, _, by decide, rfl, hq⟩
    · exact jr_catch hC (pre := [(0, 10, 13, 13), (0, 10, 17, 15)]) (suf := [(0, 10, 25, 27)]) (j := 4) hZ rfl (fun q hq => by
        simp only [List.mem_cons, List.not_mem_nil, or_false] at hq
        rcases hq with rfl | rfl
        · exact ⟨by decide, _, tx_560, by decide +kernel⟩
        · exact ⟨by decide, _, tx_561, by decide +kernel⟩) rfl (by decide) tx_682 (by decide +kernel) hnL (by decide) (Or.inl ⟨dL_splitClip_21, rfl⟩) dL_splitClip_23 rfl dL_splitClip_24 (by decide) (by decide) ⟨rfl, _, by decide, rfl, hq⟩
    · exact jr_catch hC (pre := [(0, 10, 13, 13), (0, 10, 17, 15), (0, 10, 21, 25)]) (suf := []) (j := 4) hZ rfl (fun q hq => by
        simp only [List.mem_cons, List.not_mem_nil, or_false] at hq
        rcases hq with rfl | rfl | rfl
        · exact ⟨by decide, _, tx_560, by decide +kernel⟩
        · exact ⟨by decide, _, tx_561, by decide +kernel⟩
        · exact ⟨by decide, _, tx_682, by decide +kernel⟩) rfl (by decide) tx_683 (by decide +kernel) hnL (by decide) (Or.inl ⟨dL_splitClip_25, rfl⟩) dL_splitClip_27 rfl dL_splitClip_28 (by decide) (by decide) ⟨rfl, _, by decide, rfl, hq⟩
  · obtain ⟨x, rfl, hq⟩ := hP
    refine jr_i2l hC dL_splitClip_8 ?_
    refine jr_last hC is254 vi254 rfl dL_splitClip_9 ?_
    refine jr_goto (tgt := 29) hC dL_splitClip_10 (by decide) ?_
    refine jr_iconst hC dL_splitClip_29 rfl ?_
    exact jr_iretH hC hZ (by decide) (by decide) dL_splitClip_30 ⟨rfl, _, by decide, rfl, hq⟩
theorem v_removeClip {G : mw_G} {l : Launch} (hlt : l.stackTraces = false) {M : mw_M} {x1 : Int32} {W : mw_M → Nat → Prop} (h : w_X7_removeClip 255 M 1 x1 (fun M1 v => W (kept M1 v.toInt64) 0) (fun M1 nm => ∃ e, hS1[e]? = some nm ∧ W M1 (e + 1))) : mw_Met G l yL_removeClip (.codeWith yL_removeClip cL_removeClip 4 (some .int) [(0, 9, 12, 13)]) { frames := 8, cells := 1, slots := 6, locals := 124 } 255 M [.ref 1, .int x1, .ref 254] (fun n1 M1 v => n1 = 255 ∧ ∃ e : Nat, e < 100 ∧ v = some (.int (nI e)) ∧ W M1 e) (fun _ _ => False) := by
  refine mw_enterH (L0 := [(0, .ref 1), (1, .int x1), (2, .ref 254)]) hlt rfl rfl (by decide) (Nat.le_of_ble_eq_true rfl) rfl ?_
  intro Y hC0 hZ hnL hn00
  have hC : mw_C G l _ Y cL_removeClip RL := hC0
  refine jr_aload_n (j := 2) hC dL_removeClip_0 rfl rfl ?_
  refine jr_iconst hC dL_removeClip_1 rfl ?_
  refine jr_aload_n (j := 0) hC dL_removeClip_2 rfl rfl ?_
  refine jr_iload_n (j := 1) hC dL_removeClip_3 rfl rfl ?_
  refine jr_callVt (As := [.int x1]) (st := [.int 0, .ref 254]) hC xv_43 (c_X7_removeClip hlt h) is1 rfl rfl ⟨⟨rfl, rfl⟩, ⟨by decide, by decide⟩, by decide, by decide⟩ (Nat.le_of_ble_eq_true rfl) hn00 dL_removeClip_4 (fun M1 E hx => ?_) (fun M1 v hP => ?_)
  · obtain ⟨e, he, hq⟩ := hx
    rcases hS1_is he with ⟨rfl, rfl⟩
    · exact jr_catch hC (pre := []) (suf := []) (j := 3) hZ rfl (fun q hq => nomatch hq) rfl (by decide) tx_560 (by decide +kernel) hnL (by decide) (Or.inr ⟨_, dL_removeClip_12, rfl, rfl⟩) dL_removeClip_13 rfl dL_removeClip_14 (by decide) (by decide) ⟨rfl, _, by decide, rfl, hq⟩
  · obtain ⟨x, rfl, hq⟩ := hP
    refine jr_i2l hC dL_removeClip_7 ?_
    refine jr_last hC is254 vi254 rfl dL_removeClip_8 ?_
    refine jr_goto (tgt := 15) hC dL_removeClip_9 (by decide) ?_
    refine jr_iconst hC dL_removeClip_15 rfl ?_
    exact jr_iretH hC hZ (by decide) (by decide) dL_removeClip_16 ⟨rfl, _, by decide, rfl, hq⟩
theorem v_deleteTime {G : mw_G} {l : Launch} (hlt : l.stackTraces = false) {M : mw_M} {x1 x2 x3 : Int32} {W : mw_M → Nat → Prop} (h : w_X7_deleteTime 255 M 1 x1 x2 x3 (fun M1 v => W (kept M1 v.toInt64) 0) (fun M1 nm => ∃ e, hSU[e]? = some nm ∧ W M1 (e + 1))) : mw_Met G l yL_deleteTime (.codeWith yL_deleteTime cL_deleteTime 6 (some .int) [(0, 12, 15, 13), (0, 12, 19, 15), (0, 12, 23, 27)]) { frames := 8, cells := 2, slots := 12, locals := 127 } 255 M [.ref 1, .int x1, .int x2, .int x3, .ref 254] (fun n1 M1 v => n1 = 255 ∧ ∃ e : Nat, e < 100 ∧ v = some (.int (nI e)) ∧ W M1 e) (fun _ _ => False) := by
  refine mw_enterH (L0 := [(0, .ref 1), (1, .int x1), (2, .int x2), (3, .int x3), (4, .ref 254)]) hlt rfl rfl (by decide) (Nat.le_of_ble_eq_true rfl) rfl ?_
  intro Y hC0 hZ hnL hn00
  have hC : mw_C G l _ Y cL_deleteTime RL := hC0
  refine jr_aload (j := 4) hC dL_deleteTime_0 rfl ?_
  refine jr_iconst hC dL_deleteTime_2 rfl ?_
  refine jr_aload_n (j := 0) hC dL_deleteTime_3 rfl rfl ?_
  refine jr_iload_n (j := 1) hC dL_deleteTime_4 rfl rfl ?_
  refine jr_iload_n (j := 2) hC dL_deleteTime_5 rfl rfl ?_
  refine jr_iload_n (j := 3) hC dL_deleteTime_6 rfl rfl ?_
  refine jr_callVt (As := [.int x1, .int x2, .int x3]) (st := [.int 0, .ref 254]) hC xv_47 (c_X7_deleteTime hlt h) is1 rfl rfl ⟨⟨rfl, rfl⟩, ⟨by decide, by decide⟩, by decide, by decide⟩ (Nat.le_of_ble_eq_true rfl) hn00 dL_deleteTime_7 (fun M1 E hx => ?_) (fun M1 v hP => ?_)
  · obtain ⟨e, he, hq⟩ := hx
    rcases hSU_is he with ⟨rfl, rfl⟩ | ⟨rfl, rfl⟩ | ⟨rfl, rfl⟩
    · exact jr_catch hC (pre := []) (suf := [(0, 12, 19, 15), (0, 12, 23, 27)]) (j := 5) hZ rfl (fun q hq => nomatch hq) rfl (by decide) tx_560 (by decide +kernel) hnL (by decide) (Or.inl ⟨dL_deleteTime_15, rfl⟩) dL_deleteTime_17 rfl dL_deleteTime_18 (by decide) (by decide) ⟨rfl, _, by decide, rfl, hq⟩
    · exact jr_catch hC (pre := [(0, 12, 15, 13)]) (suf := [(0, 12, 23, 27)]) (j := 5) hZ rfl (fun q hq => by
        simp only [List.mem_cons, List.not_mem_nil, or_false] at hq
        rcases hq with rfl
        · exact ⟨by decide, _, tx_560, by decide +kernel⟩) rfl (by decide) tx_561 (by decide +kernel) hnL (by decide) (Or.inl ⟨dL_deleteTime_19, rfl⟩) dL_deleteTime_21 rfl dL_deleteTime_22 (by decide) (by decide) ⟨rfl, _, by decide, rfl, hq⟩
    · exact jr_catch hC (pre := [(0, 12, 15, 13), (0, 12, 19, 15)]) (suf := []) (j := 5) hZ rfl (fun q hq => by
        simp only [List.mem_cons, List.not_mem_nil, or_false] at hq
        rcases hq with rfl | rfl
        · exact ⟨by decide, _, tx_560, by decide +kernel⟩
        · exact ⟨by decide, _, tx_561, by decide +kernel⟩) rfl (by decide) tx_683 (by decide +kernel) hnL (by decide) (Or.inl ⟨dL_deleteTime_23, rfl⟩) dL_deleteTime_25 rfl dL_deleteTime_26 (by decide) (by decide) ⟨rfl, _, by decide, rfl, hq⟩
  · obtain ⟨x, rfl, hq⟩ := hP
    refine jr_i2l hC dL_deleteTime_10 ?_
    refine jr_last hC is254 vi254 rfl dL_deleteTime_11 ?_
    refine jr_goto (tgt := 27) hC dL_deleteTime_12 (by decide) ?_
    refine jr_iconst hC dL_deleteTime_27 rfl ?_
    exact jr_iretH hC hZ (by decide) (by decide) dL_deleteTime_28 ⟨rfl, _, by decide, rfl, hq⟩
theorem v_clip {G : mw_G} {l : Launch} (hlt : l.stackTraces = false) {M : mw_M} {x1 x2 : Int32} {W : mw_M → Nat → Prop} (h : w_X7_clip 255 M 1 x1 x2 (fun v => W (kept M v.toInt64) 0) (fun M1 nm => ∃ e, hS2[e]? = some nm ∧ W M1 (e + 1))) : mw_Met G l yL_clip (.codeWith yL_clip cL_clip 5 (some .int) [(0, 10, 13, 13), (0, 10, 17, 15)]) { frames := 8, cells := 2, slots := 12, locals := 125 } 255 M [.ref 1, .int x1, .int x2, .ref 254] (fun n1 M1 v => n1 = 255 ∧ ∃ e : Nat, e < 100 ∧ v = some (.int (nI e)) ∧ W M1 e) (fun _ _ => False) := by
  refine mw_enterH (L0 := [(0, .ref 1), (1, .int x1), (2, .int x2), (3, .ref 254)]) hlt rfl rfl (by decide) (Nat.le_of_ble_eq_true rfl) rfl ?_
  intro Y hC0 hZ hnL hn00
  have hC : mw_C G l _ Y cL_clip RL := hC0
  refine jr_aload_n (j := 3) hC dL_clip_0 rfl rfl ?_
  refine jr_iconst hC dL_clip_1 rfl ?_
  refine jr_aload_n (j := 0) hC dL_clip_2 rfl rfl ?_
  refine jr_iload_n (j := 1) hC dL_clip_3 rfl rfl ?_
  refine jr_iload_n (j := 2) hC dL_clip_4 rfl rfl ?_
  refine jr_callVt (As := [.int x1, .int x2]) (st := [.int 0, .ref 254]) hC xv_50 (c_X7_clip hlt h) is1 rfl rfl ⟨⟨rfl, rfl⟩, ⟨by decide, by decide⟩, by decide, by decide⟩ (Nat.le_of_ble_eq_true rfl) hn00 dL_clip_5 (fun M1 E hx => ?_) (fun M1 v hP => ?_)
  · obtain ⟨e, he, hq⟩ := hx
    rcases hS2_is he with ⟨rfl, rfl⟩ | ⟨rfl, rfl⟩
    · exact jr_catch hC (pre := []) (suf := [(0, 10, 17, 15)]) (j := 4) hZ rfl (fun q hq => nomatch hq) rfl (by decide) tx_560 (by decide +kernel) hnL (by decide) (Or.inl ⟨dL_clip_13, rfl⟩) dL_clip_15 rfl dL_clip_16 (by decide) (by decide) ⟨rfl, _, by decide, rfl, hq⟩
    · exact jr_catch hC (pre := [(0, 10, 13, 13)]) (suf := []) (j := 4) hZ rfl (fun q hq => by
        simp only [List.mem_cons, List.not_mem_nil, or_false] at hq
        rcases hq with rfl
        · exact ⟨by decide, _, tx_560, by decide +kernel⟩) rfl (by decide) tx_561 (by decide +kernel) hnL (by decide) (Or.inl ⟨dL_clip_17, rfl⟩) dL_clip_19 rfl dL_clip_20 (by decide) (by decide) ⟨rfl, _, by decide, rfl, hq⟩
  · obtain ⟨rfl, x, rfl, hq⟩ := hP
    refine jr_i2l hC dL_clip_8 ?_
    refine jr_last hC is254 vi254 rfl dL_clip_9 ?_
    refine jr_goto (tgt := 21) hC dL_clip_10 (by decide) ?_
    refine jr_iconst hC dL_clip_21 rfl ?_
    exact jr_iretH hC hZ (by decide) (by decide) dL_clip_22 ⟨rfl, _, by decide, rfl, hq⟩
theorem v_clipValue {G : mw_G} {l : Launch} (hlt : l.stackTraces = false) {M : mw_M} {x1 x2 : Int32} {W : mw_M → Nat → Prop} (h : w_X7_clipValue 255 M 1 x1 x2 (fun v => W (kept M v.toInt64) 0) (fun M1 nm => ∃ e, hS2[e]? = some nm ∧ W M1 (e + 1))) : mw_Met G l yL_clipValue (.codeWith yL_clipValue cL_clipValue 5 (some .int) [(0, 10, 13, 13), (0, 10, 17, 15)]) { frames := 8, cells := 2, slots := 12, locals := 125 } 255 M [.ref 1, .int x1, .int x2, .ref 254] (fun n1 M1 v => n1 = 255 ∧ ∃ e : Nat, e < 100 ∧ v = some (.int (nI e)) ∧ W M1 e) (fun _ _ => False) := by
  refine mw_enterH (L0 := [(0, .ref 1), (1, .int x1), (2, .int x2), (3, .ref 254)]) hlt rfl rfl (by decide) (Nat.le_of_ble_eq_true rfl) rfl ?_
  intro Y hC0 hZ hnL hn00
  have hC : mw_C G l _ Y cL_clipValue RL := hC0
  refine jr_aload_n (j := 3) hC dL_clipValue_0 rfl rfl ?_
  refine jr_iconst hC dL_clipValue_1 rfl ?_
  refine jr_aload_n (j := 0) hC dL_clipValue_2 rfl rfl ?_
  refine jr_iload_n (j := 1) hC dL_clipValue_3 rfl rfl ?_
  refine jr_iload_n (j := 2) hC dL_clipValue_4 rfl rfl ?_
  refine jr_callVt (As := [.int x1, .int x2]) (st := [.int 0, .ref 254]) hC xv_53 (c_X7_clipValue hlt h) is1 rfl rfl ⟨⟨rfl, rfl⟩, ⟨by decide, by decide⟩, by decide, by decide⟩ (Nat.le_of_ble_eq_true rfl) hn00 dL_clipValue_5 (fun M1 E hx => ?_) (fun M1 v hP => ?_)
  · obtain ⟨e, he, hq⟩ := hx
    rcases hS2_is he with ⟨rfl, rfl⟩ | ⟨rfl, rfl⟩
    · exact jr_catch hC (pre := []) (suf := [(0, 10, 17, 15)]) (j := 4) hZ rfl (fun q hq => nomatch hq) rfl (by decide) tx_560 (by decide +kernel) hnL (by decide) (Or.inl ⟨dL_clipValue_13, rfl⟩) dL_clipValue_15 rfl dL_clipValue_16 (by decide) (by decide) ⟨rfl, _, by decide, rfl, hq⟩
    · exact jr_catch hC (pre := [(0, 10, 13, 13)]) (suf := []) (j := 4) hZ rfl (fun q hq => by
        simp only [List.mem_cons, List.not_mem_nil, or_false] at hq
        rcases hq with rfl
        · exact ⟨by decide, _, tx_560, by decide +kernel⟩) rfl (by decide) tx_561 (by decide +kernel) hnL (by decide) (Or.inl ⟨dL_clipValue_17, rfl⟩) dL_clipValue_19 rfl dL_clipValue_20 (by decide) (by decide) ⟨rfl, _, by decide, rfl, hq⟩
  · obtain ⟨rfl, x, rfl, hq⟩ := hP
    refine jr_i2l hC dL_clipValue_8 ?_
    refine jr_last hC is254 vi254 rfl dL_clipValue_9 ?_
    refine jr_goto (tgt := 21) hC dL_clipValue_10 (by decide) ?_
    refine jr_iconst hC dL_clipValue_21 rfl ?_
    exact jr_iretH hC hZ (by decide) (by decide) dL_clipValue_22 ⟨rfl, _, by decide, rfl, hq⟩
theorem v_setTrack {G : mw_G} {l : Launch} (hlt : l.stackTraces = false) {M : mw_M} {x1 x2 x3 x4 x5 : Int32} {W : mw_M → Nat → Prop} (h : w_X7_setTrack 255 M 1 x1 x2 x3 x4 x5 (fun M1 v => W (kept M1 v.toInt64) 0) (fun M1 nm => ∃ e, hS2[e]? = some nm ∧ W M1 (e + 1))) : mw_Met G l yL_setTrack (.codeWith yL_setTrack cL_setTrack 8 (some .int) [(0, 16, 19, 13), (0, 16, 23, 15)]) { frames := 8, cells := 2, slots := 12, locals := 129 } 255 M [.ref 1, .int x1, .int x2, .int x3, .int x4, .int x5, .ref 254] (fun n1 M1 v => n1 = 255 ∧ ∃ e : Nat, e < 100 ∧ v = some (.int (nI e)) ∧ W M1 e) (fun _ _ => False) := by
  refine mw_enterH (L0 := [(0, .ref 1), (1, .int x1), (2, .int x2), (3, .int x3), (4, .int x4), (5, .int x5), (6, .ref 254)]) hlt rfl rfl (by decide) (Nat.le_of_ble_eq_true rfl) rfl ?_
  intro Y hC0 hZ hnL hn00
  have hC : mw_C G l _ Y cL_setTrack RL := hC0
  refine jr_aload (j := 6) hC dL_setTrack_0 rfl ?_
  refine jr_iconst hC dL_setTrack_2 rfl ?_
  refine jr_aload_n (j := 0) hC dL_setTrack_3 rfl rfl ?_
  refine jr_iload_n (j := 1) hC dL_setTrack_4 rfl rfl ?_
  refine jr_iload_n (j := 2) hC dL_setTrack_5 rfl rfl ?_
  refine jr_iload_n (j := 3) hC dL_setTrack_6 rfl rfl ?_
  refine jr_iload (j := 4) hC dL_setTrack_7 rfl ?_
  refine jr_iload (j := 5) hC dL_setTrack_9 rfl ?_
  refine jr_callVt (As := [.int x1, .int x2, .int x3, .int x4, .int x5]) (st := [.int 0, .ref 254]) hC xv_56 (c_X7_setTrack hlt h) is1 rfl rfl ⟨⟨rfl, rfl⟩, ⟨by decide, by decide⟩, by decide, by decide⟩ (Nat.le_of_ble_eq_true rfl) hn00 dL_setTrack_11 (fun M1 E hx => ?_) (fun M1 v hP => ?_)
  · obtain ⟨e, he, hq⟩ := hx
    rcases hS2_is he with ⟨rfl, rfl⟩ | ⟨rfl, rfl⟩
    · exact jr_catch hC (pre := []) (suf := [(0, 16, 23, 15)]) (j := 7) hZ rfl (fun q hq => nomatch hq) rfl (by decide) tx_560 (by decide +kernel) hnL (by decide) (Or.inl ⟨dL_setTrack_19, rfl⟩) dL_setTrack_21 rfl dL_setTrack_22 (by decide) (by decide) ⟨rfl, _, by decide, rfl, hq⟩
    · exact jr_catch hC (pre := [(0, 16, 19, 13)]) (suf := []) (j := 7) hZ rfl (fun q hq => by
        simp only [List.mem_cons, List.not_mem_nil, or_false] at hq
        rcases hq with rfl
        · exact ⟨by decide, _, tx_560, by decide +kernel⟩) rfl (by decide) tx_561 (by decide +kernel) hnL (by decide) (Or.inl ⟨dL_setTrack_23, rfl⟩) dL_setTrack_25 rfl dL_setTrack_26 (by decide) (by decide) ⟨rfl, _, by decide, rfl, hq⟩
  · obtain ⟨x, rfl, hq⟩ := hP
    refine jr_i2l hC dL_setTrack_14 ?_
    refine jr_last hC is254 vi254 rfl dL_setTrack_15 ?_
    refine jr_goto (tgt := 27) hC dL_setTrack_16 (by decide) ?_
    refine jr_iconst hC dL_setTrack_27 rfl ?_
    exact jr_iretH hC hZ (by decide) (by decide) dL_setTrack_28 ⟨rfl, _, by decide, rfl, hq⟩
theorem v_setPoint {G : mw_G} {l : Launch} (hlt : l.stackTraces = false) {M : mw_M} {x1 x2 x3 x4 : Int32} {W : mw_M → Nat → Prop} (h : w_X7_setPoint 255 M 1 x1 x2 x3 x4 (fun M1 v => W (kept M1 v.toInt64) 0) (fun M1 nm => ∃ e, hS3[e]? = some nm ∧ W M1 (e + 1))) : mw_Met G l yL_setPoint (.codeWith yL_setPoint cL_setPoint 7 (some .int) [(0, 14, 17, 13), (0, 14, 21, 15), (0, 14, 25, 25)]) { frames := 8, cells := 3, slots := 18, locals := 127 } 255 M [.ref 1, .int x1, .int x2, .int x3, .int x4, .ref 254] (fun n1 M1 v => n1 = 255 ∧ ∃ e : Nat, e < 100 ∧ v = some (.int (nI e)) ∧ W M1 e) (fun _ _ => False) := by
  refine mw_enterH (L0 := [(0, .ref 1), (1, .int x1), (2, .int x2), (3, .int x3), (4, .int x4), (5, .ref 254)]) hlt rfl rfl (by decide) (Nat.le_of_ble_eq_true rfl) rfl ?_
  intro Y hC0 hZ hnL hn00
  have hC : mw_C G l _ Y cL_setPoint RL := hC0
  refine jr_aload (j := 5) hC dL_setPoint_0 rfl ?_
  refine jr_iconst hC dL_setPoint_2 rfl ?_
  refine jr_aload_n (j := 0) hC dL_setPoint_3 rfl rfl ?_
  refine jr_iload_n (j := 1) hC dL_setPoint_4 rfl rfl ?_
  refine jr_iload_n (j := 2) hC dL_setPoint_5 rfl rfl ?_
  refine jr_iload_n (j := 3) hC dL_setPoint_6 rfl rfl ?_
  refine jr_iload (j := 4) hC dL_setPoint_7 rfl ?_
  refine jr_callVt (As := [.int x1, .int x2, .int x3, .int x4]) (st := [.int 0, .ref 254]) hC xv_60 (c_X7_setPoint hlt h) is1 rfl rfl ⟨⟨rfl, rfl⟩, ⟨by decide, by decide⟩, by decide, by decide⟩ (Nat.le_of_ble_eq_true rfl) hn00 dL_setPoint_9 (fun M1 E hx => ?_) (fun M1 v hP => ?_)
  · obtain ⟨e, he, hq⟩ := hx
    rcases hS3_is he with ⟨rfl, rfl⟩ | ⟨rfl, rfl⟩ | ⟨rfl, rfl⟩
    · exact jr_catch hC (pre := []) (suf := [(0, 14, 21, 15), (0, 14, 25, 25)]) (j := 6) hZ rfl (fun q hq => nomatch hq) rfl (by decide) tx_560 (by decide +kernel) hnL (by decide) (Or.inl ⟨dL_setPoint_17, rfl⟩) dL_setPoint_19 rfl dL_setPoint_20 (by decide) (by decide) ⟨rfl, _, by decide, rfl, hq⟩
    · exact jr_catch hC (pre := [(0, 14, 17, 13)]) (suf := [(0, 14, 25, 25)]) (j := 6) hZ rfl (fun q hq => by
        simp only [List.mem_cons, List.not_mem_nil, or_false] at hq
        rcases hq with rfl
        · exact ⟨by decide, _, tx_560, by decide +kernel⟩) rfl (by decide) tx_561 (by decide +kernel) hnL (by decide) (Or.inl ⟨dL_setPoint_21, rfl⟩) dL_setPoint_23 rfl dL_setPoint_24 (by decide) (by decide) ⟨rfl, _, by decide, rfl, hq⟩
    · exact jr_catch hC (pre := [(0, 14, 17, 13), (0, 14, 21, 15)]) (suf := []) (j := 6) hZ rfl (fun q hq => by
        simp only [List.mem_cons, List.not_mem_nil, or_false] at hq
        rcases hq with rfl | rfl
        · exact ⟨by decide, _, tx_560, by decide +kernel⟩
        · exact ⟨by decide, _, tx_561, by decide +kernel⟩) rfl (by decide) tx_682 (by decide +kernel) hnL (by decide) (Or.inl ⟨dL_setPoint_25, rfl⟩) dL_setPoint_27 rfl dL_setPoint_28 (by decide) (by decide) ⟨rfl, _, by decide, rfl, hq⟩
  · obtain ⟨x, rfl, hq⟩ := hP
    refine jr_i2l hC dL_setPoint_12 ?_
    refine jr_last hC is254 vi254 rfl dL_setPoint_13 ?_
    refine jr_goto (tgt := 29) hC dL_setPoint_14 (by decide) ?_
    refine jr_iconst hC dL_setPoint_29 rfl ?_
    exact jr_iretH hC hZ (by decide) (by decide) dL_setPoint_30 ⟨rfl, _, by decide, rfl, hq⟩
theorem v_removePoint {G : mw_G} {l : Launch} (hlt : l.stackTraces = false) {M : mw_M} {x1 x2 : Int32} {W : mw_M → Nat → Prop} (h : w_X7_removePoint 255 M 1 x1 x2 (fun M1 v => W (kept M1 v.toInt64) 0) (fun M1 nm => ∃ e, hS2[e]? = some nm ∧ W M1 (e + 1))) : mw_Met G l yL_removePoint (.codeWith yL_removePoint cL_removePoint 5 (some .int) [(0, 10, 13, 13), (0, 10, 17, 15)]) { frames := 8, cells := 2, slots := 12, locals := 125 } 255 M [.ref 1, .int x1, .int x2, .ref 254] (fun n1 M1 v => n1 = 255 ∧ ∃ e : Nat, e < 100 ∧ v = some (.int (nI e)) ∧ W M1 e) (fun _ _ => False) := by
  refine mw_enterH (L0 := [(0, .ref 1), (1, .int x1), (2, .int x2), (3, .ref 254)]) hlt rfl rfl (by decide) (Nat.le_of_ble_eq_true rfl) rfl ?_
  intro Y hC0 hZ hnL hn00
  have hC : mw_C G l _ Y cL_removePoint RL := hC0
  refine jr_aload_n (j := 3) hC dL_removePoint_0 rfl rfl ?_
  refine jr_iconst hC dL_removePoint_1 rfl ?_
  refine jr_aload_n (j := 0) hC dL_removePoint_2 rfl rfl ?_
  refine jr_iload_n (j := 1) hC dL_removePoint_3 rfl rfl ?_
  refine jr_iload_n (j := 2) hC dL_removePoint_4 rfl rfl ?_
  refine jr_callVt (As := [.int x1, .int x2]) (st := [.int 0, .ref 254]) hC xv_64 (c_X7_removePoint hlt h) is1 rfl rfl ⟨⟨rfl, rfl⟩, ⟨by decide, by decide⟩, by decide, by decide⟩ (Nat.le_of_ble_eq_true rfl) hn00 dL_removePoint_5 (fun M1 E hx => ?_) (fun M1 v hP => ?_)
  · obtain ⟨e, he, hq⟩ := hx
    rcases hS2_is he with ⟨rfl, rfl⟩ | ⟨rfl, rfl⟩
    · exact jr_catch hC (pre := []) (suf := [(0, 10, 17, 15)]) (j := 4) hZ rfl (fun q hq => nomatch hq) rfl (by decide) tx_560 (by decide +kernel) hnL (by decide) (Or.inl ⟨dL_removePoint_13, rfl⟩) dL_removePoint_15 rfl dL_removePoint_16 (by decide) (by decide) ⟨rfl, _, by decide, rfl, hq⟩
    · exact jr_catch hC (pre := [(0, 10, 13, 13)]) (suf := []) (j := 4) hZ rfl (fun q hq => by
        simp only [List.mem_cons, List.not_mem_nil, or_false] at hq
        rcases hq with rfl
        · exact ⟨by decide, _, tx_560, by decide +kernel⟩) rfl (by decide) tx_561 (by decide +kernel) hnL (by decide) (Or.inl ⟨dL_removePoint_17, rfl⟩) dL_removePoint_19 rfl dL_removePoint_20 (by decide) (by decide) ⟨rfl, _, by decide, rfl, hq⟩
  · obtain ⟨x, rfl, hq⟩ := hP
    refine jr_i2l hC dL_removePoint_8 ?_
    refine jr_last hC is254 vi254 rfl dL_removePoint_9 ?_
    refine jr_goto (tgt := 21) hC dL_removePoint_10 (by decide) ?_
    refine jr_iconst hC dL_removePoint_21 rfl ?_
    exact jr_iretH hC hZ (by decide) (by decide) dL_removePoint_22 ⟨rfl, _, by decide, rfl, hq⟩
theorem v_automation {G : mw_G} {l : Launch} (hlt : l.stackTraces = false) {M : mw_M} {x1 x2 : Int32} {W : mw_M → Nat → Prop} (h : w_X7_automation 255 M 1 x1 x2 (fun v => W (kept M v.toInt64) 0) (fun M1 nm => ∃ e, hS2[e]? = some nm ∧ W M1 (e + 1))) : mw_Met G l yL_automation (.codeWith yL_automation cL_automation 5 (some .int) [(0, 10, 13, 13), (0, 10, 17, 15)]) { frames := 8, cells := 2, slots := 12, locals := 124 } 255 M [.ref 1, .int x1, .int x2, .ref 254] (fun n1 M1 v => n1 = 255 ∧ ∃ e : Nat, e < 100 ∧ v = some (.int (nI e)) ∧ W M1 e) (fun _ _ => False) := by
  refine mw_enterH (L0 := [(0, .ref 1), (1, .int x1), (2, .int x2), (3, .ref 254)]) hlt rfl rfl (by decide) (Nat.le_of_ble_eq_true rfl) rfl ?_
  intro Y hC0 hZ hnL hn00
  have hC : mw_C G l _ Y cL_automation RL := hC0
  refine jr_aload_n (j := 3) hC dL_automation_0 rfl rfl ?_
  refine jr_iconst hC dL_automation_1 rfl ?_
  refine jr_aload_n (j := 0) hC dL_automation_2 rfl rfl ?_
  refine jr_iload_n (j := 1) hC dL_automation_3 rfl rfl ?_
  refine jr_iload_n (j := 2) hC dL_automation_4 rfl rfl ?_
  refine jr_callVt (As := [.int x1, .int x2]) (st := [.int 0, .ref 254]) hC xv_67 (c_X7_automation hlt h) is1 rfl rfl ⟨⟨rfl, rfl⟩, ⟨by decide, by decide⟩, by decide, by decide⟩ (Nat.le_of_ble_eq_true rfl) hn00 dL_automation_5 (fun M1 E hx => ?_) (fun M1 v hP => ?_)
  · obtain ⟨e, he, hq⟩ := hx
    rcases hS2_is he with ⟨rfl, rfl⟩ | ⟨rfl, rfl⟩
    · exact jr_catch hC (pre := []) (suf := [(0, 10, 17, 15)]) (j := 4) hZ rfl (fun q hq => nomatch hq) rfl (by decide) tx_560 (by decide +kernel) hnL (by decide) (Or.inl ⟨dL_automation_13, rfl⟩) dL_automation_15 rfl dL_automation_16 (by decide) (by decide) ⟨rfl, _, by decide, rfl, hq⟩
    · exact jr_catch hC (pre := [(0, 10, 13, 13)]) (suf := []) (j := 4) hZ rfl (fun q hq => by
        simp only [List.mem_cons, List.not_mem_nil, or_false] at hq
        rcases hq with rfl
        · exact ⟨by decide, _, tx_560, by decide +kernel⟩) rfl (by decide) tx_561 (by decide +kernel) hnL (by decide) (Or.inl ⟨dL_automation_17, rfl⟩) dL_automation_19 rfl dL_automation_20 (by decide) (by decide) ⟨rfl, _, by decide, rfl, hq⟩
  · obtain ⟨rfl, x, rfl, hq⟩ := hP
    refine jr_i2l hC dL_automation_8 ?_
    refine jr_last hC is254 vi254 rfl dL_automation_9 ?_
    refine jr_goto (tgt := 21) hC dL_automation_10 (by decide) ?_
    refine jr_iconst hC dL_automation_21 rfl ?_
    exact jr_iretH hC hZ (by decide) (by decide) dL_automation_22 ⟨rfl, _, by decide, rfl, hq⟩
theorem v_duck {G : mw_G} {l : Launch} (hlt : l.stackTraces = false) {M : mw_M} {x1 x2 x3 x4 x5 x6 : Int32} {W : mw_M → Nat → Prop} (h : w_X7_duck 255 M 1 x1 x2 x3 x4 x5 x6 (fun M1 v => W (kept M1 v.toInt64) 0) (fun M1 nm => ∃ e, hS3[e]? = some nm ∧ W M1 (e + 1))) : mw_Met G l yL_duck (.codeWith yL_duck cL_duck 9 (some .int) [(0, 18, 21, 13), (0, 18, 25, 15), (0, 18, 29, 25)]) { frames := 8, cells := 2, slots := 12, locals := 130 } 255 M [.ref 1, .int x1, .int x2, .int x3, .int x4, .int x5, .int x6, .ref 254] (fun n1 M1 v => n1 = 255 ∧ ∃ e : Nat, e < 100 ∧ v = some (.int (nI e)) ∧ W M1 e) (fun _ _ => False) := by
  refine mw_enterH (L0 := [(0, .ref 1), (1, .int x1), (2, .int x2), (3, .int x3), (4, .int x4), (5, .int x5), (6, .int x6), (7, .ref 254)]) hlt rfl rfl (by decide) (Nat.le_of_ble_eq_true rfl) rfl ?_
  intro Y hC0 hZ hnL hn00
  have hC : mw_C G l _ Y cL_duck RL := hC0
  refine jr_aload (j := 7) hC dL_duck_0 rfl ?_
  refine jr_iconst hC dL_duck_2 rfl ?_
  refine jr_aload_n (j := 0) hC dL_duck_3 rfl rfl ?_
  refine jr_iload_n (j := 1) hC dL_duck_4 rfl rfl ?_
  refine jr_iload_n (j := 2) hC dL_duck_5 rfl rfl ?_
  refine jr_iload_n (j := 3) hC dL_duck_6 rfl rfl ?_
  refine jr_iload (j := 4) hC dL_duck_7 rfl ?_
  refine jr_iload (j := 5) hC dL_duck_9 rfl ?_
  refine jr_iload (j := 6) hC dL_duck_11 rfl ?_
  refine jr_callVt (As := [.int x1, .int x2, .int x3, .int x4, .int x5, .int x6]) (st := [.int 0, .ref 254]) hC xv_70 (c_X7_duck hlt h) is1 rfl rfl ⟨⟨rfl, rfl⟩, ⟨by decide, by decide⟩, by decide, by decide⟩ (Nat.le_of_ble_eq_true rfl) hn00 dL_duck_13 (fun M1 E hx => ?_) (fun M1 v hP => ?_)
  · obtain ⟨e, he, hq⟩ := hx
    rcases hS3_is he with ⟨rfl, rfl⟩ | ⟨rfl, rfl⟩ | ⟨rfl, rfl⟩
    · exact jr_catch hC (pre := []) (suf := [(0, 18, 25, 15), (0, 18, 29, 25)]) (j := 8) hZ rfl (fun q hq => nomatch hq) rfl (by decide) tx_560 (by decide +kernel) hnL (by decide) (Or.inl ⟨dL_duck_21, rfl⟩) dL_duck_23 rfl dL_duck_24 (by decide) (by decide) ⟨rfl, _, by decide, rfl, hq⟩
    · exact jr_catch hC (pre := [(0, 18, 21, 13)]) (suf := [(0, 18, 29, 25)]) (j := 8) hZ rfl (fun q hq => by
        simp only [List.mem_cons, List.not_mem_nil, or_false] at hq
        rcases hq with rfl
        · exact ⟨by decide, _, tx_560, by decide +kernel⟩) rfl (by decide) tx_561 (by decide +kernel) hnL (by decide) (Or.inl ⟨dL_duck_25, rfl⟩) dL_duck_27 rfl dL_duck_28 (by decide) (by decide) ⟨rfl, _, by decide, rfl, hq⟩
    · exact jr_catch hC (pre := [(0, 18, 21, 13), (0, 18, 25, 15)]) (suf := []) (j := 8) hZ rfl (fun q hq => by
        simp only [List.mem_cons, List.not_mem_nil, or_false] at hq
        rcases hq with rfl | rfl
        · exact ⟨by decide, _, tx_560, by decide +kernel⟩
        · exact ⟨by decide, _, tx_561, by decide +kernel⟩) rfl (by decide) tx_682 (by decide +kernel) hnL (by decide) (Or.inl ⟨dL_duck_29, rfl⟩) dL_duck_31 rfl dL_duck_32 (by decide) (by decide) ⟨rfl, _, by decide, rfl, hq⟩
  · obtain ⟨x, rfl, hq⟩ := hP
    refine jr_i2l hC dL_duck_16 ?_
    refine jr_last hC is254 vi254 rfl dL_duck_17 ?_
    refine jr_goto (tgt := 33) hC dL_duck_18 (by decide) ?_
    refine jr_iconst hC dL_duck_33 rfl ?_
    exact jr_iretH hC hZ (by decide) (by decide) dL_duck_34 ⟨rfl, _, by decide, rfl, hq⟩
theorem v_endDuck {G : mw_G} {l : Launch} (hlt : l.stackTraces = false) {M : mw_M} {x1 : Int32} {W : mw_M → Nat → Prop} (h : w_X7_endDuck 255 M 1 x1 (fun M1 v => W (kept M1 v.toInt64) 0) (fun M1 nm => ∃ e, hS1[e]? = some nm ∧ W M1 (e + 1))) : mw_Met G l yL_endDuck (.codeWith yL_endDuck cL_endDuck 4 (some .int) [(0, 9, 12, 13)]) { frames := 8, cells := 1, slots := 6, locals := 124 } 255 M [.ref 1, .int x1, .ref 254] (fun n1 M1 v => n1 = 255 ∧ ∃ e : Nat, e < 100 ∧ v = some (.int (nI e)) ∧ W M1 e) (fun _ _ => False) := by
  refine mw_enterH (L0 := [(0, .ref 1), (1, .int x1), (2, .ref 254)]) hlt rfl rfl (by decide) (Nat.le_of_ble_eq_true rfl) rfl ?_
  intro Y hC0 hZ hnL hn00
  have hC : mw_C G l _ Y cL_endDuck RL := hC0
  refine jr_aload_n (j := 2) hC dL_endDuck_0 rfl rfl ?_
  refine jr_iconst hC dL_endDuck_1 rfl ?_
  refine jr_aload_n (j := 0) hC dL_endDuck_2 rfl rfl ?_
  refine jr_iload_n (j := 1) hC dL_endDuck_3 rfl rfl ?_
  refine jr_callVt (As := [.int x1]) (st := [.int 0, .ref 254]) hC xv_73 (c_X7_endDuck hlt h) is1 rfl rfl ⟨⟨rfl, rfl⟩, ⟨by decide, by decide⟩, by decide, by decide⟩ (Nat.le_of_ble_eq_true rfl) hn00 dL_endDuck_4 (fun M1 E hx => ?_) (fun M1 v hP => ?_)
  · obtain ⟨e, he, hq⟩ := hx
    rcases hS1_is he with ⟨rfl, rfl⟩
    · exact jr_catch hC (pre := []) (suf := []) (j := 3) hZ rfl (fun q hq => nomatch hq) rfl (by decide) tx_560 (by decide +kernel) hnL (by decide) (Or.inr ⟨_, dL_endDuck_12, rfl, rfl⟩) dL_endDuck_13 rfl dL_endDuck_14 (by decide) (by decide) ⟨rfl, _, by decide, rfl, hq⟩
  · obtain ⟨x, rfl, hq⟩ := hP
    refine jr_i2l hC dL_endDuck_7 ?_
    refine jr_last hC is254 vi254 rfl dL_endDuck_8 ?_
    refine jr_goto (tgt := 15) hC dL_endDuck_9 (by decide) ?_
    refine jr_iconst hC dL_endDuck_15 rfl ?_
    exact jr_iretH hC hZ (by decide) (by decide) dL_endDuck_16 ⟨rfl, _, by decide, rfl, hq⟩
theorem v_duckGain {G : mw_G} {l : Launch} (hlt : l.stackTraces = false) {M : mw_M} {x1 x2 : Int32} {W : mw_M → Nat → Prop} (h : w_X7_duckGain 255 M 1 x1 x2 (fun M1 v => W (kept M1 v.toInt64) 0) (fun M1 nm => ∃ e, hS2[e]? = some nm ∧ W M1 (e + 1))) : mw_Met G l yL_duckGain (.codeWith yL_duckGain cL_duckGain 5 (some .int) [(0, 10, 13, 13), (0, 10, 17, 15)]) { frames := 8, cells := 2, slots := 12, locals := 170 } 255 M [.ref 1, .int x1, .int x2, .ref 254] (fun n1 M1 v => n1 = 255 ∧ ∃ e : Nat, e < 100 ∧ v = some (.int (nI e)) ∧ W M1 e) (fun _ _ => False) := by
  refine mw_enterH (L0 := [(0, .ref 1), (1, .int x1), (2, .int x2), (3, .ref 254)]) hlt rfl rfl (by decide) (Nat.le_of_ble_eq_true rfl) rfl ?_
  intro Y hC0 hZ hnL hn00
  have hC : mw_C G l _ Y cL_duckGain RL := hC0
  refine jr_aload_n (j := 3) hC dL_duckGain_0 rfl rfl ?_
  refine jr_iconst hC dL_duckGain_1 rfl ?_
  refine jr_aload_n (j := 0) hC dL_duckGain_2 rfl rfl ?_
  refine jr_iload_n (j := 1) hC dL_duckGain_3 rfl rfl ?_
  refine jr_iload_n (j := 2) hC dL_duckGain_4 rfl rfl ?_
  refine jr_callVt (As := [.int x1, .int x2]) (st := [.int 0, .ref 254]) hC xv_76 (c_X7_duckGain hlt h) is1 rfl rfl ⟨⟨rfl, rfl⟩, ⟨by decide, by decide⟩, by decide, by decide⟩ (Nat.le_of_ble_eq_true rfl) hn00 dL_duckGain_5 (fun M1 E hx => ?_) (fun M1 v hP => ?_)
  · obtain ⟨e, he, hq⟩ := hx
    rcases hS2_is he with ⟨rfl, rfl⟩ | ⟨rfl, rfl⟩
    · exact jr_catch hC (pre := []) (suf := [(0, 10, 17, 15)]) (j := 4) hZ rfl (fun q hq => nomatch hq) rfl (by decide) tx_560 (by decide +kernel) hnL (by decide) (Or.inl ⟨dL_duckGain_13, rfl⟩) dL_duckGain_15 rfl dL_duckGain_16 (by decide) (by decide) ⟨rfl, _, by decide, rfl, hq⟩
    · exact jr_catch hC (pre := [(0, 10, 13, 13)]) (suf := []) (j := 4) hZ rfl (fun q hq => by
        simp only [List.mem_cons, List.not_mem_nil, or_false] at hq
        rcases hq with rfl
        · exact ⟨by decide, _, tx_560, by decide +kernel⟩) rfl (by decide) tx_561 (by decide +kernel) hnL (by decide) (Or.inl ⟨dL_duckGain_17, rfl⟩) dL_duckGain_19 rfl dL_duckGain_20 (by decide) (by decide) ⟨rfl, _, by decide, rfl, hq⟩
  · obtain ⟨x, rfl, hq⟩ := hP
    refine jr_i2l hC dL_duckGain_8 ?_
    refine jr_last hC is254 vi254 rfl dL_duckGain_9 ?_
    refine jr_goto (tgt := 21) hC dL_duckGain_10 (by decide) ?_
    refine jr_iconst hC dL_duckGain_21 rfl ?_
    exact jr_iretH hC hZ (by decide) (by decide) dL_duckGain_22 ⟨rfl, _, by decide, rfl, hq⟩
theorem v_trackValue {G : mw_G} {l : Launch} (hlt : l.stackTraces = false) {M : mw_M} {x1 x2 : Int32} {W : mw_M → Nat → Prop} (h : w_X7_trackValue 255 M 1 x1 x2 (fun M1 v => W (kept M1 v.toInt64) 0) (fun M1 nm => ∃ e, hS2[e]? = some nm ∧ W M1 (e + 1))) : mw_Met G l yL_trackValue (.codeWith yL_trackValue cL_trackValue 5 (some .int) [(0, 10, 13, 13), (0, 10, 17, 15)]) { frames := 8, cells := 2, slots := 12, locals := 170 } 255 M [.ref 1, .int x1, .int x2, .ref 254] (fun n1 M1 v => n1 = 255 ∧ ∃ e : Nat, e < 100 ∧ v = some (.int (nI e)) ∧ W M1 e) (fun _ _ => False) := by
  refine mw_enterH (L0 := [(0, .ref 1), (1, .int x1), (2, .int x2), (3, .ref 254)]) hlt rfl rfl (by decide) (Nat.le_of_ble_eq_true rfl) rfl ?_
  intro Y hC0 hZ hnL hn00
  have hC : mw_C G l _ Y cL_trackValue RL := hC0
  refine jr_aload_n (j := 3) hC dL_trackValue_0 rfl rfl ?_
  refine jr_iconst hC dL_trackValue_1 rfl ?_
  refine jr_aload_n (j := 0) hC dL_trackValue_2 rfl rfl ?_
  refine jr_iload_n (j := 1) hC dL_trackValue_3 rfl rfl ?_
  refine jr_iload_n (j := 2) hC dL_trackValue_4 rfl rfl ?_
  refine jr_callVt (As := [.int x1, .int x2]) (st := [.int 0, .ref 254]) hC xv_79 (c_X7_trackValue hlt h) is1 rfl rfl ⟨⟨rfl, rfl⟩, ⟨by decide, by decide⟩, by decide, by decide⟩ (Nat.le_of_ble_eq_true rfl) hn00 dL_trackValue_5 (fun M1 E hx => ?_) (fun M1 v hP => ?_)
  · obtain ⟨e, he, hq⟩ := hx
    rcases hS2_is he with ⟨rfl, rfl⟩ | ⟨rfl, rfl⟩
    · exact jr_catch hC (pre := []) (suf := [(0, 10, 17, 15)]) (j := 4) hZ rfl (fun q hq => nomatch hq) rfl (by decide) tx_560 (by decide +kernel) hnL (by decide) (Or.inl ⟨dL_trackValue_13, rfl⟩) dL_trackValue_15 rfl dL_trackValue_16 (by decide) (by decide) ⟨rfl, _, by decide, rfl, hq⟩
    · exact jr_catch hC (pre := [(0, 10, 13, 13)]) (suf := []) (j := 4) hZ rfl (fun q hq => by
        simp only [List.mem_cons, List.not_mem_nil, or_false] at hq
        rcases hq with rfl
        · exact ⟨by decide, _, tx_560, by decide +kernel⟩) rfl (by decide) tx_561 (by decide +kernel) hnL (by decide) (Or.inl ⟨dL_trackValue_17, rfl⟩) dL_trackValue_19 rfl dL_trackValue_20 (by decide) (by decide) ⟨rfl, _, by decide, rfl, hq⟩
  · obtain ⟨x, rfl, hq⟩ := hP
    refine jr_i2l hC dL_trackValue_8 ?_
    refine jr_last hC is254 vi254 rfl dL_trackValue_9 ?_
    refine jr_goto (tgt := 21) hC dL_trackValue_10 (by decide) ?_
    refine jr_iconst hC dL_trackValue_21 rfl ?_
    exact jr_iretH hC hZ (by decide) (by decide) dL_trackValue_22 ⟨rfl, _, by decide, rfl, hq⟩
theorem v_isAudible {G : mw_G} {l : Launch} (hlt : l.stackTraces = false) {M : mw_M} {x1 : Int32} {W : mw_M → Nat → Prop} (h : w_X7_isAudible 255 M 1 x1 (fun v => W (kept M (if v = 0 then 0 else 1)) 0) (fun M1 nm => ∃ e, hS1[e]? = some nm ∧ W M1 (e + 1))) : mw_Met G l yL_isAudible (.codeWith yL_isAudible cL_isAudible 4 (some .int) [(0, 16, 19, 13)]) { frames := 8, cells := 1, slots := 6, locals := 123 } 255 M [.ref 1, .int x1, .ref 254] (fun n1 M1 v => n1 = 255 ∧ ∃ e : Nat, e < 100 ∧ v = some (.int (nI e)) ∧ W M1 e) (fun _ _ => False) := by
  refine mw_enterH (L0 := [(0, .ref 1), (1, .int x1), (2, .ref 254)]) hlt rfl rfl (by decide) (Nat.le_of_ble_eq_true rfl) rfl ?_
  intro Y hC0 hZ hnL hn00
  have hC : mw_C G l _ Y cL_isAudible RL := hC0
  refine jr_aload_n (j := 2) hC dL_isAudible_0 rfl rfl ?_
  refine jr_iconst hC dL_isAudible_1 rfl ?_
  refine jr_aload_n (j := 0) hC dL_isAudible_2 rfl rfl ?_
  refine jr_iload_n (j := 1) hC dL_isAudible_3 rfl rfl ?_
  refine jr_callVt (As := [.int x1]) (st := [.int 0, .ref 254]) hC xv_82 (c_X7_isAudible hlt h) is1 rfl rfl ⟨⟨rfl, rfl⟩, ⟨by decide, by decide⟩, by decide, by decide⟩ (Nat.le_of_ble_eq_true rfl) hn00 dL_isAudible_4 (fun M1 E hx => ?_) (fun M1 v hP => ?_)
  · obtain ⟨e, he, hq⟩ := hx
    rcases hS1_is he with ⟨rfl, rfl⟩
    · exact jr_catch hC (pre := []) (suf := []) (j := 3) hZ rfl (fun q hq => nomatch hq) rfl (by decide) tx_560 (by decide +kernel) hnL (by decide) (Or.inr ⟨_, dL_isAudible_19, rfl, rfl⟩) dL_isAudible_20 rfl dL_isAudible_21 (by decide) (by decide) ⟨rfl, _, by decide, rfl, hq⟩
  · obtain ⟨rfl, x, rfl, hq⟩ := hP
    refine jr_if_eq (tgt := 14) hC dL_isAudible_7 (by decide) (fun hb => ?_) (fun hb => ?_)
    · rw [if_pos hb] at hq
      refine jr_lconst hC dL_isAudible_14 rfl ?_
      refine jr_last hC is254 vi254 rfl dL_isAudible_15 ?_
      refine jr_goto (tgt := 22) hC dL_isAudible_16 (by decide) ?_
      refine jr_iconst hC dL_isAudible_22 rfl ?_
      exact jr_iretH hC hZ (by decide) (by decide) dL_isAudible_23 ⟨rfl, _, by decide, rfl, hq⟩
    · rw [if_neg hb] at hq
      refine jr_lconst hC dL_isAudible_10 rfl ?_
      refine jr_goto (tgt := 15) hC dL_isAudible_11 (by decide) ?_
      refine jr_last hC is254 vi254 rfl dL_isAudible_15 ?_
      refine jr_goto (tgt := 22) hC dL_isAudible_16 (by decide) ?_
      refine jr_iconst hC dL_isAudible_22 rfl ?_
      exact jr_iretH hC hZ (by decide) (by decide) dL_isAudible_23 ⟨rfl, _, by decide, rfl, hq⟩
theorem v_setMaster {G : mw_G} {l : Launch} (hlt : l.stackTraces = false) {M : mw_M} {x1 : Int32} {W : mw_M → Nat → Prop} (h : w_X7_setMaster 255 M 1 x1 (fun M1 v => W (kept M1 v.toInt64) 0) (fun M1 nm => ∃ e, hA1[e]? = some nm ∧ W M1 (e + 1))) : mw_Met G l yL_setMaster (.codeWith yL_setMaster cL_setMaster 4 (some .int) [(0, 9, 12, 15)]) { frames := 7, cells := 1, slots := 6, locals := 110 } 255 M [.ref 1, .int x1, .ref 254] (fun n1 M1 v => n1 = 255 ∧ ∃ e : Nat, e < 100 ∧ v = some (.int (nI e)) ∧ W M1 e) (fun _ _ => False) := by
  refine mw_enterH (L0 := [(0, .ref 1), (1, .int x1), (2, .ref 254)]) hlt rfl rfl (by decide) (Nat.le_of_ble_eq_true rfl) rfl ?_
  intro Y hC0 hZ hnL hn00
  have hC : mw_C G l _ Y cL_setMaster RL := hC0
  refine jr_aload_n (j := 2) hC dL_setMaster_0 rfl rfl ?_
  refine jr_iconst hC dL_setMaster_1 rfl ?_
  refine jr_aload_n (j := 0) hC dL_setMaster_2 rfl rfl ?_
  refine jr_iload_n (j := 1) hC dL_setMaster_3 rfl rfl ?_
  refine jr_callVt (As := [.int x1]) (st := [.int 0, .ref 254]) hC xv_86 (c_X7_setMaster hlt h) is1 rfl rfl ⟨⟨rfl, rfl⟩, ⟨by decide, by decide⟩, by decide, by decide⟩ (Nat.le_of_ble_eq_true rfl) hn00 dL_setMaster_4 (fun M1 E hx => ?_) (fun M1 v hP => ?_)
  · obtain ⟨e, he, hq⟩ := hx
    rcases hA1_is he with ⟨rfl, rfl⟩
    · exact jr_catch hC (pre := []) (suf := []) (j := 3) hZ rfl (fun q hq => nomatch hq) rfl (by decide) tx_561 (by decide +kernel) hnL (by decide) (Or.inr ⟨_, dL_setMaster_12, rfl, rfl⟩) dL_setMaster_13 rfl dL_setMaster_14 (by decide) (by decide) ⟨rfl, _, by decide, rfl, hq⟩
  · obtain ⟨x, rfl, hq⟩ := hP
    refine jr_i2l hC dL_setMaster_7 ?_
    refine jr_last hC is254 vi254 rfl dL_setMaster_8 ?_
    refine jr_goto (tgt := 15) hC dL_setMaster_9 (by decide) ?_
    refine jr_iconst hC dL_setMaster_15 rfl ?_
    exact jr_iretH hC hZ (by decide) (by decide) dL_setMaster_16 ⟨rfl, _, by decide, rfl, hq⟩
theorem v_mix {G : mw_G} {l : Launch} (hlt : l.stackTraces = false) {M : mw_M} {x1 x2 : Int32} {W : mw_M → Nat → Prop} (h : w_X7_mix 255 M 1 x1 x2 (fun M1 v => W (kept M1 v.toInt64) 0) (fun M1 nm => ∃ e, hA1[e]? = some nm ∧ W M1 (e + 1))) : mw_Met G l yL_mix (.codeWith yL_mix cL_mix 5 (some .int) [(0, 10, 13, 15)]) { frames := 8, cells := 1, slots := 6, locals := 198 } 255 M [.ref 1, .int x1, .int x2, .ref 254] (fun n1 M1 v => n1 = 255 ∧ ∃ e : Nat, e < 100 ∧ v = some (.int (nI e)) ∧ W M1 e) (fun _ _ => False) := by
  refine mw_enterH (L0 := [(0, .ref 1), (1, .int x1), (2, .int x2), (3, .ref 254)]) hlt rfl rfl (by decide) (Nat.le_of_ble_eq_true rfl) rfl ?_
  intro Y hC0 hZ hnL hn00
  have hC : mw_C G l _ Y cL_mix RL := hC0
  refine jr_aload_n (j := 3) hC dL_mix_0 rfl rfl ?_
  refine jr_iconst hC dL_mix_1 rfl ?_
  refine jr_aload_n (j := 0) hC dL_mix_2 rfl rfl ?_
  refine jr_iload_n (j := 1) hC dL_mix_3 rfl rfl ?_
  refine jr_iload_n (j := 2) hC dL_mix_4 rfl rfl ?_
  refine jr_callVt (As := [.int x1, .int x2]) (st := [.int 0, .ref 254]) hC xv_89 (c_X7_mix hlt h) is1 rfl rfl ⟨⟨rfl, rfl⟩, ⟨by decide, by decide⟩, by decide, by decide⟩ (Nat.le_of_ble_eq_true rfl) hn00 dL_mix_5 (fun M1 E hx => ?_) (fun M1 v hP => ?_)
  · obtain ⟨e, he, hq⟩ := hx
    rcases hA1_is he with ⟨rfl, rfl⟩
    · exact jr_catch hC (pre := []) (suf := []) (j := 4) hZ rfl (fun q hq => nomatch hq) rfl (by decide) tx_561 (by decide +kernel) hnL (by decide) (Or.inl ⟨dL_mix_13, rfl⟩) dL_mix_15 rfl dL_mix_16 (by decide) (by decide) ⟨rfl, _, by decide, rfl, hq⟩
  · obtain ⟨x, rfl, hq⟩ := hP
    refine jr_i2l hC dL_mix_8 ?_
    refine jr_last hC is254 vi254 rfl dL_mix_9 ?_
    refine jr_goto (tgt := 17) hC dL_mix_10 (by decide) ?_
    refine jr_iconst hC dL_mix_17 rfl ?_
    exact jr_iretH hC hZ (by decide) (by decide) dL_mix_18 ⟨rfl, _, by decide, rfl, hq⟩
theorem v_setLoop {G : mw_G} {l : Launch} (hlt : l.stackTraces = false) {M : mw_M} {x1 x2 : Int32} {W : mw_M → Nat → Prop} (h : w_X7_setLoop 255 M 1 x1 x2 (fun M1 v => W (kept M1 v.toInt64) 0) (fun M1 nm => ∃ e, hA1[e]? = some nm ∧ W M1 (e + 1))) : mw_Met G l yL_setLoop (.codeWith yL_setLoop cL_setLoop 5 (some .int) [(0, 10, 13, 15)]) { frames := 7, cells := 1, slots := 6, locals := 112 } 255 M [.ref 1, .int x1, .int x2, .ref 254] (fun n1 M1 v => n1 = 255 ∧ ∃ e : Nat, e < 100 ∧ v = some (.int (nI e)) ∧ W M1 e) (fun _ _ => False) := by
  refine mw_enterH (L0 := [(0, .ref 1), (1, .int x1), (2, .int x2), (3, .ref 254)]) hlt rfl rfl (by decide) (Nat.le_of_ble_eq_true rfl) rfl ?_
  intro Y hC0 hZ hnL hn00
  have hC : mw_C G l _ Y cL_setLoop RL := hC0
  refine jr_aload_n (j := 3) hC dL_setLoop_0 rfl rfl ?_
  refine jr_iconst hC dL_setLoop_1 rfl ?_
  refine jr_aload_n (j := 0) hC dL_setLoop_2 rfl rfl ?_
  refine jr_iload_n (j := 1) hC dL_setLoop_3 rfl rfl ?_
  refine jr_iload_n (j := 2) hC dL_setLoop_4 rfl rfl ?_
  refine jr_callVt (As := [.int x1, .int x2]) (st := [.int 0, .ref 254]) hC xv_93 (c_X7_setLoop hlt h) is1 rfl rfl ⟨⟨rfl, rfl⟩, ⟨by decide, by decide⟩, by decide, by decide⟩ (Nat.le_of_ble_eq_true rfl) hn00 dL_setLoop_5 (fun M1 E hx => ?_) (fun M1 v hP => ?_)
  · obtain ⟨e, he, hq⟩ := hx
    rcases hA1_is he with ⟨rfl, rfl⟩
    · exact jr_catch hC (pre := []) (suf := []) (j := 4) hZ rfl (fun q hq => nomatch hq) rfl (by decide) tx_561 (by decide +kernel) hnL (by decide) (Or.inl ⟨dL_setLoop_13, rfl⟩) dL_setLoop_15 rfl dL_setLoop_16 (by decide) (by decide) ⟨rfl, _, by decide, rfl, hq⟩
  · obtain ⟨x, rfl, hq⟩ := hP
    refine jr_i2l hC dL_setLoop_8 ?_
    refine jr_last hC is254 vi254 rfl dL_setLoop_9 ?_
    refine jr_goto (tgt := 17) hC dL_setLoop_10 (by decide) ?_
    refine jr_iconst hC dL_setLoop_17 rfl ?_
    exact jr_iretH hC hZ (by decide) (by decide) dL_setLoop_18 ⟨rfl, _, by decide, rfl, hq⟩
theorem v_seek {G : mw_G} {l : Launch} (hlt : l.stackTraces = false) {M : mw_M} {x1 : Int32} {W : mw_M → Nat → Prop} (h : w_X7_seek 255 M 1 x1 (fun M1 v => W (kept M1 v.toInt64) 0) (fun M1 nm => ∃ e, hA1[e]? = some nm ∧ W M1 (e + 1))) : mw_Met G l yL_seek (.codeWith yL_seek cL_seek 4 (some .int) [(0, 9, 12, 15)]) { frames := 8, cells := 1, slots := 6, locals := 124 } 255 M [.ref 1, .int x1, .ref 254] (fun n1 M1 v => n1 = 255 ∧ ∃ e : Nat, e < 100 ∧ v = some (.int (nI e)) ∧ W M1 e) (fun _ _ => False) := by
  refine mw_enterH (L0 := [(0, .ref 1), (1, .int x1), (2, .ref 254)]) hlt rfl rfl (by decide) (Nat.le_of_ble_eq_true rfl) rfl ?_
  intro Y hC0 hZ hnL hn00
  have hC : mw_C G l _ Y cL_seek RL := hC0
  refine jr_aload_n (j := 2) hC dL_seek_0 rfl rfl ?_
  refine jr_iconst hC dL_seek_1 rfl ?_
  refine jr_aload_n (j := 0) hC dL_seek_2 rfl rfl ?_
  refine jr_iload_n (j := 1) hC dL_seek_3 rfl rfl ?_
  refine jr_callVt (As := [.int x1]) (st := [.int 0, .ref 254]) hC xv_96 (c_X7_seek hlt h) is1 rfl rfl ⟨⟨rfl, rfl⟩, ⟨by decide, by decide⟩, by decide, by decide⟩ (Nat.le_of_ble_eq_true rfl) hn00 dL_seek_4 (fun M1 E hx => ?_) (fun M1 v hP => ?_)
  · obtain ⟨e, he, hq⟩ := hx
    rcases hA1_is he with ⟨rfl, rfl⟩
    · exact jr_catch hC (pre := []) (suf := []) (j := 3) hZ rfl (fun q hq => nomatch hq) rfl (by decide) tx_561 (by decide +kernel) hnL (by decide) (Or.inr ⟨_, dL_seek_12, rfl, rfl⟩) dL_seek_13 rfl dL_seek_14 (by decide) (by decide) ⟨rfl, _, by decide, rfl, hq⟩
  · obtain ⟨x, rfl, hq⟩ := hP
    refine jr_i2l hC dL_seek_7 ?_
    refine jr_last hC is254 vi254 rfl dL_seek_8 ?_
    refine jr_goto (tgt := 15) hC dL_seek_9 (by decide) ?_
    refine jr_iconst hC dL_seek_15 rfl ?_
    exact jr_iretH hC hZ (by decide) (by decide) dL_seek_16 ⟨rfl, _, by decide, rfl, hq⟩
theorem v_render {G : mw_G} {l : Launch} (hlt : l.stackTraces = false) {M : mw_M} {x1 : Int32} {W : mw_M → Nat → Prop} (h : w_X7_render 255 M 1 x1 (fun M1 v => W (kept M1 v.toInt64) 0) (fun M1 nm => ∃ e, hA1[e]? = some nm ∧ W M1 (e + 1))) : mw_Met G l yL_render (.codeWith yL_render cL_render 4 (some .int) [(0, 9, 12, 15)]) { frames := 8, cells := 1, slots := 6, locals := 199 } 255 M [.ref 1, .int x1, .ref 254] (fun n1 M1 v => n1 = 255 ∧ ∃ e : Nat, e < 100 ∧ v = some (.int (nI e)) ∧ W M1 e) (fun _ _ => False) := by
  refine mw_enterH (L0 := [(0, .ref 1), (1, .int x1), (2, .ref 254)]) hlt rfl rfl (by decide) (Nat.le_of_ble_eq_true rfl) rfl ?_
  intro Y hC0 hZ hnL hn00
  have hC : mw_C G l _ Y cL_render RL := hC0
  refine jr_aload_n (j := 2) hC dL_render_0 rfl rfl ?_
  refine jr_iconst hC dL_render_1 rfl ?_
  refine jr_aload_n (j := 0) hC dL_render_2 rfl rfl ?_
  refine jr_iload_n (j := 1) hC dL_render_3 rfl rfl ?_
  refine jr_callVt (As := [.int x1]) (st := [.int 0, .ref 254]) hC xv_99 (c_X7_render hlt h) is1 rfl rfl ⟨⟨rfl, rfl⟩, ⟨by decide, by decide⟩, by decide, by decide⟩ (Nat.le_of_ble_eq_true rfl) hn00 dL_render_4 (fun M1 E hx => ?_) (fun M1 v hP => ?_)
  · obtain ⟨e, he, hq⟩ := hx
    rcases hA1_is he with ⟨rfl, rfl⟩
    · exact jr_catch hC (pre := []) (suf := []) (j := 3) hZ rfl (fun q hq => nomatch hq) rfl (by decide) tx_561 (by decide +kernel) hnL (by decide) (Or.inr ⟨_, dL_render_12, rfl, rfl⟩) dL_render_13 rfl dL_render_14 (by decide) (by decide) ⟨rfl, _, by decide, rfl, hq⟩
  · obtain ⟨x, rfl, hq⟩ := hP
    refine jr_i2l hC dL_render_7 ?_
    refine jr_last hC is254 vi254 rfl dL_render_8 ?_
    refine jr_goto (tgt := 15) hC dL_render_9 (by decide) ?_
    refine jr_iconst hC dL_render_15 rfl ?_
    exact jr_iretH hC hZ (by decide) (by decide) dL_render_16 ⟨rfl, _, by decide, rfl, hq⟩
theorem v_meter {G : mw_G} {l : Launch} (hlt : l.stackTraces = false) {M : mw_M} {x1 : Int32} {W : mw_M → Nat → Prop} (h : w_X7_meter 255 M 1 x1 (fun v => W (kept M v) 0) (fun M1 nm => ∃ e, hA1[e]? = some nm ∧ W M1 (e + 1))) : mw_Met G l yL_meter (.codeWith yL_meter cL_meter 4 (some .int) [(0, 8, 11, 15)]) { frames := 7, cells := 1, slots := 6, locals := 103 } 255 M [.ref 1, .int x1, .ref 254] (fun n1 M1 v => n1 = 255 ∧ ∃ e : Nat, e < 100 ∧ v = some (.int (nI e)) ∧ W M1 e) (fun _ _ => False) := by
  refine mw_enterH (L0 := [(0, .ref 1), (1, .int x1), (2, .ref 254)]) hlt rfl rfl (by decide) (Nat.le_of_ble_eq_true rfl) rfl ?_
  intro Y hC0 hZ hnL hn00
  have hC : mw_C G l _ Y cL_meter RL := hC0
  refine jr_aload_n (j := 2) hC dL_meter_0 rfl rfl ?_
  refine jr_iconst hC dL_meter_1 rfl ?_
  refine jr_aload_n (j := 0) hC dL_meter_2 rfl rfl ?_
  refine jr_iload_n (j := 1) hC dL_meter_3 rfl rfl ?_
  refine jr_callVt (As := [.int x1]) (st := [.int 0, .ref 254]) hC xv_102 (c_X7_meter hlt h) is1 rfl rfl ⟨⟨rfl, rfl⟩, ⟨by decide, by decide⟩, by decide, by decide⟩ (Nat.le_of_ble_eq_true rfl) hn00 dL_meter_4 (fun M1 E hx => ?_) (fun M1 v hP => ?_)
  · obtain ⟨e, he, hq⟩ := hx
    rcases hA1_is he with ⟨rfl, rfl⟩
    · exact jr_catch hC (pre := []) (suf := []) (j := 3) hZ rfl (fun q hq => nomatch hq) rfl (by decide) tx_561 (by decide +kernel) hnL (by decide) (Or.inr ⟨_, dL_meter_11, rfl, rfl⟩) dL_meter_12 rfl dL_meter_13 (by decide) (by decide) ⟨rfl, _, by decide, rfl, hq⟩
  · obtain ⟨rfl, x, rfl, hq⟩ := hP
    refine jr_last hC is254 vi254 rfl dL_meter_7 ?_
    refine jr_goto (tgt := 14) hC dL_meter_8 (by decide) ?_
    refine jr_iconst hC dL_meter_14 rfl ?_
    exact jr_iretH hC hZ (by decide) (by decide) dL_meter_15 ⟨rfl, _, by decide, rfl, hq⟩
theorem v_undo {G : mw_G} {l : Launch} (hlt : l.stackTraces = false) {M : mw_M} {W : mw_M → Nat → Prop} (h : w_X7_undo 255 M 1 (fun M1 v => W (kept M1 v.toInt64) 0) (fun M1 nm => ∃ e, hT1[e]? = some nm ∧ W M1 (e + 1))) : mw_Met G l yL_undo (.codeWith yL_undo cL_undo 3 (some .int) [(0, 8, 11, 25)]) { frames := 7, cells := 1, slots := 6, locals := 103 } 255 M [.ref 1, .ref 254] (fun n1 M1 v => n1 = 255 ∧ ∃ e : Nat, e < 100 ∧ v = some (.int (nI e)) ∧ W M1 e) (fun _ _ => False) := by
  refine mw_enterH (L0 := [(0, .ref 1), (1, .ref 254)]) hlt rfl rfl (by decide) (Nat.le_of_ble_eq_true rfl) rfl ?_
  intro Y hC0 hZ hnL hn00
  have hC : mw_C G l _ Y cL_undo RL := hC0
  refine jr_aload_n (j := 1) hC dL_undo_0 rfl rfl ?_
  refine jr_iconst hC dL_undo_1 rfl ?_
  refine jr_aload_n (j := 0) hC dL_undo_2 rfl rfl ?_
  refine jr_callVt (As := []) (st := [.int 0, .ref 254]) hC xv_106 (c_X7_undo hlt h) is1 rfl rfl ⟨⟨rfl, rfl⟩, ⟨by decide, by decide⟩, by decide, by decide⟩ (Nat.le_of_ble_eq_true rfl) hn00 dL_undo_3 (fun M1 E hx => ?_) (fun M1 v hP => ?_)
  · obtain ⟨e, he, hq⟩ := hx
    rcases hT1_is he with ⟨rfl, rfl⟩
    · exact jr_catch hC (pre := []) (suf := []) (j := 2) hZ rfl (fun q hq => nomatch hq) rfl (by decide) tx_682 (by decide +kernel) hnL (by decide) (Or.inr ⟨_, dL_undo_11, rfl, rfl⟩) dL_undo_12 rfl dL_undo_13 (by decide) (by decide) ⟨rfl, _, by decide, rfl, hq⟩
  · obtain ⟨x, rfl, hq⟩ := hP
    refine jr_i2l hC dL_undo_6 ?_
    refine jr_last hC is254 vi254 rfl dL_undo_7 ?_
    refine jr_goto (tgt := 14) hC dL_undo_8 (by decide) ?_
    refine jr_iconst hC dL_undo_14 rfl ?_
    exact jr_iretH hC hZ (by decide) (by decide) dL_undo_15 ⟨rfl, _, by decide, rfl, hq⟩
