set_option maxHeartbeats 4000000 in
set_option maxRecDepth 100000 in
theorem c_X8_cuts {G : mw_G} {l : Launch} (hlt : l.stackTraces = false) {n : Nat} {M : mw_M} {a0 : Nat} {x1 : Int32} {x2 : Int32} {x3 : Int32} {Q : mw_M → Prop} (h : w_X8_cuts n M a0 x1 x2 x3 Q) : mw_Met G l yX8_cuts (.code yX8_cuts cX8_cuts 4 none) { frames := 2, cells := 0, slots := 0, locals := 45 } n M [.ref a0, .int x1, .int x2, .int x3] (fun n1 M1 v => n1 = n ∧ mw_rV Q M1 v) (fun _ _ => False) := by
  refine mw_enter (L0 := [(0, .ref a0), (1, .int x1), (2, .int x2), (3, .int x3)]) hlt rfl rfl (plainFor_of_name (by decide)) (Nat.le_of_ble_eq_true rfl) rfl ?_
  intro Y hC0 hZ hnL hini0 hn00
  have hC : mw_C G l _ Y cX8_cuts RX8 := hC0
  unfold w_X8_cuts at h
  refine jr_aload_n (j := 0) hC dX8_cuts_0 rfl rfl ?_
  refine jr_iload_n (j := 1) hC dX8_cuts_1 rfl rfl ?_
  refine jr_iconst (v := (2 : Int32)) hC dX8_cuts_2 (by decide) ?_
  refine jr_aload_n (j := 0) hC dX8_cuts_3 rfl rfl ?_
  refine jr_iload_n (j := 1) hC dX8_cuts_4 rfl rfl ?_
  refine jr_iconst (v := (2 : Int32)) hC dX8_cuts_5 (by decide) ?_
  obtain ⟨hc1, h⟩ := h
  refine jr_callV_pi (As := [.int x1, .int (2 : Int32)]) (st := [.int (2 : Int32), .int x1, .ref a0]) hC nc_RX8_98 (c_X8_of hlt h) hc1 rfl rfl ⟨⟨rfl, rfl⟩, ⟨by decide, by decide⟩, by decide, by decide⟩ (Nat.le_of_ble_eq_true rfl) dX8_cuts_6 (fun v2 h => ?_)
  refine jr_iload_n (j := 2) hC dX8_cuts_9 rfl rfl ?_
  refine jr_iadd hC dX8_cuts_10 ?_
  refine jr_callV_v (As := [.int x1, .int (2 : Int32), .int (v2 + x2)]) (st := []) hC nc_RX8_122 (c_X8_set hlt h) hc1 rfl rfl ⟨⟨rfl, rfl⟩, ⟨by decide, by decide⟩, by decide, by decide⟩ (Nat.le_of_ble_eq_true rfl) dX8_cuts_11 (fun M3 h => ?_)
  refine jr_aload_n (j := 0) hC dX8_cuts_14 rfl rfl ?_
  refine jr_iload_n (j := 1) hC dX8_cuts_15 rfl rfl ?_
  refine jr_iconst (v := (3 : Int32)) hC dX8_cuts_16 (by decide) ?_
  refine jr_aload_n (j := 0) hC dX8_cuts_17 rfl rfl ?_
  refine jr_iload_n (j := 1) hC dX8_cuts_18 rfl rfl ?_
  refine jr_iconst (v := (3 : Int32)) hC dX8_cuts_19 (by decide) ?_
  refine jr_callV_pi (As := [.int x1, .int (3 : Int32)]) (st := [.int (3 : Int32), .int x1, .ref a0]) hC nc_RX8_98 (c_X8_of hlt h) hc1 rfl rfl ⟨⟨rfl, rfl⟩, ⟨by decide, by decide⟩, by decide, by decide⟩ (Nat.le_of_ble_eq_true rfl) dX8_cuts_20 (fun v4 h => ?_)
  refine jr_iload_n (j := 2) hC dX8_cuts_23 rfl rfl ?_
  refine jr_iadd hC dX8_cuts_24 ?_
  refine jr_callV_v (As := [.int x1, .int (3 : Int32), .int (v4 + x2)]) (st := []) hC nc_RX8_122 (c_X8_set hlt h) hc1 rfl rfl ⟨⟨rfl, rfl⟩, ⟨by decide, by decide⟩, by decide, by decide⟩ (Nat.le_of_ble_eq_true rfl) dX8_cuts_25 (fun M5 h => ?_)
  refine jr_aload_n (j := 0) hC dX8_cuts_28 rfl rfl ?_
  refine jr_iload_n (j := 1) hC dX8_cuts_29 rfl rfl ?_
  refine jr_iconst (v := (4 : Int32)) hC dX8_cuts_30 (by decide) ?_
  refine jr_aload_n (j := 0) hC dX8_cuts_31 rfl rfl ?_
  refine jr_iload_n (j := 1) hC dX8_cuts_32 rfl rfl ?_
  refine jr_iconst (v := (4 : Int32)) hC dX8_cuts_33 (by decide) ?_
  refine jr_callV_pi (As := [.int x1, .int (4 : Int32)]) (st := [.int (4 : Int32), .int x1, .ref a0]) hC nc_RX8_98 (c_X8_of hlt h) hc1 rfl rfl ⟨⟨rfl, rfl⟩, ⟨by decide, by decide⟩, by decide, by decide⟩ (Nat.le_of_ble_eq_true rfl) dX8_cuts_34 (fun v6 h => ?_)
  refine jr_iload_n (j := 2) hC dX8_cuts_37 rfl rfl ?_
  refine jr_isub hC dX8_cuts_38 ?_
  refine jr_iload_n (j := 3) hC dX8_cuts_39 rfl rfl ?_
  refine jr_isub hC dX8_cuts_40 ?_
  refine jr_callV_v (As := [.int x1, .int (4 : Int32), .int ((v6 - x2) - x3)]) (st := []) hC nc_RX8_122 (c_X8_set hlt h) hc1 rfl rfl ⟨⟨rfl, rfl⟩, ⟨by decide, by decide⟩, by decide, by decide⟩ (Nat.le_of_ble_eq_true rfl) dX8_cuts_41 (fun M7 h => ?_)
  refine jr_aload_n (j := 0) hC dX8_cuts_44 rfl rfl ?_
  refine jr_iload_n (j := 1) hC dX8_cuts_45 rfl rfl ?_
  refine jr_callV_v (As := [.int x1]) (st := []) hC nc_RX8_139 (c_X8_limitsFades hlt h) hc1 rfl rfl ⟨⟨rfl, rfl⟩, ⟨by decide, by decide⟩, by decide, by decide⟩ (Nat.le_of_ble_eq_true rfl) dX8_cuts_46 (fun M8 h => ?_)
  exact jr_vret hC hZ (by decide) (by decide) dX8_cuts_49 ⟨rfl, rfl, h⟩
set_option maxHeartbeats 4000000 in
set_option maxRecDepth 100000 in
theorem c_X8_trimClip {G : mw_G} {l : Launch} (hlt : l.stackTraces = false) {n : Nat} {M : mw_M} {a0 : Nat} {x1 : Int32} {x2 : Int32} {x3 : Int32} {Q : mw_M → Int32 → Prop} (h : w_X8_trimClip n M a0 x1 x2 x3 Q) : mw_Met G l yX8_trimClip (.code yX8_trimClip cX8_trimClip 7 (some .int)) { frames := 3, cells := 0, slots := 0, locals := 70 } n M [.ref a0, .int x1, .int x2, .int x3] (fun n1 M1 v => n1 = n ∧ mw_rI Q M1 v) (fun _ _ => False) := by
  refine mw_enter (L0 := [(0, .ref a0), (1, .int x1), (2, .int x2), (3, .int x3)]) hlt rfl rfl (plainFor_of_name (by decide)) (Nat.le_of_ble_eq_true rfl) rfl ?_
  intro Y hC0 hZ hnL hini0 hn00
  have hC : mw_C G l _ Y cX8_trimClip RX8 := hC0
  have B125 : ∀ (M : mw_M) (r0 : Nat) (x5 : Int32) (s0 : Int32) (s1r : Nat) (h : w_X8_trimClip_b125 n M r0 x5 s0 s1r Q), mw_J Y 0 0 n M 125 [(0, .ref r0), (5, .int x5)] [.int s0, .ref s1r] := by
    intro M r0 x5 s0 s1r h
    unfold w_X8_trimClip_b125 at h
    obtain ⟨hc1, h⟩ := h
    refine jr_callV_i (As := [.int s0]) (st := []) hC nc_RX8_73 (c_X8_refusesChange hlt h) hc1 rfl rfl ⟨⟨rfl, rfl⟩, ⟨by decide, by decide⟩, by decide, by decide⟩ (Nat.le_of_ble_eq_true rfl) dX8_trimClip_125 (fun M2 v3 h => ?_)
    obtain ⟨hthb4, hfhb4⟩ := h
    refine jr_if_eq (tgt := 133) hC dX8_trimClip_128 (by decide) (fun hb4 => ?_) (fun hb4 => ?_)
    · have h := hthb4 hb4
      refine jr_aload_n (j := 0) hC dX8_trimClip_133 rfl rfl ?_
      obtain ⟨hc5, h⟩ := h
      refine jr_callV_v (As := []) (st := []) hC nc_RX8_133 (c_X8_takesOver hlt h) hc5 rfl rfl ⟨⟨rfl, rfl⟩, ⟨by decide, by decide⟩, by decide, by decide⟩ (Nat.le_of_ble_eq_true rfl) dX8_trimClip_134 (fun M6 h => ?_)
      refine jr_iload (j := 1) hC dX8_trimClip_137 rfl ?_
      exact jr_ireti hC hZ (by decide) (by decide) dX8_trimClip_139 ⟨rfl, _, rfl, h⟩
    · have h := hfhb4 hb4
      refine jr_iconst (v := (0 : Int32)) hC dX8_trimClip_131 (by decide) ?_
      exact jr_ireti hC hZ (by decide) (by decide) dX8_trimClip_132 ⟨rfl, _, rfl, h⟩
  have B89 : ∀ (M : mw_M) (s0 : Int32) (h : w_X8_trimClip_b89 n M s0 Q), mw_J Y 0 0 n M 89 [] [.int s0] := by
    intro M s0 h
    unfold w_X8_trimClip_b89 at h
    exact jr_ireti hC hZ (by decide) (by decide) dX8_trimClip_89 ⟨rfl, _, rfl, h⟩
  have B69 : ∀ (M : mw_M) (r0 : Nat) (x1 : Int32) (x2 : Int32) (x3 : Int32) (s0 : Int32) (h : w_X8_trimClip_b69 n M r0 x1 x2 x3 s0 Q), mw_J Y 0 0 n M 69 [(0, .ref r0), (1, .int x1), (2, .int x2), (3, .int x3)] [.int s0] := by
    intro M r0 x1 x2 x3 s0 h
    unfold w_X8_trimClip_b69 at h
    refine jr_istore (L1 := [(4, .int s0), (0, .ref r0), (1, .int x1), (2, .int x2), (3, .int x3)]) hC dX8_trimClip_69 hnL (by decide) rfl ?_
    refine jr_iload (j := 0) hC dX8_trimClip_71 rfl ?_
    obtain ⟨hthb7, hfhb7⟩ := h
    refine jr_if_ne (tgt := 90) hC dX8_trimClip_73 (by decide) (fun hb7 => ?_) (fun hb7 => ?_)
    · have h := hthb7 hb7
      refine jr_aload_n (j := 1) hC dX8_trimClip_90 rfl rfl ?_
      refine jr_iload_n (j := 2) hC dX8_trimClip_91 rfl rfl ?_
      refine jr_iload_n (j := 3) hC dX8_trimClip_92 rfl rfl ?_
      refine jr_iload_n (j := 4) hC dX8_trimClip_93 rfl rfl ?_
      obtain ⟨hc8, h⟩ := h
      refine jr_callV_v (As := [.int x1, .int x2, .int x3]) (st := []) hC nc_RX8_143 (c_X8_cuts hlt h) hc8 rfl rfl ⟨⟨rfl, rfl⟩, ⟨by decide, by decide⟩, by decide, by decide⟩ (Nat.le_of_ble_eq_true rfl) dX8_trimClip_94 (fun M9 h => ?_)
      refine jr_aload_n (j := 1) hC dX8_trimClip_97 rfl rfl ?_
      refine jr_iload_n (j := 2) hC dX8_trimClip_98 rfl rfl ?_
      refine jr_iconst (v := (4 : Int32)) hC dX8_trimClip_99 (by decide) ?_
      refine jr_callV_pi (As := [.int x1, .int (4 : Int32)]) (st := []) hC nc_RX8_98 (c_X8_of hlt h) hc8 rfl rfl ⟨⟨rfl, rfl⟩, ⟨by decide, by decide⟩, by decide, by decide⟩ (Nat.le_of_ble_eq_true rfl) dX8_trimClip_100 (fun v10 h => ?_)
      refine jr_istore (L1 := [(5, .int v10), (4, .int s0), (0, .ref r0), (1, .int x1), (2, .int x2), (3, .int x3)]) hC dX8_trimClip_103 hnL (by decide) rfl ?_
      refine jr_aload_n (j := 2) hC dX8_trimClip_105 rfl rfl ?_
      refine jr_iload_n (j := 3) hC dX8_trimClip_106 rfl rfl ?_
      refine jr_callV_i (As := [.int x1]) (st := []) hC nc_RX8_126 (c_X8_settles hlt h) hc8 rfl rfl ⟨⟨rfl, rfl⟩, ⟨by decide, by decide⟩, by decide, by decide⟩ (Nat.le_of_ble_eq_true rfl) dX8_trimClip_107 (fun M11 v12 h => ?_)
      refine jr_istore (L1 := [(6, .int v12), (5, .int v10), (4, .int s0), (0, .ref r0), (1, .int x1), (2, .int x2), (3, .int x3)]) hC dX8_trimClip_110 hnL (by decide) rfl ?_
      refine jr_aload_n (j := 3) hC dX8_trimClip_112 rfl rfl ?_
      refine jr_aload_n (j := 3) hC dX8_trimClip_113 rfl rfl ?_
      refine jr_callV_pi (As := []) (st := [.ref r0]) hC nc_RX8_129 (c_X8_isFine hlt h) hc8 rfl rfl ⟨⟨rfl, rfl⟩, ⟨by decide, by decide⟩, by decide, by decide⟩ (Nat.le_of_ble_eq_true rfl) dX8_trimClip_114 (fun v13 h => ?_)
      obtain ⟨hthb14, hfhb14⟩ := h
      refine jr_if_eq (tgt := 124) hC dX8_trimClip_117 (by decide) (fun hb14 => ?_) (fun hb14 => ?_)
      · have h := hthb14 hb14
        refine jr_iconst (v := (3 : Int32)) hC dX8_trimClip_124 (by decide) ?_
        refine jr_sub [3, 1] (L1 := [(0, .ref r0), (5, .int v10)]) rfl ?_
        exact B125 M11 r0 v10 (3 : Int32) r0 h
      · have h := hfhb14 hb14
        refine jr_iconst (v := (0 : Int32)) hC dX8_trimClip_120 (by decide) ?_
        refine jr_goto (tgt := 125) hC dX8_trimClip_121 (by decide) ?_
        refine jr_sub [3, 1] (L1 := [(0, .ref r0), (5, .int v10)]) rfl ?_
        exact B125 M11 r0 v10 (0 : Int32) r0 h
    · have h := hfhb7 hb7
      refine jr_aload_n (j := 1) hC dX8_trimClip_76 rfl rfl ?_
      refine jr_iconst (v := (2 : Int32)) hC dX8_trimClip_77 (by decide) ?_
      obtain ⟨hc15, h⟩ := h
      refine jr_callV_i (As := [.int (2 : Int32)]) (st := []) hC nc_RX8_51 (c_X8_refuses hlt h) hc15 rfl rfl ⟨⟨rfl, rfl⟩, ⟨by decide, by decide⟩, by decide, by decide⟩ (Nat.le_of_ble_eq_true rfl) dX8_trimClip_78 (fun M16 v17 h => ?_)
      obtain ⟨hthb18, hfhb18⟩ := h
      refine jr_if_eq (tgt := 88) hC dX8_trimClip_81 (by decide) (fun hb18 => ?_) (fun hb18 => ?_)
      · have h := hthb18 hb18
        refine jr_iconst (v := (-1 : Int32)) hC dX8_trimClip_88 (by decide) ?_
        refine jr_sub [] (L1 := []) rfl ?_
        exact B89 M16 (-1 : Int32) h
      · have h := hfhb18 hb18
        refine jr_iconst (v := (0 : Int32)) hC dX8_trimClip_84 (by decide) ?_
        refine jr_goto (tgt := 89) hC dX8_trimClip_85 (by decide) ?_
        refine jr_sub [] (L1 := []) rfl ?_
        exact B89 M16 (0 : Int32) h
  have B68 : ∀ (M : mw_M) (r0 : Nat) (x1 : Int32) (x2 : Int32) (x3 : Int32) (h : w_X8_trimClip_b68 n M r0 x1 x2 x3 Q), mw_J Y 0 0 n M 68 [(0, .ref r0), (1, .int x1), (2, .int x2), (3, .int x3)] [] := by
    intro M r0 x1 x2 x3 h
    unfold w_X8_trimClip_b68 at h
    refine jr_iconst (v := (0 : Int32)) hC dX8_trimClip_68 (by decide) ?_
    exact B69 M r0 x1 x2 x3 (0 : Int32) h
  have B21 : ∀ (M : mw_M) (s0 : Int32) (h : w_X8_trimClip_b21 n M s0 Q), mw_J Y 0 0 n M 21 [] [.int s0] := by
    intro M s0 h
    unfold w_X8_trimClip_b21 at h
    exact jr_ireti hC hZ (by decide) (by decide) dX8_trimClip_21 ⟨rfl, _, rfl, h⟩
  unfold w_X8_trimClip at h
  refine jr_aload_n (j := 0) hC dX8_trimClip_0 rfl rfl ?_
  refine jr_iload_n (j := 1) hC dX8_trimClip_1 rfl rfl ?_
  obtain ⟨hc19, h⟩ := h
  refine jr_callV_pi (As := [.int x1]) (st := []) hC nc_RX8_136 (c_X8_isClip hlt h) hc19 rfl rfl ⟨⟨rfl, rfl⟩, ⟨by decide, by decide⟩, by decide, by decide⟩ (Nat.le_of_ble_eq_true rfl) dX8_trimClip_2 (fun v20 h => ?_)
  obtain ⟨hthb21, hfhb21⟩ := h
  refine jr_if_ne (tgt := 22) hC dX8_trimClip_5 (by decide) (fun hb21 => ?_) (fun hb21 => ?_)
  · have h := hthb21 hb21
    refine jr_aload_n (j := 0) hC dX8_trimClip_22 rfl rfl ?_
    refine jr_callV_v (As := []) (st := []) hC nc_RX8_119 (c_X8_tries hlt h) hc19 rfl rfl ⟨⟨rfl, rfl⟩, ⟨by decide, by decide⟩, by decide, by decide⟩ (Nat.le_of_ble_eq_true rfl) dX8_trimClip_23 (fun M22 h => ?_)
    refine jr_iload_n (j := 2) hC dX8_trimClip_26 rfl rfl ?_
    obtain ⟨hthb23, hfhb23⟩ := h
    refine jr_if_lt (tgt := 68) hC dX8_trimClip_27 (by decide) (fun hb23 => ?_) (fun hb23 => ?_)
    · have h := hthb23 hb23
      exact B68 M22 a0 x1 x2 x3 h
    · have h := hfhb23 hb23
      refine jr_iload_n (j := 3) hC dX8_trimClip_30 rfl rfl ?_
      obtain ⟨hthb24, hfhb24⟩ := h
      refine jr_if_lt (tgt := 68) hC dX8_trimClip_31 (by decide) (fun hb24 => ?_) (fun hb24 => ?_)
      · have h := hthb24 hb24
        exact B68 M22 a0 x1 x2 x3 h
      · have h := hfhb24 hb24
        refine jr_iload_n (j := 2) hC dX8_trimClip_34 rfl rfl ?_
        refine jr_i2l hC dX8_trimClip_35 ?_
        refine jr_iload_n (j := 3) hC dX8_trimClip_36 rfl rfl ?_
        refine jr_i2l hC dX8_trimClip_37 ?_
        refine jr_ladd hC dX8_trimClip_38 ?_
        refine jr_aload_n (j := 0) hC dX8_trimClip_39 rfl rfl ?_
        refine jr_iload_n (j := 1) hC dX8_trimClip_40 rfl rfl ?_
        refine jr_iconst (v := (4 : Int32)) hC dX8_trimClip_41 (by decide) ?_
        refine jr_callV_pi (As := [.int x1, .int (4 : Int32)]) (st := [.long ((Int32.toInt64 x2) + (Int32.toInt64 x3))]) hC nc_RX8_98 (c_X8_of hlt h) hc19 rfl rfl ⟨⟨rfl, rfl⟩, ⟨by decide, by decide⟩, by decide, by decide⟩ (Nat.le_of_ble_eq_true rfl) dX8_trimClip_42 (fun v25 h => ?_)
        refine jr_i2l hC dX8_trimClip_45 ?_
        obtain ⟨hthb26, hfhb26⟩ := h
        refine jr_lc_ge (tgt := 68) hC dX8_trimClip_46 dX8_trimClip_47 (by decide) (fun hb26 => ?_) (fun hb26 => ?_)
        · have h := hthb26 hb26
          exact B68 M22 a0 x1 x2 x3 h
        · have h := hfhb26 hb26
          refine jr_aload_n (j := 0) hC dX8_trimClip_50 rfl rfl ?_
          refine jr_iload_n (j := 1) hC dX8_trimClip_51 rfl rfl ?_
          refine jr_iconst (v := (3 : Int32)) hC dX8_trimClip_52 (by decide) ?_
          refine jr_callV_pi (As := [.int x1, .int (3 : Int32)]) (st := []) hC nc_RX8_98 (c_X8_of hlt h) hc19 rfl rfl ⟨⟨rfl, rfl⟩, ⟨by decide, by decide⟩, by decide, by decide⟩ (Nat.le_of_ble_eq_true rfl) dX8_trimClip_53 (fun v27 h => ?_)
          refine jr_iload_n (j := 2) hC dX8_trimClip_56 rfl rfl ?_
          refine jr_iadd hC dX8_trimClip_57 ?_
          refine jr_callS_pi (As := [.int (v27 + x2)]) (st := []) hC nc_RX8_114 (c_X8_isPlace hlt h) rfl rfl ⟨⟨rfl, rfl⟩, ⟨by decide, by decide⟩, by decide, by decide⟩ (Nat.le_of_ble_eq_true rfl) dX8_trimClip_58 (fun v28 h => ?_)
          obtain ⟨hthb29, hfhb29⟩ := h
          refine jr_if_eq (tgt := 68) hC dX8_trimClip_61 (by decide) (fun hb29 => ?_) (fun hb29 => ?_)
          · have h := hthb29 hb29
            exact B68 M22 a0 x1 x2 x3 h
          · have h := hfhb29 hb29
            refine jr_iconst (v := (1 : Int32)) hC dX8_trimClip_64 (by decide) ?_
            refine jr_goto (tgt := 69) hC dX8_trimClip_65 (by decide) ?_
            exact B69 M22 a0 x1 x2 x3 (1 : Int32) h
  · have h := hfhb21 hb21
    refine jr_aload_n (j := 0) hC dX8_trimClip_8 rfl rfl ?_
    refine jr_iconst (v := (1 : Int32)) hC dX8_trimClip_9 (by decide) ?_
    refine jr_callV_i (As := [.int (1 : Int32)]) (st := []) hC nc_RX8_51 (c_X8_refuses hlt h) hc19 rfl rfl ⟨⟨rfl, rfl⟩, ⟨by decide, by decide⟩, by decide, by decide⟩ (Nat.le_of_ble_eq_true rfl) dX8_trimClip_10 (fun M30 v31 h => ?_)
    obtain ⟨hthb32, hfhb32⟩ := h
    refine jr_if_eq (tgt := 20) hC dX8_trimClip_13 (by decide) (fun hb32 => ?_) (fun hb32 => ?_)
    · have h := hthb32 hb32
      refine jr_iconst (v := (-1 : Int32)) hC dX8_trimClip_20 (by decide) ?_
      refine jr_sub [] (L1 := []) rfl ?_
      exact B21 M30 (-1 : Int32) h
    · have h := hfhb32 hb32
      refine jr_iconst (v := (0 : Int32)) hC dX8_trimClip_16 (by decide) ?_
      refine jr_goto (tgt := 21) hC dX8_trimClip_17 (by decide) ?_
      refine jr_sub [] (L1 := []) rfl ?_
      exact B21 M30 (0 : Int32) h
set_option maxHeartbeats 4000000 in
set_option maxRecDepth 100000 in
theorem c_X8_splitClip {G : mw_G} {l : Launch} (hlt : l.stackTraces = false) {n : Nat} {M : mw_M} {a0 : Nat} {x1 : Int32} {x2 : Int32} {Q : mw_M → Int32 → Prop} (h : w_X8_splitClip n M a0 x1 x2 Q) : mw_Met G l yX8_splitClip (.code yX8_splitClip cX8_splitClip 7 (some .int)) { frames := 3, cells := 0, slots := 0, locals := 70 } n M [.ref a0, .int x1, .int x2] (fun n1 M1 v => n1 = n ∧ mw_rI Q M1 v) (fun _ _ => False) := by
  refine mw_enter (L0 := [(0, .ref a0), (1, .int x1), (2, .int x2)]) hlt rfl rfl (plainFor_of_name (by decide)) (Nat.le_of_ble_eq_true rfl) rfl ?_
  intro Y hC0 hZ hnL hini0 hn00
  have hC : mw_C G l _ Y cX8_splitClip RX8 := hC0
  have B111 : ∀ (M : mw_M) (s0 : Int32) (h : w_X8_splitClip_b111 n M s0 Q), mw_J Y 0 0 n M 111 [] [.int s0] := by
    intro M s0 h
    unfold w_X8_splitClip_b111 at h
    exact jr_ireti hC hZ (by decide) (by decide) dX8_splitClip_111 ⟨rfl, _, rfl, h⟩
  have B100 : ∀ (M : mw_M) (s0 : Int32) (s1r : Nat) (h : w_X8_splitClip_b100 n M s0 s1r Q), mw_J Y 0 0 n M 100 [] [.int s0, .ref s1r] := by
    intro M s0 s1r h
    unfold w_X8_splitClip_b100 at h
    obtain ⟨hc1, h⟩ := h
    refine jr_callV_i (As := [.int s0]) (st := []) hC nc_RX8_51 (c_X8_refuses hlt h) hc1 rfl rfl ⟨⟨rfl, rfl⟩, ⟨by decide, by decide⟩, by decide, by decide⟩ (Nat.le_of_ble_eq_true rfl) dX8_splitClip_100 (fun M2 v3 h => ?_)
    obtain ⟨hthb4, hfhb4⟩ := h
    refine jr_if_eq (tgt := 110) hC dX8_splitClip_103 (by decide) (fun hb4 => ?_) (fun hb4 => ?_)
    · have h := hthb4 hb4
      refine jr_iconst (v := (-1 : Int32)) hC dX8_splitClip_110 (by decide) ?_
      exact B111 M2 (-1 : Int32) h
    · have h := hfhb4 hb4
      refine jr_iconst (v := (0 : Int32)) hC dX8_splitClip_106 (by decide) ?_
      refine jr_goto (tgt := 111) hC dX8_splitClip_107 (by decide) ?_
      exact B111 M2 (0 : Int32) h
  have B89 : ∀ (M : mw_M) (r0 : Nat) (x4 : Int32) (h : w_X8_splitClip_b89 n M r0 x4 Q), mw_J Y 0 0 n M 89 [(0, .ref r0), (4, .int x4)] [] := by
    intro M r0 x4 h
    unfold w_X8_splitClip_b89 at h
    refine jr_aload_n (j := 0) hC dX8_splitClip_89 rfl rfl ?_
    refine jr_iload (j := 1) hC dX8_splitClip_90 rfl ?_
    obtain ⟨hthb5, hfhb5⟩ := h
    refine jr_if_eq (tgt := 99) hC dX8_splitClip_92 (by decide) (fun hb5 => ?_) (fun hb5 => ?_)
    · have h := hthb5 hb5
      refine jr_iconst (v := (2 : Int32)) hC dX8_splitClip_99 (by decide) ?_
      refine jr_sub [] (L1 := []) rfl ?_
      exact B100 M (2 : Int32) r0 h
    · have h := hfhb5 hb5
      refine jr_iconst (v := (3 : Int32)) hC dX8_splitClip_95 (by decide) ?_
      refine jr_goto (tgt := 100) hC dX8_splitClip_96 (by decide) ?_
      refine jr_sub [] (L1 := []) rfl ?_
      exact B100 M (3 : Int32) r0 h
  have B207 : ∀ (M : mw_M) (r0 : Nat) (x6 : Int32) (s0 : Int32) (s1r : Nat) (h : w_X8_splitClip_b207 n M r0 x6 s0 s1r Q), mw_J Y 0 0 n M 207 [(0, .ref r0), (6, .int x6)] [.int s0, .ref s1r] := by
    intro M r0 x6 s0 s1r h
    unfold w_X8_splitClip_b207 at h
    obtain ⟨hc6, h⟩ := h
    refine jr_callV_i (As := [.int s0]) (st := []) hC nc_RX8_73 (c_X8_refusesChange hlt h) hc6 rfl rfl ⟨⟨rfl, rfl⟩, ⟨by decide, by decide⟩, by decide, by decide⟩ (Nat.le_of_ble_eq_true rfl) dX8_splitClip_207 (fun M7 v8 h => ?_)
    obtain ⟨hthb9, hfhb9⟩ := h
    refine jr_if_eq (tgt := 215) hC dX8_splitClip_210 (by decide) (fun hb9 => ?_) (fun hb9 => ?_)
    · have h := hthb9 hb9
      refine jr_aload_n (j := 0) hC dX8_splitClip_215 rfl rfl ?_
      obtain ⟨hc10, h⟩ := h
      refine jr_callV_v (As := []) (st := []) hC nc_RX8_133 (c_X8_takesOver hlt h) hc10 rfl rfl ⟨⟨rfl, rfl⟩, ⟨by decide, by decide⟩, by decide, by decide⟩ (Nat.le_of_ble_eq_true rfl) dX8_splitClip_216 (fun M11 h => ?_)
      refine jr_iload (j := 1) hC dX8_splitClip_219 rfl ?_
      exact jr_ireti hC hZ (by decide) (by decide) dX8_splitClip_221 ⟨rfl, _, rfl, h⟩
    · have h := hfhb9 hb9
      refine jr_iconst (v := (0 : Int32)) hC dX8_splitClip_213 (by decide) ?_
      exact jr_ireti hC hZ (by decide) (by decide) dX8_splitClip_214 ⟨rfl, _, rfl, h⟩
  have B73 : ∀ (M : mw_M) (r0 : Nat) (x1 : Int32) (x3 : Int32) (s0 : Int32) (h : w_X8_splitClip_b73 n M r0 x1 x3 s0 Q), mw_J Y 0 0 n M 73 [(0, .ref r0), (1, .int x1), (3, .int x3)] [.int s0] := by
    intro M r0 x1 x3 s0 h
    unfold w_X8_splitClip_b73 at h
    refine jr_istore (L1 := [(4, .int s0), (0, .ref r0), (1, .int x1), (3, .int x3)]) hC dX8_splitClip_73 hnL (by decide) rfl ?_
    refine jr_iload (j := 0) hC dX8_splitClip_75 rfl ?_
    obtain ⟨hthb12, hfhb12⟩ := h
    refine jr_if_eq (tgt := 89) hC dX8_splitClip_77 (by decide) (fun hb12 => ?_) (fun hb12 => ?_)
    · have h := hthb12 hb12
      refine jr_sub [1, 0] (L1 := [(0, .ref r0), (4, .int s0)]) rfl ?_
      exact B89 M r0 s0 h
    · have h := hfhb12 hb12
      refine jr_aload_n (j := 1) hC dX8_splitClip_80 rfl rfl ?_
      obtain ⟨hc13, h⟩ := h
      refine jr_get0 hC fl_RX8_95 hc13 dX8_splitClip_81 ?_
      refine jr_bipush (v := (12 : Int32)) hC dX8_splitClip_84 (by decide) ?_
      obtain ⟨hthb14, hfhb14⟩ := h
      refine jr_ic_ne (tgt := 112) hC dX8_splitClip_86 (by decide) (fun hb14 => ?_) (fun hb14 => ?_)
      · have h := hthb14 hb14
        refine jr_aload_n (j := 1) hC dX8_splitClip_112 rfl rfl ?_
        refine jr_iload_n (j := 2) hC dX8_splitClip_113 rfl rfl ?_
        refine jr_iconst (v := (4 : Int32)) hC dX8_splitClip_114 (by decide) ?_
        refine jr_callV_pi (As := [.int x1, .int (4 : Int32)]) (st := []) hC nc_RX8_98 (c_X8_of hlt h) hc13 rfl rfl ⟨⟨rfl, rfl⟩, ⟨by decide, by decide⟩, by decide, by decide⟩ (Nat.le_of_ble_eq_true rfl) dX8_splitClip_115 (fun v15 h => ?_)
        refine jr_iload_n (j := 3) hC dX8_splitClip_118 rfl rfl ?_
        refine jr_isub hC dX8_splitClip_119 ?_
        refine jr_nmI (fun v16 ev16 => ?_)
        have h := h v16 ev16
        refine jr_istore (L1 := [(5, .int v16), (4, .int s0), (0, .ref r0), (1, .int x1), (3, .int x3)]) hC dX8_splitClip_120 hnL (by decide) rfl ?_
        refine jr_aload_n (j := 2) hC dX8_splitClip_122 rfl rfl ?_
        refine jr_iload_n (j := 3) hC dX8_splitClip_123 rfl rfl ?_
        refine jr_aload_n (j := 2) hC dX8_splitClip_124 rfl rfl ?_
        refine jr_get0 hC fl_RX8_95 hc13 dX8_splitClip_125 ?_
        refine jr_callV_v (As := [.int x1, .int (mI M r0 6)]) (st := []) hC nc_RX8_101 (c_X8_shifts hlt h) hc13 rfl rfl ⟨⟨rfl, rfl⟩, ⟨by decide, by decide⟩, by decide, by decide⟩ (Nat.le_of_ble_eq_true rfl) dX8_splitClip_128 (fun M17 h => ?_)
        refine jr_aload_n (j := 2) hC dX8_splitClip_131 rfl rfl ?_
        refine jr_dup hC dX8_splitClip_132 rfl ?_
        refine jr_get0 hC fl_RX8_95 hc13 dX8_splitClip_133 ?_
        refine jr_iconst (v := (1 : Int32)) hC dX8_splitClip_136 (by decide) ?_
        refine jr_iadd hC dX8_splitClip_137 ?_
        obtain ⟨M18, eM18⟩ : ∃ y : mw_M, y = sI M17 r0 6 ((mI M17 r0 6) + (1 : Int32)) := ⟨_, rfl⟩
        have h := h M18 eM18
        refine jr_putI hC fp_RX8_95 hc13 eM18 dX8_splitClip_138 ?_
        refine jr_aload_n (j := 2) hC dX8_splitClip_141 rfl rfl ?_
        refine jr_aload_n (j := 2) hC dX8_splitClip_142 rfl rfl ?_
        refine jr_get0 hC fl_RX8_95 hc13 dX8_splitClip_143 ?_
        refine jr_iconst (v := (1 : Int32)) hC dX8_splitClip_146 (by decide) ?_
        refine jr_isub hC dX8_splitClip_147 ?_
        refine jr_iload_n (j := 4) hC dX8_splitClip_148 rfl rfl ?_
        refine jr_iconst (v := (0 : Int32)) hC dX8_splitClip_149 (by decide) ?_
        refine jr_callV_v (As := [.int ((mI M18 r0 6) - (1 : Int32)), .int x3, .int (0 : Int32)]) (st := []) hC nc_RX8_143 (c_X8_cuts hlt h) hc13 rfl rfl ⟨⟨rfl, rfl⟩, ⟨by decide, by decide⟩, by decide, by decide⟩ (Nat.le_of_ble_eq_true rfl) dX8_splitClip_150 (fun M19 h => ?_)
        refine jr_aload_n (j := 2) hC dX8_splitClip_153 rfl rfl ?_
        refine jr_aload_n (j := 2) hC dX8_splitClip_154 rfl rfl ?_
        refine jr_get0 hC fl_RX8_95 hc13 dX8_splitClip_155 ?_
        refine jr_iconst (v := (1 : Int32)) hC dX8_splitClip_158 (by decide) ?_
        refine jr_isub hC dX8_splitClip_159 ?_
        refine jr_bipush (v := (6 : Int32)) hC dX8_splitClip_160 (by decide) ?_
        refine jr_iconst (v := (0 : Int32)) hC dX8_splitClip_162 (by decide) ?_
        refine jr_callV_v (As := [.int ((mI M19 r0 6) - (1 : Int32)), .int (6 : Int32), .int (0 : Int32)]) (st := []) hC nc_RX8_122 (c_X8_set hlt h) hc13 rfl rfl ⟨⟨rfl, rfl⟩, ⟨by decide, by decide⟩, by decide, by decide⟩ (Nat.le_of_ble_eq_true rfl) dX8_splitClip_163 (fun M20 h => ?_)
        refine jr_aload_n (j := 2) hC dX8_splitClip_166 rfl rfl ?_
        refine jr_iload_n (j := 3) hC dX8_splitClip_167 rfl rfl ?_
        refine jr_iconst (v := (0 : Int32)) hC dX8_splitClip_168 (by decide) ?_
        refine jr_iload (j := 0) hC dX8_splitClip_169 rfl ?_
        refine jr_callV_v (As := [.int x1, .int (0 : Int32), .int v16]) (st := []) hC nc_RX8_143 (c_X8_cuts hlt h) hc13 rfl rfl ⟨⟨rfl, rfl⟩, ⟨by decide, by decide⟩, by decide, by decide⟩ (Nat.le_of_ble_eq_true rfl) dX8_splitClip_171 (fun M21 h => ?_)
        refine jr_aload_n (j := 2) hC dX8_splitClip_174 rfl rfl ?_
        refine jr_iload_n (j := 3) hC dX8_splitClip_175 rfl rfl ?_
        refine jr_bipush (v := (7 : Int32)) hC dX8_splitClip_176 (by decide) ?_
        refine jr_iconst (v := (0 : Int32)) hC dX8_splitClip_178 (by decide) ?_
        refine jr_callV_v (As := [.int x1, .int (7 : Int32), .int (0 : Int32)]) (st := []) hC nc_RX8_122 (c_X8_set hlt h) hc13 rfl rfl ⟨⟨rfl, rfl⟩, ⟨by decide, by decide⟩, by decide, by decide⟩ (Nat.le_of_ble_eq_true rfl) dX8_splitClip_179 (fun M22 h => ?_)
        refine jr_aload_n (j := 2) hC dX8_splitClip_182 rfl rfl ?_
        refine jr_aload_n (j := 2) hC dX8_splitClip_183 rfl rfl ?_
        refine jr_get0 hC fl_RX8_95 hc13 dX8_splitClip_184 ?_
        refine jr_iconst (v := (1 : Int32)) hC dX8_splitClip_187 (by decide) ?_
        refine jr_isub hC dX8_splitClip_188 ?_
        refine jr_callV_i (As := [.int ((mI M22 r0 6) - (1 : Int32))]) (st := []) hC nc_RX8_126 (c_X8_settles hlt h) hc13 rfl rfl ⟨⟨rfl, rfl⟩, ⟨by decide, by decide⟩, by decide, by decide⟩ (Nat.le_of_ble_eq_true rfl) dX8_splitClip_189 (fun M23 v24 h => ?_)
        refine jr_istore (L1 := [(6, .int v24), (5, .int v16), (4, .int s0), (0, .ref r0), (1, .int x1), (3, .int x3)]) hC dX8_splitClip_192 hnL (by decide) rfl ?_
        refine jr_aload_n (j := 3) hC dX8_splitClip_194 rfl rfl ?_
        refine jr_aload_n (j := 3) hC dX8_splitClip_195 rfl rfl ?_
        refine jr_callV_pi (As := []) (st := [.ref r0]) hC nc_RX8_129 (c_X8_isFine hlt h) hc13 rfl rfl ⟨⟨rfl, rfl⟩, ⟨by decide, by decide⟩, by decide, by decide⟩ (Nat.le_of_ble_eq_true rfl) dX8_splitClip_196 (fun v25 h => ?_)
        obtain ⟨hthb26, hfhb26⟩ := h
        refine jr_if_eq (tgt := 206) hC dX8_splitClip_199 (by decide) (fun hb26 => ?_) (fun hb26 => ?_)
        · have h := hthb26 hb26
          refine jr_iconst (v := (4 : Int32)) hC dX8_splitClip_206 (by decide) ?_
          refine jr_sub [3, 0] (L1 := [(0, .ref r0), (6, .int v24)]) rfl ?_
          exact B207 M23 r0 v24 (4 : Int32) r0 h
        · have h := hfhb26 hb26
          refine jr_iconst (v := (0 : Int32)) hC dX8_splitClip_202 (by decide) ?_
          refine jr_goto (tgt := 207) hC dX8_splitClip_203 (by decide) ?_
          refine jr_sub [3, 0] (L1 := [(0, .ref r0), (6, .int v24)]) rfl ?_
          exact B207 M23 r0 v24 (0 : Int32) r0 h
      · have h := hfhb14 hb14
        refine jr_sub [1, 0] (L1 := [(0, .ref r0), (4, .int s0)]) rfl ?_
        exact B89 M r0 s0 h
  have B72 : ∀ (M : mw_M) (r0 : Nat) (x1 : Int32) (x3 : Int32) (h : w_X8_splitClip_b72 n M r0 x1 x3 Q), mw_J Y 0 0 n M 72 [(0, .ref r0), (1, .int x1), (3, .int x3)] [] := by
    intro M r0 x1 x3 h
    unfold w_X8_splitClip_b72 at h
    refine jr_iconst (v := (0 : Int32)) hC dX8_splitClip_72 (by decide) ?_
    exact B73 M r0 x1 x3 (0 : Int32) h
  have B21 : ∀ (M : mw_M) (s0 : Int32) (h : w_X8_splitClip_b21 n M s0 Q), mw_J Y 0 0 n M 21 [] [.int s0] := by
    intro M s0 h
    unfold w_X8_splitClip_b21 at h
    exact jr_ireti hC hZ (by decide) (by decide) dX8_splitClip_21 ⟨rfl, _, rfl, h⟩
  unfold w_X8_splitClip at h
  refine jr_aload_n (j := 0) hC dX8_splitClip_0 rfl rfl ?_
  refine jr_iload_n (j := 1) hC dX8_splitClip_1 rfl rfl ?_
  obtain ⟨hc27, h⟩ := h
  refine jr_callV_pi (As := [.int x1]) (st := []) hC nc_RX8_136 (c_X8_isClip hlt h) hc27 rfl rfl ⟨⟨rfl, rfl⟩, ⟨by decide, by decide⟩, by decide, by decide⟩ (Nat.le_of_ble_eq_true rfl) dX8_splitClip_2 (fun v28 h => ?_)
  obtain ⟨hthb29, hfhb29⟩ := h
  refine jr_if_ne (tgt := 22) hC dX8_splitClip_5 (by decide) (fun hb29 => ?_) (fun hb29 => ?_)
  · have h := hthb29 hb29
    refine jr_aload_n (j := 0) hC dX8_splitClip_22 rfl rfl ?_
    refine jr_callV_v (As := []) (st := []) hC nc_RX8_119 (c_X8_tries hlt h) hc27 rfl rfl ⟨⟨rfl, rfl⟩, ⟨by decide, by decide⟩, by decide, by decide⟩ (Nat.le_of_ble_eq_true rfl) dX8_splitClip_23 (fun M30 h => ?_)
    refine jr_iload_n (j := 2) hC dX8_splitClip_26 rfl rfl ?_
    refine jr_aload_n (j := 0) hC dX8_splitClip_27 rfl rfl ?_
    refine jr_iload_n (j := 1) hC dX8_splitClip_28 rfl rfl ?_
    refine jr_iconst (v := (2 : Int32)) hC dX8_splitClip_29 (by decide) ?_
    refine jr_callV_pi (As := [.int x1, .int (2 : Int32)]) (st := [.int x2]) hC nc_RX8_98 (c_X8_of hlt h) hc27 rfl rfl ⟨⟨rfl, rfl⟩, ⟨by decide, by decide⟩, by decide, by decide⟩ (Nat.le_of_ble_eq_true rfl) dX8_splitClip_30 (fun v31 h => ?_)
    refine jr_isub hC dX8_splitClip_33 ?_
    refine jr_nmI (fun v32 ev32 => ?_)
    have h := h v32 ev32
    refine jr_istore_n (L1 := [(3, .int v32), (0, .ref a0), (1, .int x1), (2, .int x2)]) hC dX8_splitClip_34 rfl hnL (by decide) rfl ?_
    refine jr_iload_n (j := 3) hC dX8_splitClip_35 rfl rfl ?_
    refine jr_aload_n (j := 1) hC dX8_splitClip_36 rfl rfl ?_
    refine jr_iload_n (j := 2) hC dX8_splitClip_37 rfl rfl ?_
    refine jr_iconst (v := (2 : Int32)) hC dX8_splitClip_38 (by decide) ?_
    refine jr_callV_pi (As := [.int x1, .int (2 : Int32)]) (st := [.int x2]) hC nc_RX8_98 (c_X8_of hlt h) hc27 rfl rfl ⟨⟨rfl, rfl⟩, ⟨by decide, by decide⟩, by decide, by decide⟩ (Nat.le_of_ble_eq_true rfl) dX8_splitClip_39 (fun v33 h => ?_)
    obtain ⟨hthb34, hfhb34⟩ := h
    refine jr_ic_le (tgt := 72) hC dX8_splitClip_42 (by decide) (fun hb34 => ?_) (fun hb34 => ?_)
    · have h := hthb34 hb34
      refine jr_sub [1, 2, 0] (L1 := [(0, .ref a0), (1, .int x1), (3, .int v32)]) rfl ?_
      exact B72 M30 a0 x1 v32 h
    · have h := hfhb34 hb34
      refine jr_iload_n (j := 3) hC dX8_splitClip_45 rfl rfl ?_
      refine jr_aload_n (j := 1) hC dX8_splitClip_46 rfl rfl ?_
      refine jr_iload_n (j := 2) hC dX8_splitClip_47 rfl rfl ?_
      refine jr_callV_pi (As := [.int x1]) (st := [.int x2]) hC nc_RX8_108 (c_X8_endOf hlt h) hc27 rfl rfl ⟨⟨rfl, rfl⟩, ⟨by decide, by decide⟩, by decide, by decide⟩ (Nat.le_of_ble_eq_true rfl) dX8_splitClip_48 (fun v35 h => ?_)
      obtain ⟨hthb36, hfhb36⟩ := h
      refine jr_ic_ge (tgt := 72) hC dX8_splitClip_51 (by decide) (fun hb36 => ?_) (fun hb36 => ?_)
      · have h := hthb36 hb36
        refine jr_sub [1, 2, 0] (L1 := [(0, .ref a0), (1, .int x1), (3, .int v32)]) rfl ?_
        exact B72 M30 a0 x1 v32 h
      · have h := hfhb36 hb36
        refine jr_aload_n (j := 1) hC dX8_splitClip_54 rfl rfl ?_
        refine jr_iload_n (j := 2) hC dX8_splitClip_55 rfl rfl ?_
        refine jr_iconst (v := (3 : Int32)) hC dX8_splitClip_56 (by decide) ?_
        refine jr_callV_pi (As := [.int x1, .int (3 : Int32)]) (st := []) hC nc_RX8_98 (c_X8_of hlt h) hc27 rfl rfl ⟨⟨rfl, rfl⟩, ⟨by decide, by decide⟩, by decide, by decide⟩ (Nat.le_of_ble_eq_true rfl) dX8_splitClip_57 (fun v37 h => ?_)
        refine jr_iload_n (j := 0) hC dX8_splitClip_60 rfl rfl ?_
        refine jr_iadd hC dX8_splitClip_61 ?_
        refine jr_callS_pi (As := [.int (v37 + v32)]) (st := []) hC nc_RX8_114 (c_X8_isPlace hlt h) rfl rfl ⟨⟨rfl, rfl⟩, ⟨by decide, by decide⟩, by decide, by decide⟩ (Nat.le_of_ble_eq_true rfl) dX8_splitClip_62 (fun v38 h => ?_)
        obtain ⟨hthb39, hfhb39⟩ := h
        refine jr_if_eq (tgt := 72) hC dX8_splitClip_65 (by decide) (fun hb39 => ?_) (fun hb39 => ?_)
        · have h := hthb39 hb39
          refine jr_sub [1, 2, 0] (L1 := [(0, .ref a0), (1, .int x1), (3, .int v32)]) rfl ?_
          exact B72 M30 a0 x1 v32 h
        · have h := hfhb39 hb39
          refine jr_iconst (v := (1 : Int32)) hC dX8_splitClip_68 (by decide) ?_
          refine jr_goto (tgt := 73) hC dX8_splitClip_69 (by decide) ?_
          refine jr_sub [1, 2, 0] (L1 := [(0, .ref a0), (1, .int x1), (3, .int v32)]) rfl ?_
          exact B73 M30 a0 x1 v32 (1 : Int32) h
  · have h := hfhb29 hb29
    refine jr_aload_n (j := 0) hC dX8_splitClip_8 rfl rfl ?_
    refine jr_iconst (v := (1 : Int32)) hC dX8_splitClip_9 (by decide) ?_
    refine jr_callV_i (As := [.int (1 : Int32)]) (st := []) hC nc_RX8_51 (c_X8_refuses hlt h) hc27 rfl rfl ⟨⟨rfl, rfl⟩, ⟨by decide, by decide⟩, by decide, by decide⟩ (Nat.le_of_ble_eq_true rfl) dX8_splitClip_10 (fun M40 v41 h => ?_)
    obtain ⟨hthb42, hfhb42⟩ := h
    refine jr_if_eq (tgt := 20) hC dX8_splitClip_13 (by decide) (fun hb42 => ?_) (fun hb42 => ?_)
    · have h := hthb42 hb42
      refine jr_iconst (v := (-1 : Int32)) hC dX8_splitClip_20 (by decide) ?_
      refine jr_sub [] (L1 := []) rfl ?_
      exact B21 M40 (-1 : Int32) h
    · have h := hfhb42 hb42
      refine jr_iconst (v := (0 : Int32)) hC dX8_splitClip_16 (by decide) ?_
      refine jr_goto (tgt := 21) hC dX8_splitClip_17 (by decide) ?_
      refine jr_sub [] (L1 := []) rfl ?_
      exact B21 M40 (0 : Int32) h
set_option maxHeartbeats 4000000 in
set_option maxRecDepth 100000 in
theorem c_X8_removeClip {G : mw_G} {l : Launch} (hlt : l.stackTraces = false) {n : Nat} {M : mw_M} {a0 : Nat} {x1 : Int32} {Q : mw_M → Int32 → Prop} (h : w_X8_removeClip n M a0 x1 Q) : mw_Met G l yX8_removeClip (.code yX8_removeClip cX8_removeClip 2 (some .int)) { frames := 2, cells := 0, slots := 0, locals := 46 } n M [.ref a0, .int x1] (fun n1 M1 v => n1 = n ∧ mw_rI Q M1 v) (fun _ _ => False) := by
  refine mw_enter (L0 := [(0, .ref a0), (1, .int x1)]) hlt rfl rfl (plainFor_of_name (by decide)) (Nat.le_of_ble_eq_true rfl) rfl ?_
  intro Y hC0 hZ hnL hini0 hn00
  have hC : mw_C G l _ Y cX8_removeClip RX8 := hC0
  have B14 : ∀ (M : mw_M) (r0 : Nat) (x1 : Int32) (s0 : Int32) (s1r : Nat) (h : w_X8_removeClip_b14 n M r0 x1 s0 s1r Q), mw_J Y 0 0 n M 14 [(0, .ref r0), (1, .int x1)] [.int s0, .ref s1r] := by
    intro M r0 x1 s0 s1r h
    unfold w_X8_removeClip_b14 at h
    obtain ⟨hc1, h⟩ := h
    refine jr_callV_i (As := [.int s0]) (st := []) hC nc_RX8_73 (c_X8_refusesChange hlt h) hc1 rfl rfl ⟨⟨rfl, rfl⟩, ⟨by decide, by decide⟩, by decide, by decide⟩ (Nat.le_of_ble_eq_true rfl) dX8_removeClip_14 (fun M2 v3 h => ?_)
    obtain ⟨hthb4, hfhb4⟩ := h
    refine jr_if_eq (tgt := 22) hC dX8_removeClip_17 (by decide) (fun hb4 => ?_) (fun hb4 => ?_)
    · have h := hthb4 hb4
      refine jr_aload_n (j := 0) hC dX8_removeClip_22 rfl rfl ?_
      obtain ⟨hc5, h⟩ := h
      refine jr_callV_v (As := []) (st := []) hC nc_RX8_119 (c_X8_tries hlt h) hc5 rfl rfl ⟨⟨rfl, rfl⟩, ⟨by decide, by decide⟩, by decide, by decide⟩ (Nat.le_of_ble_eq_true rfl) dX8_removeClip_23 (fun M6 h => ?_)
      refine jr_aload_n (j := 0) hC dX8_removeClip_26 rfl rfl ?_
      refine jr_iload_n (j := 1) hC dX8_removeClip_27 rfl rfl ?_
      refine jr_callV_v (As := [.int x1]) (st := []) hC nc_RX8_146 (c_X8_leaves hlt h) hc5 rfl rfl ⟨⟨rfl, rfl⟩, ⟨by decide, by decide⟩, by decide, by decide⟩ (Nat.le_of_ble_eq_true rfl) dX8_removeClip_28 (fun M7 h => ?_)
      refine jr_aload_n (j := 0) hC dX8_removeClip_31 rfl rfl ?_
      refine jr_callV_v (As := []) (st := []) hC nc_RX8_133 (c_X8_takesOver hlt h) hc5 rfl rfl ⟨⟨rfl, rfl⟩, ⟨by decide, by decide⟩, by decide, by decide⟩ (Nat.le_of_ble_eq_true rfl) dX8_removeClip_32 (fun M8 h => ?_)
      refine jr_aload_n (j := 0) hC dX8_removeClip_35 rfl rfl ?_
      refine jr_get0 hC fl_RX8_95 hc5 dX8_removeClip_36 ?_
      exact jr_ireti hC hZ (by decide) (by decide) dX8_removeClip_39 ⟨rfl, _, rfl, h⟩
    · have h := hfhb4 hb4
      refine jr_iconst (v := (0 : Int32)) hC dX8_removeClip_20 (by decide) ?_
      exact jr_ireti hC hZ (by decide) (by decide) dX8_removeClip_21 ⟨rfl, _, rfl, h⟩
  unfold w_X8_removeClip at h
  refine jr_aload_n (j := 0) hC dX8_removeClip_0 rfl rfl ?_
  refine jr_aload_n (j := 0) hC dX8_removeClip_1 rfl rfl ?_
  refine jr_iload_n (j := 1) hC dX8_removeClip_2 rfl rfl ?_
  obtain ⟨hc9, h⟩ := h
  refine jr_callV_pi (As := [.int x1]) (st := [.ref a0]) hC nc_RX8_136 (c_X8_isClip hlt h) hc9 rfl rfl ⟨⟨rfl, rfl⟩, ⟨by decide, by decide⟩, by decide, by decide⟩ (Nat.le_of_ble_eq_true rfl) dX8_removeClip_3 (fun v10 h => ?_)
  obtain ⟨hthb11, hfhb11⟩ := h
  refine jr_if_eq (tgt := 13) hC dX8_removeClip_6 (by decide) (fun hb11 => ?_) (fun hb11 => ?_)
  · have h := hthb11 hb11
    refine jr_iconst (v := (1 : Int32)) hC dX8_removeClip_13 (by decide) ?_
    exact B14 M a0 x1 (1 : Int32) a0 h
  · have h := hfhb11 hb11
    refine jr_iconst (v := (0 : Int32)) hC dX8_removeClip_9 (by decide) ?_
    refine jr_goto (tgt := 14) hC dX8_removeClip_10 (by decide) ?_
    exact B14 M a0 x1 (0 : Int32) a0 h
set_option maxHeartbeats 4000000 in
set_option maxRecDepth 100000 in
theorem c_X8_deletes {G : mw_G} {l : Launch} (hlt : l.stackTraces = false) {n : Nat} {M : mw_M} {a0 : Nat} {x1 : Int32} {x2 : Int32} {x3 : Int32} {Q : mw_M → Int32 → Prop} (h : w_X8_deletes n M a0 x1 x2 x3 Q) : mw_Met G l yX8_deletes (.code yX8_deletes cX8_deletes 6 (some .boolean)) { frames := 3, cells := 0, slots := 0, locals := 68 } n M [.ref a0, .int x1, .int x2, .int x3] (fun n1 M1 v => n1 = n ∧ mw_rI Q M1 v) (fun _ _ => False) := by
  refine mw_enter (L0 := [(0, .ref a0), (1, .int x1), (2, .int x2), (3, .int x3)]) hlt rfl rfl (plainFor_of_name (by decide)) (Nat.le_of_ble_eq_true rfl) rfl ?_
  intro Y hC0 hZ hnL hini0 hn00
  have hC : mw_C G l _ Y cX8_deletes RX8 := hC0
  have B105 : ∀ (M : mw_M) (s0 : Int32) (h : w_X8_deletes_b105 n M s0 Q), mw_J Y 0 0 n M 105 [] [.int s0] := by
    intro M s0 h
    unfold w_X8_deletes_b105 at h
    obtain ⟨hc1, h⟩ := h
    exact jr_iretz hC hZ (by decide) (by decide) hc1 dX8_deletes_105 ⟨rfl, _, rfl, h⟩
  have B88 : ∀ (M : mw_M) (r0 : Nat) (x1 : Int32) (h : w_X8_deletes_b88 n M r0 x1 Q), mw_J Y 0 0 n M 88 [(0, .ref r0), (1, .int x1)] [] := by
    intro M r0 x1 h
    unfold w_X8_deletes_b88 at h
    refine jr_aload_n (j := 0) hC dX8_deletes_88 rfl rfl ?_
    refine jr_iload_n (j := 1) hC dX8_deletes_89 rfl rfl ?_
    refine jr_iconst (v := (3 : Int32)) hC dX8_deletes_90 (by decide) ?_
    obtain ⟨hc2, h⟩ := h
    refine jr_callV_pi (As := [.int x1, .int (3 : Int32)]) (st := []) hC nc_RX8_98 (c_X8_of hlt h) hc2 rfl rfl ⟨⟨rfl, rfl⟩, ⟨by decide, by decide⟩, by decide, by decide⟩ (Nat.le_of_ble_eq_true rfl) dX8_deletes_91 (fun v3 h => ?_)
    refine jr_sipush (v := (4000 : Int32)) hC dX8_deletes_94 (by decide) ?_
    obtain ⟨hthb4, hfhb4⟩ := h
    refine jr_ic_ge (tgt := 104) hC dX8_deletes_97 (by decide) (fun hb4 => ?_) (fun hb4 => ?_)
    · have h := hthb4 hb4
      refine jr_iconst (v := (0 : Int32)) hC dX8_deletes_104 (by decide) ?_
      refine jr_sub [] (L1 := []) rfl ?_
      exact B105 M (0 : Int32) h
    · have h := hfhb4 hb4
      refine jr_iconst (v := (1 : Int32)) hC dX8_deletes_100 (by decide) ?_
      refine jr_goto (tgt := 105) hC dX8_deletes_101 (by decide) ?_
      refine jr_sub [] (L1 := []) rfl ?_
      exact B105 M (1 : Int32) h
  have B62 : ∀ (M : mw_M) (r0 : Nat) (x1 : Int32) (x2 : Int32) (x3 : Int32) (h : w_X8_deletes_b62 n M r0 x1 x2 x3 Q), mw_J Y 0 0 n M 62 [(0, .ref r0), (1, .int x1), (2, .int x2), (3, .int x3)] [] := by
    intro M r0 x1 x2 x3 h
    unfold w_X8_deletes_b62 at h
    refine jr_aload_n (j := 0) hC dX8_deletes_62 rfl rfl ?_
    refine jr_iload_n (j := 1) hC dX8_deletes_63 rfl rfl ?_
    refine jr_iconst (v := (2 : Int32)) hC dX8_deletes_64 (by decide) ?_
    obtain ⟨hc5, h⟩ := h
    refine jr_callV_pi (As := [.int x1, .int (2 : Int32)]) (st := []) hC nc_RX8_98 (c_X8_of hlt h) hc5 rfl rfl ⟨⟨rfl, rfl⟩, ⟨by decide, by decide⟩, by decide, by decide⟩ (Nat.le_of_ble_eq_true rfl) dX8_deletes_65 (fun v6 h => ?_)
    refine jr_iload_n (j := 3) hC dX8_deletes_68 rfl rfl ?_
    obtain ⟨hthb7, hfhb7⟩ := h
    refine jr_ic_lt (tgt := 88) hC dX8_deletes_69 (by decide) (fun hb7 => ?_) (fun hb7 => ?_)
    · have h := hthb7 hb7
      refine jr_sub [0, 1] (L1 := [(0, .ref r0), (1, .int x1)]) rfl ?_
      exact B88 M r0 x1 h
    · have h := hfhb7 hb7
      refine jr_aload_n (j := 0) hC dX8_deletes_72 rfl rfl ?_
      refine jr_iload_n (j := 1) hC dX8_deletes_73 rfl rfl ?_
      refine jr_iconst (v := (2 : Int32)) hC dX8_deletes_74 (by decide) ?_
      refine jr_aload_n (j := 0) hC dX8_deletes_75 rfl rfl ?_
      refine jr_iload_n (j := 1) hC dX8_deletes_76 rfl rfl ?_
      refine jr_iconst (v := (2 : Int32)) hC dX8_deletes_77 (by decide) ?_
      refine jr_callV_pi (As := [.int x1, .int (2 : Int32)]) (st := [.int (2 : Int32), .int x1, .ref r0]) hC nc_RX8_98 (c_X8_of hlt h) hc5 rfl rfl ⟨⟨rfl, rfl⟩, ⟨by decide, by decide⟩, by decide, by decide⟩ (Nat.le_of_ble_eq_true rfl) dX8_deletes_78 (fun v8 h => ?_)
      refine jr_iload_n (j := 3) hC dX8_deletes_81 rfl rfl ?_
      refine jr_iload_n (j := 2) hC dX8_deletes_82 rfl rfl ?_
      refine jr_isub hC dX8_deletes_83 ?_
      refine jr_isub hC dX8_deletes_84 ?_
      refine jr_callV_v (As := [.int x1, .int (2 : Int32), .int (v8 - (x3 - x2))]) (st := []) hC nc_RX8_122 (c_X8_set hlt h) hc5 rfl rfl ⟨⟨rfl, rfl⟩, ⟨by decide, by decide⟩, by decide, by decide⟩ (Nat.le_of_ble_eq_true rfl) dX8_deletes_85 (fun M9 h => ?_)
      refine jr_sub [0, 1] (L1 := [(0, .ref r0), (1, .int x1)]) rfl ?_
      exact B88 M9 r0 x1 h
  have B40 : ∀ (M : mw_M) (r0 : Nat) (x1 : Int32) (x2 : Int32) (x3 : Int32) (x4 : Int32) (h : w_X8_deletes_b40 n M r0 x1 x2 x3 x4 Q), mw_J Y 0 0 n M 40 [(0, .ref r0), (1, .int x1), (2, .int x2), (3, .int x3), (4, .int x4)] [] := by
    intro M r0 x1 x2 x3 x4 h
    unfold w_X8_deletes_b40 at h
    refine jr_iload (j := 4) hC dX8_deletes_40 rfl ?_
    refine jr_iload_n (j := 2) hC dX8_deletes_42 rfl rfl ?_
    obtain ⟨hthb10, hfhb10⟩ := h
    refine jr_ic_lt (tgt := 62) hC dX8_deletes_43 (by decide) (fun hb10 => ?_) (fun hb10 => ?_)
    · have h := hthb10 hb10
      refine jr_sub [0, 1, 2, 3] (L1 := [(0, .ref r0), (1, .int x1), (2, .int x2), (3, .int x3)]) rfl ?_
      exact B62 M r0 x1 x2 x3 h
    · have h := hfhb10 hb10
      refine jr_iload (j := 4) hC dX8_deletes_46 rfl ?_
      refine jr_iload_n (j := 3) hC dX8_deletes_48 rfl rfl ?_
      obtain ⟨hthb11, hfhb11⟩ := h
      refine jr_ic_ge (tgt := 62) hC dX8_deletes_49 (by decide) (fun hb11 => ?_) (fun hb11 => ?_)
      · have h := hthb11 hb11
        refine jr_sub [0, 1, 2, 3] (L1 := [(0, .ref r0), (1, .int x1), (2, .int x2), (3, .int x3)]) rfl ?_
        exact B62 M r0 x1 x2 x3 h
      · have h := hfhb11 hb11
        refine jr_aload_n (j := 0) hC dX8_deletes_52 rfl rfl ?_
        refine jr_iload_n (j := 1) hC dX8_deletes_53 rfl rfl ?_
        refine jr_iload_n (j := 3) hC dX8_deletes_54 rfl rfl ?_
        refine jr_iload (j := 4) hC dX8_deletes_55 rfl ?_
        refine jr_isub hC dX8_deletes_57 ?_
        refine jr_iconst (v := (0 : Int32)) hC dX8_deletes_58 (by decide) ?_
        obtain ⟨hc12, h⟩ := h
        refine jr_callV_v (As := [.int x1, .int (x3 - x4), .int (0 : Int32)]) (st := []) hC nc_RX8_143 (c_X8_cuts hlt h) hc12 rfl rfl ⟨⟨rfl, rfl⟩, ⟨by decide, by decide⟩, by decide, by decide⟩ (Nat.le_of_ble_eq_true rfl) dX8_deletes_59 (fun M13 h => ?_)
        refine jr_sub [0, 1, 2, 3] (L1 := [(0, .ref r0), (1, .int x1), (2, .int x2), (3, .int x3)]) rfl ?_
        exact B62 M13 r0 x1 x2 x3 h
  unfold w_X8_deletes at h
  refine jr_aload_n (j := 0) hC dX8_deletes_0 rfl rfl ?_
  refine jr_iload_n (j := 1) hC dX8_deletes_1 rfl rfl ?_
  refine jr_iconst (v := (2 : Int32)) hC dX8_deletes_2 (by decide) ?_
  obtain ⟨hc14, h⟩ := h
  refine jr_callV_pi (As := [.int x1, .int (2 : Int32)]) (st := []) hC nc_RX8_98 (c_X8_of hlt h) hc14 rfl rfl ⟨⟨rfl, rfl⟩, ⟨by decide, by decide⟩, by decide, by decide⟩ (Nat.le_of_ble_eq_true rfl) dX8_deletes_3 (fun v15 h => ?_)
  refine jr_istore (L1 := [(4, .int v15), (0, .ref a0), (1, .int x1), (2, .int x2), (3, .int x3)]) hC dX8_deletes_6 hnL (by decide) rfl ?_
  refine jr_aload_n (j := 1) hC dX8_deletes_8 rfl rfl ?_
  refine jr_iload_n (j := 2) hC dX8_deletes_9 rfl rfl ?_
  refine jr_callV_pi (As := [.int x1]) (st := []) hC nc_RX8_108 (c_X8_endOf hlt h) hc14 rfl rfl ⟨⟨rfl, rfl⟩, ⟨by decide, by decide⟩, by decide, by decide⟩ (Nat.le_of_ble_eq_true rfl) dX8_deletes_10 (fun v16 h => ?_)
  refine jr_istore (L1 := [(5, .int v16), (4, .int v15), (0, .ref a0), (1, .int x1), (2, .int x2), (3, .int x3)]) hC dX8_deletes_13 hnL (by decide) rfl ?_
  refine jr_iload (j := 1) hC dX8_deletes_15 rfl ?_
  refine jr_iload_n (j := 4) hC dX8_deletes_17 rfl rfl ?_
  obtain ⟨hthb17, hfhb17⟩ := h
  refine jr_ic_ge (tgt := 40) hC dX8_deletes_18 (by decide) (fun hb17 => ?_) (fun hb17 => ?_)
  · have h := hthb17 hb17
    refine jr_sub [2, 3, 4, 5, 1] (L1 := [(0, .ref a0), (1, .int x1), (2, .int x2), (3, .int x3), (4, .int v15)]) rfl ?_
    exact B40 M a0 x1 x2 x3 v15 h
  · have h := hfhb17 hb17
    refine jr_iload (j := 0) hC dX8_deletes_21 rfl ?_
    refine jr_iload_n (j := 4) hC dX8_deletes_23 rfl rfl ?_
    obtain ⟨hthb18, hfhb18⟩ := h
    refine jr_ic_le (tgt := 40) hC dX8_deletes_24 (by decide) (fun hb18 => ?_) (fun hb18 => ?_)
    · have h := hthb18 hb18
      refine jr_sub [2, 3, 4, 5, 1] (L1 := [(0, .ref a0), (1, .int x1), (2, .int x2), (3, .int x3), (4, .int v15)]) rfl ?_
      exact B40 M a0 x1 x2 x3 v15 h
    · have h := hfhb18 hb18
      refine jr_aload_n (j := 2) hC dX8_deletes_27 rfl rfl ?_
      refine jr_iload_n (j := 3) hC dX8_deletes_28 rfl rfl ?_
      refine jr_iconst (v := (0 : Int32)) hC dX8_deletes_29 (by decide) ?_
      refine jr_iload (j := 0) hC dX8_deletes_30 rfl ?_
      refine jr_iload_n (j := 4) hC dX8_deletes_32 rfl rfl ?_
      refine jr_isub hC dX8_deletes_33 ?_
      refine jr_callV_v (As := [.int x1, .int (0 : Int32), .int (v16 - x2)]) (st := []) hC nc_RX8_143 (c_X8_cuts hlt h) hc14 rfl rfl ⟨⟨rfl, rfl⟩, ⟨by decide, by decide⟩, by decide, by decide⟩ (Nat.le_of_ble_eq_true rfl) dX8_deletes_34 (fun M19 h => ?_)
      refine jr_goto (tgt := 62) hC dX8_deletes_37 (by decide) ?_
      refine jr_sub [2, 3, 4, 5] (L1 := [(0, .ref a0), (1, .int x1), (2, .int x2), (3, .int x3)]) rfl ?_
      exact B62 M19 a0 x1 x2 x3 h
set_option maxHeartbeats 4000000 in
set_option maxRecDepth 100000 in
theorem c_X8_ordersAll {G : mw_G} {l : Launch} (hlt : l.stackTraces = false) {n : Nat} {M : mw_M} {a0 : Nat} {Q : mw_M → Prop} (h : w_X8_ordersAll n M a0 Q) : mw_Met G l yX8_ordersAll (.code yX8_ordersAll cX8_ordersAll 3 none) { frames := 2, cells := 0, slots := 0, locals := 46 } n M [.ref a0] (fun n1 M1 v => n1 = n ∧ mw_rV Q M1 v) (fun _ _ => False) := by
  refine mw_enter (L0 := [(0, .ref a0)]) hlt rfl rfl (plainFor_of_name (by decide)) (Nat.le_of_ble_eq_true rfl) rfl ?_
  intro Y hC0 hZ hnL hini0 hn00
  have hC : mw_C G l _ Y cX8_ordersAll RX8 := hC0
  have B56 : ∀ (M : mw_M) (r0 : Nat) (x1 : Int32) (x2 : Int32) (K2 : mw_M → Int32 → Prop) (hK2 : ∀ (M_ : mw_M) (x1_ : Int32), K2 M_ x1_ → mw_J Y 0 0 n M_ 2 [(0, .ref r0), (1, .int x1_)] []) (h : w_X8_ordersAll_b56 n M r0 x1 x2 Q K2), mw_J Y 0 0 n M 56 [(0, .ref r0), (1, .int x1), (2, .int x2)] [] := by
    intro M r0 x1 x2 K2 hK2 h
    unfold w_X8_ordersAll_b56 at h
    refine jr_aload_n (j := 0) hC dX8_ordersAll_56 rfl rfl ?_
    refine jr_iload_n (j := 1) hC dX8_ordersAll_57 rfl rfl ?_
    refine jr_iload_n (j := 2) hC dX8_ordersAll_58 rfl rfl ?_
    obtain ⟨hc1, h⟩ := h
    refine jr_callV_v (As := [.int x1, .int x2]) (st := []) hC nc_RX8_105 (c_X8_carries hlt h) hc1 rfl rfl ⟨⟨rfl, rfl⟩, ⟨by decide, by decide⟩, by decide, by decide⟩ (Nat.le_of_ble_eq_true rfl) dX8_ordersAll_59 (fun M2 h => ?_)
    obtain ⟨v3, ev3⟩ : ∃ y : Int32, y = (x1 + (1 : Int32)) := ⟨_, rfl⟩
    have h := h v3 ev3
    refine jr_iinc (j := 1) (v := v3) (L1 := [(1, .int v3), (0, .ref r0), (2, .int x2)]) hC dX8_ordersAll_62 rfl (by rw [ev3]; rfl) hnL (by decide) rfl ?_
    refine jr_goto (tgt := 2) hC dX8_ordersAll_65 (by decide) ?_
    refine jr_sub [1, 0] (L1 := [(0, .ref r0), (1, .int v3)]) rfl ?_
    exact hK2 M2 v3 h
  have B12 : ∀ (M : mw_M) (r0 : Nat) (x1 : Int32) (x2 : Int32) (K2 : mw_M → Int32 → Prop) (hK2 : ∀ (M_ : mw_M) (x1_ : Int32), K2 M_ x1_ → mw_J Y 0 0 n M_ 2 [(0, .ref r0), (1, .int x1_)] []) (h : w_X8_ordersAll_b12 n M r0 x1 x2 Q K2), mw_J Y 0 0 n M 12 [(0, .ref r0), (1, .int x1), (2, .int x2)] [] := by
    intro M r0 x1 x2 K2 hK2 h
    obtain ⟨Inv, mu, h0, hs⟩ := h
    refine mw_loop2 (fun (M : mw_M) (x2 : Int32) => mw_J Y 0 0 n M 12 [(0, .ref r0), (1, .int x1), (2, .int x2)] []) Inv mu (fun M x2 hI hrec => ?_) M x2 h0
    have h := hs M x2 hI
    refine jr_iload_n (j := 2) hC dX8_ordersAll_12 rfl rfl ?_
    obtain ⟨hthb4, hfhb4⟩ := h
    refine jr_if_le (tgt := 56) hC dX8_ordersAll_13 (by decide) (fun hb4 => ?_) (fun hb4 => ?_)
    · have h := hthb4 hb4
      exact B56 M r0 x1 x2 K2 hK2 h
    · have h := hfhb4 hb4
      refine jr_aload_n (j := 0) hC dX8_ordersAll_16 rfl rfl ?_
      refine jr_iload_n (j := 2) hC dX8_ordersAll_17 rfl rfl ?_
      refine jr_iconst (v := (1 : Int32)) hC dX8_ordersAll_18 (by decide) ?_
      refine jr_isub hC dX8_ordersAll_19 ?_
      refine jr_iconst (v := (0 : Int32)) hC dX8_ordersAll_20 (by decide) ?_
      obtain ⟨hc5, h⟩ := h
      refine jr_callV_pi (As := [.int (x2 - (1 : Int32)), .int (0 : Int32)]) (st := []) hC nc_RX8_98 (c_X8_of hlt h) hc5 rfl rfl ⟨⟨rfl, rfl⟩, ⟨by decide, by decide⟩, by decide, by decide⟩ (Nat.le_of_ble_eq_true rfl) dX8_ordersAll_21 (fun v6 h => ?_)
      refine jr_aload_n (j := 0) hC dX8_ordersAll_24 rfl rfl ?_
      refine jr_iload_n (j := 1) hC dX8_ordersAll_25 rfl rfl ?_
      refine jr_iconst (v := (0 : Int32)) hC dX8_ordersAll_26 (by decide) ?_
      refine jr_callV_pi (As := [.int x1, .int (0 : Int32)]) (st := [.int v6]) hC nc_RX8_98 (c_X8_of hlt h) hc5 rfl rfl ⟨⟨rfl, rfl⟩, ⟨by decide, by decide⟩, by decide, by decide⟩ (Nat.le_of_ble_eq_true rfl) dX8_ordersAll_27 (fun v7 h => ?_)
      obtain ⟨hthb8, hfhb8⟩ := h
      refine jr_ic_ne (tgt := 56) hC dX8_ordersAll_30 (by decide) (fun hb8 => ?_) (fun hb8 => ?_)
      · have h := hthb8 hb8
        exact B56 M r0 x1 x2 K2 hK2 h
      · have h := hfhb8 hb8
        refine jr_aload_n (j := 0) hC dX8_ordersAll_33 rfl rfl ?_
        refine jr_iload_n (j := 2) hC dX8_ordersAll_34 rfl rfl ?_
        refine jr_iconst (v := (1 : Int32)) hC dX8_ordersAll_35 (by decide) ?_
        refine jr_isub hC dX8_ordersAll_36 ?_
        refine jr_iconst (v := (2 : Int32)) hC dX8_ordersAll_37 (by decide) ?_
        refine jr_callV_pi (As := [.int (x2 - (1 : Int32)), .int (2 : Int32)]) (st := []) hC nc_RX8_98 (c_X8_of hlt h) hc5 rfl rfl ⟨⟨rfl, rfl⟩, ⟨by decide, by decide⟩, by decide, by decide⟩ (Nat.le_of_ble_eq_true rfl) dX8_ordersAll_38 (fun v9 h => ?_)
        refine jr_aload_n (j := 0) hC dX8_ordersAll_41 rfl rfl ?_
        refine jr_iload_n (j := 1) hC dX8_ordersAll_42 rfl rfl ?_
        refine jr_iconst (v := (2 : Int32)) hC dX8_ordersAll_43 (by decide) ?_
        refine jr_callV_pi (As := [.int x1, .int (2 : Int32)]) (st := [.int v9]) hC nc_RX8_98 (c_X8_of hlt h) hc5 rfl rfl ⟨⟨rfl, rfl⟩, ⟨by decide, by decide⟩, by decide, by decide⟩ (Nat.le_of_ble_eq_true rfl) dX8_ordersAll_44 (fun v10 h => ?_)
        obtain ⟨hthb11, hfhb11⟩ := h
        refine jr_ic_le (tgt := 56) hC dX8_ordersAll_47 (by decide) (fun hb11 => ?_) (fun hb11 => ?_)
        · have h := hthb11 hb11
          exact B56 M r0 x1 x2 K2 hK2 h
        · have h := hfhb11 hb11
          obtain ⟨v12, ev12⟩ : ∃ y : Int32, y = (x2 + (-1 : Int32)) := ⟨_, rfl⟩
          have h := h v12 ev12
          refine jr_iinc (j := 2) (v := v12) (L1 := [(2, .int v12), (0, .ref r0), (1, .int x1)]) hC dX8_ordersAll_50 rfl (by rw [ev12]; rfl) hnL (by decide) rfl ?_
          refine jr_goto (tgt := 12) hC dX8_ordersAll_53 (by decide) ?_
          refine jr_sub [1, 2, 0] (L1 := [(0, .ref r0), (1, .int x1), (2, .int v12)]) rfl ?_
          exact hrec M v12 h
  have B2 : ∀ (M : mw_M) (r0 : Nat) (x1 : Int32) (h : w_X8_ordersAll_b2 n M r0 x1 Q), mw_J Y 0 0 n M 2 [(0, .ref r0), (1, .int x1)] [] := by
    intro M r0 x1 h
    obtain ⟨Inv, mu, h0, hs⟩ := h
    refine mw_loop2 (fun (M : mw_M) (x1 : Int32) => mw_J Y 0 0 n M 2 [(0, .ref r0), (1, .int x1)] []) Inv mu (fun M x1 hI hrec => ?_) M x1 h0
    have h := hs M x1 hI
    refine jr_iload_n (j := 1) hC dX8_ordersAll_2 rfl rfl ?_
    refine jr_aload_n (j := 0) hC dX8_ordersAll_3 rfl rfl ?_
    obtain ⟨hc13, h⟩ := h
    refine jr_get0 hC fl_RX8_95 hc13 dX8_ordersAll_4 ?_
    obtain ⟨hthb14, hfhb14⟩ := h
    refine jr_ic_ge (tgt := 68) hC dX8_ordersAll_7 (by decide) (fun hb14 => ?_) (fun hb14 => ?_)
    · have h := hthb14 hb14
      exact jr_vret hC hZ (by decide) (by decide) dX8_ordersAll_68 ⟨rfl, rfl, h⟩
    · have h := hfhb14 hb14
      refine jr_iload_n (j := 1) hC dX8_ordersAll_10 rfl rfl ?_
      refine jr_istore_n (L1 := [(2, .int x1), (0, .ref r0), (1, .int x1)]) hC dX8_ordersAll_11 rfl hnL (by decide) rfl ?_
      refine jr_sub [1, 2, 0] (L1 := [(0, .ref r0), (1, .int x1), (2, .int x1)]) rfl ?_
      exact B12 M r0 x1 x1 (fun (M_ : mw_M) (x1_ : Int32) => Inv M_ x1_ ∧ mu M_ x1_ < mu M x1) (fun M_ x1_ h9 => hrec M_ x1_ h9) h
  unfold w_X8_ordersAll at h
  refine jr_iconst (v := (1 : Int32)) hC dX8_ordersAll_0 (by decide) ?_
  refine jr_istore_n (L1 := [(1, .int (1 : Int32)), (0, .ref a0)]) hC dX8_ordersAll_1 rfl hnL (by decide) rfl ?_
  refine jr_sub [1, 0] (L1 := [(0, .ref a0), (1, .int (1 : Int32))]) rfl ?_
  exact B2 M a0 (1 : Int32) h
set_option maxHeartbeats 4000000 in
set_option maxRecDepth 100000 in
theorem c_X8_deleteTime {G : mw_G} {l : Launch} (hlt : l.stackTraces = false) {n : Nat} {M : mw_M} {a0 : Nat} {x1 : Int32} {x2 : Int32} {x3 : Int32} {Q : mw_M → Int32 → Prop} (h : w_X8_deleteTime n M a0 x1 x2 x3 Q) : mw_Met G l yX8_deleteTime (.code yX8_deleteTime cX8_deleteTime 8 (some .int)) { frames := 4, cells := 0, slots := 0, locals := 93 } n M [.ref a0, .int x1, .int x2, .int x3] (fun n1 M1 v => n1 = n ∧ mw_rI Q M1 v) (fun _ _ => False) := by
  refine mw_enter (L0 := [(0, .ref a0), (1, .int x1), (2, .int x2), (3, .int x3)]) hlt rfl rfl (plainFor_of_name (by decide)) (Nat.le_of_ble_eq_true rfl) rfl ?_
  intro Y hC0 hZ hnL hini0 hn00
  have hC : mw_C G l _ Y cX8_deleteTime RX8 := hC0
  have B68 : ∀ (M : mw_M) (s0 : Int32) (h : w_X8_deleteTime_b68 n M s0 Q), mw_J Y 0 0 n M 68 [] [.int s0] := by
    intro M s0 h
    unfold w_X8_deleteTime_b68 at h
    exact jr_ireti hC hZ (by decide) (by decide) dX8_deleteTime_68 ⟨rfl, _, rfl, h⟩
  have B57 : ∀ (M : mw_M) (s0 : Int32) (s1r : Nat) (h : w_X8_deleteTime_b57 n M s0 s1r Q), mw_J Y 0 0 n M 57 [] [.int s0, .ref s1r] := by
    intro M s0 s1r h
    unfold w_X8_deleteTime_b57 at h
    obtain ⟨hc1, h⟩ := h
    refine jr_callV_i (As := [.int s0]) (st := []) hC nc_RX8_51 (c_X8_refuses hlt h) hc1 rfl rfl ⟨⟨rfl, rfl⟩, ⟨by decide, by decide⟩, by decide, by decide⟩ (Nat.le_of_ble_eq_true rfl) dX8_deleteTime_57 (fun M2 v3 h => ?_)
    obtain ⟨hthb4, hfhb4⟩ := h
    refine jr_if_eq (tgt := 67) hC dX8_deleteTime_60 (by decide) (fun hb4 => ?_) (fun hb4 => ?_)
    · have h := hthb4 hb4
      refine jr_iconst (v := (-1 : Int32)) hC dX8_deleteTime_67 (by decide) ?_
      exact B68 M2 (-1 : Int32) h
    · have h := hfhb4 hb4
      refine jr_iconst (v := (0 : Int32)) hC dX8_deleteTime_63 (by decide) ?_
      refine jr_goto (tgt := 68) hC dX8_deleteTime_64 (by decide) ?_
      exact B68 M2 (0 : Int32) h
  have B44 : ∀ (M : mw_M) (r0 : Nat) (x1 : Int32) (h : w_X8_deleteTime_b44 n M r0 x1 Q), mw_J Y 0 0 n M 44 [(0, .ref r0), (1, .int x1)] [] := by
    intro M r0 x1 h
    unfold w_X8_deleteTime_b44 at h
    refine jr_aload_n (j := 0) hC dX8_deleteTime_44 rfl rfl ?_
    refine jr_iload_n (j := 1) hC dX8_deleteTime_45 rfl rfl ?_
    refine jr_callS_pi (As := [.int x1]) (st := [.ref r0]) hC nc_RX8_111 (c_X8_isTrack hlt h) rfl rfl ⟨⟨rfl, rfl⟩, ⟨by decide, by decide⟩, by decide, by decide⟩ (Nat.le_of_ble_eq_true rfl) dX8_deleteTime_46 (fun v5 h => ?_)
    obtain ⟨hthb6, hfhb6⟩ := h
    refine jr_if_eq (tgt := 56) hC dX8_deleteTime_49 (by decide) (fun hb6 => ?_) (fun hb6 => ?_)
    · have h := hthb6 hb6
      refine jr_iconst (v := (1 : Int32)) hC dX8_deleteTime_56 (by decide) ?_
      refine jr_sub [] (L1 := []) rfl ?_
      exact B57 M (1 : Int32) r0 h
    · have h := hfhb6 hb6
      refine jr_iconst (v := (2 : Int32)) hC dX8_deleteTime_52 (by decide) ?_
      refine jr_goto (tgt := 57) hC dX8_deleteTime_53 (by decide) ?_
      refine jr_sub [] (L1 := []) rfl ?_
      exact B57 M (2 : Int32) r0 h
  have B217 : ∀ (M : mw_M) (r0 : Nat) (x5 : Int32) (s0 : Int32) (s1r : Nat) (h : w_X8_deleteTime_b217 n M r0 x5 s0 s1r Q), mw_J Y 0 0 n M 217 [(0, .ref r0), (5, .int x5)] [.int s0, .ref s1r] := by
    intro M r0 x5 s0 s1r h
    unfold w_X8_deleteTime_b217 at h
    obtain ⟨hc7, h⟩ := h
    refine jr_callV_i (As := [.int s0]) (st := []) hC nc_RX8_73 (c_X8_refusesChange hlt h) hc7 rfl rfl ⟨⟨rfl, rfl⟩, ⟨by decide, by decide⟩, by decide, by decide⟩ (Nat.le_of_ble_eq_true rfl) dX8_deleteTime_217 (fun M8 v9 h => ?_)
    obtain ⟨hthb10, hfhb10⟩ := h
    refine jr_if_eq (tgt := 225) hC dX8_deleteTime_220 (by decide) (fun hb10 => ?_) (fun hb10 => ?_)
    · have h := hthb10 hb10
      refine jr_aload_n (j := 0) hC dX8_deleteTime_225 rfl rfl ?_
      obtain ⟨hc11, h⟩ := h
      refine jr_callV_v (As := []) (st := []) hC nc_RX8_133 (c_X8_takesOver hlt h) hc11 rfl rfl ⟨⟨rfl, rfl⟩, ⟨by decide, by decide⟩, by decide, by decide⟩ (Nat.le_of_ble_eq_true rfl) dX8_deleteTime_226 (fun M12 h => ?_)
      refine jr_iload (j := 1) hC dX8_deleteTime_229 rfl ?_
      exact jr_ireti hC hZ (by decide) (by decide) dX8_deleteTime_231 ⟨rfl, _, rfl, h⟩
    · have h := hfhb10 hb10
      refine jr_iconst (v := (0 : Int32)) hC dX8_deleteTime_223 (by decide) ?_
      exact jr_ireti hC hZ (by decide) (by decide) dX8_deleteTime_224 ⟨rfl, _, rfl, h⟩
  have B183 : ∀ (M : mw_M) (r0 : Nat) (x1 : Int32) (x2 : Int32) (x3 : Int32) (x5 : Int32) (x7 : Int32) (s0 : Int32) (K142 : mw_M → Int32 → Int32 → Prop) (hK142 : ∀ (M_ : mw_M) (x6_ : Int32) (x7_ : Int32), K142 M_ x6_ x7_ → mw_J Y 0 0 n M_ 142 [(0, .ref r0), (1, .int x1), (2, .int x2), (3, .int x3), (5, .int x5), (6, .int x6_), (7, .int x7_)] []) (h : w_X8_deleteTime_b183 n M r0 x1 x2 x3 x5 x7 s0 Q K142), mw_J Y 0 0 n M 183 [(0, .ref r0), (1, .int x1), (2, .int x2), (3, .int x3), (5, .int x5), (7, .int x7)] [.int s0] := by
    intro M r0 x1 x2 x3 x5 x7 s0 K142 hK142 h
    unfold w_X8_deleteTime_b183 at h
    refine jr_istore (L1 := [(6, .int s0), (0, .ref r0), (1, .int x1), (2, .int x2), (3, .int x3), (5, .int x5), (7, .int x7)]) hC dX8_deleteTime_183 hnL (by decide) rfl ?_
    obtain ⟨v13, ev13⟩ : ∃ y : Int32, y = (x7 + (1 : Int32)) := ⟨_, rfl⟩
    have h := h v13 ev13
    refine jr_iinc (j := 6) (v := v13) (L1 := [(7, .int v13), (6, .int s0), (0, .ref r0), (1, .int x1), (2, .int x2), (3, .int x3), (5, .int x5)]) hC dX8_deleteTime_185 rfl (by rw [ev13]; rfl) hnL (by decide) rfl ?_
    refine jr_goto (tgt := 142) hC dX8_deleteTime_188 (by decide) ?_
    refine jr_sub [2, 3, 4, 5, 6, 1, 0] (L1 := [(0, .ref r0), (1, .int x1), (2, .int x2), (3, .int x3), (5, .int x5), (6, .int s0), (7, .int v13)]) rfl ?_
    exact hK142 M s0 v13 h
  have B182 : ∀ (M : mw_M) (r0 : Nat) (x1 : Int32) (x2 : Int32) (x3 : Int32) (x5 : Int32) (x7 : Int32) (K142 : mw_M → Int32 → Int32 → Prop) (hK142 : ∀ (M_ : mw_M) (x6_ : Int32) (x7_ : Int32), K142 M_ x6_ x7_ → mw_J Y 0 0 n M_ 142 [(0, .ref r0), (1, .int x1), (2, .int x2), (3, .int x3), (5, .int x5), (6, .int x6_), (7, .int x7_)] []) (h : w_X8_deleteTime_b182 n M r0 x1 x2 x3 x5 x7 Q K142), mw_J Y 0 0 n M 182 [(0, .ref r0), (1, .int x1), (2, .int x2), (3, .int x3), (5, .int x5), (7, .int x7)] [] := by
    intro M r0 x1 x2 x3 x5 x7 K142 hK142 h
    unfold w_X8_deleteTime_b182 at h
    refine jr_iconst (v := (0 : Int32)) hC dX8_deleteTime_182 (by decide) ?_
    exact B183 M r0 x1 x2 x3 x5 x7 (0 : Int32) K142 hK142 h
  have B173 : ∀ (M : mw_M) (r0 : Nat) (x1 : Int32) (x2 : Int32) (x3 : Int32) (x5 : Int32) (x6 : Int32) (x7 : Int32) (K142 : mw_M → Int32 → Int32 → Prop) (hK142 : ∀ (M_ : mw_M) (x6_ : Int32) (x7_ : Int32), K142 M_ x6_ x7_ → mw_J Y 0 0 n M_ 142 [(0, .ref r0), (1, .int x1), (2, .int x2), (3, .int x3), (5, .int x5), (6, .int x6_), (7, .int x7_)] []) (h : w_X8_deleteTime_b173 n M r0 x1 x2 x3 x5 x6 x7 Q K142), mw_J Y 0 0 n M 173 [(0, .ref r0), (1, .int x1), (2, .int x2), (3, .int x3), (5, .int x5), (6, .int x6), (7, .int x7)] [] := by
    intro M r0 x1 x2 x3 x5 x6 x7 K142 hK142 h
    unfold w_X8_deleteTime_b173 at h
    refine jr_iload (j := 5) hC dX8_deleteTime_173 rfl ?_
    obtain ⟨hthb14, hfhb14⟩ := h
    refine jr_if_eq (tgt := 182) hC dX8_deleteTime_175 (by decide) (fun hb14 => ?_) (fun hb14 => ?_)
    · have h := hthb14 hb14
      refine jr_sub [0, 1, 2, 3, 4, 6] (L1 := [(0, .ref r0), (1, .int x1), (2, .int x2), (3, .int x3), (5, .int x5), (7, .int x7)]) rfl ?_
      exact B182 M r0 x1 x2 x3 x5 x7 K142 hK142 h
    · have h := hfhb14 hb14
      refine jr_iconst (v := (1 : Int32)) hC dX8_deleteTime_178 (by decide) ?_
      refine jr_goto (tgt := 183) hC dX8_deleteTime_179 (by decide) ?_
      refine jr_sub [0, 1, 2, 3, 4, 6] (L1 := [(0, .ref r0), (1, .int x1), (2, .int x2), (3, .int x3), (5, .int x5), (7, .int x7)]) rfl ?_
      exact B183 M r0 x1 x2 x3 x5 x7 (1 : Int32) K142 hK142 h
  have B142 : ∀ (M : mw_M) (r0 : Nat) (x1 : Int32) (x2 : Int32) (x3 : Int32) (x5 : Int32) (x6 : Int32) (x7 : Int32) (h : w_X8_deleteTime_b142 n M r0 x1 x2 x3 x5 x6 x7 Q), mw_J Y 0 0 n M 142 [(0, .ref r0), (1, .int x1), (2, .int x2), (3, .int x3), (5, .int x5), (6, .int x6), (7, .int x7)] [] := by
    intro M r0 x1 x2 x3 x5 x6 x7 h
    obtain ⟨Inv, mu, h0, hs⟩ := h
    refine mw_loop3 (fun (M : mw_M) (x6 : Int32) (x7 : Int32) => mw_J Y 0 0 n M 142 [(0, .ref r0), (1, .int x1), (2, .int x2), (3, .int x3), (5, .int x5), (6, .int x6), (7, .int x7)] []) Inv mu (fun M x6 x7 hI hrec => ?_) M x6 x7 h0
    have h := hs M x6 x7 hI
    refine jr_iload (j := 6) hC dX8_deleteTime_142 rfl ?_
    refine jr_aload_n (j := 0) hC dX8_deleteTime_144 rfl rfl ?_
    obtain ⟨hc15, h⟩ := h
    refine jr_get0 hC fl_RX8_95 hc15 dX8_deleteTime_145 ?_
    obtain ⟨hthb16, hfhb16⟩ := h
    refine jr_ic_ge (tgt := 191) hC dX8_deleteTime_148 (by decide) (fun hb16 => ?_) (fun hb16 => ?_)
    · have h := hthb16 hb16
      refine jr_aload_n (j := 0) hC dX8_deleteTime_191 rfl rfl ?_
      refine jr_callV_v (As := []) (st := []) hC nc_RX8_153 (c_X8_ordersAll hlt h) hc15 rfl rfl ⟨⟨rfl, rfl⟩, ⟨by decide, by decide⟩, by decide, by decide⟩ (Nat.le_of_ble_eq_true rfl) dX8_deleteTime_192 (fun M17 h => ?_)
      refine jr_aload_n (j := 0) hC dX8_deleteTime_195 rfl rfl ?_
      refine jr_iload (j := 5) hC dX8_deleteTime_196 rfl ?_
      obtain ⟨hthb18, hfhb18⟩ := h
      refine jr_if_ne (tgt := 205) hC dX8_deleteTime_198 (by decide) (fun hb18 => ?_) (fun hb18 => ?_)
      · have h := hthb18 hb18
        refine jr_aload_n (j := 0) hC dX8_deleteTime_205 rfl rfl ?_
        refine jr_callV_pi (As := []) (st := [.ref r0]) hC nc_RX8_129 (c_X8_isFine hlt h) hc15 rfl rfl ⟨⟨rfl, rfl⟩, ⟨by decide, by decide⟩, by decide, by decide⟩ (Nat.le_of_ble_eq_true rfl) dX8_deleteTime_206 (fun v19 h => ?_)
        obtain ⟨hthb20, hfhb20⟩ := h
        refine jr_if_eq (tgt := 216) hC dX8_deleteTime_209 (by decide) (fun hb20 => ?_) (fun hb20 => ?_)
        · have h := hthb20 hb20
          refine jr_iconst (v := (3 : Int32)) hC dX8_deleteTime_216 (by decide) ?_
          refine jr_sub [0, 4] (L1 := [(0, .ref r0), (5, .int x5)]) rfl ?_
          exact B217 M17 r0 x5 (3 : Int32) r0 h
        · have h := hfhb20 hb20
          refine jr_iconst (v := (0 : Int32)) hC dX8_deleteTime_212 (by decide) ?_
          refine jr_goto (tgt := 217) hC dX8_deleteTime_213 (by decide) ?_
          refine jr_sub [0, 4] (L1 := [(0, .ref r0), (5, .int x5)]) rfl ?_
          exact B217 M17 r0 x5 (0 : Int32) r0 h
      · have h := hfhb18 hb18
        refine jr_iconst (v := (2 : Int32)) hC dX8_deleteTime_201 (by decide) ?_
        refine jr_goto (tgt := 217) hC dX8_deleteTime_202 (by decide) ?_
        refine jr_sub [0, 4] (L1 := [(0, .ref r0), (5, .int x5)]) rfl ?_
        exact B217 M17 r0 x5 (2 : Int32) r0 h
    · have h := hfhb16 hb16
      refine jr_aload_n (j := 0) hC dX8_deleteTime_151 rfl rfl ?_
      refine jr_iload (j := 6) hC dX8_deleteTime_152 rfl ?_
      refine jr_iconst (v := (0 : Int32)) hC dX8_deleteTime_154 (by decide) ?_
      refine jr_callV_pi (As := [.int x7, .int (0 : Int32)]) (st := []) hC nc_RX8_98 (c_X8_of hlt h) hc15 rfl rfl ⟨⟨rfl, rfl⟩, ⟨by decide, by decide⟩, by decide, by decide⟩ (Nat.le_of_ble_eq_true rfl) dX8_deleteTime_155 (fun v21 h => ?_)
      refine jr_iload_n (j := 1) hC dX8_deleteTime_158 rfl rfl ?_
      obtain ⟨hthb22, hfhb22⟩ := h
      refine jr_ic_ne (tgt := 173) hC dX8_deleteTime_159 (by decide) (fun hb22 => ?_) (fun hb22 => ?_)
      · have h := hthb22 hb22
        exact B173 M r0 x1 x2 x3 x5 x6 x7 (fun (M_ : mw_M) (x6_ : Int32) (x7_ : Int32) => Inv M_ x6_ x7_ ∧ mu M_ x6_ x7_ < mu M x6 x7) (fun M_ x6_ x7_ h9 => hrec M_ x6_ x7_ h9) h
      · have h := hfhb22 hb22
        refine jr_aload_n (j := 0) hC dX8_deleteTime_162 rfl rfl ?_
        refine jr_iload (j := 6) hC dX8_deleteTime_163 rfl ?_
        refine jr_iload_n (j := 2) hC dX8_deleteTime_165 rfl rfl ?_
        refine jr_iload_n (j := 3) hC dX8_deleteTime_166 rfl rfl ?_
        refine jr_callV_i (As := [.int x7, .int x2, .int x3]) (st := []) hC nc_RX8_149 (c_X8_deletes hlt h) hc15 rfl rfl ⟨⟨rfl, rfl⟩, ⟨by decide, by decide⟩, by decide, by decide⟩ (Nat.le_of_ble_eq_true rfl) dX8_deleteTime_167 (fun M23 v24 h => ?_)
        obtain ⟨hthb25, hfhb25⟩ := h
        refine jr_if_eq (tgt := 182) hC dX8_deleteTime_170 (by decide) (fun hb25 => ?_) (fun hb25 => ?_)
        · have h := hthb25 hb25
          refine jr_sub [0, 1, 2, 3, 4, 6] (L1 := [(0, .ref r0), (1, .int x1), (2, .int x2), (3, .int x3), (5, .int x5), (7, .int x7)]) rfl ?_
          exact B182 M23 r0 x1 x2 x3 x5 x7 (fun (M_ : mw_M) (x6_ : Int32) (x7_ : Int32) => Inv M_ x6_ x7_ ∧ mu M_ x6_ x7_ < mu M x6 x7) (fun M_ x6_ x7_ h9 => hrec M_ x6_ x7_ h9) h
        · have h := hfhb25 hb25
          exact B173 M23 r0 x1 x2 x3 x5 x6 x7 (fun (M_ : mw_M) (x6_ : Int32) (x7_ : Int32) => Inv M_ x6_ x7_ ∧ mu M_ x6_ x7_ < mu M x6 x7) (fun M_ x6_ x7_ h9 => hrec M_ x6_ x7_ h9) h
  have B130 : ∀ (M : mw_M) (r0 : Nat) (x1 : Int32) (x2 : Int32) (x3 : Int32) (x5 : Int32) (x6 : Int32) (K84 : mw_M → Int32 → Int32 → Prop) (hK84 : ∀ (M_ : mw_M) (x5_ : Int32) (x6_ : Int32), K84 M_ x5_ x6_ → mw_J Y 0 0 n M_ 84 [(0, .ref r0), (1, .int x1), (2, .int x2), (3, .int x3), (5, .int x5_), (6, .int x6_)] []) (h : w_X8_deleteTime_b130 n M r0 x1 x2 x3 x5 x6 Q K84), mw_J Y 0 0 n M 130 [(0, .ref r0), (1, .int x1), (2, .int x2), (3, .int x3), (5, .int x5), (6, .int x6)] [] := by
    intro M r0 x1 x2 x3 x5 x6 K84 hK84 h
    unfold w_X8_deleteTime_b130 at h
    obtain ⟨v26, ev26⟩ : ∃ y : Int32, y = (x6 + (-1 : Int32)) := ⟨_, rfl⟩
    have h := h v26 ev26
    refine jr_iinc (j := 5) (v := v26) (L1 := [(6, .int v26), (0, .ref r0), (1, .int x1), (2, .int x2), (3, .int x3), (5, .int x5)]) hC dX8_deleteTime_130 rfl (by rw [ev26]; rfl) hnL (by decide) rfl ?_
    refine jr_goto (tgt := 84) hC dX8_deleteTime_133 (by decide) ?_
    refine jr_sub [1, 2, 3, 4, 5, 0] (L1 := [(0, .ref r0), (1, .int x1), (2, .int x2), (3, .int x3), (5, .int x5), (6, .int v26)]) rfl ?_
    exact hK84 M x5 v26 h
  have B84 : ∀ (M : mw_M) (r0 : Nat) (x1 : Int32) (x2 : Int32) (x3 : Int32) (x5 : Int32) (x6 : Int32) (h : w_X8_deleteTime_b84 n M r0 x1 x2 x3 x5 x6 Q), mw_J Y 0 0 n M 84 [(0, .ref r0), (1, .int x1), (2, .int x2), (3, .int x3), (5, .int x5), (6, .int x6)] [] := by
    intro M r0 x1 x2 x3 x5 x6 h
    obtain ⟨Inv, mu, h0, hs⟩ := h
    refine mw_loop3 (fun (M : mw_M) (x5 : Int32) (x6 : Int32) => mw_J Y 0 0 n M 84 [(0, .ref r0), (1, .int x1), (2, .int x2), (3, .int x3), (5, .int x5), (6, .int x6)] []) Inv mu (fun M x5 x6 hI hrec => ?_) M x5 x6 h0
    have h := hs M x5 x6 hI
    refine jr_iload (j := 5) hC dX8_deleteTime_84 rfl ?_
    obtain ⟨hthb27, hfhb27⟩ := h
    refine jr_if_lt (tgt := 136) hC dX8_deleteTime_86 (by decide) (fun hb27 => ?_) (fun hb27 => ?_)
    · have h := hthb27 hb27
      refine jr_iconst (v := (1 : Int32)) hC dX8_deleteTime_136 (by decide) ?_
      refine jr_istore (L1 := [(6, .int (1 : Int32)), (0, .ref r0), (1, .int x1), (2, .int x2), (3, .int x3), (5, .int x5)]) hC dX8_deleteTime_137 hnL (by decide) rfl ?_
      refine jr_iconst (v := (0 : Int32)) hC dX8_deleteTime_139 (by decide) ?_
      refine jr_istore (L1 := [(7, .int (0 : Int32)), (6, .int (1 : Int32)), (0, .ref r0), (1, .int x1), (2, .int x2), (3, .int x3), (5, .int x5)]) hC dX8_deleteTime_140 hnL (by decide) rfl ?_
      refine jr_sub [2, 3, 4, 5, 6, 1, 0] (L1 := [(0, .ref r0), (1, .int x1), (2, .int x2), (3, .int x3), (5, .int x5), (6, .int (1 : Int32)), (7, .int (0 : Int32))]) rfl ?_
      exact B142 M r0 x1 x2 x3 x5 (1 : Int32) (0 : Int32) h
    · have h := hfhb27 hb27
      refine jr_aload_n (j := 0) hC dX8_deleteTime_89 rfl rfl ?_
      refine jr_iload (j := 5) hC dX8_deleteTime_90 rfl ?_
      refine jr_iconst (v := (0 : Int32)) hC dX8_deleteTime_92 (by decide) ?_
      obtain ⟨hc28, h⟩ := h
      refine jr_callV_pi (As := [.int x6, .int (0 : Int32)]) (st := []) hC nc_RX8_98 (c_X8_of hlt h) hc28 rfl rfl ⟨⟨rfl, rfl⟩, ⟨by decide, by decide⟩, by decide, by decide⟩ (Nat.le_of_ble_eq_true rfl) dX8_deleteTime_93 (fun v29 h => ?_)
      refine jr_iload_n (j := 1) hC dX8_deleteTime_96 rfl rfl ?_
      obtain ⟨hthb30, hfhb30⟩ := h
      refine jr_ic_ne (tgt := 130) hC dX8_deleteTime_97 (by decide) (fun hb30 => ?_) (fun hb30 => ?_)
      · have h := hthb30 hb30
        exact B130 M r0 x1 x2 x3 x5 x6 (fun (M_ : mw_M) (x5_ : Int32) (x6_ : Int32) => Inv M_ x5_ x6_ ∧ mu M_ x5_ x6_ < mu M x5 x6) (fun M_ x5_ x6_ h9 => hrec M_ x5_ x6_ h9) h
      · have h := hfhb30 hb30
        refine jr_aload_n (j := 0) hC dX8_deleteTime_100 rfl rfl ?_
        refine jr_iload (j := 5) hC dX8_deleteTime_101 rfl ?_
        refine jr_iconst (v := (2 : Int32)) hC dX8_deleteTime_103 (by decide) ?_
        refine jr_callV_pi (As := [.int x6, .int (2 : Int32)]) (st := []) hC nc_RX8_98 (c_X8_of hlt h) hc28 rfl rfl ⟨⟨rfl, rfl⟩, ⟨by decide, by decide⟩, by decide, by decide⟩ (Nat.le_of_ble_eq_true rfl) dX8_deleteTime_104 (fun v31 h => ?_)
        refine jr_iload_n (j := 2) hC dX8_deleteTime_107 rfl rfl ?_
        obtain ⟨hthb32, hfhb32⟩ := h
        refine jr_ic_lt (tgt := 130) hC dX8_deleteTime_108 (by decide) (fun hb32 => ?_) (fun hb32 => ?_)
        · have h := hthb32 hb32
          exact B130 M r0 x1 x2 x3 x5 x6 (fun (M_ : mw_M) (x5_ : Int32) (x6_ : Int32) => Inv M_ x5_ x6_ ∧ mu M_ x5_ x6_ < mu M x5 x6) (fun M_ x5_ x6_ h9 => hrec M_ x5_ x6_ h9) h
        · have h := hfhb32 hb32
          refine jr_aload_n (j := 0) hC dX8_deleteTime_111 rfl rfl ?_
          refine jr_iload (j := 5) hC dX8_deleteTime_112 rfl ?_
          refine jr_callV_pi (As := [.int x6]) (st := []) hC nc_RX8_108 (c_X8_endOf hlt h) hc28 rfl rfl ⟨⟨rfl, rfl⟩, ⟨by decide, by decide⟩, by decide, by decide⟩ (Nat.le_of_ble_eq_true rfl) dX8_deleteTime_114 (fun v33 h => ?_)
          refine jr_iload_n (j := 3) hC dX8_deleteTime_117 rfl rfl ?_
          obtain ⟨hthb34, hfhb34⟩ := h
          refine jr_ic_gt (tgt := 130) hC dX8_deleteTime_118 (by decide) (fun hb34 => ?_) (fun hb34 => ?_)
          · have h := hthb34 hb34
            exact B130 M r0 x1 x2 x3 x5 x6 (fun (M_ : mw_M) (x5_ : Int32) (x6_ : Int32) => Inv M_ x5_ x6_ ∧ mu M_ x5_ x6_ < mu M x5 x6) (fun M_ x5_ x6_ h9 => hrec M_ x5_ x6_ h9) h
          · have h := hfhb34 hb34
            refine jr_aload_n (j := 0) hC dX8_deleteTime_121 rfl rfl ?_
            refine jr_iload (j := 5) hC dX8_deleteTime_122 rfl ?_
            refine jr_callV_v (As := [.int x6]) (st := []) hC nc_RX8_146 (c_X8_leaves hlt h) hc28 rfl rfl ⟨⟨rfl, rfl⟩, ⟨by decide, by decide⟩, by decide, by decide⟩ (Nat.le_of_ble_eq_true rfl) dX8_deleteTime_124 (fun M35 h => ?_)
            obtain ⟨v36, ev36⟩ : ∃ y : Int32, y = (x5 + (1 : Int32)) := ⟨_, rfl⟩
            have h := h v36 ev36
            refine jr_iinc (j := 4) (v := v36) (L1 := [(5, .int v36), (0, .ref r0), (1, .int x1), (2, .int x2), (3, .int x3), (6, .int x6)]) hC dX8_deleteTime_127 rfl (by rw [ev36]; rfl) hnL (by decide) rfl ?_
            refine jr_sub [1, 2, 3, 4, 0, 5] (L1 := [(0, .ref r0), (1, .int x1), (2, .int x2), (3, .int x3), (5, .int v36), (6, .int x6)]) rfl ?_
            exact B130 M35 r0 x1 x2 x3 v36 x6 (fun (M_ : mw_M) (x5_ : Int32) (x6_ : Int32) => Inv M_ x5_ x6_ ∧ mu M_ x5_ x6_ < mu M x5 x6) (fun M_ x5_ x6_ h9 => hrec M_ x5_ x6_ h9) h
  have B30 : ∀ (M : mw_M) (r0 : Nat) (x1 : Int32) (x2 : Int32) (x3 : Int32) (s0 : Int32) (h : w_X8_deleteTime_b30 n M r0 x1 x2 x3 s0 Q), mw_J Y 0 0 n M 30 [(0, .ref r0), (1, .int x1), (2, .int x2), (3, .int x3)] [.int s0] := by
    intro M r0 x1 x2 x3 s0 h
    unfold w_X8_deleteTime_b30 at h
    refine jr_istore (L1 := [(4, .int s0), (0, .ref r0), (1, .int x1), (2, .int x2), (3, .int x3)]) hC dX8_deleteTime_30 hnL (by decide) rfl ?_
    refine jr_iload_n (j := 2) hC dX8_deleteTime_32 rfl rfl ?_
    refine jr_callS_pi (As := [.int x1]) (st := []) hC nc_RX8_111 (c_X8_isTrack hlt h) rfl rfl ⟨⟨rfl, rfl⟩, ⟨by decide, by decide⟩, by decide, by decide⟩ (Nat.le_of_ble_eq_true rfl) dX8_deleteTime_33 (fun v37 h => ?_)
    obtain ⟨hthb38, hfhb38⟩ := h
    refine jr_if_eq (tgt := 44) hC dX8_deleteTime_36 (by decide) (fun hb38 => ?_) (fun hb38 => ?_)
    · have h := hthb38 hb38
      refine jr_sub [1, 2] (L1 := [(0, .ref r0), (1, .int x1)]) rfl ?_
      exact B44 M r0 x1 h
    · have h := hfhb38 hb38
      refine jr_iload (j := 0) hC dX8_deleteTime_39 rfl ?_
      obtain ⟨hthb39, hfhb39⟩ := h
      refine jr_if_ne (tgt := 69) hC dX8_deleteTime_41 (by decide) (fun hb39 => ?_) (fun hb39 => ?_)
      · have h := hthb39 hb39
        refine jr_aload_n (j := 1) hC dX8_deleteTime_69 rfl rfl ?_
        obtain ⟨hc40, h⟩ := h
        refine jr_callV_v (As := []) (st := []) hC nc_RX8_119 (c_X8_tries hlt h) hc40 rfl rfl ⟨⟨rfl, rfl⟩, ⟨by decide, by decide⟩, by decide, by decide⟩ (Nat.le_of_ble_eq_true rfl) dX8_deleteTime_70 (fun M41 h => ?_)
        refine jr_iconst (v := (0 : Int32)) hC dX8_deleteTime_73 (by decide) ?_
        refine jr_istore (L1 := [(5, .int (0 : Int32)), (4, .int s0), (0, .ref r0), (1, .int x1), (2, .int x2), (3, .int x3)]) hC dX8_deleteTime_74 hnL (by decide) rfl ?_
        refine jr_aload_n (j := 2) hC dX8_deleteTime_76 rfl rfl ?_
        refine jr_get0 hC fl_RX8_95 hc40 dX8_deleteTime_77 ?_
        refine jr_iconst (v := (1 : Int32)) hC dX8_deleteTime_80 (by decide) ?_
        refine jr_isub hC dX8_deleteTime_81 ?_
        refine jr_nmI (fun v42 ev42 => ?_)
        have h := h v42 ev42
        refine jr_istore (L1 := [(6, .int v42), (5, .int (0 : Int32)), (4, .int s0), (0, .ref r0), (1, .int x1), (2, .int x2), (3, .int x3)]) hC dX8_deleteTime_82 hnL (by decide) rfl ?_
        refine jr_sub [3, 4, 5, 6, 1, 0] (L1 := [(0, .ref r0), (1, .int x1), (2, .int x2), (3, .int x3), (5, .int (0 : Int32)), (6, .int v42)]) rfl ?_
        exact B84 M41 r0 x1 x2 x3 (0 : Int32) v42 h
      · have h := hfhb39 hb39
        refine jr_sub [1, 2] (L1 := [(0, .ref r0), (1, .int x1)]) rfl ?_
        exact B44 M r0 x1 h
  have B29 : ∀ (M : mw_M) (r0 : Nat) (x1 : Int32) (x2 : Int32) (x3 : Int32) (h : w_X8_deleteTime_b29 n M r0 x1 x2 x3 Q), mw_J Y 0 0 n M 29 [(0, .ref r0), (1, .int x1), (2, .int x2), (3, .int x3)] [] := by
    intro M r0 x1 x2 x3 h
    unfold w_X8_deleteTime_b29 at h
    refine jr_iconst (v := (0 : Int32)) hC dX8_deleteTime_29 (by decide) ?_
    exact B30 M r0 x1 x2 x3 (0 : Int32) h
  unfold w_X8_deleteTime at h
  refine jr_iload_n (j := 3) hC dX8_deleteTime_0 rfl rfl ?_
  refine jr_i2l hC dX8_deleteTime_1 ?_
  refine jr_lconst (v := (1 : Int64)) hC dX8_deleteTime_2 (by decide) ?_
  refine jr_ldc2 (v := (4000 : Int64)) hC tw_1087 dX8_deleteTime_3 ?_
  refine jr_callS_pi (As := [.long (Int32.toInt64 x3), .long (1 : Int64), .long (4000 : Int64)]) (st := []) hC nc_RX8_45 (c_X8_in hlt h) rfl rfl ⟨⟨rfl, rfl⟩, ⟨by decide, by decide⟩, by decide, by decide⟩ (Nat.le_of_ble_eq_true rfl) dX8_deleteTime_6 (fun v43 h => ?_)
  obtain ⟨hthb44, hfhb44⟩ := h
  refine jr_if_eq (tgt := 29) hC dX8_deleteTime_9 (by decide) (fun hb44 => ?_) (fun hb44 => ?_)
  · have h := hthb44 hb44
    exact B29 M a0 x1 x2 x3 h
  · have h := hfhb44 hb44
    refine jr_iload_n (j := 2) hC dX8_deleteTime_12 rfl rfl ?_
    refine jr_i2l hC dX8_deleteTime_13 ?_
    refine jr_lconst (v := (0 : Int64)) hC dX8_deleteTime_14 (by decide) ?_
    refine jr_iload_n (j := 3) hC dX8_deleteTime_15 rfl rfl ?_
    refine jr_iconst (v := (1 : Int32)) hC dX8_deleteTime_16 (by decide) ?_
    refine jr_isub hC dX8_deleteTime_17 ?_
    refine jr_i2l hC dX8_deleteTime_18 ?_
    refine jr_callS_pi (As := [.long (Int32.toInt64 x2), .long (0 : Int64), .long (Int32.toInt64 (x3 - (1 : Int32)))]) (st := []) hC nc_RX8_45 (c_X8_in hlt h) rfl rfl ⟨⟨rfl, rfl⟩, ⟨by decide, by decide⟩, by decide, by decide⟩ (Nat.le_of_ble_eq_true rfl) dX8_deleteTime_19 (fun v45 h => ?_)
    obtain ⟨hthb46, hfhb46⟩ := h
    refine jr_if_eq (tgt := 29) hC dX8_deleteTime_22 (by decide) (fun hb46 => ?_) (fun hb46 => ?_)
    · have h := hthb46 hb46
      exact B29 M a0 x1 x2 x3 h
    · have h := hfhb46 hb46
      refine jr_iconst (v := (1 : Int32)) hC dX8_deleteTime_25 (by decide) ?_
      refine jr_goto (tgt := 30) hC dX8_deleteTime_26 (by decide) ?_
      exact B30 M a0 x1 x2 x3 (1 : Int32) h
set_option maxHeartbeats 4000000 in
set_option maxRecDepth 100000 in
theorem c_X8_clips {G : mw_G} {l : Launch} (hlt : l.stackTraces = false) {n : Nat} {M : mw_M} {a0 : Nat} {Q : mw_M → Int32 → Prop} (h : w_X8_clips n M a0 Q) : mw_Met G l yX8_clips (.code yX8_clips cX8_clips 1 (some .int)) { frames := 0, cells := 0, slots := 0, locals := 0 } n M [.ref a0] (fun n1 M1 v => n1 = n ∧ mw_rI Q M1 v) (fun _ _ => False) := by
  refine mw_enter (L0 := [(0, .ref a0)]) hlt rfl rfl (plainFor_of_name (by decide)) (Nat.le_of_ble_eq_true rfl) rfl ?_
  intro Y hC0 hZ hnL hini0 hn00
  have hC : mw_C G l _ Y cX8_clips RX8 := hC0
  unfold w_X8_clips at h
  refine jr_aload_n (j := 0) hC dX8_clips_0 rfl rfl ?_
  refine jr_iconst (v := (0 : Int32)) hC dX8_clips_1 (by decide) ?_
  obtain ⟨hc1, h⟩ := h
  obtain ⟨M2, eM2⟩ : ∃ y : mw_M, y = sI M a0 5 (0 : Int32) := ⟨_, rfl⟩
  have h := h M2 eM2
  refine jr_putI hC fp_RX8_39 hc1 eM2 dX8_clips_2 ?_
  refine jr_aload_n (j := 0) hC dX8_clips_5 rfl rfl ?_
  refine jr_get2 hC fl_RX8_7 hc1 dX8_clips_6 ?_
  refine jr_bipush (v := (8 : Int32)) hC dX8_clips_9 (by decide) ?_
  obtain ⟨hc3, h⟩ := h
  obtain ⟨hc4, h⟩ := h
  refine jr_iald hC hc3 hc4 dX8_clips_11 ?_
  exact jr_ireti hC hZ (by decide) (by decide) dX8_clips_12 ⟨rfl, _, rfl, h⟩
set_option maxHeartbeats 4000000 in
set_option maxRecDepth 100000 in
theorem c_X8_clipOf {G : mw_G} {l : Launch} (hlt : l.stackTraces = false) {n : Nat} {M : mw_M} {a0 : Nat} {x1 : Int32} {x2 : Int32} {Q : Int32 → Prop} (h : w_X8_clipOf n M a0 x1 x2 Q) : mw_Met G l yX8_clipOf (.code yX8_clipOf cX8_clipOf 3 (some .int)) { frames := 0, cells := 0, slots := 0, locals := 0 } n M [.ref a0, .int x1, .int x2] (fun n1 M1 v => n1 = n ∧ mw_pI M Q M1 v) (fun _ _ => False) := by
  refine mw_enter (L0 := [(0, .ref a0), (1, .int x1), (2, .int x2)]) hlt rfl rfl (plainFor_of_name (by decide)) (Nat.le_of_ble_eq_true rfl) rfl ?_
  intro Y hC0 hZ hnL hini0 hn00
  have hC : mw_C G l _ Y cX8_clipOf RX8 := hC0
  unfold w_X8_clipOf at h
  refine jr_aload_n (j := 0) hC dX8_clipOf_0 rfl rfl ?_
  obtain ⟨hc1, h⟩ := h
  refine jr_get2 hC fl_RX8_7 hc1 dX8_clipOf_1 ?_
  refine jr_bipush (v := (33 : Int32)) hC dX8_clipOf_4 (by decide) ?_
  refine jr_bipush (v := (9 : Int32)) hC dX8_clipOf_6 (by decide) ?_
  refine jr_iload_n (j := 1) hC dX8_clipOf_8 rfl rfl ?_
  refine jr_imul hC dX8_clipOf_9 ?_
  refine jr_iadd hC dX8_clipOf_10 ?_
  refine jr_iload_n (j := 2) hC dX8_clipOf_11 rfl rfl ?_
  refine jr_iadd hC dX8_clipOf_12 ?_
  obtain ⟨hc2, h⟩ := h
  obtain ⟨hc3, h⟩ := h
  refine jr_iald hC hc2 hc3 dX8_clipOf_13 ?_
  exact jr_ireti hC hZ (by decide) (by decide) dX8_clipOf_14 ⟨rfl, rfl, _, rfl, h⟩
set_option maxHeartbeats 4000000 in
set_option maxRecDepth 100000 in
theorem c_X8_clip {G : mw_G} {l : Launch} (hlt : l.stackTraces = false) {n : Nat} {M : mw_M} {a0 : Nat} {x1 : Int32} {x2 : Int32} {Q : mw_M → Int32 → Prop} (h : w_X8_clip n M a0 x1 x2 Q) : mw_Met G l yX8_clip (.code yX8_clip cX8_clip 3 (some .int)) { frames := 2, cells := 0, slots := 0, locals := 46 } n M [.ref a0, .int x1, .int x2] (fun n1 M1 v => n1 = n ∧ mw_rI Q M1 v) (fun _ _ => False) := by
  refine mw_enter (L0 := [(0, .ref a0), (1, .int x1), (2, .int x2)]) hlt rfl rfl (plainFor_of_name (by decide)) (Nat.le_of_ble_eq_true rfl) rfl ?_
  intro Y hC0 hZ hnL hini0 hn00
  have hC : mw_C G l _ Y cX8_clip RX8 := hC0
  have B46 : ∀ (M : mw_M) (s0 : Int32) (h : w_X8_clip_b46 n M s0 Q), mw_J Y 0 0 n M 46 [] [.int s0] := by
    intro M s0 h
    unfold w_X8_clip_b46 at h
    exact jr_ireti hC hZ (by decide) (by decide) dX8_clip_46 ⟨rfl, _, rfl, h⟩
  have B30 : ∀ (M : mw_M) (r0 : Nat) (x1 : Int32) (x2 : Int32) (s0 : Int32) (s1r : Nat) (h : w_X8_clip_b30 n M r0 x1 x2 s0 s1r Q), mw_J Y 0 0 n M 30 [(0, .ref r0), (1, .int x1), (2, .int x2)] [.int s0, .ref s1r] := by
    intro M r0 x1 x2 s0 s1r h
    unfold w_X8_clip_b30 at h
    obtain ⟨hc1, h⟩ := h
    refine jr_callV_i (As := [.int s0]) (st := []) hC nc_RX8_51 (c_X8_refuses hlt h) hc1 rfl rfl ⟨⟨rfl, rfl⟩, ⟨by decide, by decide⟩, by decide, by decide⟩ (Nat.le_of_ble_eq_true rfl) dX8_clip_30 (fun M2 v3 h => ?_)
    obtain ⟨hthb4, hfhb4⟩ := h
    refine jr_if_eq (tgt := 40) hC dX8_clip_33 (by decide) (fun hb4 => ?_) (fun hb4 => ?_)
    · have h := hthb4 hb4
      refine jr_aload_n (j := 0) hC dX8_clip_40 rfl rfl ?_
      refine jr_iload_n (j := 1) hC dX8_clip_41 rfl rfl ?_
      refine jr_iload_n (j := 2) hC dX8_clip_42 rfl rfl ?_
      obtain ⟨hc5, h⟩ := h
      refine jr_callV_pi (As := [.int x1, .int x2]) (st := []) hC nc_RX8_158 (c_X8_clipOf hlt h) hc5 rfl rfl ⟨⟨rfl, rfl⟩, ⟨by decide, by decide⟩, by decide, by decide⟩ (Nat.le_of_ble_eq_true rfl) dX8_clip_43 (fun v6 h => ?_)
      refine jr_sub [] (L1 := []) rfl ?_
      exact B46 M2 v6 h
    · have h := hfhb4 hb4
      refine jr_iconst (v := (0 : Int32)) hC dX8_clip_36 (by decide) ?_
      refine jr_goto (tgt := 46) hC dX8_clip_37 (by decide) ?_
      refine jr_sub [] (L1 := []) rfl ?_
      exact B46 M2 (0 : Int32) h
  unfold w_X8_clip at h
  refine jr_aload_n (j := 0) hC dX8_clip_0 rfl rfl ?_
  refine jr_aload_n (j := 0) hC dX8_clip_1 rfl rfl ?_
  refine jr_iload_n (j := 1) hC dX8_clip_2 rfl rfl ?_
  obtain ⟨hc7, h⟩ := h
  refine jr_callV_pi (As := [.int x1]) (st := [.ref a0]) hC nc_RX8_136 (c_X8_isClip hlt h) hc7 rfl rfl ⟨⟨rfl, rfl⟩, ⟨by decide, by decide⟩, by decide, by decide⟩ (Nat.le_of_ble_eq_true rfl) dX8_clip_3 (fun v8 h => ?_)
  obtain ⟨hthb9, hfhb9⟩ := h
  refine jr_if_ne (tgt := 13) hC dX8_clip_6 (by decide) (fun hb9 => ?_) (fun hb9 => ?_)
  · have h := hthb9 hb9
    refine jr_iload_n (j := 2) hC dX8_clip_13 rfl rfl ?_
    refine jr_i2l hC dX8_clip_14 ?_
    refine jr_lconst (v := (0 : Int64)) hC dX8_clip_15 (by decide) ?_
    refine jr_ldc2 (v := (8 : Int64)) hC tw_1224 dX8_clip_16 ?_
    refine jr_callS_pi (As := [.long (Int32.toInt64 x2), .long (0 : Int64), .long (8 : Int64)]) (st := [.ref a0]) hC nc_RX8_45 (c_X8_in hlt h) rfl rfl ⟨⟨rfl, rfl⟩, ⟨by decide, by decide⟩, by decide, by decide⟩ (Nat.le_of_ble_eq_true rfl) dX8_clip_19 (fun v10 h => ?_)
    obtain ⟨hthb11, hfhb11⟩ := h
    refine jr_if_eq (tgt := 29) hC dX8_clip_22 (by decide) (fun hb11 => ?_) (fun hb11 => ?_)
    · have h := hthb11 hb11
      refine jr_iconst (v := (2 : Int32)) hC dX8_clip_29 (by decide) ?_
      exact B30 M a0 x1 x2 (2 : Int32) a0 h
    · have h := hfhb11 hb11
      refine jr_iconst (v := (0 : Int32)) hC dX8_clip_25 (by decide) ?_
      refine jr_goto (tgt := 30) hC dX8_clip_26 (by decide) ?_
      exact B30 M a0 x1 x2 (0 : Int32) a0 h
  · have h := hfhb9 hb9
    refine jr_iconst (v := (1 : Int32)) hC dX8_clip_9 (by decide) ?_
    refine jr_goto (tgt := 30) hC dX8_clip_10 (by decide) ?_
    exact B30 M a0 x1 x2 (1 : Int32) a0 h
set_option maxHeartbeats 4000000 in
set_option maxRecDepth 100000 in
theorem c_X8_clipEnd {G : mw_G} {l : Launch} (hlt : l.stackTraces = false) {n : Nat} {M : mw_M} {a0 : Nat} {x1 : Int32} {Q : Int32 → Prop} (h : w_X8_clipEnd n M a0 x1 Q) : mw_Met G l yX8_clipEnd (.code yX8_clipEnd cX8_clipEnd 2 (some .int)) { frames := 1, cells := 0, slots := 0, locals := 22 } n M [.ref a0, .int x1] (fun n1 M1 v => n1 = n ∧ mw_pI M Q M1 v) (fun _ _ => False) := by
  refine mw_enter (L0 := [(0, .ref a0), (1, .int x1)]) hlt rfl rfl (plainFor_of_name (by decide)) (Nat.le_of_ble_eq_true rfl) rfl ?_
  intro Y hC0 hZ hnL hini0 hn00
  have hC : mw_C G l _ Y cX8_clipEnd RX8 := hC0
  unfold w_X8_clipEnd at h
  refine jr_aload_n (j := 0) hC dX8_clipEnd_0 rfl rfl ?_
  refine jr_iload_n (j := 1) hC dX8_clipEnd_1 rfl rfl ?_
  refine jr_iconst (v := (2 : Int32)) hC dX8_clipEnd_2 (by decide) ?_
  obtain ⟨hc1, h⟩ := h
  refine jr_callV_pi (As := [.int x1, .int (2 : Int32)]) (st := []) hC nc_RX8_158 (c_X8_clipOf hlt h) hc1 rfl rfl ⟨⟨rfl, rfl⟩, ⟨by decide, by decide⟩, by decide, by decide⟩ (Nat.le_of_ble_eq_true rfl) dX8_clipEnd_3 (fun v2 h => ?_)
  refine jr_aload_n (j := 0) hC dX8_clipEnd_6 rfl rfl ?_
  refine jr_iload_n (j := 1) hC dX8_clipEnd_7 rfl rfl ?_
  refine jr_iconst (v := (4 : Int32)) hC dX8_clipEnd_8 (by decide) ?_
  refine jr_callV_pi (As := [.int x1, .int (4 : Int32)]) (st := [.int v2]) hC nc_RX8_158 (c_X8_clipOf hlt h) hc1 rfl rfl ⟨⟨rfl, rfl⟩, ⟨by decide, by decide⟩, by decide, by decide⟩ (Nat.le_of_ble_eq_true rfl) dX8_clipEnd_9 (fun v3 h => ?_)
  refine jr_iadd hC dX8_clipEnd_12 ?_
  exact jr_ireti hC hZ (by decide) (by decide) dX8_clipEnd_13 ⟨rfl, rfl, _, rfl, h⟩
set_option maxHeartbeats 4000000 in
set_option maxRecDepth 100000 in
theorem c_X8_covers {G : mw_G} {l : Launch} (hlt : l.stackTraces = false) {n : Nat} {M : mw_M} {a0 : Nat} {x1 : Int32} {x2 : Int32} {Q : Int32 → Prop} (h : w_X8_covers n M a0 x1 x2 Q) : mw_Met G l yX8_covers (.code yX8_covers cX8_covers 3 (some .boolean)) { frames := 2, cells := 0, slots := 0, locals := 43 } n M [.ref a0, .int x1, .int x2] (fun n1 M1 v => n1 = n ∧ mw_pI M Q M1 v) (fun _ _ => False) := by
  refine mw_enter (L0 := [(0, .ref a0), (1, .int x1), (2, .int x2)]) hlt rfl rfl (plainFor_of_name (by decide)) (Nat.le_of_ble_eq_true rfl) rfl ?_
  intro Y hC0 hZ hnL hini0 hn00
  have hC : mw_C G l _ Y cX8_covers RX8 := hC0
  have B24 : ∀ (s0 : Int32) (h : w_X8_covers_b24 n M s0 Q), mw_J Y 0 0 n M 24 [] [.int s0] := by
    intro s0 h
    unfold w_X8_covers_b24 at h
    obtain ⟨hc1, h⟩ := h
    exact jr_iretz hC hZ (by decide) (by decide) hc1 dX8_covers_24 ⟨rfl, rfl, _, rfl, h⟩
  have B23 : (w_X8_covers_b23 n M Q) → mw_J Y 0 0 n M 23 [] [] := by
    intro  h
    unfold w_X8_covers_b23 at h
    refine jr_iconst (v := (0 : Int32)) hC dX8_covers_23 (by decide) ?_
    exact B24 (0 : Int32) h
  unfold w_X8_covers at h
  refine jr_iload_n (j := 2) hC dX8_covers_0 rfl rfl ?_
  refine jr_aload_n (j := 0) hC dX8_covers_1 rfl rfl ?_
  refine jr_iload_n (j := 1) hC dX8_covers_2 rfl rfl ?_
  refine jr_iconst (v := (2 : Int32)) hC dX8_covers_3 (by decide) ?_
  obtain ⟨hc2, h⟩ := h
  refine jr_callV_pi (As := [.int x1, .int (2 : Int32)]) (st := [.int x2]) hC nc_RX8_158 (c_X8_clipOf hlt h) hc2 rfl rfl ⟨⟨rfl, rfl⟩, ⟨by decide, by decide⟩, by decide, by decide⟩ (Nat.le_of_ble_eq_true rfl) dX8_covers_4 (fun v3 h => ?_)
  obtain ⟨hthb4, hfhb4⟩ := h
  refine jr_ic_lt (tgt := 23) hC dX8_covers_7 (by decide) (fun hb4 => ?_) (fun hb4 => ?_)
  · have h := hthb4 hb4
    refine jr_sub [] (L1 := []) rfl ?_
    exact B23 h
  · have h := hfhb4 hb4
    refine jr_iload_n (j := 2) hC dX8_covers_10 rfl rfl ?_
    refine jr_aload_n (j := 0) hC dX8_covers_11 rfl rfl ?_
    refine jr_iload_n (j := 1) hC dX8_covers_12 rfl rfl ?_
    refine jr_callV_pi (As := [.int x1]) (st := [.int x2]) hC nc_RX8_161 (c_X8_clipEnd hlt h) hc2 rfl rfl ⟨⟨rfl, rfl⟩, ⟨by decide, by decide⟩, by decide, by decide⟩ (Nat.le_of_ble_eq_true rfl) dX8_covers_13 (fun v5 h => ?_)
    obtain ⟨hthb6, hfhb6⟩ := h
    refine jr_ic_ge (tgt := 23) hC dX8_covers_16 (by decide) (fun hb6 => ?_) (fun hb6 => ?_)
    · have h := hthb6 hb6
      refine jr_sub [] (L1 := []) rfl ?_
      exact B23 h
    · have h := hfhb6 hb6
      refine jr_iconst (v := (1 : Int32)) hC dX8_covers_19 (by decide) ?_
      refine jr_goto (tgt := 24) hC dX8_covers_20 (by decide) ?_
      refine jr_sub [] (L1 := []) rfl ?_
      exact B24 (1 : Int32) h
set_option maxHeartbeats 4000000 in
set_option maxRecDepth 100000 in
theorem c_X8_faded {G : mw_G} {l : Launch} (hlt : l.stackTraces = false) {n : Nat} {M : mw_M} {x0 : Int32} {x1 : Int32} {x2 : Int32} {x3 : Int32} {Q : Int32 → Prop} (h : w_X8_faded n M x0 x1 x2 x3 Q) : mw_Met G l yX8_faded (.code yX8_faded cX8_faded 5 (some .int)) { frames := 2, cells := 0, slots := 0, locals := 47 } n M [.int x0, .int x1, .int x2, .int x3] (fun n1 M1 v => n1 = n ∧ mw_pI M Q M1 v) (fun _ _ => False) := by
  refine mw_enter (L0 := [(0, .int x0), (1, .int x1), (2, .int x2), (3, .int x3)]) hlt rfl rfl (plainFor_of_name (by decide)) (Nat.le_of_ble_eq_true rfl) rfl ?_
  intro Y hC0 hZ hnL hini0 hn00
  have hC : mw_C G l _ Y cX8_faded RX8 := hC0
  have B37 : ∀ (s0 : Int32) (s1l : Int64) (h : w_X8_faded_b37 n M s0 s1l Q), mw_J Y 0 0 n M 37 [] [.int s0, .long s1l] := by
    intro s0 s1l h
    unfold w_X8_faded_b37 at h
    refine jr_callS_pi (As := [.long s1l, .int s0]) (st := []) hC nc_RX8_164 (c_X8_applied hlt h) rfl rfl ⟨⟨rfl, rfl⟩, ⟨by decide, by decide⟩, by decide, by decide⟩ (Nat.le_of_ble_eq_true rfl) dX8_faded_37 (fun v1 h => ?_)
    exact jr_ireti hC hZ (by decide) (by decide) dX8_faded_40 ⟨rfl, rfl, _, rfl, h⟩
  unfold w_X8_faded at h
  refine jr_iload_n (j := 1) hC dX8_faded_0 rfl rfl ?_
  refine jr_iload_n (j := 2) hC dX8_faded_1 rfl rfl ?_
  obtain ⟨hthb2, hfhb2⟩ := h
  refine jr_ic_lt (tgt := 7) hC dX8_faded_2 (by decide) (fun hb2 => ?_) (fun hb2 => ?_)
  · have h := hthb2 hb2
    refine jr_sipush (v := (1000 : Int32)) hC dX8_faded_7 (by decide) ?_
    refine jr_iload_n (j := 1) hC dX8_faded_10 rfl rfl ?_
    refine jr_imul hC dX8_faded_11 ?_
    refine jr_iload_n (j := 2) hC dX8_faded_12 rfl rfl ?_
    obtain ⟨hc3, h⟩ := h
    refine jr_idiv hC dX8_faded_13 hc3 ?_
    refine jr_nmI (fun v4 ev4 => ?_)
    have h := h v4 ev4
    refine jr_istore (L1 := [(4, .int v4), (0, .int x0), (1, .int x1), (2, .int x2), (3, .int x3)]) hC dX8_faded_14 hnL (by decide) rfl ?_
    refine jr_iload_n (j := 1) hC dX8_faded_16 rfl rfl ?_
    refine jr_i2l hC dX8_faded_17 ?_
    refine jr_iload_n (j := 4) hC dX8_faded_18 rfl rfl ?_
    refine jr_iconst (v := (1 : Int32)) hC dX8_faded_19 (by decide) ?_
    obtain ⟨hthb5, hfhb5⟩ := h
    refine jr_ic_ne (tgt := 35) hC dX8_faded_20 (by decide) (fun hb5 => ?_) (fun hb5 => ?_)
    · have h := hthb5 hb5
      refine jr_iload (j := 0) hC dX8_faded_35 rfl ?_
      refine jr_sub [] (L1 := []) rfl ?_
      exact B37 v4 (Int32.toInt64 x0) h
    · have h := hfhb5 hb5
      refine jr_iload (j := 0) hC dX8_faded_23 rfl ?_
      refine jr_iload (j := 0) hC dX8_faded_25 rfl ?_
      refine jr_imul hC dX8_faded_27 ?_
      refine jr_sipush (v := (1000 : Int32)) hC dX8_faded_28 (by decide) ?_
      refine jr_idiv hC dX8_faded_31 (by decide) ?_
      refine jr_goto (tgt := 37) hC dX8_faded_32 (by decide) ?_
      refine jr_sub [] (L1 := []) rfl ?_
      exact B37 ((v4 * v4) / (1000 : Int32)) (Int32.toInt64 x0) h
  · have h := hfhb2 hb2
    refine jr_iload_n (j := 0) hC dX8_faded_5 rfl rfl ?_
    exact jr_ireti hC hZ (by decide) (by decide) dX8_faded_6 ⟨rfl, rfl, _, rfl, h⟩
set_option maxHeartbeats 4000000 in
set_option maxRecDepth 100000 in
theorem c_X8_raw {G : mw_G} {l : Launch} (hlt : l.stackTraces = false) {n : Nat} {M : mw_M} {a0 : Nat} {x1 : Int32} {x2 : Int32} {Q : Int32 → Prop} (h : w_X8_raw n M a0 x1 x2 Q) : mw_Met G l yX8_raw (.code yX8_raw cX8_raw 7 (some .int)) { frames := 3, cells := 0, slots := 0, locals := 71 } n M [.ref a0, .int x1, .int x2] (fun n1 M1 v => n1 = n ∧ mw_pI M Q M1 v) (fun _ _ => False) := by
  refine mw_enter (L0 := [(0, .ref a0), (1, .int x1), (2, .int x2)]) hlt rfl rfl (plainFor_of_name (by decide)) (Nat.le_of_ble_eq_true rfl) rfl ?_
  intro Y hC0 hZ hnL hini0 hn00
  have hC : mw_C G l _ Y cX8_raw RX8 := hC0
  have B51 : ∀ (r0 : Nat) (x1 : Int32) (x3 : Int32) (s0l : Int64) (h : w_X8_raw_b51 n M r0 x1 x3 s0l Q), mw_J Y 0 0 n M 51 [(0, .ref r0), (1, .int x1), (3, .int x3)] [.long s0l] := by
    intro r0 x1 x3 s0l h
    unfold w_X8_raw_b51 at h
    refine jr_aload_n (j := 0) hC dX8_raw_51 rfl rfl ?_
    refine jr_iload_n (j := 1) hC dX8_raw_52 rfl rfl ?_
    refine jr_iconst (v := (5 : Int32)) hC dX8_raw_53 (by decide) ?_
    obtain ⟨hc1, h⟩ := h
    refine jr_callV_pi (As := [.int x1, .int (5 : Int32)]) (st := [.long s0l]) hC nc_RX8_158 (c_X8_clipOf hlt h) hc1 rfl rfl ⟨⟨rfl, rfl⟩, ⟨by decide, by decide⟩, by decide, by decide⟩ (Nat.le_of_ble_eq_true rfl) dX8_raw_54 (fun v2 h => ?_)
    refine jr_callS_pi (As := [.long s0l, .int v2]) (st := []) hC nc_RX8_164 (c_X8_applied hlt h) rfl rfl ⟨⟨rfl, rfl⟩, ⟨by decide, by decide⟩, by decide, by decide⟩ (Nat.le_of_ble_eq_true rfl) dX8_raw_57 (fun v3 h => ?_)
    refine jr_istore (L1 := [(6, .int v3), (0, .ref r0), (1, .int x1), (3, .int x3)]) hC dX8_raw_60 hnL (by decide) rfl ?_
    refine jr_iload (j := 0) hC dX8_raw_62 rfl ?_
    refine jr_iload_n (j := 3) hC dX8_raw_64 rfl rfl ?_
    refine jr_aload_n (j := 1) hC dX8_raw_65 rfl rfl ?_
    refine jr_iload_n (j := 2) hC dX8_raw_66 rfl rfl ?_
    refine jr_bipush (v := (6 : Int32)) hC dX8_raw_67 (by decide) ?_
    refine jr_callV_pi (As := [.int x1, .int (6 : Int32)]) (st := [.int x3, .int v3]) hC nc_RX8_158 (c_X8_clipOf hlt h) hc1 rfl rfl ⟨⟨rfl, rfl⟩, ⟨by decide, by decide⟩, by decide, by decide⟩ (Nat.le_of_ble_eq_true rfl) dX8_raw_69 (fun v4 h => ?_)
    refine jr_aload_n (j := 1) hC dX8_raw_72 rfl rfl ?_
    refine jr_iload_n (j := 2) hC dX8_raw_73 rfl rfl ?_
    refine jr_bipush (v := (8 : Int32)) hC dX8_raw_74 (by decide) ?_
    refine jr_callV_pi (As := [.int x1, .int (8 : Int32)]) (st := [.int v4, .int x3, .int v3]) hC nc_RX8_158 (c_X8_clipOf hlt h) hc1 rfl rfl ⟨⟨rfl, rfl⟩, ⟨by decide, by decide⟩, by decide, by decide⟩ (Nat.le_of_ble_eq_true rfl) dX8_raw_76 (fun v5 h => ?_)
    refine jr_callS_pi (As := [.int v3, .int x3, .int v4, .int v5]) (st := []) hC nc_RX8_168 (c_X8_faded hlt h) rfl rfl ⟨⟨rfl, rfl⟩, ⟨by decide, by decide⟩, by decide, by decide⟩ (Nat.le_of_ble_eq_true rfl) dX8_raw_79 (fun v6 h => ?_)
    refine jr_istore (L1 := [(6, .int v6), (0, .ref r0), (1, .int x1), (3, .int x3)]) hC dX8_raw_82 hnL (by decide) rfl ?_
    refine jr_iload (j := 0) hC dX8_raw_84 rfl ?_
    refine jr_aload_n (j := 1) hC dX8_raw_86 rfl rfl ?_
    refine jr_iload_n (j := 2) hC dX8_raw_87 rfl rfl ?_
    refine jr_iconst (v := (4 : Int32)) hC dX8_raw_88 (by decide) ?_
    refine jr_callV_pi (As := [.int x1, .int (4 : Int32)]) (st := [.int v6]) hC nc_RX8_158 (c_X8_clipOf hlt h) hc1 rfl rfl ⟨⟨rfl, rfl⟩, ⟨by decide, by decide⟩, by decide, by decide⟩ (Nat.le_of_ble_eq_true rfl) dX8_raw_89 (fun v7 h => ?_)
    refine jr_iconst (v := (1 : Int32)) hC dX8_raw_92 (by decide) ?_
    refine jr_isub hC dX8_raw_93 ?_
    refine jr_iload_n (j := 3) hC dX8_raw_94 rfl rfl ?_
    refine jr_isub hC dX8_raw_95 ?_
    refine jr_aload_n (j := 1) hC dX8_raw_96 rfl rfl ?_
    refine jr_iload_n (j := 2) hC dX8_raw_97 rfl rfl ?_
    refine jr_bipush (v := (7 : Int32)) hC dX8_raw_98 (by decide) ?_
    refine jr_callV_pi (As := [.int x1, .int (7 : Int32)]) (st := [.int ((v7 - (1 : Int32)) - x3), .int v6]) hC nc_RX8_158 (c_X8_clipOf hlt h) hc1 rfl rfl ⟨⟨rfl, rfl⟩, ⟨by decide, by decide⟩, by decide, by decide⟩ (Nat.le_of_ble_eq_true rfl) dX8_raw_100 (fun v8 h => ?_)
    refine jr_aload_n (j := 1) hC dX8_raw_103 rfl rfl ?_
    refine jr_iload_n (j := 2) hC dX8_raw_104 rfl rfl ?_
    refine jr_bipush (v := (8 : Int32)) hC dX8_raw_105 (by decide) ?_
    refine jr_callV_pi (As := [.int x1, .int (8 : Int32)]) (st := [.int v8, .int ((v7 - (1 : Int32)) - x3), .int v6]) hC nc_RX8_158 (c_X8_clipOf hlt h) hc1 rfl rfl ⟨⟨rfl, rfl⟩, ⟨by decide, by decide⟩, by decide, by decide⟩ (Nat.le_of_ble_eq_true rfl) dX8_raw_107 (fun v9 h => ?_)
    refine jr_callS_pi (As := [.int v6, .int ((v7 - (1 : Int32)) - x3), .int v8, .int v9]) (st := []) hC nc_RX8_168 (c_X8_faded hlt h) rfl rfl ⟨⟨rfl, rfl⟩, ⟨by decide, by decide⟩, by decide, by decide⟩ (Nat.le_of_ble_eq_true rfl) dX8_raw_110 (fun v10 h => ?_)
    exact jr_ireti hC hZ (by decide) (by decide) dX8_raw_113 ⟨rfl, rfl, _, rfl, h⟩
  unfold w_X8_raw at h
  refine jr_iload_n (j := 2) hC dX8_raw_0 rfl rfl ?_
  refine jr_aload_n (j := 0) hC dX8_raw_1 rfl rfl ?_
  refine jr_iload_n (j := 1) hC dX8_raw_2 rfl rfl ?_
  refine jr_iconst (v := (2 : Int32)) hC dX8_raw_3 (by decide) ?_
  obtain ⟨hc11, h⟩ := h
  refine jr_callV_pi (As := [.int x1, .int (2 : Int32)]) (st := [.int x2]) hC nc_RX8_158 (c_X8_clipOf hlt h) hc11 rfl rfl ⟨⟨rfl, rfl⟩, ⟨by decide, by decide⟩, by decide, by decide⟩ (Nat.le_of_ble_eq_true rfl) dX8_raw_4 (fun v12 h => ?_)
  refine jr_isub hC dX8_raw_7 ?_
  refine jr_nmI (fun v13 ev13 => ?_)
  have h := h v13 ev13
  refine jr_istore_n (L1 := [(3, .int v13), (0, .ref a0), (1, .int x1), (2, .int x2)]) hC dX8_raw_8 rfl hnL (by decide) rfl ?_
  refine jr_aload_n (j := 1) hC dX8_raw_9 rfl rfl ?_
  refine jr_iload_n (j := 2) hC dX8_raw_10 rfl rfl ?_
  refine jr_iconst (v := (1 : Int32)) hC dX8_raw_11 (by decide) ?_
  refine jr_callV_pi (As := [.int x1, .int (1 : Int32)]) (st := []) hC nc_RX8_158 (c_X8_clipOf hlt h) hc11 rfl rfl ⟨⟨rfl, rfl⟩, ⟨by decide, by decide⟩, by decide, by decide⟩ (Nat.le_of_ble_eq_true rfl) dX8_raw_12 (fun v14 h => ?_)
  refine jr_istore (L1 := [(4, .int v14), (3, .int v13), (0, .ref a0), (1, .int x1), (2, .int x2)]) hC dX8_raw_15 hnL (by decide) rfl ?_
  refine jr_aload_n (j := 2) hC dX8_raw_17 rfl rfl ?_
  refine jr_iload_n (j := 3) hC dX8_raw_18 rfl rfl ?_
  refine jr_iconst (v := (3 : Int32)) hC dX8_raw_19 (by decide) ?_
  refine jr_callV_pi (As := [.int x1, .int (3 : Int32)]) (st := []) hC nc_RX8_158 (c_X8_clipOf hlt h) hc11 rfl rfl ⟨⟨rfl, rfl⟩, ⟨by decide, by decide⟩, by decide, by decide⟩ (Nat.le_of_ble_eq_true rfl) dX8_raw_20 (fun v15 h => ?_)
  refine jr_iload_n (j := 1) hC dX8_raw_23 rfl rfl ?_
  refine jr_iadd hC dX8_raw_24 ?_
  refine jr_nmI (fun v16 ev16 => ?_)
  have h := h v16 ev16
  refine jr_istore (L1 := [(5, .int v16), (4, .int v14), (3, .int v13), (0, .ref a0), (1, .int x1), (2, .int x2)]) hC dX8_raw_25 hnL (by decide) rfl ?_
  refine jr_aload_n (j := 3) hC dX8_raw_27 rfl rfl ?_
  refine jr_iload (j := 1) hC dX8_raw_28 rfl ?_
  refine jr_iload (j := 0) hC dX8_raw_30 rfl ?_
  refine jr_callV_pi (As := [.int v14, .int v16]) (st := []) hC nc_RX8_88 (c_X8_hasSample hlt h) hc11 rfl rfl ⟨⟨rfl, rfl⟩, ⟨by decide, by decide⟩, by decide, by decide⟩ (Nat.le_of_ble_eq_true rfl) dX8_raw_32 (fun v17 h => ?_)
  obtain ⟨hthb18, hfhb18⟩ := h
  refine jr_if_eq (tgt := 50) hC dX8_raw_35 (by decide) (fun hb18 => ?_) (fun hb18 => ?_)
  · have h := hthb18 hb18
    refine jr_lconst (v := (0 : Int64)) hC dX8_raw_50 (by decide) ?_
    refine jr_sub [3, 4, 2] (L1 := [(0, .ref a0), (1, .int x1), (3, .int v13)]) rfl ?_
    exact B51 a0 x1 v13 (0 : Int64) h
  · have h := hfhb18 hb18
    refine jr_aload_n (j := 3) hC dX8_raw_38 rfl rfl ?_
    refine jr_iload (j := 1) hC dX8_raw_39 rfl ?_
    refine jr_iload (j := 0) hC dX8_raw_41 rfl ?_
    refine jr_callV_pi (As := [.int v14, .int v16]) (st := []) hC nc_RX8_92 (c_X8_sampleOf hlt h) hc11 rfl rfl ⟨⟨rfl, rfl⟩, ⟨by decide, by decide⟩, by decide, by decide⟩ (Nat.le_of_ble_eq_true rfl) dX8_raw_43 (fun v19 h => ?_)
    refine jr_i2l hC dX8_raw_46 ?_
    refine jr_goto (tgt := 51) hC dX8_raw_47 (by decide) ?_
    refine jr_sub [3, 4, 2] (L1 := [(0, .ref a0), (1, .int x1), (3, .int v13)]) rfl ?_
    exact B51 a0 x1 v13 (Int32.toInt64 v19) h
set_option maxHeartbeats 4000000 in
set_option maxRecDepth 100000 in
theorem c_X8_clipValue {G : mw_G} {l : Launch} (hlt : l.stackTraces = false) {n : Nat} {M : mw_M} {a0 : Nat} {x1 : Int32} {x2 : Int32} {Q : mw_M → Int32 → Prop} (h : w_X8_clipValue n M a0 x1 x2 Q) : mw_Met G l yX8_clipValue (.code yX8_clipValue cX8_clipValue 3 (some .int)) { frames := 4, cells := 0, slots := 0, locals := 97 } n M [.ref a0, .int x1, .int x2] (fun n1 M1 v => n1 = n ∧ mw_rI Q M1 v) (fun _ _ => False) := by
  refine mw_enter (L0 := [(0, .ref a0), (1, .int x1), (2, .int x2)]) hlt rfl rfl (plainFor_of_name (by decide)) (Nat.le_of_ble_eq_true rfl) rfl ?_
  intro Y hC0 hZ hnL hini0 hn00
  have hC : mw_C G l _ Y cX8_clipValue RX8 := hC0
  have B43 : ∀ (M : mw_M) (s0 : Int32) (h : w_X8_clipValue_b43 n M s0 Q), mw_J Y 0 0 n M 43 [] [.int s0] := by
    intro M s0 h
    unfold w_X8_clipValue_b43 at h
    exact jr_ireti hC hZ (by decide) (by decide) dX8_clipValue_43 ⟨rfl, _, rfl, h⟩
  have B27 : ∀ (M : mw_M) (r0 : Nat) (x1 : Int32) (x2 : Int32) (s0 : Int32) (s1r : Nat) (h : w_X8_clipValue_b27 n M r0 x1 x2 s0 s1r Q), mw_J Y 0 0 n M 27 [(0, .ref r0), (1, .int x1), (2, .int x2)] [.int s0, .ref s1r] := by
    intro M r0 x1 x2 s0 s1r h
    unfold w_X8_clipValue_b27 at h
    obtain ⟨hc1, h⟩ := h
    refine jr_callV_i (As := [.int s0]) (st := []) hC nc_RX8_51 (c_X8_refuses hlt h) hc1 rfl rfl ⟨⟨rfl, rfl⟩, ⟨by decide, by decide⟩, by decide, by decide⟩ (Nat.le_of_ble_eq_true rfl) dX8_clipValue_27 (fun M2 v3 h => ?_)
    obtain ⟨hthb4, hfhb4⟩ := h
    refine jr_if_eq (tgt := 37) hC dX8_clipValue_30 (by decide) (fun hb4 => ?_) (fun hb4 => ?_)
    · have h := hthb4 hb4
      refine jr_aload_n (j := 0) hC dX8_clipValue_37 rfl rfl ?_
      refine jr_iload_n (j := 1) hC dX8_clipValue_38 rfl rfl ?_
      refine jr_iload_n (j := 2) hC dX8_clipValue_39 rfl rfl ?_
      obtain ⟨hc5, h⟩ := h
      refine jr_callV_pi (As := [.int x1, .int x2]) (st := []) hC nc_RX8_175 (c_X8_raw hlt h) hc5 rfl rfl ⟨⟨rfl, rfl⟩, ⟨by decide, by decide⟩, by decide, by decide⟩ (Nat.le_of_ble_eq_true rfl) dX8_clipValue_40 (fun v6 h => ?_)
      refine jr_sub [] (L1 := []) rfl ?_
      exact B43 M2 v6 h
    · have h := hfhb4 hb4
      refine jr_iconst (v := (0 : Int32)) hC dX8_clipValue_33 (by decide) ?_
      refine jr_goto (tgt := 43) hC dX8_clipValue_34 (by decide) ?_
      refine jr_sub [] (L1 := []) rfl ?_
      exact B43 M2 (0 : Int32) h
  unfold w_X8_clipValue at h
  refine jr_aload_n (j := 0) hC dX8_clipValue_0 rfl rfl ?_
  refine jr_aload_n (j := 0) hC dX8_clipValue_1 rfl rfl ?_
  refine jr_iload_n (j := 1) hC dX8_clipValue_2 rfl rfl ?_
  obtain ⟨hc7, h⟩ := h
  refine jr_callV_pi (As := [.int x1]) (st := [.ref a0]) hC nc_RX8_136 (c_X8_isClip hlt h) hc7 rfl rfl ⟨⟨rfl, rfl⟩, ⟨by decide, by decide⟩, by decide, by decide⟩ (Nat.le_of_ble_eq_true rfl) dX8_clipValue_3 (fun v8 h => ?_)
  obtain ⟨hthb9, hfhb9⟩ := h
  refine jr_if_ne (tgt := 13) hC dX8_clipValue_6 (by decide) (fun hb9 => ?_) (fun hb9 => ?_)
  · have h := hthb9 hb9
    refine jr_aload_n (j := 0) hC dX8_clipValue_13 rfl rfl ?_
    refine jr_iload_n (j := 1) hC dX8_clipValue_14 rfl rfl ?_
    refine jr_iload_n (j := 2) hC dX8_clipValue_15 rfl rfl ?_
    refine jr_callV_pi (As := [.int x1, .int x2]) (st := [.ref a0]) hC nc_RX8_172 (c_X8_covers hlt h) hc7 rfl rfl ⟨⟨rfl, rfl⟩, ⟨by decide, by decide⟩, by decide, by decide⟩ (Nat.le_of_ble_eq_true rfl) dX8_clipValue_16 (fun v10 h => ?_)
    obtain ⟨hthb11, hfhb11⟩ := h
    refine jr_if_eq (tgt := 26) hC dX8_clipValue_19 (by decide) (fun hb11 => ?_) (fun hb11 => ?_)
    · have h := hthb11 hb11
      refine jr_iconst (v := (2 : Int32)) hC dX8_clipValue_26 (by decide) ?_
      exact B27 M a0 x1 x2 (2 : Int32) a0 h
    · have h := hfhb11 hb11
      refine jr_iconst (v := (0 : Int32)) hC dX8_clipValue_22 (by decide) ?_
      refine jr_goto (tgt := 27) hC dX8_clipValue_23 (by decide) ?_
      exact B27 M a0 x1 x2 (0 : Int32) a0 h
  · have h := hfhb9 hb9
    refine jr_iconst (v := (1 : Int32)) hC dX8_clipValue_9 (by decide) ?_
    refine jr_goto (tgt := 27) hC dX8_clipValue_10 (by decide) ?_
    exact B27 M a0 x1 x2 (1 : Int32) a0 h
set_option maxHeartbeats 4000000 in
set_option maxRecDepth 100000 in
theorem c_X8_setTrack {G : mw_G} {l : Launch} (hlt : l.stackTraces = false) {n : Nat} {M : mw_M} {a0 : Nat} {x1 : Int32} {x2 : Int32} {x3 : Int32} {x4 : Int32} {x5 : Int32} {Q : mw_M → Int32 → Prop} (h : w_X8_setTrack n M a0 x1 x2 x3 x4 x5 Q) : mw_Met G l yX8_setTrack (.code yX8_setTrack cX8_setTrack 8 (some .int)) { frames := 2, cells := 0, slots := 0, locals := 45 } n M [.ref a0, .int x1, .int x2, .int x3, .int x4, .int x5] (fun n1 M1 v => n1 = n ∧ mw_rI Q M1 v) (fun _ _ => False) := by
  refine mw_enter (L0 := [(0, .ref a0), (1, .int x1), (2, .int x2), (3, .int x3), (4, .int x4), (5, .int x5)]) hlt rfl rfl (plainFor_of_name (by decide)) (Nat.le_of_ble_eq_true rfl) rfl ?_
  intro Y hC0 hZ hnL hini0 hn00
  have hC : mw_C G l _ Y cX8_setTrack RX8 := hC0
  have B116 : ∀ (M : mw_M) (r0 : Nat) (x2 : Int32) (x7 : Int32) (s0 : Int32) (s1 : Int32) (s2r : Nat) (h : w_X8_setTrack_b116 n M r0 x2 x7 s0 s1 s2r Q), mw_J Y 0 0 n M 116 [(0, .ref r0), (2, .int x2), (7, .int x7)] [.int s0, .int s1, .ref s2r] := by
    intro M r0 x2 x7 s0 s1 s2r h
    unfold w_X8_setTrack_b116 at h
    obtain ⟨hc1, h⟩ := h
    obtain ⟨hc2, h⟩ := h
    obtain ⟨M3, eM3⟩ : ∃ y : mw_M, y = sI M s2r (Int32.toNatClampNeg s1) s0 := ⟨_, rfl⟩
    have h := h M3 eM3
    refine jr_iast hC hc1 hc2 eM3 dX8_setTrack_116 ?_
    refine jr_aload_n (j := 0) hC dX8_setTrack_117 rfl rfl ?_
    refine jr_iload (j := 2) hC dX8_setTrack_118 rfl ?_
    refine jr_iload_n (j := 1) hC dX8_setTrack_120 rfl rfl ?_
    obtain ⟨hc4, h⟩ := h
    refine jr_callV_i (As := [.int x7, .int x2]) (st := []) hC nc_RX8_76 (c_X8_becomes hlt h) hc4 rfl rfl ⟨⟨rfl, rfl⟩, ⟨by decide, by decide⟩, by decide, by decide⟩ (Nat.le_of_ble_eq_true rfl) dX8_setTrack_121 (fun M5 v6 h => ?_)
    exact jr_ireti hC hZ (by decide) (by decide) dX8_setTrack_124 ⟨rfl, _, rfl, h⟩
  have B97 : ∀ (M : mw_M) (r0 : Nat) (x2 : Int32) (x5 : Int32) (x7 : Int32) (s0 : Int32) (s1 : Int32) (s2r : Nat) (h : w_X8_setTrack_b97 n M r0 x2 x5 x7 s0 s1 s2r Q), mw_J Y 0 0 n M 97 [(0, .ref r0), (2, .int x2), (5, .int x5), (7, .int x7)] [.int s0, .int s1, .ref s2r] := by
    intro M r0 x2 x5 x7 s0 s1 s2r h
    unfold w_X8_setTrack_b97 at h
    obtain ⟨hc7, h⟩ := h
    obtain ⟨hc8, h⟩ := h
    obtain ⟨M9, eM9⟩ : ∃ y : mw_M, y = sI M s2r (Int32.toNatClampNeg s1) s0 := ⟨_, rfl⟩
    have h := h M9 eM9
    refine jr_iast hC hc7 hc8 eM9 dX8_setTrack_97 ?_
    refine jr_aload_n (j := 0) hC dX8_setTrack_98 rfl rfl ?_
    obtain ⟨hc10, h⟩ := h
    refine jr_get2 hC fl_RX8_7 hc10 dX8_setTrack_99 ?_
    refine jr_iload (j := 3) hC dX8_setTrack_102 rfl ?_
    refine jr_iconst (v := (3 : Int32)) hC dX8_setTrack_104 (by decide) ?_
    refine jr_iadd hC dX8_setTrack_105 ?_
    refine jr_iload (j := 2) hC dX8_setTrack_106 rfl ?_
    obtain ⟨hthb11, hfhb11⟩ := h
    refine jr_if_eq (tgt := 115) hC dX8_setTrack_108 (by decide) (fun hb11 => ?_) (fun hb11 => ?_)
    · have h := hthb11 hb11
      refine jr_iconst (v := (0 : Int32)) hC dX8_setTrack_115 (by decide) ?_
      refine jr_sub [0, 1, 3] (L1 := [(0, .ref r0), (2, .int x2), (7, .int x7)]) rfl ?_
      exact B116 M9 r0 x2 x7 (0 : Int32) (x7 + (3 : Int32)) (mP M9 r0 0) h
    · have h := hfhb11 hb11
      refine jr_iconst (v := (1 : Int32)) hC dX8_setTrack_111 (by decide) ?_
      refine jr_goto (tgt := 116) hC dX8_setTrack_112 (by decide) ?_
      refine jr_sub [0, 1, 3] (L1 := [(0, .ref r0), (2, .int x2), (7, .int x7)]) rfl ?_
      exact B116 M9 r0 x2 x7 (1 : Int32) (x7 + (3 : Int32)) (mP M9 r0 0) h
  have B55 : ∀ (M : mw_M) (r0 : Nat) (x1 : Int32) (x2 : Int32) (x3 : Int32) (x4 : Int32) (x5 : Int32) (s0 : Int32) (s1r : Nat) (h : w_X8_setTrack_b55 n M r0 x1 x2 x3 x4 x5 s0 s1r Q), mw_J Y 0 0 n M 55 [(0, .ref r0), (1, .int x1), (2, .int x2), (3, .int x3), (4, .int x4), (5, .int x5)] [.int s0, .ref s1r] := by
    intro M r0 x1 x2 x3 x4 x5 s0 s1r h
    unfold w_X8_setTrack_b55 at h
    obtain ⟨hc12, h⟩ := h
    refine jr_callV_i (As := [.int s0]) (st := []) hC nc_RX8_73 (c_X8_refusesChange hlt h) hc12 rfl rfl ⟨⟨rfl, rfl⟩, ⟨by decide, by decide⟩, by decide, by decide⟩ (Nat.le_of_ble_eq_true rfl) dX8_setTrack_55 (fun M13 v14 h => ?_)
    obtain ⟨hthb15, hfhb15⟩ := h
    refine jr_if_eq (tgt := 63) hC dX8_setTrack_58 (by decide) (fun hb15 => ?_) (fun hb15 => ?_)
    · have h := hthb15 hb15
      refine jr_iload_n (j := 1) hC dX8_setTrack_63 rfl rfl ?_
      refine jr_callS_pi (As := [.int x1]) (st := []) hC nc_RX8_35 (c_X8_trackAt hlt h) rfl rfl ⟨⟨rfl, rfl⟩, ⟨by decide, by decide⟩, by decide, by decide⟩ (Nat.le_of_ble_eq_true rfl) dX8_setTrack_64 (fun v16 h => ?_)
      refine jr_istore (L1 := [(7, .int v16), (0, .ref r0), (1, .int x1), (2, .int x2), (3, .int x3), (4, .int x4), (5, .int x5)]) hC dX8_setTrack_67 hnL (by decide) rfl ?_
      refine jr_aload_n (j := 1) hC dX8_setTrack_69 rfl rfl ?_
      obtain ⟨hc17, h⟩ := h
      refine jr_get2 hC fl_RX8_7 hc17 dX8_setTrack_70 ?_
      refine jr_iload (j := 0) hC dX8_setTrack_73 rfl ?_
      refine jr_iconst (v := (1 : Int32)) hC dX8_setTrack_75 (by decide) ?_
      refine jr_iadd hC dX8_setTrack_76 ?_
      refine jr_iload_n (j := 4) hC dX8_setTrack_77 rfl rfl ?_
      obtain ⟨hc18, h⟩ := h
      obtain ⟨hc19, h⟩ := h
      obtain ⟨M20, eM20⟩ : ∃ y : mw_M, y = sI M13 (mP M13 r0 0) (Int32.toNatClampNeg (v16 + (1 : Int32))) x3 := ⟨_, rfl⟩
      have h := h M20 eM20
      refine jr_iast hC hc18 hc19 eM20 dX8_setTrack_78 ?_
      refine jr_aload_n (j := 1) hC dX8_setTrack_79 rfl rfl ?_
      refine jr_get2 hC fl_RX8_7 hc17 dX8_setTrack_80 ?_
      refine jr_iload (j := 0) hC dX8_setTrack_83 rfl ?_
      refine jr_iconst (v := (2 : Int32)) hC dX8_setTrack_85 (by decide) ?_
      refine jr_iadd hC dX8_setTrack_86 ?_
      refine jr_iload (j := 5) hC dX8_setTrack_87 rfl ?_
      obtain ⟨hthb21, hfhb21⟩ := h
      refine jr_if_eq (tgt := 96) hC dX8_setTrack_89 (by decide) (fun hb21 => ?_) (fun hb21 => ?_)
      · have h := hthb21 hb21
        refine jr_iconst (v := (0 : Int32)) hC dX8_setTrack_96 (by decide) ?_
        refine jr_sub [1, 3, 6, 0] (L1 := [(0, .ref r0), (2, .int x2), (5, .int x5), (7, .int v16)]) rfl ?_
        exact B97 M20 r0 x2 x5 v16 (0 : Int32) (v16 + (2 : Int32)) (mP M20 r0 0) h
      · have h := hfhb21 hb21
        refine jr_iconst (v := (1 : Int32)) hC dX8_setTrack_92 (by decide) ?_
        refine jr_goto (tgt := 97) hC dX8_setTrack_93 (by decide) ?_
        refine jr_sub [1, 3, 6, 0] (L1 := [(0, .ref r0), (2, .int x2), (5, .int x5), (7, .int v16)]) rfl ?_
        exact B97 M20 r0 x2 x5 v16 (1 : Int32) (v16 + (2 : Int32)) (mP M20 r0 0) h
    · have h := hfhb15 hb15
      refine jr_iconst (v := (0 : Int32)) hC dX8_setTrack_61 (by decide) ?_
      exact jr_ireti hC hZ (by decide) (by decide) dX8_setTrack_62 ⟨rfl, _, rfl, h⟩
  have B31 : ∀ (M : mw_M) (r0 : Nat) (x1 : Int32) (x2 : Int32) (x3 : Int32) (x4 : Int32) (x5 : Int32) (s0 : Int32) (h : w_X8_setTrack_b31 n M r0 x1 x2 x3 x4 x5 s0 Q), mw_J Y 0 0 n M 31 [(0, .ref r0), (1, .int x1), (2, .int x2), (3, .int x3), (4, .int x4), (5, .int x5)] [.int s0] := by
    intro M r0 x1 x2 x3 x4 x5 s0 h
    unfold w_X8_setTrack_b31 at h
    refine jr_istore (L1 := [(6, .int s0), (0, .ref r0), (1, .int x1), (2, .int x2), (3, .int x3), (4, .int x4), (5, .int x5)]) hC dX8_setTrack_31 hnL (by decide) rfl ?_
    refine jr_aload_n (j := 1) hC dX8_setTrack_33 rfl rfl ?_
    refine jr_iload_n (j := 2) hC dX8_setTrack_34 rfl rfl ?_
    refine jr_callS_pi (As := [.int x1]) (st := [.ref r0]) hC nc_RX8_111 (c_X8_isTrack hlt h) rfl rfl ⟨⟨rfl, rfl⟩, ⟨by decide, by decide⟩, by decide, by decide⟩ (Nat.le_of_ble_eq_true rfl) dX8_setTrack_35 (fun v22 h => ?_)
    obtain ⟨hthb23, hfhb23⟩ := h
    refine jr_if_ne (tgt := 45) hC dX8_setTrack_38 (by decide) (fun hb23 => ?_) (fun hb23 => ?_)
    · have h := hthb23 hb23
      refine jr_iload (j := 0) hC dX8_setTrack_45 rfl ?_
      obtain ⟨hthb24, hfhb24⟩ := h
      refine jr_if_eq (tgt := 54) hC dX8_setTrack_47 (by decide) (fun hb24 => ?_) (fun hb24 => ?_)
      · have h := hthb24 hb24
        refine jr_iconst (v := (2 : Int32)) hC dX8_setTrack_54 (by decide) ?_
        refine jr_sub [1, 2, 3, 4, 5, 6] (L1 := [(0, .ref r0), (1, .int x1), (2, .int x2), (3, .int x3), (4, .int x4), (5, .int x5)]) rfl ?_
        exact B55 M r0 x1 x2 x3 x4 x5 (2 : Int32) r0 h
      · have h := hfhb24 hb24
        refine jr_iconst (v := (0 : Int32)) hC dX8_setTrack_50 (by decide) ?_
        refine jr_goto (tgt := 55) hC dX8_setTrack_51 (by decide) ?_
        refine jr_sub [1, 2, 3, 4, 5, 6] (L1 := [(0, .ref r0), (1, .int x1), (2, .int x2), (3, .int x3), (4, .int x4), (5, .int x5)]) rfl ?_
        exact B55 M r0 x1 x2 x3 x4 x5 (0 : Int32) r0 h
    · have h := hfhb23 hb23
      refine jr_iconst (v := (1 : Int32)) hC dX8_setTrack_41 (by decide) ?_
      refine jr_goto (tgt := 55) hC dX8_setTrack_42 (by decide) ?_
      refine jr_sub [1, 2, 3, 4, 5, 6] (L1 := [(0, .ref r0), (1, .int x1), (2, .int x2), (3, .int x3), (4, .int x4), (5, .int x5)]) rfl ?_
      exact B55 M r0 x1 x2 x3 x4 x5 (1 : Int32) r0 h
  have B30 : ∀ (M : mw_M) (r0 : Nat) (x1 : Int32) (x2 : Int32) (x3 : Int32) (x4 : Int32) (x5 : Int32) (h : w_X8_setTrack_b30 n M r0 x1 x2 x3 x4 x5 Q), mw_J Y 0 0 n M 30 [(0, .ref r0), (1, .int x1), (2, .int x2), (3, .int x3), (4, .int x4), (5, .int x5)] [] := by
    intro M r0 x1 x2 x3 x4 x5 h
    unfold w_X8_setTrack_b30 at h
    refine jr_iconst (v := (0 : Int32)) hC dX8_setTrack_30 (by decide) ?_
    exact B31 M r0 x1 x2 x3 x4 x5 (0 : Int32) h
  unfold w_X8_setTrack at h
  refine jr_iload_n (j := 2) hC dX8_setTrack_0 rfl rfl ?_
  refine jr_i2l hC dX8_setTrack_1 ?_
  refine jr_lconst (v := (0 : Int64)) hC dX8_setTrack_2 (by decide) ?_
  refine jr_ldc2 (v := (2000 : Int64)) hC tw_1131 dX8_setTrack_3 ?_
  refine jr_callS_pi (As := [.long (Int32.toInt64 x2), .long (0 : Int64), .long (2000 : Int64)]) (st := []) hC nc_RX8_45 (c_X8_in hlt h) rfl rfl ⟨⟨rfl, rfl⟩, ⟨by decide, by decide⟩, by decide, by decide⟩ (Nat.le_of_ble_eq_true rfl) dX8_setTrack_6 (fun v25 h => ?_)
  obtain ⟨hthb26, hfhb26⟩ := h
  refine jr_if_eq (tgt := 30) hC dX8_setTrack_9 (by decide) (fun hb26 => ?_) (fun hb26 => ?_)
  · have h := hthb26 hb26
    exact B30 M a0 x1 x2 x3 x4 x5 h
  · have h := hfhb26 hb26
    refine jr_iload_n (j := 3) hC dX8_setTrack_12 rfl rfl ?_
    refine jr_i2l hC dX8_setTrack_13 ?_
    refine jr_ldc2 (v := (-100 : Int64)) hC tw_1258 dX8_setTrack_14 ?_
    refine jr_ldc2 (v := (100 : Int64)) hC tw_1259 dX8_setTrack_17 ?_
    refine jr_callS_pi (As := [.long (Int32.toInt64 x3), .long (-100 : Int64), .long (100 : Int64)]) (st := []) hC nc_RX8_45 (c_X8_in hlt h) rfl rfl ⟨⟨rfl, rfl⟩, ⟨by decide, by decide⟩, by decide, by decide⟩ (Nat.le_of_ble_eq_true rfl) dX8_setTrack_20 (fun v27 h => ?_)
    obtain ⟨hthb28, hfhb28⟩ := h
    refine jr_if_eq (tgt := 30) hC dX8_setTrack_23 (by decide) (fun hb28 => ?_) (fun hb28 => ?_)
    · have h := hthb28 hb28
      exact B30 M a0 x1 x2 x3 x4 x5 h
    · have h := hfhb28 hb28
      refine jr_iconst (v := (1 : Int32)) hC dX8_setTrack_26 (by decide) ?_
      refine jr_goto (tgt := 31) hC dX8_setTrack_27 (by decide) ?_
      exact B31 M a0 x1 x2 x3 x4 x5 (1 : Int32) h
set_option maxHeartbeats 4000000 in
set_option maxRecDepth 100000 in
theorem c_X8_pointsAhead {G : mw_G} {l : Launch} (hlt : l.stackTraces = false) {n : Nat} {M : mw_M} {a0 : Nat} {x1 : Int32} {x2 : Int32} {Q : Int32 → Prop} (h : w_X8_pointsAhead n M a0 x1 x2 Q) : mw_Met G l yX8_pointsAhead (.code yX8_pointsAhead cX8_pointsAhead 5 (some .int)) { frames := 1, cells := 0, slots := 0, locals := 20 } n M [.ref a0, .int x1, .int x2] (fun n1 M1 v => n1 = n ∧ mw_pI M Q M1 v) (fun _ _ => False) := by
  refine mw_enter (L0 := [(0, .ref a0), (1, .int x1), (2, .int x2)]) hlt rfl rfl (plainFor_of_name (by decide)) (Nat.le_of_ble_eq_true rfl) rfl ?_
  intro Y hC0 hZ hnL hini0 hn00
  have hC : mw_C G l _ Y cX8_pointsAhead RX8 := hC0
  have B44 : ∀ (x4 : Int32) (h : w_X8_pointsAhead_b44 n M x4 Q), mw_J Y 0 0 n M 44 [(4, .int x4)] [] := by
    intro x4 h
    unfold w_X8_pointsAhead_b44 at h
    refine jr_iload (j := 0) hC dX8_pointsAhead_44 rfl ?_
    exact jr_ireti hC hZ (by decide) (by decide) dX8_pointsAhead_46 ⟨rfl, rfl, _, rfl, h⟩
  have B8 : ∀ (r0 : Nat) (x2 : Int32) (x3 : Int32) (x4 : Int32) (h : w_X8_pointsAhead_b8 n M r0 x2 x3 x4 Q), mw_J Y 0 0 n M 8 [(0, .ref r0), (2, .int x2), (3, .int x3), (4, .int x4)] [] := by
    intro r0 x2 x3 x4 h
    obtain ⟨Inv, mu, h0, hs⟩ := h
    refine mw_loop1 (fun (x4 : Int32) => mw_J Y 0 0 n M 8 [(0, .ref r0), (2, .int x2), (3, .int x3), (4, .int x4)] []) Inv mu (fun x4 hI hrec => ?_) x4 h0
    have h := hs x4 hI
    refine jr_iload (j := 3) hC dX8_pointsAhead_8 rfl ?_
    refine jr_aload_n (j := 0) hC dX8_pointsAhead_10 rfl rfl ?_
    obtain ⟨hc1, h⟩ := h
    refine jr_get2 hC fl_RX8_7 hc1 dX8_pointsAhead_11 ?_
    refine jr_iload_n (j := 2) hC dX8_pointsAhead_14 rfl rfl ?_
    refine jr_iconst (v := (4 : Int32)) hC dX8_pointsAhead_15 (by decide) ?_
    refine jr_iadd hC dX8_pointsAhead_16 ?_
    obtain ⟨hc2, h⟩ := h
    obtain ⟨hc3, h⟩ := h
    refine jr_iald hC hc2 hc3 dX8_pointsAhead_17 ?_
    obtain ⟨hthb4, hfhb4⟩ := h
    refine jr_ic_ge (tgt := 44) hC dX8_pointsAhead_18 (by decide) (fun hb4 => ?_) (fun hb4 => ?_)
    · have h := hthb4 hb4
      refine jr_sub [3] (L1 := [(4, .int x4)]) rfl ?_
      exact B44 x4 h
    · have h := hfhb4 hb4
      refine jr_aload_n (j := 0) hC dX8_pointsAhead_21 rfl rfl ?_
      refine jr_get2 hC fl_RX8_7 hc1 dX8_pointsAhead_22 ?_
      refine jr_iload_n (j := 2) hC dX8_pointsAhead_25 rfl rfl ?_
      refine jr_iconst (v := (5 : Int32)) hC dX8_pointsAhead_26 (by decide) ?_
      refine jr_iadd hC dX8_pointsAhead_27 ?_
      refine jr_iconst (v := (3 : Int32)) hC dX8_pointsAhead_28 (by decide) ?_
      refine jr_iload (j := 3) hC dX8_pointsAhead_29 rfl ?_
      refine jr_imul hC dX8_pointsAhead_31 ?_
      refine jr_iadd hC dX8_pointsAhead_32 ?_
      obtain ⟨hc5, h⟩ := h
      refine jr_iald hC hc2 hc5 dX8_pointsAhead_33 ?_
      refine jr_iload_n (j := 1) hC dX8_pointsAhead_34 rfl rfl ?_
      obtain ⟨hthb6, hfhb6⟩ := h
      refine jr_ic_ge (tgt := 44) hC dX8_pointsAhead_35 (by decide) (fun hb6 => ?_) (fun hb6 => ?_)
      · have h := hthb6 hb6
        refine jr_sub [3] (L1 := [(4, .int x4)]) rfl ?_
        exact B44 x4 h
      · have h := hfhb6 hb6
        obtain ⟨v7, ev7⟩ : ∃ y : Int32, y = (x4 + (1 : Int32)) := ⟨_, rfl⟩
        have h := h v7 ev7
        refine jr_iinc (j := 3) (v := v7) (L1 := [(4, .int v7), (0, .ref r0), (2, .int x2), (3, .int x3)]) hC dX8_pointsAhead_38 rfl (by rw [ev7]; rfl) hnL (by decide) rfl ?_
        refine jr_goto (tgt := 8) hC dX8_pointsAhead_41 (by decide) ?_
        refine jr_sub [1, 2, 3, 0] (L1 := [(0, .ref r0), (2, .int x2), (3, .int x3), (4, .int v7)]) rfl ?_
        exact hrec v7 h
  unfold w_X8_pointsAhead at h
  refine jr_iload_n (j := 1) hC dX8_pointsAhead_0 rfl rfl ?_
  refine jr_callS_pi (As := [.int x1]) (st := []) hC nc_RX8_35 (c_X8_trackAt hlt h) rfl rfl ⟨⟨rfl, rfl⟩, ⟨by decide, by decide⟩, by decide, by decide⟩ (Nat.le_of_ble_eq_true rfl) dX8_pointsAhead_1 (fun v8 h => ?_)
  refine jr_istore_n (L1 := [(3, .int v8), (0, .ref a0), (1, .int x1), (2, .int x2)]) hC dX8_pointsAhead_4 rfl hnL (by decide) rfl ?_
  refine jr_iconst (v := (0 : Int32)) hC dX8_pointsAhead_5 (by decide) ?_
  refine jr_istore (L1 := [(4, .int (0 : Int32)), (3, .int v8), (0, .ref a0), (1, .int x1), (2, .int x2)]) hC dX8_pointsAhead_6 hnL (by decide) rfl ?_
  refine jr_sub [2, 4, 1, 0] (L1 := [(0, .ref a0), (2, .int x2), (3, .int v8), (4, .int (0 : Int32))]) rfl ?_
  exact B8 a0 x2 v8 (0 : Int32) h
set_option maxHeartbeats 4000000 in
set_option maxRecDepth 100000 in
theorem c_X8_hasPoint {G : mw_G} {l : Launch} (hlt : l.stackTraces = false) {n : Nat} {M : mw_M} {a0 : Nat} {x1 : Int32} {x2 : Int32} {Q : Int32 → Prop} (h : w_X8_hasPoint n M a0 x1 x2 Q) : mw_Met G l yX8_hasPoint (.code yX8_hasPoint cX8_hasPoint 4 (some .boolean)) { frames := 2, cells := 0, slots := 0, locals := 44 } n M [.ref a0, .int x1, .int x2] (fun n1 M1 v => n1 = n ∧ mw_pI M Q M1 v) (fun _ _ => False) := by
  refine mw_enter (L0 := [(0, .ref a0), (1, .int x1), (2, .int x2)]) hlt rfl rfl (plainFor_of_name (by decide)) (Nat.le_of_ble_eq_true rfl) rfl ?_
  intro Y hC0 hZ hnL hini0 hn00
  have hC : mw_C G l _ Y cX8_hasPoint RX8 := hC0
  have B46 : ∀ (s0 : Int32) (h : w_X8_hasPoint_b46 n M s0 Q), mw_J Y 0 0 n M 46 [] [.int s0] := by
    intro s0 h
    unfold w_X8_hasPoint_b46 at h
    obtain ⟨hc1, h⟩ := h
    exact jr_iretz hC hZ (by decide) (by decide) hc1 dX8_hasPoint_46 ⟨rfl, rfl, _, rfl, h⟩
  have B45 : (w_X8_hasPoint_b45 n M Q) → mw_J Y 0 0 n M 45 [] [] := by
    intro  h
    unfold w_X8_hasPoint_b45 at h
    refine jr_iconst (v := (0 : Int32)) hC dX8_hasPoint_45 (by decide) ?_
    exact B46 (0 : Int32) h
  unfold w_X8_hasPoint at h
  refine jr_aload_n (j := 0) hC dX8_hasPoint_0 rfl rfl ?_
  refine jr_iload_n (j := 1) hC dX8_hasPoint_1 rfl rfl ?_
  refine jr_iload_n (j := 2) hC dX8_hasPoint_2 rfl rfl ?_
  obtain ⟨hc2, h⟩ := h
  refine jr_callV_pi (As := [.int x1, .int x2]) (st := []) hC nc_RX8_182 (c_X8_pointsAhead hlt h) hc2 rfl rfl ⟨⟨rfl, rfl⟩, ⟨by decide, by decide⟩, by decide, by decide⟩ (Nat.le_of_ble_eq_true rfl) dX8_hasPoint_3 (fun v3 h => ?_)
  refine jr_istore_n (L1 := [(3, .int v3), (0, .ref a0), (1, .int x1), (2, .int x2)]) hC dX8_hasPoint_6 rfl hnL (by decide) rfl ?_
  refine jr_iload_n (j := 0) hC dX8_hasPoint_7 rfl rfl ?_
  refine jr_aload_n (j := 1) hC dX8_hasPoint_8 rfl rfl ?_
  refine jr_get2 hC fl_RX8_7 hc2 dX8_hasPoint_9 ?_
  refine jr_iload_n (j := 2) hC dX8_hasPoint_12 rfl rfl ?_
  refine jr_callS_pi (As := [.int x1]) (st := [.ref (mP M a0 0), .int v3]) hC nc_RX8_35 (c_X8_trackAt hlt h) rfl rfl ⟨⟨rfl, rfl⟩, ⟨by decide, by decide⟩, by decide, by decide⟩ (Nat.le_of_ble_eq_true rfl) dX8_hasPoint_13 (fun v4 h => ?_)
  refine jr_iconst (v := (4 : Int32)) hC dX8_hasPoint_16 (by decide) ?_
  refine jr_iadd hC dX8_hasPoint_17 ?_
  obtain ⟨hc5, h⟩ := h
  obtain ⟨hc6, h⟩ := h
  refine jr_iald hC hc5 hc6 dX8_hasPoint_18 ?_
  obtain ⟨hthb7, hfhb7⟩ := h
  refine jr_ic_ge (tgt := 45) hC dX8_hasPoint_19 (by decide) (fun hb7 => ?_) (fun hb7 => ?_)
  · have h := hthb7 hb7
    refine jr_sub [] (L1 := []) rfl ?_
    exact B45 h
  · have h := hfhb7 hb7
    refine jr_aload_n (j := 1) hC dX8_hasPoint_22 rfl rfl ?_
    refine jr_get2 hC fl_RX8_7 hc2 dX8_hasPoint_23 ?_
    refine jr_iload_n (j := 2) hC dX8_hasPoint_26 rfl rfl ?_
    refine jr_callS_pi (As := [.int x1]) (st := [.ref (mP M a0 0)]) hC nc_RX8_35 (c_X8_trackAt hlt h) rfl rfl ⟨⟨rfl, rfl⟩, ⟨by decide, by decide⟩, by decide, by decide⟩ (Nat.le_of_ble_eq_true rfl) dX8_hasPoint_27 (fun v8 h => ?_)
    refine jr_iconst (v := (5 : Int32)) hC dX8_hasPoint_30 (by decide) ?_
    refine jr_iadd hC dX8_hasPoint_31 ?_
    refine jr_iconst (v := (3 : Int32)) hC dX8_hasPoint_32 (by decide) ?_
    refine jr_iload_n (j := 0) hC dX8_hasPoint_33 rfl rfl ?_
    refine jr_imul hC dX8_hasPoint_34 ?_
    refine jr_iadd hC dX8_hasPoint_35 ?_
    obtain ⟨hc9, h⟩ := h
    refine jr_iald hC hc5 hc9 dX8_hasPoint_36 ?_
    refine jr_iload_n (j := 3) hC dX8_hasPoint_37 rfl rfl ?_
    obtain ⟨hthb10, hfhb10⟩ := h
    refine jr_ic_ne (tgt := 45) hC dX8_hasPoint_38 (by decide) (fun hb10 => ?_) (fun hb10 => ?_)
    · have h := hthb10 hb10
      refine jr_sub [] (L1 := []) rfl ?_
      exact B45 h
    · have h := hfhb10 hb10
      refine jr_iconst (v := (1 : Int32)) hC dX8_hasPoint_41 (by decide) ?_
      refine jr_goto (tgt := 46) hC dX8_hasPoint_42 (by decide) ?_
      refine jr_sub [] (L1 := []) rfl ?_
      exact B46 (1 : Int32) h
set_option maxHeartbeats 4000000 in
set_option maxRecDepth 100000 in
theorem c_X8_setPoint {G : mw_G} {l : Launch} (hlt : l.stackTraces = false) {n : Nat} {M : mw_M} {a0 : Nat} {x1 : Int32} {x2 : Int32} {x3 : Int32} {x4 : Int32} {Q : mw_M → Int32 → Prop} (h : w_X8_setPoint n M a0 x1 x2 x3 x4 Q) : mw_Met G l yX8_setPoint (.code yX8_setPoint cX8_setPoint 11 (some .int)) { frames := 3, cells := 0, slots := 0, locals := 67 } n M [.ref a0, .int x1, .int x2, .int x3, .int x4] (fun n1 M1 v => n1 = n ∧ mw_rI Q M1 v) (fun _ _ => False) := by
  refine mw_enter (L0 := [(0, .ref a0), (1, .int x1), (2, .int x2), (3, .int x3), (4, .int x4)]) hlt rfl rfl (plainFor_of_name (by decide)) (Nat.le_of_ble_eq_true rfl) rfl ?_
  intro Y hC0 hZ hnL hini0 hn00
  have hC : mw_C G l _ Y cX8_setPoint RX8 := hC0
  have B256 : ∀ (M : mw_M) (r0 : Nat) (x8 : Int32) (s0 : Int32) (s1 : Int32) (s2r : Nat) (h : w_X8_setPoint_b256 n M r0 x8 s0 s1 s2r Q), mw_J Y 0 0 n M 256 [(0, .ref r0), (8, .int x8)] [.int s0, .int s1, .ref s2r] := by
    intro M r0 x8 s0 s1 s2r h
    unfold w_X8_setPoint_b256 at h
    obtain ⟨hc1, h⟩ := h
    obtain ⟨hc2, h⟩ := h
    obtain ⟨M3, eM3⟩ : ∃ y : mw_M, y = sI M s2r (Int32.toNatClampNeg s1) s0 := ⟨_, rfl⟩
    have h := h M3 eM3
    refine jr_iast hC hc1 hc2 eM3 dX8_setPoint_256 ?_
    refine jr_aload_n (j := 0) hC dX8_setPoint_257 rfl rfl ?_
    obtain ⟨hc4, h⟩ := h
    refine jr_get2 hC fl_RX8_7 hc4 dX8_setPoint_258 ?_
    refine jr_iload (j := 1) hC dX8_setPoint_261 rfl ?_
    refine jr_iconst (v := (4 : Int32)) hC dX8_setPoint_263 (by decide) ?_
    refine jr_iadd hC dX8_setPoint_264 ?_
    obtain ⟨hc5, h⟩ := h
    obtain ⟨hc6, h⟩ := h
    refine jr_iald hC hc5 hc6 dX8_setPoint_265 ?_
    exact jr_ireti hC hZ (by decide) (by decide) dX8_setPoint_266 ⟨rfl, _, rfl, h⟩
  have B199 : ∀ (M : mw_M) (r0 : Nat) (x2 : Int32) (x3 : Int32) (x4 : Int32) (x8 : Int32) (x9 : Int32) (h : w_X8_setPoint_b199 n M r0 x2 x3 x4 x8 x9 Q), mw_J Y 0 0 n M 199 [(0, .ref r0), (2, .int x2), (3, .int x3), (4, .int x4), (8, .int x8), (9, .int x9)] [] := by
    intro M r0 x2 x3 x4 x8 x9 h
    unfold w_X8_setPoint_b199 at h
    refine jr_aload_n (j := 0) hC dX8_setPoint_199 rfl rfl ?_
    obtain ⟨hc7, h⟩ := h
    refine jr_get2 hC fl_RX8_7 hc7 dX8_setPoint_200 ?_
    refine jr_iload (j := 4) hC dX8_setPoint_203 rfl ?_
    refine jr_iconst (v := (5 : Int32)) hC dX8_setPoint_205 (by decide) ?_
    refine jr_iadd hC dX8_setPoint_206 ?_
    refine jr_iconst (v := (3 : Int32)) hC dX8_setPoint_207 (by decide) ?_
    refine jr_iload (j := 5) hC dX8_setPoint_208 rfl ?_
    refine jr_imul hC dX8_setPoint_210 ?_
    refine jr_iadd hC dX8_setPoint_211 ?_
    refine jr_iload_n (j := 1) hC dX8_setPoint_212 rfl rfl ?_
    obtain ⟨hc8, h⟩ := h
    obtain ⟨hc9, h⟩ := h
    obtain ⟨M10, eM10⟩ : ∃ y : mw_M, y = sI M (mP M r0 0) (Int32.toNatClampNeg ((x8 + (5 : Int32)) + ((3 : Int32) * x9))) x2 := ⟨_, rfl⟩
    have h := h M10 eM10
    refine jr_iast hC hc8 hc9 eM10 dX8_setPoint_213 ?_
    refine jr_aload_n (j := 0) hC dX8_setPoint_214 rfl rfl ?_
    refine jr_get2 hC fl_RX8_7 hc7 dX8_setPoint_215 ?_
    refine jr_iload (j := 4) hC dX8_setPoint_218 rfl ?_
    refine jr_iconst (v := (5 : Int32)) hC dX8_setPoint_220 (by decide) ?_
    refine jr_iadd hC dX8_setPoint_221 ?_
    refine jr_iconst (v := (3 : Int32)) hC dX8_setPoint_222 (by decide) ?_
    refine jr_iload (j := 5) hC dX8_setPoint_223 rfl ?_
    refine jr_imul hC dX8_setPoint_225 ?_
    refine jr_iadd hC dX8_setPoint_226 ?_
    refine jr_iconst (v := (1 : Int32)) hC dX8_setPoint_227 (by decide) ?_
    refine jr_iadd hC dX8_setPoint_228 ?_
    refine jr_iload_n (j := 2) hC dX8_setPoint_229 rfl rfl ?_
    obtain ⟨hc11, h⟩ := h
    obtain ⟨hc12, h⟩ := h
    obtain ⟨M13, eM13⟩ : ∃ y : mw_M, y = sI M10 (mP M10 r0 0) (Int32.toNatClampNeg (((x8 + (5 : Int32)) + ((3 : Int32) * x9)) + (1 : Int32))) x3 := ⟨_, rfl⟩
    have h := h M13 eM13
    refine jr_iast hC hc11 hc12 eM13 dX8_setPoint_230 ?_
    refine jr_aload_n (j := 0) hC dX8_setPoint_231 rfl rfl ?_
    refine jr_get2 hC fl_RX8_7 hc7 dX8_setPoint_232 ?_
    refine jr_iload (j := 4) hC dX8_setPoint_235 rfl ?_
    refine jr_iconst (v := (5 : Int32)) hC dX8_setPoint_237 (by decide) ?_
    refine jr_iadd hC dX8_setPoint_238 ?_
    refine jr_iconst (v := (3 : Int32)) hC dX8_setPoint_239 (by decide) ?_
    refine jr_iload (j := 5) hC dX8_setPoint_240 rfl ?_
    refine jr_imul hC dX8_setPoint_242 ?_
    refine jr_iadd hC dX8_setPoint_243 ?_
    refine jr_iconst (v := (2 : Int32)) hC dX8_setPoint_244 (by decide) ?_
    refine jr_iadd hC dX8_setPoint_245 ?_
    refine jr_iload (j := 3) hC dX8_setPoint_246 rfl ?_
    obtain ⟨hthb14, hfhb14⟩ := h
    refine jr_if_eq (tgt := 255) hC dX8_setPoint_248 (by decide) (fun hb14 => ?_) (fun hb14 => ?_)
    · have h := hthb14 hb14
      refine jr_iconst (v := (0 : Int32)) hC dX8_setPoint_255 (by decide) ?_
      refine jr_sub [0, 4] (L1 := [(0, .ref r0), (8, .int x8)]) rfl ?_
      exact B256 M13 r0 x8 (0 : Int32) (((x8 + (5 : Int32)) + ((3 : Int32) * x9)) + (2 : Int32)) (mP M13 r0 0) h
    · have h := hfhb14 hb14
      refine jr_iconst (v := (1 : Int32)) hC dX8_setPoint_251 (by decide) ?_
      refine jr_goto (tgt := 256) hC dX8_setPoint_252 (by decide) ?_
      refine jr_sub [0, 4] (L1 := [(0, .ref r0), (8, .int x8)]) rfl ?_
      exact B256 M13 r0 x8 (1 : Int32) (((x8 + (5 : Int32)) + ((3 : Int32) * x9)) + (2 : Int32)) (mP M13 r0 0) h
  have B145 : ∀ (M : mw_M) (r0 : Nat) (x2 : Int32) (x3 : Int32) (x4 : Int32) (x8 : Int32) (x9 : Int32) (x10 : Int32) (h : w_X8_setPoint_b145 n M r0 x2 x3 x4 x8 x9 x10 Q), mw_J Y 0 0 n M 145 [(0, .ref r0), (2, .int x2), (3, .int x3), (4, .int x4), (8, .int x8), (9, .int x9), (10, .int x10)] [] := by
    intro M r0 x2 x3 x4 x8 x9 x10 h
    obtain ⟨Inv, mu, h0, hs⟩ := h
    refine mw_loop2 (fun (M : mw_M) (x10 : Int32) => mw_J Y 0 0 n M 145 [(0, .ref r0), (2, .int x2), (3, .int x3), (4, .int x4), (8, .int x8), (9, .int x9), (10, .int x10)] []) Inv mu (fun M x10 hI hrec => ?_) M x10 h0
    have h := hs M x10 hI
    refine jr_iload (j := 6) hC dX8_setPoint_145 rfl ?_
    refine jr_iconst (v := (3 : Int32)) hC dX8_setPoint_147 (by decide) ?_
    refine jr_iload (j := 5) hC dX8_setPoint_148 rfl ?_
    refine jr_imul hC dX8_setPoint_150 ?_
    obtain ⟨hthb15, hfhb15⟩ := h
    refine jr_ic_lt (tgt := 186) hC dX8_setPoint_151 (by decide) (fun hb15 => ?_) (fun hb15 => ?_)
    · have h := hthb15 hb15
      refine jr_aload_n (j := 0) hC dX8_setPoint_186 rfl rfl ?_
      obtain ⟨hc16, h⟩ := h
      refine jr_get2 hC fl_RX8_7 hc16 dX8_setPoint_187 ?_
      refine jr_iload (j := 4) hC dX8_setPoint_190 rfl ?_
      refine jr_iconst (v := (4 : Int32)) hC dX8_setPoint_192 (by decide) ?_
      refine jr_iadd hC dX8_setPoint_193 ?_
      refine jr_dup2 hC dX8_setPoint_194 rfl rfl ?_
      obtain ⟨hc17, h⟩ := h
      obtain ⟨hc18, h⟩ := h
      refine jr_iald hC hc17 hc18 dX8_setPoint_195 ?_
      refine jr_iconst (v := (1 : Int32)) hC dX8_setPoint_196 (by decide) ?_
      refine jr_iadd hC dX8_setPoint_197 ?_
      obtain ⟨M19, eM19⟩ : ∃ y : mw_M, y = sI M (mP M r0 0) (Int32.toNatClampNeg (x8 + (4 : Int32))) ((mI M (mP M r0 0) (Int32.toNatClampNeg (x8 + (4 : Int32)))) + (1 : Int32)) := ⟨_, rfl⟩
      have h := h M19 eM19
      refine jr_iast hC hc17 hc18 eM19 dX8_setPoint_198 ?_
      refine jr_sub [0, 1, 2, 3, 4, 5] (L1 := [(0, .ref r0), (2, .int x2), (3, .int x3), (4, .int x4), (8, .int x8), (9, .int x9)]) rfl ?_
      exact B199 M19 r0 x2 x3 x4 x8 x9 h
    · have h := hfhb15 hb15
      refine jr_aload_n (j := 0) hC dX8_setPoint_154 rfl rfl ?_
      obtain ⟨hc20, h⟩ := h
      refine jr_get2 hC fl_RX8_7 hc20 dX8_setPoint_155 ?_
      refine jr_iload (j := 4) hC dX8_setPoint_158 rfl ?_
      refine jr_iconst (v := (5 : Int32)) hC dX8_setPoint_160 (by decide) ?_
      refine jr_iadd hC dX8_setPoint_161 ?_
      refine jr_iload (j := 6) hC dX8_setPoint_162 rfl ?_
      refine jr_iadd hC dX8_setPoint_164 ?_
      refine jr_iconst (v := (3 : Int32)) hC dX8_setPoint_165 (by decide) ?_
      refine jr_iadd hC dX8_setPoint_166 ?_
      refine jr_aload_n (j := 0) hC dX8_setPoint_167 rfl rfl ?_
      refine jr_get2 hC fl_RX8_7 hc20 dX8_setPoint_168 ?_
      refine jr_iload (j := 4) hC dX8_setPoint_171 rfl ?_
      refine jr_iconst (v := (5 : Int32)) hC dX8_setPoint_173 (by decide) ?_
      refine jr_iadd hC dX8_setPoint_174 ?_
      refine jr_iload (j := 6) hC dX8_setPoint_175 rfl ?_
      refine jr_iadd hC dX8_setPoint_177 ?_
      obtain ⟨hc21, h⟩ := h
      obtain ⟨hc22, h⟩ := h
      refine jr_iald hC hc21 hc22 dX8_setPoint_178 ?_
      obtain ⟨hc23, h⟩ := h
      obtain ⟨M24, eM24⟩ : ∃ y : mw_M, y = sI M (mP M r0 0) (Int32.toNatClampNeg (((x8 + (5 : Int32)) + x10) + (3 : Int32))) (mI M (mP M r0 0) (Int32.toNatClampNeg ((x8 + (5 : Int32)) + x10))) := ⟨_, rfl⟩
      have h := h M24 eM24
      refine jr_iast hC hc21 hc23 eM24 dX8_setPoint_179 ?_
      obtain ⟨v25, ev25⟩ : ∃ y : Int32, y = (x10 + (-1 : Int32)) := ⟨_, rfl⟩
      have h := h v25 ev25
      refine jr_iinc (j := 6) (v := v25) (L1 := [(10, .int v25), (0, .ref r0), (2, .int x2), (3, .int x3), (4, .int x4), (8, .int x8), (9, .int x9)]) hC dX8_setPoint_180 rfl (by rw [ev25]; rfl) hnL (by decide) rfl ?_
      refine jr_goto (tgt := 145) hC dX8_setPoint_183 (by decide) ?_
      refine jr_sub [1, 2, 3, 4, 5, 6, 0] (L1 := [(0, .ref r0), (2, .int x2), (3, .int x3), (4, .int x4), (8, .int x8), (9, .int x9), (10, .int v25)]) rfl ?_
      exact hrec M24 v25 h
  have B103 : ∀ (M : mw_M) (r0 : Nat) (x1 : Int32) (x2 : Int32) (x3 : Int32) (x4 : Int32) (x7 : Int32) (s0 : Int32) (s1r : Nat) (h : w_X8_setPoint_b103 n M r0 x1 x2 x3 x4 x7 s0 s1r Q), mw_J Y 0 0 n M 103 [(0, .ref r0), (1, .int x1), (2, .int x2), (3, .int x3), (4, .int x4), (7, .int x7)] [.int s0, .ref s1r] := by
    intro M r0 x1 x2 x3 x4 x7 s0 s1r h
    unfold w_X8_setPoint_b103 at h
    obtain ⟨hc26, h⟩ := h
    refine jr_callV_i (As := [.int s0]) (st := []) hC nc_RX8_73 (c_X8_refusesChange hlt h) hc26 rfl rfl ⟨⟨rfl, rfl⟩, ⟨by decide, by decide⟩, by decide, by decide⟩ (Nat.le_of_ble_eq_true rfl) dX8_setPoint_103 (fun M27 v28 h => ?_)
    obtain ⟨hthb29, hfhb29⟩ := h
    refine jr_if_eq (tgt := 111) hC dX8_setPoint_106 (by decide) (fun hb29 => ?_) (fun hb29 => ?_)
    · have h := hthb29 hb29
      refine jr_iload_n (j := 1) hC dX8_setPoint_111 rfl rfl ?_
      refine jr_callS_pi (As := [.int x1]) (st := []) hC nc_RX8_35 (c_X8_trackAt hlt h) rfl rfl ⟨⟨rfl, rfl⟩, ⟨by decide, by decide⟩, by decide, by decide⟩ (Nat.le_of_ble_eq_true rfl) dX8_setPoint_112 (fun v30 h => ?_)
      refine jr_istore (L1 := [(8, .int v30), (0, .ref r0), (1, .int x1), (2, .int x2), (3, .int x3), (4, .int x4), (7, .int x7)]) hC dX8_setPoint_115 hnL (by decide) rfl ?_
      refine jr_aload_n (j := 1) hC dX8_setPoint_117 rfl rfl ?_
      refine jr_iload_n (j := 2) hC dX8_setPoint_118 rfl rfl ?_
      refine jr_iload_n (j := 3) hC dX8_setPoint_119 rfl rfl ?_
      obtain ⟨hc31, h⟩ := h
      refine jr_callV_pi (As := [.int x1, .int x2]) (st := []) hC nc_RX8_182 (c_X8_pointsAhead hlt h) hc31 rfl rfl ⟨⟨rfl, rfl⟩, ⟨by decide, by decide⟩, by decide, by decide⟩ (Nat.le_of_ble_eq_true rfl) dX8_setPoint_120 (fun v32 h => ?_)
      refine jr_istore (L1 := [(9, .int v32), (8, .int v30), (0, .ref r0), (1, .int x1), (2, .int x2), (3, .int x3), (4, .int x4), (7, .int x7)]) hC dX8_setPoint_123 hnL (by decide) rfl ?_
      refine jr_iload (j := 7) hC dX8_setPoint_125 rfl ?_
      obtain ⟨hthb33, hfhb33⟩ := h
      refine jr_if_ne (tgt := 199) hC dX8_setPoint_127 (by decide) (fun hb33 => ?_) (fun hb33 => ?_)
      · have h := hthb33 hb33
        refine jr_sub [2, 4, 5, 6, 1, 0] (L1 := [(0, .ref r0), (2, .int x2), (3, .int x3), (4, .int x4), (8, .int v30), (9, .int v32)]) rfl ?_
        exact B199 M27 r0 x2 x3 x4 v30 v32 h
      · have h := hfhb33 hb33
        refine jr_iconst (v := (3 : Int32)) hC dX8_setPoint_130 (by decide) ?_
        refine jr_aload_n (j := 2) hC dX8_setPoint_131 rfl rfl ?_
        refine jr_get2 hC fl_RX8_7 hc31 dX8_setPoint_132 ?_
        refine jr_iload (j := 1) hC dX8_setPoint_135 rfl ?_
        refine jr_iconst (v := (4 : Int32)) hC dX8_setPoint_137 (by decide) ?_
        refine jr_iadd hC dX8_setPoint_138 ?_
        obtain ⟨hc34, h⟩ := h
        obtain ⟨hc35, h⟩ := h
        refine jr_iald hC hc34 hc35 dX8_setPoint_139 ?_
        refine jr_imul hC dX8_setPoint_140 ?_
        refine jr_iconst (v := (1 : Int32)) hC dX8_setPoint_141 (by decide) ?_
        refine jr_isub hC dX8_setPoint_142 ?_
        refine jr_nmI (fun v36 ev36 => ?_)
        have h := h v36 ev36
        refine jr_istore (L1 := [(10, .int v36), (9, .int v32), (8, .int v30), (0, .ref r0), (1, .int x1), (2, .int x2), (3, .int x3), (4, .int x4), (7, .int x7)]) hC dX8_setPoint_143 hnL (by decide) rfl ?_
        refine jr_sub [3, 5, 6, 7, 2, 1, 0] (L1 := [(0, .ref r0), (2, .int x2), (3, .int x3), (4, .int x4), (8, .int v30), (9, .int v32), (10, .int v36)]) rfl ?_
        exact B145 M27 r0 x2 x3 x4 v30 v32 v36 h
    · have h := hfhb29 hb29
      refine jr_iconst (v := (0 : Int32)) hC dX8_setPoint_109 (by decide) ?_
      exact jr_ireti hC hZ (by decide) (by decide) dX8_setPoint_110 ⟨rfl, _, rfl, h⟩
  have B102 : ∀ (M : mw_M) (r0 : Nat) (x1 : Int32) (x2 : Int32) (x3 : Int32) (x4 : Int32) (x7 : Int32) (s0r : Nat) (h : w_X8_setPoint_b102 n M r0 x1 x2 x3 x4 x7 s0r Q), mw_J Y 0 0 n M 102 [(0, .ref r0), (1, .int x1), (2, .int x2), (3, .int x3), (4, .int x4), (7, .int x7)] [.ref s0r] := by
    intro M r0 x1 x2 x3 x4 x7 s0r h
    unfold w_X8_setPoint_b102 at h
    refine jr_iconst (v := (0 : Int32)) hC dX8_setPoint_102 (by decide) ?_
    exact B103 M r0 x1 x2 x3 x4 x7 (0 : Int32) s0r h
  have B56 : ∀ (M : mw_M) (r0 : Nat) (x1 : Int32) (x2 : Int32) (x3 : Int32) (x4 : Int32) (x5 : Int32) (x6 : Int32) (s0 : Int32) (h : w_X8_setPoint_b56 n M r0 x1 x2 x3 x4 x5 x6 s0 Q), mw_J Y 0 0 n M 56 [(0, .ref r0), (1, .int x1), (2, .int x2), (3, .int x3), (4, .int x4), (5, .int x5), (6, .int x6)] [.int s0] := by
    intro M r0 x1 x2 x3 x4 x5 x6 s0 h
    unfold w_X8_setPoint_b56 at h
    refine jr_istore (L1 := [(7, .int s0), (0, .ref r0), (1, .int x1), (2, .int x2), (3, .int x3), (4, .int x4), (5, .int x5), (6, .int x6)]) hC dX8_setPoint_56 hnL (by decide) rfl ?_
    refine jr_aload_n (j := 1) hC dX8_setPoint_58 rfl rfl ?_
    refine jr_iload (j := 6) hC dX8_setPoint_59 rfl ?_
    obtain ⟨hthb37, hfhb37⟩ := h
    refine jr_if_ne (tgt := 68) hC dX8_setPoint_61 (by decide) (fun hb37 => ?_) (fun hb37 => ?_)
    · have h := hthb37 hb37
      refine jr_iload (j := 7) hC dX8_setPoint_68 rfl ?_
      obtain ⟨hthb38, hfhb38⟩ := h
      refine jr_if_ne (tgt := 77) hC dX8_setPoint_70 (by decide) (fun hb38 => ?_) (fun hb38 => ?_)
      · have h := hthb38 hb38
        refine jr_iload (j := 0) hC dX8_setPoint_77 rfl ?_
        obtain ⟨hthb39, hfhb39⟩ := h
        refine jr_if_ne (tgt := 102) hC dX8_setPoint_79 (by decide) (fun hb39 => ?_) (fun hb39 => ?_)
        · have h := hthb39 hb39
          refine jr_sub [1, 2, 3, 4, 5, 0] (L1 := [(0, .ref r0), (1, .int x1), (2, .int x2), (3, .int x3), (4, .int x4), (7, .int s0)]) rfl ?_
          exact B102 M r0 x1 x2 x3 x4 s0 r0 h
        · have h := hfhb39 hb39
          refine jr_aload_n (j := 1) hC dX8_setPoint_82 rfl rfl ?_
          obtain ⟨hc40, h⟩ := h
          refine jr_get2 hC fl_RX8_7 hc40 dX8_setPoint_83 ?_
          refine jr_iload_n (j := 2) hC dX8_setPoint_86 rfl rfl ?_
          refine jr_callS_pi (As := [.int x1]) (st := [.ref (mP M r0 0), .ref r0]) hC nc_RX8_35 (c_X8_trackAt hlt h) rfl rfl ⟨⟨rfl, rfl⟩, ⟨by decide, by decide⟩, by decide, by decide⟩ (Nat.le_of_ble_eq_true rfl) dX8_setPoint_87 (fun v41 h => ?_)
          refine jr_iconst (v := (4 : Int32)) hC dX8_setPoint_90 (by decide) ?_
          refine jr_iadd hC dX8_setPoint_91 ?_
          obtain ⟨hc42, h⟩ := h
          obtain ⟨hc43, h⟩ := h
          refine jr_iald hC hc42 hc43 dX8_setPoint_92 ?_
          refine jr_bipush (v := (8 : Int32)) hC dX8_setPoint_93 (by decide) ?_
          obtain ⟨hthb44, hfhb44⟩ := h
          refine jr_ic_ne (tgt := 102) hC dX8_setPoint_95 (by decide) (fun hb44 => ?_) (fun hb44 => ?_)
          · have h := hthb44 hb44
            refine jr_sub [1, 2, 3, 4, 5, 0] (L1 := [(0, .ref r0), (1, .int x1), (2, .int x2), (3, .int x3), (4, .int x4), (7, .int s0)]) rfl ?_
            exact B102 M r0 x1 x2 x3 x4 s0 r0 h
          · have h := hfhb44 hb44
            refine jr_iconst (v := (3 : Int32)) hC dX8_setPoint_98 (by decide) ?_
            refine jr_goto (tgt := 103) hC dX8_setPoint_99 (by decide) ?_
            refine jr_sub [1, 2, 3, 4, 5, 0] (L1 := [(0, .ref r0), (1, .int x1), (2, .int x2), (3, .int x3), (4, .int x4), (7, .int s0)]) rfl ?_
            exact B103 M r0 x1 x2 x3 x4 s0 (3 : Int32) r0 h
      · have h := hfhb38 hb38
        refine jr_iconst (v := (2 : Int32)) hC dX8_setPoint_73 (by decide) ?_
        refine jr_goto (tgt := 103) hC dX8_setPoint_74 (by decide) ?_
        refine jr_sub [1, 2, 3, 4, 5, 0] (L1 := [(0, .ref r0), (1, .int x1), (2, .int x2), (3, .int x3), (4, .int x4), (7, .int s0)]) rfl ?_
        exact B103 M r0 x1 x2 x3 x4 s0 (2 : Int32) r0 h
    · have h := hfhb37 hb37
      refine jr_iconst (v := (1 : Int32)) hC dX8_setPoint_64 (by decide) ?_
      refine jr_goto (tgt := 103) hC dX8_setPoint_65 (by decide) ?_
      refine jr_sub [1, 2, 3, 4, 5, 0] (L1 := [(0, .ref r0), (1, .int x1), (2, .int x2), (3, .int x3), (4, .int x4), (7, .int s0)]) rfl ?_
      exact B103 M r0 x1 x2 x3 x4 s0 (1 : Int32) r0 h
  have B55 : ∀ (M : mw_M) (r0 : Nat) (x1 : Int32) (x2 : Int32) (x3 : Int32) (x4 : Int32) (x5 : Int32) (x6 : Int32) (h : w_X8_setPoint_b55 n M r0 x1 x2 x3 x4 x5 x6 Q), mw_J Y 0 0 n M 55 [(0, .ref r0), (1, .int x1), (2, .int x2), (3, .int x3), (4, .int x4), (5, .int x5), (6, .int x6)] [] := by
    intro M r0 x1 x2 x3 x4 x5 x6 h
    unfold w_X8_setPoint_b55 at h
    refine jr_iconst (v := (0 : Int32)) hC dX8_setPoint_55 (by decide) ?_
    exact B56 M r0 x1 x2 x3 x4 x5 x6 (0 : Int32) h
  have B35 : ∀ (M : mw_M) (r0 : Nat) (x1 : Int32) (x2 : Int32) (x3 : Int32) (x4 : Int32) (x5 : Int32) (s0 : Int32) (h : w_X8_setPoint_b35 n M r0 x1 x2 x3 x4 x5 s0 Q), mw_J Y 0 0 n M 35 [(0, .ref r0), (1, .int x1), (2, .int x2), (3, .int x3), (4, .int x4), (5, .int x5)] [.int s0] := by
    intro M r0 x1 x2 x3 x4 x5 s0 h
    unfold w_X8_setPoint_b35 at h
    refine jr_istore (L1 := [(6, .int s0), (0, .ref r0), (1, .int x1), (2, .int x2), (3, .int x3), (4, .int x4), (5, .int x5)]) hC dX8_setPoint_35 hnL (by decide) rfl ?_
    refine jr_iload (j := 0) hC dX8_setPoint_37 rfl ?_
    obtain ⟨hthb45, hfhb45⟩ := h
    refine jr_if_eq (tgt := 55) hC dX8_setPoint_39 (by decide) (fun hb45 => ?_) (fun hb45 => ?_)
    · have h := hthb45 hb45
      refine jr_sub [1, 2, 3, 4, 5, 6, 0] (L1 := [(0, .ref r0), (1, .int x1), (2, .int x2), (3, .int x3), (4, .int x4), (5, .int x5), (6, .int s0)]) rfl ?_
      exact B55 M r0 x1 x2 x3 x4 x5 s0 h
    · have h := hfhb45 hb45
      refine jr_aload_n (j := 1) hC dX8_setPoint_42 rfl rfl ?_
      refine jr_iload_n (j := 2) hC dX8_setPoint_43 rfl rfl ?_
      refine jr_iload_n (j := 3) hC dX8_setPoint_44 rfl rfl ?_
      obtain ⟨hc46, h⟩ := h
      refine jr_callV_pi (As := [.int x1, .int x2]) (st := []) hC nc_RX8_185 (c_X8_hasPoint hlt h) hc46 rfl rfl ⟨⟨rfl, rfl⟩, ⟨by decide, by decide⟩, by decide, by decide⟩ (Nat.le_of_ble_eq_true rfl) dX8_setPoint_45 (fun v47 h => ?_)
      obtain ⟨hthb48, hfhb48⟩ := h
      refine jr_if_eq (tgt := 55) hC dX8_setPoint_48 (by decide) (fun hb48 => ?_) (fun hb48 => ?_)
      · have h := hthb48 hb48
        refine jr_sub [1, 2, 3, 4, 5, 6, 0] (L1 := [(0, .ref r0), (1, .int x1), (2, .int x2), (3, .int x3), (4, .int x4), (5, .int x5), (6, .int s0)]) rfl ?_
        exact B55 M r0 x1 x2 x3 x4 x5 s0 h
      · have h := hfhb48 hb48
        refine jr_iconst (v := (1 : Int32)) hC dX8_setPoint_51 (by decide) ?_
        refine jr_goto (tgt := 56) hC dX8_setPoint_52 (by decide) ?_
        refine jr_sub [1, 2, 3, 4, 5, 6, 0] (L1 := [(0, .ref r0), (1, .int x1), (2, .int x2), (3, .int x3), (4, .int x4), (5, .int x5), (6, .int s0)]) rfl ?_
        exact B56 M r0 x1 x2 x3 x4 x5 s0 (1 : Int32) h
  have B34 : ∀ (M : mw_M) (r0 : Nat) (x1 : Int32) (x2 : Int32) (x3 : Int32) (x4 : Int32) (x5 : Int32) (h : w_X8_setPoint_b34 n M r0 x1 x2 x3 x4 x5 Q), mw_J Y 0 0 n M 34 [(0, .ref r0), (1, .int x1), (2, .int x2), (3, .int x3), (4, .int x4), (5, .int x5)] [] := by
    intro M r0 x1 x2 x3 x4 x5 h
    unfold w_X8_setPoint_b34 at h
    refine jr_iconst (v := (0 : Int32)) hC dX8_setPoint_34 (by decide) ?_
    exact B35 M r0 x1 x2 x3 x4 x5 (0 : Int32) h
  unfold w_X8_setPoint at h
  refine jr_iload_n (j := 1) hC dX8_setPoint_0 rfl rfl ?_
  refine jr_callS_pi (As := [.int x1]) (st := []) hC nc_RX8_111 (c_X8_isTrack hlt h) rfl rfl ⟨⟨rfl, rfl⟩, ⟨by decide, by decide⟩, by decide, by decide⟩ (Nat.le_of_ble_eq_true rfl) dX8_setPoint_1 (fun v49 h => ?_)
  refine jr_istore (L1 := [(5, .int v49), (0, .ref a0), (1, .int x1), (2, .int x2), (3, .int x3), (4, .int x4)]) hC dX8_setPoint_4 hnL (by decide) rfl ?_
  refine jr_iload (j := 0) hC dX8_setPoint_6 rfl ?_
  obtain ⟨hthb50, hfhb50⟩ := h
  refine jr_if_eq (tgt := 34) hC dX8_setPoint_8 (by decide) (fun hb50 => ?_) (fun hb50 => ?_)
  · have h := hthb50 hb50
    refine jr_sub [1, 2, 3, 4, 5, 0] (L1 := [(0, .ref a0), (1, .int x1), (2, .int x2), (3, .int x3), (4, .int x4), (5, .int v49)]) rfl ?_
    exact B34 M a0 x1 x2 x3 x4 v49 h
  · have h := hfhb50 hb50
    refine jr_iload_n (j := 3) hC dX8_setPoint_11 rfl rfl ?_
    refine jr_callS_pi (As := [.int x2]) (st := []) hC nc_RX8_114 (c_X8_isPlace hlt h) rfl rfl ⟨⟨rfl, rfl⟩, ⟨by decide, by decide⟩, by decide, by decide⟩ (Nat.le_of_ble_eq_true rfl) dX8_setPoint_12 (fun v51 h => ?_)
    obtain ⟨hthb52, hfhb52⟩ := h
    refine jr_if_eq (tgt := 34) hC dX8_setPoint_15 (by decide) (fun hb52 => ?_) (fun hb52 => ?_)
    · have h := hthb52 hb52
      refine jr_sub [1, 2, 3, 4, 5, 0] (L1 := [(0, .ref a0), (1, .int x1), (2, .int x2), (3, .int x3), (4, .int x4), (5, .int v49)]) rfl ?_
      exact B34 M a0 x1 x2 x3 x4 v49 h
    · have h := hfhb52 hb52
      refine jr_iload_n (j := 4) hC dX8_setPoint_18 rfl rfl ?_
      refine jr_i2l hC dX8_setPoint_19 ?_
      refine jr_lconst (v := (0 : Int64)) hC dX8_setPoint_20 (by decide) ?_
      refine jr_ldc2 (v := (2000 : Int64)) hC tw_1131 dX8_setPoint_21 ?_
      refine jr_callS_pi (As := [.long (Int32.toInt64 x3), .long (0 : Int64), .long (2000 : Int64)]) (st := []) hC nc_RX8_45 (c_X8_in hlt h) rfl rfl ⟨⟨rfl, rfl⟩, ⟨by decide, by decide⟩, by decide, by decide⟩ (Nat.le_of_ble_eq_true rfl) dX8_setPoint_24 (fun v53 h => ?_)
      obtain ⟨hthb54, hfhb54⟩ := h
      refine jr_if_eq (tgt := 34) hC dX8_setPoint_27 (by decide) (fun hb54 => ?_) (fun hb54 => ?_)
      · have h := hthb54 hb54
        refine jr_sub [1, 2, 3, 4, 5, 0] (L1 := [(0, .ref a0), (1, .int x1), (2, .int x2), (3, .int x3), (4, .int x4), (5, .int v49)]) rfl ?_
        exact B34 M a0 x1 x2 x3 x4 v49 h
      · have h := hfhb54 hb54
        refine jr_iconst (v := (1 : Int32)) hC dX8_setPoint_30 (by decide) ?_
        refine jr_goto (tgt := 35) hC dX8_setPoint_31 (by decide) ?_
        refine jr_sub [1, 2, 3, 4, 5, 0] (L1 := [(0, .ref a0), (1, .int x1), (2, .int x2), (3, .int x3), (4, .int x4), (5, .int v49)]) rfl ?_
        exact B35 M a0 x1 x2 x3 x4 v49 (1 : Int32) h
set_option maxHeartbeats 4000000 in
set_option maxRecDepth 100000 in
theorem c_X8_removePoint {G : mw_G} {l : Launch} (hlt : l.stackTraces = false) {n : Nat} {M : mw_M} {a0 : Nat} {x1 : Int32} {x2 : Int32} {Q : mw_M → Int32 → Prop} (h : w_X8_removePoint n M a0 x1 x2 Q) : mw_Met G l yX8_removePoint (.code yX8_removePoint cX8_removePoint 5 (some .int)) { frames := 3, cells := 0, slots := 0, locals := 67 } n M [.ref a0, .int x1, .int x2] (fun n1 M1 v => n1 = n ∧ mw_rI Q M1 v) (fun _ _ => False) := by
  refine mw_enter (L0 := [(0, .ref a0), (1, .int x1), (2, .int x2)]) hlt rfl rfl (plainFor_of_name (by decide)) (Nat.le_of_ble_eq_true rfl) rfl ?_
  intro Y hC0 hZ hnL hini0 hn00
  have hC : mw_C G l _ Y cX8_removePoint RX8 := hC0
  have B61 : ∀ (M : mw_M) (r0 : Nat) (x3 : Int32) (x4 : Int32) (h : w_X8_removePoint_b61 n M r0 x3 x4 Q), mw_J Y 0 0 n M 61 [(0, .ref r0), (3, .int x3), (4, .int x4)] [] := by
    intro M r0 x3 x4 h
    obtain ⟨Inv, mu, h0, hs⟩ := h
    refine mw_loop2 (fun (M : mw_M) (x4 : Int32) => mw_J Y 0 0 n M 61 [(0, .ref r0), (3, .int x3), (4, .int x4)] []) Inv mu (fun M x4 hI hrec => ?_) M x4 h0
    have h := hs M x4 hI
    refine jr_iload (j := 2) hC dX8_removePoint_61 rfl ?_
    refine jr_iconst (v := (3 : Int32)) hC dX8_removePoint_63 (by decide) ?_
    refine jr_aload_n (j := 0) hC dX8_removePoint_64 rfl rfl ?_
    obtain ⟨hc1, h⟩ := h
    refine jr_get2 hC fl_RX8_7 hc1 dX8_removePoint_65 ?_
    refine jr_iload_n (j := 1) hC dX8_removePoint_68 rfl rfl ?_
    refine jr_iconst (v := (4 : Int32)) hC dX8_removePoint_69 (by decide) ?_
    refine jr_iadd hC dX8_removePoint_70 ?_
    obtain ⟨hc2, h⟩ := h
    obtain ⟨hc3, h⟩ := h
    refine jr_iald hC hc2 hc3 dX8_removePoint_71 ?_
    refine jr_imul hC dX8_removePoint_72 ?_
    obtain ⟨hthb4, hfhb4⟩ := h
    refine jr_ic_ge (tgt := 106) hC dX8_removePoint_73 (by decide) (fun hb4 => ?_) (fun hb4 => ?_)
    · have h := hthb4 hb4
      refine jr_aload_n (j := 0) hC dX8_removePoint_106 rfl rfl ?_
      refine jr_get2 hC fl_RX8_7 hc1 dX8_removePoint_107 ?_
      refine jr_iload_n (j := 1) hC dX8_removePoint_110 rfl rfl ?_
      refine jr_iconst (v := (4 : Int32)) hC dX8_removePoint_111 (by decide) ?_
      refine jr_iadd hC dX8_removePoint_112 ?_
      refine jr_iald hC hc2 hc3 dX8_removePoint_113 ?_
      exact jr_ireti hC hZ (by decide) (by decide) dX8_removePoint_114 ⟨rfl, _, rfl, h⟩
    · have h := hfhb4 hb4
      refine jr_aload_n (j := 0) hC dX8_removePoint_76 rfl rfl ?_
      refine jr_get2 hC fl_RX8_7 hc1 dX8_removePoint_77 ?_
      refine jr_iload_n (j := 1) hC dX8_removePoint_80 rfl rfl ?_
      refine jr_iconst (v := (5 : Int32)) hC dX8_removePoint_81 (by decide) ?_
      refine jr_iadd hC dX8_removePoint_82 ?_
      refine jr_iload (j := 2) hC dX8_removePoint_83 rfl ?_
      refine jr_iadd hC dX8_removePoint_85 ?_
      refine jr_aload_n (j := 0) hC dX8_removePoint_86 rfl rfl ?_
      refine jr_get2 hC fl_RX8_7 hc1 dX8_removePoint_87 ?_
      refine jr_iload_n (j := 1) hC dX8_removePoint_90 rfl rfl ?_
      refine jr_iconst (v := (5 : Int32)) hC dX8_removePoint_91 (by decide) ?_
      refine jr_iadd hC dX8_removePoint_92 ?_
      refine jr_iload (j := 2) hC dX8_removePoint_93 rfl ?_
      refine jr_iadd hC dX8_removePoint_95 ?_
      refine jr_iconst (v := (3 : Int32)) hC dX8_removePoint_96 (by decide) ?_
      refine jr_iadd hC dX8_removePoint_97 ?_
      obtain ⟨hc5, h⟩ := h
      refine jr_iald hC hc2 hc5 dX8_removePoint_98 ?_
      obtain ⟨hc6, h⟩ := h
      obtain ⟨M7, eM7⟩ : ∃ y : mw_M, y = sI M (mP M r0 0) (Int32.toNatClampNeg ((x3 + (5 : Int32)) + x4)) (mI M (mP M r0 0) (Int32.toNatClampNeg (((x3 + (5 : Int32)) + x4) + (3 : Int32)))) := ⟨_, rfl⟩
      have h := h M7 eM7
      refine jr_iast hC hc2 hc6 eM7 dX8_removePoint_99 ?_
      obtain ⟨v8, ev8⟩ : ∃ y : Int32, y = (x4 + (1 : Int32)) := ⟨_, rfl⟩
      have h := h v8 ev8
      refine jr_iinc (j := 2) (v := v8) (L1 := [(4, .int v8), (0, .ref r0), (3, .int x3)]) hC dX8_removePoint_100 rfl (by rw [ev8]; rfl) hnL (by decide) rfl ?_
      refine jr_goto (tgt := 61) hC dX8_removePoint_103 (by decide) ?_
      refine jr_sub [1, 2, 0] (L1 := [(0, .ref r0), (3, .int x3), (4, .int v8)]) rfl ?_
      exact hrec M7 v8 h
  have B26 : ∀ (M : mw_M) (r0 : Nat) (x1 : Int32) (x2 : Int32) (s0 : Int32) (s1r : Nat) (h : w_X8_removePoint_b26 n M r0 x1 x2 s0 s1r Q), mw_J Y 0 0 n M 26 [(0, .ref r0), (1, .int x1), (2, .int x2)] [.int s0, .ref s1r] := by
    intro M r0 x1 x2 s0 s1r h
    unfold w_X8_removePoint_b26 at h
    obtain ⟨hc9, h⟩ := h
    refine jr_callV_i (As := [.int s0]) (st := []) hC nc_RX8_73 (c_X8_refusesChange hlt h) hc9 rfl rfl ⟨⟨rfl, rfl⟩, ⟨by decide, by decide⟩, by decide, by decide⟩ (Nat.le_of_ble_eq_true rfl) dX8_removePoint_26 (fun M10 v11 h => ?_)
    obtain ⟨hthb12, hfhb12⟩ := h
    refine jr_if_eq (tgt := 34) hC dX8_removePoint_29 (by decide) (fun hb12 => ?_) (fun hb12 => ?_)
    · have h := hthb12 hb12
      refine jr_iload_n (j := 1) hC dX8_removePoint_34 rfl rfl ?_
      refine jr_callS_pi (As := [.int x1]) (st := []) hC nc_RX8_35 (c_X8_trackAt hlt h) rfl rfl ⟨⟨rfl, rfl⟩, ⟨by decide, by decide⟩, by decide, by decide⟩ (Nat.le_of_ble_eq_true rfl) dX8_removePoint_35 (fun v13 h => ?_)
      refine jr_istore_n (L1 := [(3, .int v13), (0, .ref r0), (1, .int x1), (2, .int x2)]) hC dX8_removePoint_38 rfl hnL (by decide) rfl ?_
      refine jr_aload_n (j := 1) hC dX8_removePoint_39 rfl rfl ?_
      obtain ⟨hc14, h⟩ := h
      refine jr_get2 hC fl_RX8_7 hc14 dX8_removePoint_40 ?_
      refine jr_iload_n (j := 0) hC dX8_removePoint_43 rfl rfl ?_
      refine jr_iconst (v := (4 : Int32)) hC dX8_removePoint_44 (by decide) ?_
      refine jr_iadd hC dX8_removePoint_45 ?_
      refine jr_dup2 hC dX8_removePoint_46 rfl rfl ?_
      obtain ⟨hc15, h⟩ := h
      obtain ⟨hc16, h⟩ := h
      refine jr_iald hC hc15 hc16 dX8_removePoint_47 ?_
      refine jr_iconst (v := (1 : Int32)) hC dX8_removePoint_48 (by decide) ?_
      refine jr_isub hC dX8_removePoint_49 ?_
      obtain ⟨M17, eM17⟩ : ∃ y : mw_M, y = sI M10 (mP M10 r0 0) (Int32.toNatClampNeg (v13 + (4 : Int32))) ((mI M10 (mP M10 r0 0) (Int32.toNatClampNeg (v13 + (4 : Int32)))) - (1 : Int32)) := ⟨_, rfl⟩
      have h := h M17 eM17
      refine jr_iast hC hc15 hc16 eM17 dX8_removePoint_50 ?_
      refine jr_iconst (v := (3 : Int32)) hC dX8_removePoint_51 (by decide) ?_
      refine jr_aload_n (j := 1) hC dX8_removePoint_52 rfl rfl ?_
      refine jr_iload_n (j := 2) hC dX8_removePoint_53 rfl rfl ?_
      refine jr_iload_n (j := 3) hC dX8_removePoint_54 rfl rfl ?_
      refine jr_callV_pi (As := [.int x1, .int x2]) (st := [.int (3 : Int32)]) hC nc_RX8_182 (c_X8_pointsAhead hlt h) hc14 rfl rfl ⟨⟨rfl, rfl⟩, ⟨by decide, by decide⟩, by decide, by decide⟩ (Nat.le_of_ble_eq_true rfl) dX8_removePoint_55 (fun v18 h => ?_)
      refine jr_imul hC dX8_removePoint_58 ?_
      refine jr_nmI (fun v19 ev19 => ?_)
      have h := h v19 ev19
      refine jr_istore (L1 := [(4, .int v19), (3, .int v13), (0, .ref r0), (1, .int x1), (2, .int x2)]) hC dX8_removePoint_59 hnL (by decide) rfl ?_
      refine jr_sub [2, 1, 0] (L1 := [(0, .ref r0), (3, .int v13), (4, .int v19)]) rfl ?_
      exact B61 M17 r0 v13 v19 h
    · have h := hfhb12 hb12
      refine jr_iconst (v := (0 : Int32)) hC dX8_removePoint_32 (by decide) ?_
      exact jr_ireti hC hZ (by decide) (by decide) dX8_removePoint_33 ⟨rfl, _, rfl, h⟩
  unfold w_X8_removePoint at h
  refine jr_aload_n (j := 0) hC dX8_removePoint_0 rfl rfl ?_
  refine jr_iload_n (j := 1) hC dX8_removePoint_1 rfl rfl ?_
  refine jr_callS_pi (As := [.int x1]) (st := [.ref a0]) hC nc_RX8_111 (c_X8_isTrack hlt h) rfl rfl ⟨⟨rfl, rfl⟩, ⟨by decide, by decide⟩, by decide, by decide⟩ (Nat.le_of_ble_eq_true rfl) dX8_removePoint_2 (fun v20 h => ?_)
  obtain ⟨hthb21, hfhb21⟩ := h
  refine jr_if_ne (tgt := 12) hC dX8_removePoint_5 (by decide) (fun hb21 => ?_) (fun hb21 => ?_)
  · have h := hthb21 hb21
    refine jr_aload_n (j := 0) hC dX8_removePoint_12 rfl rfl ?_
    refine jr_iload_n (j := 1) hC dX8_removePoint_13 rfl rfl ?_
    refine jr_iload_n (j := 2) hC dX8_removePoint_14 rfl rfl ?_
    obtain ⟨hc22, h⟩ := h
    refine jr_callV_pi (As := [.int x1, .int x2]) (st := [.ref a0]) hC nc_RX8_185 (c_X8_hasPoint hlt h) hc22 rfl rfl ⟨⟨rfl, rfl⟩, ⟨by decide, by decide⟩, by decide, by decide⟩ (Nat.le_of_ble_eq_true rfl) dX8_removePoint_15 (fun v23 h => ?_)
    obtain ⟨hthb24, hfhb24⟩ := h
    refine jr_if_eq (tgt := 25) hC dX8_removePoint_18 (by decide) (fun hb24 => ?_) (fun hb24 => ?_)
    · have h := hthb24 hb24
      refine jr_iconst (v := (2 : Int32)) hC dX8_removePoint_25 (by decide) ?_
      exact B26 M a0 x1 x2 (2 : Int32) a0 h
    · have h := hfhb24 hb24
      refine jr_iconst (v := (0 : Int32)) hC dX8_removePoint_21 (by decide) ?_
      refine jr_goto (tgt := 26) hC dX8_removePoint_22 (by decide) ?_
      exact B26 M a0 x1 x2 (0 : Int32) a0 h
  · have h := hfhb21 hb21
    refine jr_iconst (v := (1 : Int32)) hC dX8_removePoint_8 (by decide) ?_
    refine jr_goto (tgt := 26) hC dX8_removePoint_9 (by decide) ?_
    exact B26 M a0 x1 x2 (1 : Int32) a0 h
set_option maxHeartbeats 4000000 in
set_option maxRecDepth 100000 in
theorem c_X8_laneAt {G : mw_G} {l : Launch} (hlt : l.stackTraces = false) {n : Nat} {M : mw_M} {a0 : Nat} {x1 : Int32} {x2 : Int32} {Q : Int32 → Prop} (h : w_X8_laneAt n M a0 x1 x2 Q) : mw_Met G l yX8_laneAt (.code yX8_laneAt cX8_laneAt 9 (some .int)) { frames := 2, cells := 0, slots := 0, locals := 44 } n M [.ref a0, .int x1, .int x2] (fun n1 M1 v => n1 = n ∧ mw_pI M Q M1 v) (fun _ _ => False) := by
  refine mw_enter (L0 := [(0, .ref a0), (1, .int x1), (2, .int x2)]) hlt rfl rfl (plainFor_of_name (by decide)) (Nat.le_of_ble_eq_true rfl) rfl ?_
  intro Y hC0 hZ hnL hini0 hn00
  have hC : mw_C G l _ Y cX8_laneAt RX8 := hC0
  have B88 : ∀ (s0 : Int32) (s1 : Int32) (s2r : Nat) (h : w_X8_laneAt_b88 n M s0 s1 s2r Q), mw_J Y 0 0 n M 88 [] [.int s0, .int s1, .ref s2r] := by
    intro s0 s1 s2r h
    unfold w_X8_laneAt_b88 at h
    refine jr_iadd hC dX8_laneAt_88 ?_
    obtain ⟨hc1, h⟩ := h
    obtain ⟨hc2, h⟩ := h
    refine jr_iald hC hc1 hc2 dX8_laneAt_89 ?_
    exact jr_ireti hC hZ (by decide) (by decide) dX8_laneAt_90 ⟨rfl, rfl, _, rfl, h⟩
  have B68 : ∀ (r0 : Nat) (x3 : Int32) (x5 : Int32) (h : w_X8_laneAt_b68 n M r0 x3 x5 Q), mw_J Y 0 0 n M 68 [(0, .ref r0), (3, .int x3), (5, .int x5)] [] := by
    intro r0 x3 x5 h
    unfold w_X8_laneAt_b68 at h
    refine jr_aload_n (j := 0) hC dX8_laneAt_68 rfl rfl ?_
    obtain ⟨hc3, h⟩ := h
    refine jr_get2 hC fl_RX8_7 hc3 dX8_laneAt_69 ?_
    refine jr_iload_n (j := 1) hC dX8_laneAt_72 rfl rfl ?_
    refine jr_iload (j := 2) hC dX8_laneAt_73 rfl ?_
    obtain ⟨hthb4, hfhb4⟩ := h
    refine jr_if_ne (tgt := 82) hC dX8_laneAt_75 (by decide) (fun hb4 => ?_) (fun hb4 => ?_)
    · have h := hthb4 hb4
      refine jr_iconst (v := (3 : Int32)) hC dX8_laneAt_82 (by decide) ?_
      refine jr_iload (j := 2) hC dX8_laneAt_83 rfl ?_
      refine jr_imul hC dX8_laneAt_85 ?_
      refine jr_iconst (v := (2 : Int32)) hC dX8_laneAt_86 (by decide) ?_
      refine jr_isub hC dX8_laneAt_87 ?_
      refine jr_sub [] (L1 := []) rfl ?_
      exact B88 (((3 : Int32) * x5) - (2 : Int32)) x3 (mP M r0 0) h
    · have h := hfhb4 hb4
      refine jr_iconst (v := (1 : Int32)) hC dX8_laneAt_78 (by decide) ?_
      refine jr_goto (tgt := 88) hC dX8_laneAt_79 (by decide) ?_
      refine jr_sub [] (L1 := []) rfl ?_
      exact B88 (1 : Int32) x3 (mP M r0 0) h
  unfold w_X8_laneAt at h
  refine jr_iload_n (j := 1) hC dX8_laneAt_0 rfl rfl ?_
  refine jr_callS_pi (As := [.int x1]) (st := []) hC nc_RX8_35 (c_X8_trackAt hlt h) rfl rfl ⟨⟨rfl, rfl⟩, ⟨by decide, by decide⟩, by decide, by decide⟩ (Nat.le_of_ble_eq_true rfl) dX8_laneAt_1 (fun v5 h => ?_)
  refine jr_iconst (v := (5 : Int32)) hC dX8_laneAt_4 (by decide) ?_
  refine jr_iadd hC dX8_laneAt_5 ?_
  refine jr_nmI (fun v6 ev6 => ?_)
  have h := h v6 ev6
  refine jr_istore_n (L1 := [(3, .int v6), (0, .ref a0), (1, .int x1), (2, .int x2)]) hC dX8_laneAt_6 rfl hnL (by decide) rfl ?_
  refine jr_aload_n (j := 1) hC dX8_laneAt_7 rfl rfl ?_
  obtain ⟨hc7, h⟩ := h
  refine jr_get2 hC fl_RX8_7 hc7 dX8_laneAt_8 ?_
  refine jr_iload_n (j := 2) hC dX8_laneAt_11 rfl rfl ?_
  refine jr_callS_pi (As := [.int x1]) (st := [.ref (mP M a0 0)]) hC nc_RX8_35 (c_X8_trackAt hlt h) rfl rfl ⟨⟨rfl, rfl⟩, ⟨by decide, by decide⟩, by decide, by decide⟩ (Nat.le_of_ble_eq_true rfl) dX8_laneAt_12 (fun v8 h => ?_)
  refine jr_iconst (v := (4 : Int32)) hC dX8_laneAt_15 (by decide) ?_
  refine jr_iadd hC dX8_laneAt_16 ?_
  obtain ⟨hc9, h⟩ := h
  obtain ⟨hc10, h⟩ := h
  refine jr_iald hC hc9 hc10 dX8_laneAt_17 ?_
  refine jr_nmI (fun v11 ev11 => ?_)
  have h := h v11 ev11
  refine jr_istore (L1 := [(4, .int v11), (3, .int v6), (0, .ref a0), (1, .int x1), (2, .int x2)]) hC dX8_laneAt_18 hnL (by decide) rfl ?_
  refine jr_aload_n (j := 2) hC dX8_laneAt_20 rfl rfl ?_
  refine jr_iload_n (j := 3) hC dX8_laneAt_21 rfl rfl ?_
  refine jr_iload_n (j := 4) hC dX8_laneAt_22 rfl rfl ?_
  refine jr_iconst (v := (1 : Int32)) hC dX8_laneAt_23 (by decide) ?_
  refine jr_iadd hC dX8_laneAt_24 ?_
  refine jr_callV_pi (As := [.int x1, .int (x2 + (1 : Int32))]) (st := []) hC nc_RX8_182 (c_X8_pointsAhead hlt h) hc7 rfl rfl ⟨⟨rfl, rfl⟩, ⟨by decide, by decide⟩, by decide, by decide⟩ (Nat.le_of_ble_eq_true rfl) dX8_laneAt_25 (fun v12 h => ?_)
  refine jr_istore (L1 := [(5, .int v12), (4, .int v11), (3, .int v6), (0, .ref a0), (1, .int x1), (2, .int x2)]) hC dX8_laneAt_28 hnL (by decide) rfl ?_
  refine jr_iload (j := 1) hC dX8_laneAt_30 rfl ?_
  obtain ⟨hthb13, hfhb13⟩ := h
  refine jr_if_ne (tgt := 39) hC dX8_laneAt_32 (by decide) (fun hb13 => ?_) (fun hb13 => ?_)
  · have h := hthb13 hb13
    refine jr_iload (j := 0) hC dX8_laneAt_39 rfl ?_
    obtain ⟨hthb14, hfhb14⟩ := h
    refine jr_if_eq (tgt := 68) hC dX8_laneAt_41 (by decide) (fun hb14 => ?_) (fun hb14 => ?_)
    · have h := hthb14 hb14
      refine jr_sub [3, 2, 0] (L1 := [(0, .ref a0), (3, .int v6), (5, .int v12)]) rfl ?_
      exact B68 a0 v6 v12 h
    · have h := hfhb14 hb14
      refine jr_iload (j := 0) hC dX8_laneAt_44 rfl ?_
      refine jr_iload (j := 1) hC dX8_laneAt_46 rfl ?_
      obtain ⟨hthb15, hfhb15⟩ := h
      refine jr_ic_eq (tgt := 68) hC dX8_laneAt_48 (by decide) (fun hb15 => ?_) (fun hb15 => ?_)
      · have h := hthb15 hb15
        refine jr_sub [3, 2, 0] (L1 := [(0, .ref a0), (3, .int v6), (5, .int v12)]) rfl ?_
        exact B68 a0 v6 v12 h
      · have h := hfhb15 hb15
        refine jr_aload_n (j := 3) hC dX8_laneAt_51 rfl rfl ?_
        refine jr_get2 hC fl_RX8_7 hc7 dX8_laneAt_52 ?_
        refine jr_iload_n (j := 2) hC dX8_laneAt_55 rfl rfl ?_
        refine jr_iconst (v := (3 : Int32)) hC dX8_laneAt_56 (by decide) ?_
        refine jr_iload (j := 0) hC dX8_laneAt_57 rfl ?_
        refine jr_imul hC dX8_laneAt_59 ?_
        refine jr_iadd hC dX8_laneAt_60 ?_
        refine jr_iconst (v := (1 : Int32)) hC dX8_laneAt_61 (by decide) ?_
        refine jr_isub hC dX8_laneAt_62 ?_
        obtain ⟨hc16, h⟩ := h
        refine jr_iald hC hc9 hc16 dX8_laneAt_63 ?_
        refine jr_iconst (v := (1 : Int32)) hC dX8_laneAt_64 (by decide) ?_
        obtain ⟨hthb17, hfhb17⟩ := h
        refine jr_ic_ne (tgt := 91) hC dX8_laneAt_65 (by decide) (fun hb17 => ?_) (fun hb17 => ?_)
        · have h := hthb17 hb17
          refine jr_iload_n (j := 2) hC dX8_laneAt_91 rfl rfl ?_
          refine jr_iconst (v := (3 : Int32)) hC dX8_laneAt_92 (by decide) ?_
          refine jr_iload (j := 0) hC dX8_laneAt_93 rfl ?_
          refine jr_imul hC dX8_laneAt_95 ?_
          refine jr_iadd hC dX8_laneAt_96 ?_
          refine jr_iconst (v := (3 : Int32)) hC dX8_laneAt_97 (by decide) ?_
          refine jr_isub hC dX8_laneAt_98 ?_
          refine jr_nmI (fun v18 ev18 => ?_)
          have h := h v18 ev18
          refine jr_istore (L1 := [(6, .int v18), (5, .int v12), (4, .int v11), (3, .int v6), (0, .ref a0), (1, .int x1), (2, .int x2)]) hC dX8_laneAt_99 hnL (by decide) rfl ?_
          refine jr_aload_n (j := 4) hC dX8_laneAt_101 rfl rfl ?_
          refine jr_get2 hC fl_RX8_7 hc7 dX8_laneAt_102 ?_
          refine jr_iload (j := 0) hC dX8_laneAt_105 rfl ?_
          refine jr_iconst (v := (4 : Int32)) hC dX8_laneAt_107 (by decide) ?_
          refine jr_iadd hC dX8_laneAt_108 ?_
          obtain ⟨hc19, h⟩ := h
          refine jr_iald hC hc9 hc19 dX8_laneAt_109 ?_
          refine jr_aload_n (j := 4) hC dX8_laneAt_110 rfl rfl ?_
          refine jr_get2 hC fl_RX8_7 hc7 dX8_laneAt_111 ?_
          refine jr_iload (j := 0) hC dX8_laneAt_114 rfl ?_
          refine jr_iconst (v := (1 : Int32)) hC dX8_laneAt_116 (by decide) ?_
          refine jr_iadd hC dX8_laneAt_117 ?_
          obtain ⟨hc20, h⟩ := h
          refine jr_iald hC hc9 hc20 dX8_laneAt_118 ?_
          refine jr_isub hC dX8_laneAt_119 ?_
          refine jr_i2l hC dX8_laneAt_120 ?_
          refine jr_iload_n (j := 6) hC dX8_laneAt_121 rfl rfl ?_
          refine jr_aload_n (j := 4) hC dX8_laneAt_122 rfl rfl ?_
          refine jr_get2 hC fl_RX8_7 hc7 dX8_laneAt_123 ?_
          refine jr_iload (j := 0) hC dX8_laneAt_126 rfl ?_
          obtain ⟨hc21, h⟩ := h
          refine jr_iald hC hc9 hc21 dX8_laneAt_128 ?_
          refine jr_isub hC dX8_laneAt_129 ?_
          refine jr_i2l hC dX8_laneAt_130 ?_
          refine jr_lmul hC dX8_laneAt_131 ?_
          refine jr_nmJ (fun w22 ew22 => ?_)
          have h := h w22 ew22
          refine jr_lstore (L1 := [(7, .long w22), (6, .int v18), (5, .int v12), (4, .int v11), (3, .int v6), (0, .ref a0), (1, .int x1), (2, .int x2)]) hC dX8_laneAt_132 hnL (by decide) rfl ?_
          refine jr_aload_n (j := 5) hC dX8_laneAt_134 rfl rfl ?_
          refine jr_get2 hC fl_RX8_7 hc7 dX8_laneAt_135 ?_
          refine jr_iload (j := 1) hC dX8_laneAt_138 rfl ?_
          refine jr_iconst (v := (1 : Int32)) hC dX8_laneAt_140 (by decide) ?_
          refine jr_iadd hC dX8_laneAt_141 ?_
          refine jr_iald hC hc9 hc20 dX8_laneAt_142 ?_
          refine jr_lload (j := 0) hC dX8_laneAt_143 rfl ?_
          refine jr_aload_n (j := 5) hC dX8_laneAt_145 rfl rfl ?_
          refine jr_get2 hC fl_RX8_7 hc7 dX8_laneAt_146 ?_
          refine jr_iload (j := 1) hC dX8_laneAt_149 rfl ?_
          refine jr_iconst (v := (3 : Int32)) hC dX8_laneAt_151 (by decide) ?_
          refine jr_iadd hC dX8_laneAt_152 ?_
          obtain ⟨hc23, h⟩ := h
          refine jr_iald hC hc9 hc23 dX8_laneAt_153 ?_
          refine jr_aload_n (j := 5) hC dX8_laneAt_154 rfl rfl ?_
          refine jr_get2 hC fl_RX8_7 hc7 dX8_laneAt_155 ?_
          refine jr_iload (j := 1) hC dX8_laneAt_158 rfl ?_
          refine jr_iald hC hc9 hc21 dX8_laneAt_160 ?_
          refine jr_isub hC dX8_laneAt_161 ?_
          refine jr_i2l hC dX8_laneAt_162 ?_
          refine jr_callS_pj (As := [.long w22, .long (Int32.toInt64 ((mI M (mP M a0 0) (Int32.toNatClampNeg (v18 + (3 : Int32)))) - (mI M (mP M a0 0) (Int32.toNatClampNeg v18))))]) (st := [.int (mI M (mP M a0 0) (Int32.toNatClampNeg (v18 + (1 : Int32))))]) hC nc_RX8_60 (c_X8_floor hlt h) rfl rfl ⟨⟨rfl, rfl⟩, ⟨by decide, by decide⟩, by decide, by decide⟩ (Nat.le_of_ble_eq_true rfl) dX8_laneAt_163 (fun w24 h => ?_)
          refine jr_l2i hC dX8_laneAt_166 ?_
          refine jr_iadd hC dX8_laneAt_167 ?_
          exact jr_ireti hC hZ (by decide) (by decide) dX8_laneAt_168 ⟨rfl, rfl, _, rfl, h⟩
        · have h := hfhb17 hb17
          refine jr_sub [3, 2, 0] (L1 := [(0, .ref a0), (3, .int v6), (5, .int v12)]) rfl ?_
          exact B68 a0 v6 v12 h
  · have h := hfhb13 hb13
    refine jr_sipush (v := (1000 : Int32)) hC dX8_laneAt_35 (by decide) ?_
    exact jr_ireti hC hZ (by decide) (by decide) dX8_laneAt_38 ⟨rfl, rfl, _, rfl, h⟩
