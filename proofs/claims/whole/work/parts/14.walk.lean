set_option maxHeartbeats 4000000 in
set_option maxRecDepth 100000 in
theorem c_X7_setSource {G : mw_G} {l : Launch} (hlt : l.stackTraces = false) {n : Nat} {M : mw_M} {a0 : Nat} {x1 : Int32} {x2 : Int32} {x3 : Int32} {x4 : Int32} {x5 : Int32} {Q : mw_M → Int32 → Prop} {X : mw_M → String → Prop} (h : w_X7_setSource n M a0 x1 x2 x3 x4 x5 Q X) : mw_Met G l yX7_setSource (.code yX7_setSource cX7_setSource 7 (some .int)) { frames := 7, cells := 2, slots := 12, locals := 102 } n M [.ref a0, .int x1, .int x2, .int x3, .int x4, .int x5] (fun n1 M1 v => n1 = n ∧ mw_rI Q M1 v) X := by
  refine mw_enter (L0 := [(0, .ref a0), (1, .int x1), (2, .int x2), (3, .int x3), (4, .int x4), (5, .int x5)]) hlt rfl rfl (plainFor_of_name (by decide)) (Nat.le_of_ble_eq_true rfl) rfl ?_
  intro Y hC0 hZ hnL hini0 hn00
  have hC : mw_C G l _ Y cX7_setSource RX7 := hC0
  have B48 : ∀ (M : mw_M) (h : w_X7_setSource_b48 n M Q X), mw_J Y 1 6 n M 48 [] [] := by
    intro M h
    unfold w_X7_setSource_b48 at h
    exact jr_throwS (names := ["java/lang/RuntimeException", "java/lang/Exception"]) hC hZ hn00 (by decide +kernel) (by decide +kernel) tw_641 tw_73 sx_RX7_47 at_RX7_49 dX7_setSource_48 dX7_setSource_51 dX7_setSource_52 dX7_setSource_54 dX7_setSource_57 (by decide) (by decide) (by decide) (by decide) (by decide) (by decide) h
  unfold w_X7_setSource at h
  refine jr_iload_n (j := 1) hC dX7_setSource_0 rfl rfl ?_
  refine jr_callSx_pv (As := [.int x1]) (st := []) hC nc_RX7_37 (c_X7_checkSource hlt h) rfl rfl ⟨⟨rfl, rfl⟩, ⟨by decide, by decide⟩, by decide, by decide⟩ (Nat.le_of_ble_eq_true rfl) hZ hn00 (fun _ _ h9 => h9) (by decide) (by decide) dX7_setSource_1 (fun  h => ?_)
  refine jr_iload_n (j := 2) hC dX7_setSource_4 rfl rfl ?_
  refine jr_iconst (v := (0 : Int32)) hC dX7_setSource_5 (by decide) ?_
  refine jr_iconst (v := (3 : Int32)) hC dX7_setSource_6 (by decide) ?_
  refine jr_callS_pi (As := [.int x2, .int (0 : Int32), .int (3 : Int32)]) (st := []) hC nc_RX7_41 (c_X7_isOutside hlt h) rfl rfl ⟨⟨rfl, rfl⟩, ⟨by decide, by decide⟩, by decide, by decide⟩ (Nat.le_of_ble_eq_true rfl) dX7_setSource_7 (fun v1 h => ?_)
  obtain ⟨hthb2, hfhb2⟩ := h
  refine jr_if_ne (tgt := 48) hC dX7_setSource_10 (by decide) (fun hb2 => ?_) (fun hb2 => ?_)
  · have h := hthb2 hb2
    refine jr_sub [] (L1 := []) rfl ?_
    exact B48 M h
  · have h := hfhb2 hb2
    refine jr_iload_n (j := 3) hC dX7_setSource_13 rfl rfl ?_
    refine jr_iconst (v := (0 : Int32)) hC dX7_setSource_14 (by decide) ?_
    refine jr_sipush (v := (10000 : Int32)) hC dX7_setSource_15 (by decide) ?_
    refine jr_callS_pi (As := [.int x3, .int (0 : Int32), .int (10000 : Int32)]) (st := []) hC nc_RX7_41 (c_X7_isOutside hlt h) rfl rfl ⟨⟨rfl, rfl⟩, ⟨by decide, by decide⟩, by decide, by decide⟩ (Nat.le_of_ble_eq_true rfl) dX7_setSource_18 (fun v3 h => ?_)
    obtain ⟨hthb4, hfhb4⟩ := h
    refine jr_if_ne (tgt := 48) hC dX7_setSource_21 (by decide) (fun hb4 => ?_) (fun hb4 => ?_)
    · have h := hthb4 hb4
      refine jr_sub [] (L1 := []) rfl ?_
      exact B48 M h
    · have h := hfhb4 hb4
      refine jr_iload (j := 4) hC dX7_setSource_24 rfl ?_
      refine jr_iconst (v := (1 : Int32)) hC dX7_setSource_26 (by decide) ?_
      refine jr_sipush (v := (1000 : Int32)) hC dX7_setSource_27 (by decide) ?_
      refine jr_callS_pi (As := [.int x4, .int (1 : Int32), .int (1000 : Int32)]) (st := []) hC nc_RX7_41 (c_X7_isOutside hlt h) rfl rfl ⟨⟨rfl, rfl⟩, ⟨by decide, by decide⟩, by decide, by decide⟩ (Nat.le_of_ble_eq_true rfl) dX7_setSource_30 (fun v5 h => ?_)
      obtain ⟨hthb6, hfhb6⟩ := h
      refine jr_if_ne (tgt := 48) hC dX7_setSource_33 (by decide) (fun hb6 => ?_) (fun hb6 => ?_)
      · have h := hthb6 hb6
        refine jr_sub [] (L1 := []) rfl ?_
        exact B48 M h
      · have h := hfhb6 hb6
        refine jr_iload (j := 5) hC dX7_setSource_36 rfl ?_
        refine jr_iconst (v := (1 : Int32)) hC dX7_setSource_38 (by decide) ?_
        refine jr_sipush (v := (4000 : Int32)) hC dX7_setSource_39 (by decide) ?_
        refine jr_callS_pi (As := [.int x5, .int (1 : Int32), .int (4000 : Int32)]) (st := []) hC nc_RX7_41 (c_X7_isOutside hlt h) rfl rfl ⟨⟨rfl, rfl⟩, ⟨by decide, by decide⟩, by decide, by decide⟩ (Nat.le_of_ble_eq_true rfl) dX7_setSource_42 (fun v7 h => ?_)
        obtain ⟨hthb8, hfhb8⟩ := h
        refine jr_if_eq (tgt := 58) hC dX7_setSource_45 (by decide) (fun hb8 => ?_) (fun hb8 => ?_)
        · have h := hthb8 hb8
          refine jr_aload_n (j := 0) hC dX7_setSource_58 rfl rfl ?_
          obtain ⟨hc9, h⟩ := h
          refine jr_get2 hC fl_RX7_12 hc9 dX7_setSource_59 ?_
          obtain ⟨hc10, h⟩ := h
          refine jr_get2 hC fl_RX7_52 hc10 dX7_setSource_62 ?_
          refine jr_iload_n (j := 1) hC dX7_setSource_65 rfl rfl ?_
          obtain ⟨hc11, h⟩ := h
          obtain ⟨hc12, h⟩ := h
          refine jr_aald (t := 13) hC (by decide) (by decide) hc11 hc12 dX7_setSource_66 ?_
          obtain ⟨hc13, h⟩ := h
          refine jr_get0 hC fl_RX7_56 hc13 dX7_setSource_67 ?_
          refine jr_nmI (fun v14 ev14 => ?_)
          have h := h v14 ev14
          refine jr_istore (L1 := [(6, .int v14), (0, .ref a0), (1, .int x1), (2, .int x2), (3, .int x3), (4, .int x4), (5, .int x5)]) hC dX7_setSource_70 hnL (by decide) rfl ?_
          refine jr_aload_n (j := 1) hC dX7_setSource_72 rfl rfl ?_
          refine jr_callV_a (As := []) (st := []) hC nc_RX7_62 (c_X7_draft hlt h) hc9 rfl rfl ⟨⟨rfl, rfl⟩, ⟨by decide, by decide⟩, by decide, by decide⟩ (Nat.le_of_ble_eq_true rfl) dX7_setSource_73 (fun M15 q16 h => ?_)
          obtain ⟨hc17, h⟩ := h
          refine jr_get2 hC fl_RX7_52 hc17 dX7_setSource_76 ?_
          refine jr_iload_n (j := 2) hC dX7_setSource_79 rfl rfl ?_
          obtain ⟨hc18, h⟩ := h
          obtain ⟨hc19, h⟩ := h
          refine jr_aald (t := 13) hC (by decide) (by decide) hc18 hc19 dX7_setSource_80 ?_
          refine jr_iload_n (j := 3) hC dX7_setSource_81 rfl rfl ?_
          refine jr_iload_n (j := 4) hC dX7_setSource_82 rfl rfl ?_
          refine jr_iload (j := 5) hC dX7_setSource_83 rfl ?_
          refine jr_iload (j := 6) hC dX7_setSource_85 rfl ?_
          obtain ⟨hc20, h⟩ := h
          refine jr_callV_v (As := [.int x2, .int x3, .int x4, .int x5]) (st := []) hC nc_RX7_66 (c_X4_define hlt h) hc20 rfl rfl ⟨⟨rfl, rfl⟩, ⟨by decide, by decide⟩, by decide, by decide⟩ (Nat.le_of_ble_eq_true rfl) dX7_setSource_87 (fun M21 h => ?_)
          refine jr_aload_n (j := 1) hC dX7_setSource_90 rfl rfl ?_
          refine jr_callV_v (As := []) (st := []) hC nc_RX7_70 (c_X7_keepSound hlt h) hc9 rfl rfl ⟨⟨rfl, rfl⟩, ⟨by decide, by decide⟩, by decide, by decide⟩ (Nat.le_of_ble_eq_true rfl) dX7_setSource_91 (fun M22 h => ?_)
          refine jr_iload (j := 0) hC dX7_setSource_94 rfl ?_
          exact jr_ireti hC hZ (by decide) (by decide) dX7_setSource_96 ⟨rfl, _, rfl, h⟩
        · have h := hfhb8 hb8
          refine jr_sub [] (L1 := []) rfl ?_
          exact B48 M h
set_option maxHeartbeats 4000000 in
set_option maxRecDepth 100000 in
theorem c_X7_sample {G : mw_G} {l : Launch} (hlt : l.stackTraces = false) {n : Nat} {M : mw_M} {a0 : Nat} {x1 : Int32} {x2 : Int32} {Q : Int32 → Prop} {X : mw_M → String → Prop} (h : w_X7_sample n M a0 x1 x2 Q X) : mw_Met G l yX7_sample (.code yX7_sample cX7_sample 3 (some .int)) { frames := 7, cells := 2, slots := 12, locals := 102 } n M [.ref a0, .int x1, .int x2] (fun n1 M1 v => n1 = n ∧ mw_pI M Q M1 v) X := by
  refine mw_enter (L0 := [(0, .ref a0), (1, .int x1), (2, .int x2)]) hlt rfl rfl (plainFor_of_name (by decide)) (Nat.le_of_ble_eq_true rfl) rfl ?_
  intro Y hC0 hZ hnL hini0 hn00
  have hC : mw_C G l _ Y cX7_sample RX7 := hC0
  unfold w_X7_sample at h
  refine jr_iload_n (j := 1) hC dX7_sample_0 rfl rfl ?_
  refine jr_callSx_pv (As := [.int x1]) (st := []) hC nc_RX7_37 (c_X7_checkSource hlt h) rfl rfl ⟨⟨rfl, rfl⟩, ⟨by decide, by decide⟩, by decide, by decide⟩ (Nat.le_of_ble_eq_true rfl) hZ hn00 (fun _ _ h9 => h9) (by decide) (by decide) dX7_sample_1 (fun  h => ?_)
  refine jr_iload_n (j := 2) hC dX7_sample_4 rfl rfl ?_
  refine jr_iconst (v := (0 : Int32)) hC dX7_sample_5 (by decide) ?_
  refine jr_aload_n (j := 0) hC dX7_sample_6 rfl rfl ?_
  obtain ⟨hc1, h⟩ := h
  refine jr_get2 hC fl_RX7_12 hc1 dX7_sample_7 ?_
  obtain ⟨hc2, h⟩ := h
  refine jr_get2 hC fl_RX7_52 hc2 dX7_sample_10 ?_
  refine jr_iload_n (j := 1) hC dX7_sample_13 rfl rfl ?_
  obtain ⟨hc3, h⟩ := h
  obtain ⟨hc4, h⟩ := h
  refine jr_aald (t := 13) hC (by decide) (by decide) hc3 hc4 dX7_sample_14 ?_
  obtain ⟨hc5, h⟩ := h
  refine jr_get0 hC fl_RX7_56 hc5 dX7_sample_15 ?_
  refine jr_iconst (v := (1 : Int32)) hC dX7_sample_18 (by decide) ?_
  refine jr_isub hC dX7_sample_19 ?_
  refine jr_callS_pi (As := [.int x2, .int (0 : Int32), .int ((mI M (mP M (mP M (mP M a0 0) 0) (Int32.toNatClampNeg x1)) 3) - (1 : Int32))]) (st := []) hC nc_RX7_41 (c_X7_isOutside hlt h) rfl rfl ⟨⟨rfl, rfl⟩, ⟨by decide, by decide⟩, by decide, by decide⟩ (Nat.le_of_ble_eq_true rfl) dX7_sample_20 (fun v6 h => ?_)
  obtain ⟨hthb7, hfhb7⟩ := h
  refine jr_if_eq (tgt := 36) hC dX7_sample_23 (by decide) (fun hb7 => ?_) (fun hb7 => ?_)
  · have h := hthb7 hb7
    refine jr_aload_n (j := 0) hC dX7_sample_36 rfl rfl ?_
    refine jr_get2 hC fl_RX7_12 hc1 dX7_sample_37 ?_
    refine jr_get2 hC fl_RX7_52 hc2 dX7_sample_40 ?_
    refine jr_iload_n (j := 1) hC dX7_sample_43 rfl rfl ?_
    refine jr_aald (t := 13) hC (by decide) (by decide) hc3 hc4 dX7_sample_44 ?_
    refine jr_iload_n (j := 2) hC dX7_sample_45 rfl rfl ?_
    refine jr_callV_pi (As := [.int x2]) (st := []) hC nc_RX7_78 (c_X4_valueAt hlt h) hc5 rfl rfl ⟨⟨rfl, rfl⟩, ⟨by decide, by decide⟩, by decide, by decide⟩ (Nat.le_of_ble_eq_true rfl) dX7_sample_46 (fun v8 h => ?_)
    exact jr_ireti hC hZ (by decide) (by decide) dX7_sample_49 ⟨rfl, rfl, _, rfl, h⟩
  · have h := hfhb7 hb7
    exact jr_throwS (names := ["java/lang/RuntimeException", "java/lang/Exception"]) hC hZ hn00 (by decide +kernel) (by decide +kernel) tw_572 tw_72 sx_RX7_75 at_RX7_77 dX7_sample_26 dX7_sample_29 dX7_sample_30 dX7_sample_32 dX7_sample_35 (by decide) (by decide) (by decide) (by decide) (by decide) (by decide) h
set_option maxHeartbeats 4000000 in
set_option maxRecDepth 100000 in
theorem c_X7_checkRoomForClip {G : mw_G} {l : Launch} (hlt : l.stackTraces = false) {n : Nat} {M : mw_M} {a0 : Nat} {Q : Prop} {X : mw_M → String → Prop} (h : w_X7_checkRoomForClip n M a0 Q X) : mw_Met G l yX7_checkRoomForClip (.code yX7_checkRoomForClip cX7_checkRoomForClip 1 none) { frames := 6, cells := 1, slots := 6, locals := 82 } n M [.ref a0] (fun n1 M1 v => n1 = n ∧ mw_pV M Q M1 v) X := by
  refine mw_enter (L0 := [(0, .ref a0)]) hlt rfl rfl (plainFor_of_name (by decide)) (Nat.le_of_ble_eq_true rfl) rfl ?_
  intro Y hC0 hZ hnL hini0 hn00
  have hC : mw_C G l _ Y cX7_checkRoomForClip RX7 := hC0
  unfold w_X7_checkRoomForClip at h
  refine jr_aload_n (j := 0) hC dX7_checkRoomForClip_0 rfl rfl ?_
  obtain ⟨hc1, h⟩ := h
  refine jr_get2 hC fl_RX7_12 hc1 dX7_checkRoomForClip_1 ?_
  obtain ⟨hc2, h⟩ := h
  refine jr_get0 hC fl_RX7_144 hc2 dX7_checkRoomForClip_4 ?_
  refine jr_bipush (v := (12 : Int32)) hC dX7_checkRoomForClip_7 (by decide) ?_
  obtain ⟨hthb3, hfhb3⟩ := h
  refine jr_ic_lt (tgt := 23) hC dX7_checkRoomForClip_9 (by decide) (fun hb3 => ?_) (fun hb3 => ?_)
  · have h := hthb3 hb3
    exact jr_vret hC hZ (by decide) (by decide) dX7_checkRoomForClip_23 ⟨rfl, rfl, rfl, h⟩
  · have h := hfhb3 hb3
    exact jr_throwSW (names := ["java/lang/RuntimeException", "java/lang/Exception"]) hC hZ hn00 (by decide +kernel) (by decide +kernel) tw_693 tw_75 sx_RX7_358 at_RX7_213 dX7_checkRoomForClip_12 dX7_checkRoomForClip_15 dX7_checkRoomForClip_16 dX7_checkRoomForClip_19 dX7_checkRoomForClip_22 (by decide) (by decide) (by decide) (by decide) (by decide) (by decide) h
set_option maxHeartbeats 4000000 in
set_option maxRecDepth 100000 in
theorem c_X7_checkLawful {G : mw_G} {l : Launch} (hlt : l.stackTraces = false) {n : Nat} {M : mw_M} {a0 : Nat} {Q : Prop} {X : mw_M → String → Prop} (h : w_X7_checkLawful n M a0 Q X) : mw_Met G l yX7_checkLawful (.code yX7_checkLawful cX7_checkLawful 1 none) { frames := 6, cells := 1, slots := 6, locals := 82 } n M [.ref a0] (fun n1 M1 v => n1 = n ∧ mw_pV M Q M1 v) X := by
  refine mw_enter (L0 := [(0, .ref a0)]) hlt rfl rfl (plainFor_of_name (by decide)) (Nat.le_of_ble_eq_true rfl) rfl ?_
  intro Y hC0 hZ hnL hini0 hn00
  have hC : mw_C G l _ Y cX7_checkLawful RX7 := hC0
  unfold w_X7_checkLawful at h
  refine jr_aload_n (j := 0) hC dX7_checkLawful_0 rfl rfl ?_
  obtain ⟨hc1, h⟩ := h
  refine jr_callV_pi (As := []) (st := []) hC nc_RX7_360 (c_X5_isLawful hlt h) hc1 rfl rfl ⟨⟨rfl, rfl⟩, ⟨by decide, by decide⟩, by decide, by decide⟩ (Nat.le_of_ble_eq_true rfl) dX7_checkLawful_1 (fun v2 h => ?_)
  obtain ⟨hthb3, hfhb3⟩ := h
  refine jr_if_ne (tgt := 18) hC dX7_checkLawful_4 (by decide) (fun hb3 => ?_) (fun hb3 => ?_)
  · have h := hthb3 hb3
    exact jr_vret hC hZ (by decide) (by decide) dX7_checkLawful_18 ⟨rfl, rfl, rfl, h⟩
  · have h := hfhb3 hb3
    exact jr_throwSW (names := ["java/lang/RuntimeException", "java/lang/Exception"]) hC hZ hn00 (by decide +kernel) (by decide +kernel) tw_735 tw_76 sx_RX7_365 at_RX7_367 dX7_checkLawful_7 dX7_checkLawful_10 dX7_checkLawful_11 dX7_checkLawful_14 dX7_checkLawful_17 (by decide) (by decide) (by decide) (by decide) (by decide) (by decide) h
set_option maxHeartbeats 4000000 in
set_option maxRecDepth 100000 in
theorem c_X7_addClip {G : mw_G} {l : Launch} (hlt : l.stackTraces = false) {n : Nat} {M : mw_M} {a0 : Nat} {x1 : Int32} {x2 : Int32} {x3 : Int32} {x4 : Int32} {x5 : Int32} {x6 : Int32} {Q : mw_M → Int32 → Prop} {X : mw_M → String → Prop} (h : w_X7_addClip n M a0 x1 x2 x3 x4 x5 x6 Q X) : mw_Met G l yX7_addClip (.code yX7_addClip cX7_addClip 9 (some .int)) { frames := 7, cells := 2, slots := 12, locals := 102 } n M [.ref a0, .int x1, .int x2, .int x3, .int x4, .int x5, .int x6] (fun n1 M1 v => n1 = n ∧ mw_rI Q M1 v) X := by
  refine mw_enter (L0 := [(0, .ref a0), (1, .int x1), (2, .int x2), (3, .int x3), (4, .int x4), (5, .int x5), (6, .int x6)]) hlt rfl rfl (plainFor_of_name (by decide)) (Nat.le_of_ble_eq_true rfl) rfl ?_
  intro Y hC0 hZ hnL hini0 hn00
  have hC : mw_C G l _ Y cX7_addClip RX7 := hC0
  have B67 : ∀ (M : mw_M) (h : w_X7_addClip_b67 n M Q X), mw_J Y 0 0 n M 67 [] [] := by
    intro M h
    unfold w_X7_addClip_b67 at h
    exact jr_throwS (names := ["java/lang/RuntimeException", "java/lang/Exception"]) hC hZ hn00 (by decide +kernel) (by decide +kernel) tw_641 tw_73 sx_RX7_82 at_RX7_49 dX7_addClip_67 dX7_addClip_70 dX7_addClip_71 dX7_addClip_73 dX7_addClip_76 (by decide) (by decide) (by decide) (by decide) (by decide) (by decide) h
  unfold w_X7_addClip at h
  refine jr_iload_n (j := 1) hC dX7_addClip_0 rfl rfl ?_
  refine jr_iconst (v := (0 : Int32)) hC dX7_addClip_1 (by decide) ?_
  refine jr_iconst (v := (3 : Int32)) hC dX7_addClip_2 (by decide) ?_
  refine jr_callS_pi (As := [.int x1, .int (0 : Int32), .int (3 : Int32)]) (st := []) hC nc_RX7_41 (c_X7_isOutside hlt h) rfl rfl ⟨⟨rfl, rfl⟩, ⟨by decide, by decide⟩, by decide, by decide⟩ (Nat.le_of_ble_eq_true rfl) dX7_addClip_3 (fun v1 h => ?_)
  obtain ⟨hthb2, hfhb2⟩ := h
  refine jr_if_ne (tgt := 67) hC dX7_addClip_6 (by decide) (fun hb2 => ?_) (fun hb2 => ?_)
  · have h := hthb2 hb2
    refine jr_sub [] (L1 := []) rfl ?_
    exact B67 M h
  · have h := hfhb2 hb2
    refine jr_iload_n (j := 2) hC dX7_addClip_9 rfl rfl ?_
    refine jr_iconst (v := (0 : Int32)) hC dX7_addClip_10 (by decide) ?_
    refine jr_iconst (v := (5 : Int32)) hC dX7_addClip_11 (by decide) ?_
    refine jr_callS_pi (As := [.int x2, .int (0 : Int32), .int (5 : Int32)]) (st := []) hC nc_RX7_41 (c_X7_isOutside hlt h) rfl rfl ⟨⟨rfl, rfl⟩, ⟨by decide, by decide⟩, by decide, by decide⟩ (Nat.le_of_ble_eq_true rfl) dX7_addClip_12 (fun v3 h => ?_)
    obtain ⟨hthb4, hfhb4⟩ := h
    refine jr_if_ne (tgt := 67) hC dX7_addClip_15 (by decide) (fun hb4 => ?_) (fun hb4 => ?_)
    · have h := hthb4 hb4
      refine jr_sub [] (L1 := []) rfl ?_
      exact B67 M h
    · have h := hfhb4 hb4
      refine jr_iload_n (j := 3) hC dX7_addClip_18 rfl rfl ?_
      refine jr_iconst (v := (0 : Int32)) hC dX7_addClip_19 (by decide) ?_
      refine jr_sipush (v := (3999 : Int32)) hC dX7_addClip_20 (by decide) ?_
      refine jr_callS_pi (As := [.int x3, .int (0 : Int32), .int (3999 : Int32)]) (st := []) hC nc_RX7_41 (c_X7_isOutside hlt h) rfl rfl ⟨⟨rfl, rfl⟩, ⟨by decide, by decide⟩, by decide, by decide⟩ (Nat.le_of_ble_eq_true rfl) dX7_addClip_23 (fun v5 h => ?_)
      obtain ⟨hthb6, hfhb6⟩ := h
      refine jr_if_ne (tgt := 67) hC dX7_addClip_26 (by decide) (fun hb6 => ?_) (fun hb6 => ?_)
      · have h := hthb6 hb6
        refine jr_sub [] (L1 := []) rfl ?_
        exact B67 M h
      · have h := hfhb6 hb6
        refine jr_iload (j := 4) hC dX7_addClip_29 rfl ?_
        refine jr_iconst (v := (0 : Int32)) hC dX7_addClip_31 (by decide) ?_
        refine jr_sipush (v := (3999 : Int32)) hC dX7_addClip_32 (by decide) ?_
        refine jr_callS_pi (As := [.int x4, .int (0 : Int32), .int (3999 : Int32)]) (st := []) hC nc_RX7_41 (c_X7_isOutside hlt h) rfl rfl ⟨⟨rfl, rfl⟩, ⟨by decide, by decide⟩, by decide, by decide⟩ (Nat.le_of_ble_eq_true rfl) dX7_addClip_35 (fun v7 h => ?_)
        obtain ⟨hthb8, hfhb8⟩ := h
        refine jr_if_ne (tgt := 67) hC dX7_addClip_38 (by decide) (fun hb8 => ?_) (fun hb8 => ?_)
        · have h := hthb8 hb8
          refine jr_sub [] (L1 := []) rfl ?_
          exact B67 M h
        · have h := hfhb8 hb8
          refine jr_iload (j := 5) hC dX7_addClip_41 rfl ?_
          refine jr_iconst (v := (1 : Int32)) hC dX7_addClip_43 (by decide) ?_
          refine jr_sipush (v := (4000 : Int32)) hC dX7_addClip_44 (by decide) ?_
          refine jr_iload_n (j := 3) hC dX7_addClip_47 rfl rfl ?_
          refine jr_isub hC dX7_addClip_48 ?_
          refine jr_callS_pi (As := [.int x5, .int (1 : Int32), .int ((4000 : Int32) - x3)]) (st := []) hC nc_RX7_41 (c_X7_isOutside hlt h) rfl rfl ⟨⟨rfl, rfl⟩, ⟨by decide, by decide⟩, by decide, by decide⟩ (Nat.le_of_ble_eq_true rfl) dX7_addClip_49 (fun v9 h => ?_)
          obtain ⟨hthb10, hfhb10⟩ := h
          refine jr_if_ne (tgt := 67) hC dX7_addClip_52 (by decide) (fun hb10 => ?_) (fun hb10 => ?_)
          · have h := hthb10 hb10
            refine jr_sub [] (L1 := []) rfl ?_
            exact B67 M h
          · have h := hfhb10 hb10
            refine jr_iload (j := 6) hC dX7_addClip_55 rfl ?_
            refine jr_iconst (v := (0 : Int32)) hC dX7_addClip_57 (by decide) ?_
            refine jr_sipush (v := (2000 : Int32)) hC dX7_addClip_58 (by decide) ?_
            refine jr_callS_pi (As := [.int x6, .int (0 : Int32), .int (2000 : Int32)]) (st := []) hC nc_RX7_41 (c_X7_isOutside hlt h) rfl rfl ⟨⟨rfl, rfl⟩, ⟨by decide, by decide⟩, by decide, by decide⟩ (Nat.le_of_ble_eq_true rfl) dX7_addClip_61 (fun v11 h => ?_)
            obtain ⟨hthb12, hfhb12⟩ := h
            refine jr_if_eq (tgt := 77) hC dX7_addClip_64 (by decide) (fun hb12 => ?_) (fun hb12 => ?_)
            · have h := hthb12 hb12
              refine jr_aload_n (j := 0) hC dX7_addClip_77 rfl rfl ?_
              obtain ⟨hc13, h⟩ := h
              refine jr_callVx_pv (As := []) (st := []) hC nc_RX7_84 (c_X7_checkRoomForClip hlt h) hc13 rfl rfl ⟨⟨rfl, rfl⟩, ⟨by decide, by decide⟩, by decide, by decide⟩ (Nat.le_of_ble_eq_true rfl) hZ hn00 (fun _ _ h9 => h9) (by decide) (by decide) dX7_addClip_78 (fun  h => ?_)
              refine jr_aload_n (j := 0) hC dX7_addClip_81 rfl rfl ?_
              refine jr_callV_a (As := []) (st := []) hC nc_RX7_62 (c_X7_draft hlt h) hc13 rfl rfl ⟨⟨rfl, rfl⟩, ⟨by decide, by decide⟩, by decide, by decide⟩ (Nat.le_of_ble_eq_true rfl) dX7_addClip_82 (fun M14 q15 h => ?_)
              refine jr_astore (L1 := [(7, .ref q15), (0, .ref a0), (1, .int x1), (2, .int x2), (3, .int x3), (4, .int x4), (5, .int x5), (6, .int x6)]) hC dX7_addClip_85 hnL (by decide) rfl ?_
              refine jr_aload (j := 0) hC dX7_addClip_87 rfl ?_
              refine jr_iload_n (j := 2) hC dX7_addClip_89 rfl rfl ?_
              refine jr_iload_n (j := 3) hC dX7_addClip_90 rfl rfl ?_
              refine jr_iload_n (j := 4) hC dX7_addClip_91 rfl rfl ?_
              refine jr_iload (j := 5) hC dX7_addClip_92 rfl ?_
              refine jr_iload (j := 6) hC dX7_addClip_94 rfl ?_
              refine jr_iload (j := 7) hC dX7_addClip_96 rfl ?_
              obtain ⟨hc16, h⟩ := h
              refine jr_callV_i (As := [.int x1, .int x2, .int x3, .int x4, .int x5, .int x6]) (st := []) hC nc_RX7_87 (c_X5_insert hlt h) hc16 rfl rfl ⟨⟨rfl, rfl⟩, ⟨by decide, by decide⟩, by decide, by decide⟩ (Nat.le_of_ble_eq_true rfl) dX7_addClip_98 (fun M17 v18 h => ?_)
              refine jr_istore (L1 := [(8, .int v18), (7, .ref q15), (0, .ref a0), (1, .int x1), (2, .int x2), (3, .int x3), (4, .int x4), (5, .int x5), (6, .int x6)]) hC dX7_addClip_101 hnL (by decide) rfl ?_
              refine jr_aload (j := 1) hC dX7_addClip_103 rfl ?_
              refine jr_callSx_pv (As := [.ref q15]) (st := []) hC nc_RX7_91 (c_X7_checkLawful hlt h) rfl rfl ⟨⟨rfl, rfl⟩, ⟨by decide, by decide⟩, by decide, by decide⟩ (Nat.le_of_ble_eq_true rfl) hZ hn00 (fun _ _ h9 => h9) (by decide) (by decide) dX7_addClip_105 (fun  h => ?_)
              refine jr_aload_n (j := 2) hC dX7_addClip_108 rfl rfl ?_
              refine jr_callV_v (As := []) (st := []) hC nc_RX7_70 (c_X7_keepSound hlt h) hc13 rfl rfl ⟨⟨rfl, rfl⟩, ⟨by decide, by decide⟩, by decide, by decide⟩ (Nat.le_of_ble_eq_true rfl) dX7_addClip_109 (fun M19 h => ?_)
              refine jr_iload (j := 0) hC dX7_addClip_112 rfl ?_
              exact jr_ireti hC hZ (by decide) (by decide) dX7_addClip_114 ⟨rfl, _, rfl, h⟩
            · have h := hfhb12 hb12
              refine jr_sub [] (L1 := []) rfl ?_
              exact B67 M h
set_option maxHeartbeats 4000000 in
set_option maxRecDepth 100000 in
theorem c_X7_checkClip {G : mw_G} {l : Launch} (hlt : l.stackTraces = false) {n : Nat} {M : mw_M} {a0 : Nat} {x1 : Int32} {Q : Prop} {X : mw_M → String → Prop} (h : w_X7_checkClip n M a0 x1 Q X) : mw_Met G l yX7_checkClip (.code yX7_checkClip cX7_checkClip 2 none) { frames := 6, cells := 1, slots := 6, locals := 82 } n M [.ref a0, .int x1] (fun n1 M1 v => n1 = n ∧ mw_pV M Q M1 v) X := by
  refine mw_enter (L0 := [(0, .ref a0), (1, .int x1)]) hlt rfl rfl (plainFor_of_name (by decide)) (Nat.le_of_ble_eq_true rfl) rfl ?_
  intro Y hC0 hZ hnL hini0 hn00
  have hC : mw_C G l _ Y cX7_checkClip RX7 := hC0
  unfold w_X7_checkClip at h
  refine jr_iload_n (j := 1) hC dX7_checkClip_0 rfl rfl ?_
  refine jr_iconst (v := (0 : Int32)) hC dX7_checkClip_1 (by decide) ?_
  refine jr_aload_n (j := 0) hC dX7_checkClip_2 rfl rfl ?_
  obtain ⟨hc1, h⟩ := h
  refine jr_get2 hC fl_RX7_12 hc1 dX7_checkClip_3 ?_
  obtain ⟨hc2, h⟩ := h
  refine jr_get0 hC fl_RX7_144 hc2 dX7_checkClip_6 ?_
  refine jr_iconst (v := (1 : Int32)) hC dX7_checkClip_9 (by decide) ?_
  refine jr_isub hC dX7_checkClip_10 ?_
  refine jr_callS_pi (As := [.int x1, .int (0 : Int32), .int ((mI M (mP M a0 0) 2) - (1 : Int32))]) (st := []) hC nc_RX7_41 (c_X7_isOutside hlt h) rfl rfl ⟨⟨rfl, rfl⟩, ⟨by decide, by decide⟩, by decide, by decide⟩ (Nat.le_of_ble_eq_true rfl) dX7_checkClip_11 (fun v3 h => ?_)
  obtain ⟨hthb4, hfhb4⟩ := h
  refine jr_if_eq (tgt := 28) hC dX7_checkClip_14 (by decide) (fun hb4 => ?_) (fun hb4 => ?_)
  · have h := hthb4 hb4
    exact jr_vret hC hZ (by decide) (by decide) dX7_checkClip_28 ⟨rfl, rfl, rfl, h⟩
  · have h := hfhb4 hb4
    exact jr_throwSW (names := ["java/lang/RuntimeException", "java/lang/Exception"]) hC hZ hn00 (by decide +kernel) (by decide +kernel) tw_572 tw_72 sx_RX7_356 at_RX7_77 dX7_checkClip_17 dX7_checkClip_20 dX7_checkClip_21 dX7_checkClip_24 dX7_checkClip_27 (by decide) (by decide) (by decide) (by decide) (by decide) (by decide) h
set_option maxHeartbeats 4000000 in
set_option maxRecDepth 100000 in
theorem c_X7_setFades {G : mw_G} {l : Launch} (hlt : l.stackTraces = false) {n : Nat} {M : mw_M} {a0 : Nat} {x1 : Int32} {x2 : Int32} {x3 : Int32} {x4 : Int32} {Q : mw_M → Int32 → Prop} {X : mw_M → String → Prop} (h : w_X7_setFades n M a0 x1 x2 x3 x4 Q X) : mw_Met G l yX7_setFades (.code yX7_setFades cX7_setFades 6 (some .int)) { frames := 7, cells := 2, slots := 12, locals := 103 } n M [.ref a0, .int x1, .int x2, .int x3, .int x4] (fun n1 M1 v => n1 = n ∧ mw_rI Q M1 v) X := by
  refine mw_enter (L0 := [(0, .ref a0), (1, .int x1), (2, .int x2), (3, .int x3), (4, .int x4)]) hlt rfl rfl (plainFor_of_name (by decide)) (Nat.le_of_ble_eq_true rfl) rfl ?_
  intro Y hC0 hZ hnL hini0 hn00
  have hC : mw_C G l _ Y cX7_setFades RX7 := hC0
  have B37 : ∀ (M : mw_M) (h : w_X7_setFades_b37 n M Q X), mw_J Y 1 6 n M 37 [] [] := by
    intro M h
    unfold w_X7_setFades_b37 at h
    exact jr_throwS (names := ["java/lang/RuntimeException", "java/lang/Exception"]) hC hZ hn00 (by decide +kernel) (by decide +kernel) tw_641 tw_73 sx_RX7_98 at_RX7_49 dX7_setFades_37 dX7_setFades_40 dX7_setFades_41 dX7_setFades_43 dX7_setFades_46 (by decide) (by decide) (by decide) (by decide) (by decide) (by decide) h
  unfold w_X7_setFades at h
  refine jr_aload_n (j := 0) hC dX7_setFades_0 rfl rfl ?_
  refine jr_iload_n (j := 1) hC dX7_setFades_1 rfl rfl ?_
  obtain ⟨hc1, h⟩ := h
  refine jr_callVx_pv (As := [.int x1]) (st := []) hC nc_RX7_95 (c_X7_checkClip hlt h) hc1 rfl rfl ⟨⟨rfl, rfl⟩, ⟨by decide, by decide⟩, by decide, by decide⟩ (Nat.le_of_ble_eq_true rfl) hZ hn00 (fun _ _ h9 => h9) (by decide) (by decide) dX7_setFades_2 (fun  h => ?_)
  refine jr_iload_n (j := 2) hC dX7_setFades_5 rfl rfl ?_
  refine jr_iconst (v := (0 : Int32)) hC dX7_setFades_6 (by decide) ?_
  refine jr_sipush (v := (4000 : Int32)) hC dX7_setFades_7 (by decide) ?_
  refine jr_callS_pi (As := [.int x2, .int (0 : Int32), .int (4000 : Int32)]) (st := []) hC nc_RX7_41 (c_X7_isOutside hlt h) rfl rfl ⟨⟨rfl, rfl⟩, ⟨by decide, by decide⟩, by decide, by decide⟩ (Nat.le_of_ble_eq_true rfl) dX7_setFades_10 (fun v2 h => ?_)
  obtain ⟨hthb3, hfhb3⟩ := h
  refine jr_if_ne (tgt := 37) hC dX7_setFades_13 (by decide) (fun hb3 => ?_) (fun hb3 => ?_)
  · have h := hthb3 hb3
    refine jr_sub [] (L1 := []) rfl ?_
    exact B37 M h
  · have h := hfhb3 hb3
    refine jr_iload_n (j := 3) hC dX7_setFades_16 rfl rfl ?_
    refine jr_iconst (v := (0 : Int32)) hC dX7_setFades_17 (by decide) ?_
    refine jr_sipush (v := (4000 : Int32)) hC dX7_setFades_18 (by decide) ?_
    refine jr_callS_pi (As := [.int x3, .int (0 : Int32), .int (4000 : Int32)]) (st := []) hC nc_RX7_41 (c_X7_isOutside hlt h) rfl rfl ⟨⟨rfl, rfl⟩, ⟨by decide, by decide⟩, by decide, by decide⟩ (Nat.le_of_ble_eq_true rfl) dX7_setFades_21 (fun v4 h => ?_)
    obtain ⟨hthb5, hfhb5⟩ := h
    refine jr_if_ne (tgt := 37) hC dX7_setFades_24 (by decide) (fun hb5 => ?_) (fun hb5 => ?_)
    · have h := hthb5 hb5
      refine jr_sub [] (L1 := []) rfl ?_
      exact B37 M h
    · have h := hfhb5 hb5
      refine jr_iload (j := 4) hC dX7_setFades_27 rfl ?_
      refine jr_iconst (v := (0 : Int32)) hC dX7_setFades_29 (by decide) ?_
      refine jr_iconst (v := (1 : Int32)) hC dX7_setFades_30 (by decide) ?_
      refine jr_callS_pi (As := [.int x4, .int (0 : Int32), .int (1 : Int32)]) (st := []) hC nc_RX7_41 (c_X7_isOutside hlt h) rfl rfl ⟨⟨rfl, rfl⟩, ⟨by decide, by decide⟩, by decide, by decide⟩ (Nat.le_of_ble_eq_true rfl) dX7_setFades_31 (fun v6 h => ?_)
      obtain ⟨hthb7, hfhb7⟩ := h
      refine jr_if_eq (tgt := 47) hC dX7_setFades_34 (by decide) (fun hb7 => ?_) (fun hb7 => ?_)
      · have h := hthb7 hb7
        refine jr_aload_n (j := 0) hC dX7_setFades_47 rfl rfl ?_
        refine jr_get2 hC fl_RX7_12 hc1 dX7_setFades_48 ?_
        obtain ⟨hc8, h⟩ := h
        refine jr_get2 hC fl_RX7_100 hc8 dX7_setFades_51 ?_
        refine jr_iload_n (j := 1) hC dX7_setFades_54 rfl rfl ?_
        obtain ⟨hc9, h⟩ := h
        obtain ⟨hc10, h⟩ := h
        refine jr_aald (t := 14) hC (by decide) (by decide) hc9 hc10 dX7_setFades_55 ?_
        obtain ⟨hc11, h⟩ := h
        refine jr_get0 hC fl_RX7_104 hc11 dX7_setFades_56 ?_
        refine jr_nmI (fun v12 ev12 => ?_)
        have h := h v12 ev12
        refine jr_istore (L1 := [(5, .int v12), (0, .ref a0), (1, .int x1), (2, .int x2), (3, .int x3), (4, .int x4)]) hC dX7_setFades_59 hnL (by decide) rfl ?_
        refine jr_aload_n (j := 1) hC dX7_setFades_61 rfl rfl ?_
        refine jr_callV_a (As := []) (st := []) hC nc_RX7_62 (c_X7_draft hlt h) hc1 rfl rfl ⟨⟨rfl, rfl⟩, ⟨by decide, by decide⟩, by decide, by decide⟩ (Nat.le_of_ble_eq_true rfl) dX7_setFades_62 (fun M13 q14 h => ?_)
        obtain ⟨hc15, h⟩ := h
        refine jr_get2 hC fl_RX7_100 hc15 dX7_setFades_65 ?_
        refine jr_iload_n (j := 2) hC dX7_setFades_68 rfl rfl ?_
        obtain ⟨hc16, h⟩ := h
        obtain ⟨hc17, h⟩ := h
        refine jr_aald (t := 14) hC (by decide) (by decide) hc16 hc17 dX7_setFades_69 ?_
        refine jr_iload_n (j := 3) hC dX7_setFades_70 rfl rfl ?_
        refine jr_iload_n (j := 4) hC dX7_setFades_71 rfl rfl ?_
        refine jr_iload (j := 5) hC dX7_setFades_72 rfl ?_
        obtain ⟨hc18, h⟩ := h
        refine jr_callV_v (As := [.int x2, .int x3, .int x4]) (st := []) hC nc_RX7_109 (c_X0_fade hlt h) hc18 rfl rfl ⟨⟨rfl, rfl⟩, ⟨by decide, by decide⟩, by decide, by decide⟩ (Nat.le_of_ble_eq_true rfl) dX7_setFades_74 (fun M19 h => ?_)
        refine jr_aload_n (j := 1) hC dX7_setFades_77 rfl rfl ?_
        refine jr_callV_v (As := []) (st := []) hC nc_RX7_70 (c_X7_keepSound hlt h) hc1 rfl rfl ⟨⟨rfl, rfl⟩, ⟨by decide, by decide⟩, by decide, by decide⟩ (Nat.le_of_ble_eq_true rfl) dX7_setFades_78 (fun M20 h => ?_)
        refine jr_iload (j := 0) hC dX7_setFades_81 rfl ?_
        exact jr_ireti hC hZ (by decide) (by decide) dX7_setFades_83 ⟨rfl, _, rfl, h⟩
      · have h := hfhb7 hb7
        refine jr_sub [] (L1 := []) rfl ?_
        exact B37 M h
set_option maxHeartbeats 4000000 in
set_option maxRecDepth 100000 in
theorem c_X7_moveClip {G : mw_G} {l : Launch} (hlt : l.stackTraces = false) {n : Nat} {M : mw_M} {a0 : Nat} {x1 : Int32} {x2 : Int32} {Q : mw_M → Int32 → Prop} {X : mw_M → String → Prop} (h : w_X7_moveClip n M a0 x1 x2 Q X) : mw_Met G l yX7_moveClip (.code yX7_moveClip cX7_moveClip 5 (some .int)) { frames := 7, cells := 2, slots := 12, locals := 103 } n M [.ref a0, .int x1, .int x2] (fun n1 M1 v => n1 = n ∧ mw_rI Q M1 v) X := by
  refine mw_enter (L0 := [(0, .ref a0), (1, .int x1), (2, .int x2)]) hlt rfl rfl (plainFor_of_name (by decide)) (Nat.le_of_ble_eq_true rfl) rfl ?_
  intro Y hC0 hZ hnL hini0 hn00
  have hC : mw_C G l _ Y cX7_moveClip RX7 := hC0
  unfold w_X7_moveClip at h
  refine jr_aload_n (j := 0) hC dX7_moveClip_0 rfl rfl ?_
  refine jr_iload_n (j := 1) hC dX7_moveClip_1 rfl rfl ?_
  obtain ⟨hc1, h⟩ := h
  refine jr_callVx_pv (As := [.int x1]) (st := []) hC nc_RX7_95 (c_X7_checkClip hlt h) hc1 rfl rfl ⟨⟨rfl, rfl⟩, ⟨by decide, by decide⟩, by decide, by decide⟩ (Nat.le_of_ble_eq_true rfl) hZ hn00 (fun _ _ h9 => h9) (by decide) (by decide) dX7_moveClip_2 (fun  h => ?_)
  refine jr_iload_n (j := 2) hC dX7_moveClip_5 rfl rfl ?_
  refine jr_iconst (v := (0 : Int32)) hC dX7_moveClip_6 (by decide) ?_
  refine jr_sipush (v := (4000 : Int32)) hC dX7_moveClip_7 (by decide) ?_
  refine jr_aload_n (j := 0) hC dX7_moveClip_10 rfl rfl ?_
  refine jr_get2 hC fl_RX7_12 hc1 dX7_moveClip_11 ?_
  obtain ⟨hc2, h⟩ := h
  refine jr_get2 hC fl_RX7_100 hc2 dX7_moveClip_14 ?_
  refine jr_iload_n (j := 1) hC dX7_moveClip_17 rfl rfl ?_
  obtain ⟨hc3, h⟩ := h
  obtain ⟨hc4, h⟩ := h
  refine jr_aald (t := 14) hC (by decide) (by decide) hc3 hc4 dX7_moveClip_18 ?_
  obtain ⟨hc5, h⟩ := h
  refine jr_get0 hC fl_RX7_113 hc5 dX7_moveClip_19 ?_
  refine jr_isub hC dX7_moveClip_22 ?_
  refine jr_callS_pi (As := [.int x2, .int (0 : Int32), .int ((4000 : Int32) - (mI M (mP M (mP M (mP M a0 0) 1) (Int32.toNatClampNeg x1)) 4))]) (st := []) hC nc_RX7_41 (c_X7_isOutside hlt h) rfl rfl ⟨⟨rfl, rfl⟩, ⟨by decide, by decide⟩, by decide, by decide⟩ (Nat.le_of_ble_eq_true rfl) dX7_moveClip_23 (fun v6 h => ?_)
  obtain ⟨hthb7, hfhb7⟩ := h
  refine jr_if_eq (tgt := 39) hC dX7_moveClip_26 (by decide) (fun hb7 => ?_) (fun hb7 => ?_)
  · have h := hthb7 hb7
    refine jr_aload_n (j := 0) hC dX7_moveClip_39 rfl rfl ?_
    refine jr_callV_a (As := []) (st := []) hC nc_RX7_62 (c_X7_draft hlt h) hc1 rfl rfl ⟨⟨rfl, rfl⟩, ⟨by decide, by decide⟩, by decide, by decide⟩ (Nat.le_of_ble_eq_true rfl) dX7_moveClip_40 (fun M8 q9 h => ?_)
    refine jr_astore_n (L1 := [(3, .ref q9), (0, .ref a0), (1, .int x1), (2, .int x2)]) hC dX7_moveClip_43 rfl hnL (by decide) rfl ?_
    refine jr_aload_n (j := 0) hC dX7_moveClip_44 rfl rfl ?_
    obtain ⟨hc10, h⟩ := h
    refine jr_get2 hC fl_RX7_100 hc10 dX7_moveClip_45 ?_
    refine jr_iload_n (j := 2) hC dX7_moveClip_48 rfl rfl ?_
    obtain ⟨hc11, h⟩ := h
    obtain ⟨hc12, h⟩ := h
    refine jr_aald (t := 14) hC (by decide) (by decide) hc11 hc12 dX7_moveClip_49 ?_
    refine jr_iload_n (j := 3) hC dX7_moveClip_50 rfl rfl ?_
    obtain ⟨hc13, h⟩ := h
    obtain ⟨M14, eM14⟩ : ∃ y : mw_M, y = sI M8 (mP M8 (mP M8 q9 1) (Int32.toNatClampNeg x1)) 2 x2 := ⟨_, rfl⟩
    have h := h M14 eM14
    refine jr_putI hC fp_RX7_116 hc13 eM14 dX7_moveClip_51 ?_
    refine jr_aload_n (j := 0) hC dX7_moveClip_54 rfl rfl ?_
    refine jr_iload_n (j := 2) hC dX7_moveClip_55 rfl rfl ?_
    refine jr_callV_i (As := [.int x1]) (st := []) hC nc_RX7_119 (c_X5_settle hlt h) hc10 rfl rfl ⟨⟨rfl, rfl⟩, ⟨by decide, by decide⟩, by decide, by decide⟩ (Nat.le_of_ble_eq_true rfl) dX7_moveClip_56 (fun M15 v16 h => ?_)
    refine jr_istore (L1 := [(4, .int v16), (3, .ref q9), (0, .ref a0), (1, .int x1), (2, .int x2)]) hC dX7_moveClip_59 hnL (by decide) rfl ?_
    refine jr_aload_n (j := 1) hC dX7_moveClip_61 rfl rfl ?_
    refine jr_callSx_pv (As := [.ref q9]) (st := []) hC nc_RX7_91 (c_X7_checkLawful hlt h) rfl rfl ⟨⟨rfl, rfl⟩, ⟨by decide, by decide⟩, by decide, by decide⟩ (Nat.le_of_ble_eq_true rfl) hZ hn00 (fun _ _ h9 => h9) (by decide) (by decide) dX7_moveClip_62 (fun  h => ?_)
    refine jr_aload_n (j := 2) hC dX7_moveClip_65 rfl rfl ?_
    refine jr_callV_v (As := []) (st := []) hC nc_RX7_70 (c_X7_keepSound hlt h) hc1 rfl rfl ⟨⟨rfl, rfl⟩, ⟨by decide, by decide⟩, by decide, by decide⟩ (Nat.le_of_ble_eq_true rfl) dX7_moveClip_66 (fun M17 h => ?_)
    refine jr_iload (j := 0) hC dX7_moveClip_69 rfl ?_
    exact jr_ireti hC hZ (by decide) (by decide) dX7_moveClip_71 ⟨rfl, _, rfl, h⟩
  · have h := hfhb7 hb7
    exact jr_throwS (names := ["java/lang/RuntimeException", "java/lang/Exception"]) hC hZ hn00 (by decide +kernel) (by decide +kernel) tw_641 tw_73 sx_RX7_114 at_RX7_49 dX7_moveClip_29 dX7_moveClip_32 dX7_moveClip_33 dX7_moveClip_35 dX7_moveClip_38 (by decide) (by decide) (by decide) (by decide) (by decide) (by decide) h
set_option maxHeartbeats 4000000 in
set_option maxRecDepth 100000 in
theorem c_X7_trimClip {G : mw_G} {l : Launch} (hlt : l.stackTraces = false) {n : Nat} {M : mw_M} {a0 : Nat} {x1 : Int32} {x2 : Int32} {x3 : Int32} {Q : mw_M → Int32 → Prop} {X : mw_M → String → Prop} (h : w_X7_trimClip n M a0 x1 x2 x3 Q X) : mw_Met G l yX7_trimClip (.code yX7_trimClip cX7_trimClip 6 (some .int)) { frames := 7, cells := 2, slots := 12, locals := 103 } n M [.ref a0, .int x1, .int x2, .int x3] (fun n1 M1 v => n1 = n ∧ mw_rI Q M1 v) X := by
  refine mw_enter (L0 := [(0, .ref a0), (1, .int x1), (2, .int x2), (3, .int x3)]) hlt rfl rfl (plainFor_of_name (by decide)) (Nat.le_of_ble_eq_true rfl) rfl ?_
  intro Y hC0 hZ hnL hini0 hn00
  have hC : mw_C G l _ Y cX7_trimClip RX7 := hC0
  have B61 : ∀ (M : mw_M) (h : w_X7_trimClip_b61 n M Q X), mw_J Y 1 6 n M 61 [] [] := by
    intro M h
    unfold w_X7_trimClip_b61 at h
    exact jr_throwS (names := ["java/lang/RuntimeException", "java/lang/Exception"]) hC hZ hn00 (by decide +kernel) (by decide +kernel) tw_641 tw_73 sx_RX7_125 at_RX7_49 dX7_trimClip_61 dX7_trimClip_64 dX7_trimClip_65 dX7_trimClip_67 dX7_trimClip_70 (by decide) (by decide) (by decide) (by decide) (by decide) (by decide) h
  unfold w_X7_trimClip at h
  refine jr_aload_n (j := 0) hC dX7_trimClip_0 rfl rfl ?_
  refine jr_iload_n (j := 1) hC dX7_trimClip_1 rfl rfl ?_
  obtain ⟨hc1, h⟩ := h
  refine jr_callVx_pv (As := [.int x1]) (st := []) hC nc_RX7_95 (c_X7_checkClip hlt h) hc1 rfl rfl ⟨⟨rfl, rfl⟩, ⟨by decide, by decide⟩, by decide, by decide⟩ (Nat.le_of_ble_eq_true rfl) hZ hn00 (fun _ _ h9 => h9) (by decide) (by decide) dX7_trimClip_2 (fun  h => ?_)
  refine jr_aload_n (j := 0) hC dX7_trimClip_5 rfl rfl ?_
  refine jr_get2 hC fl_RX7_12 hc1 dX7_trimClip_6 ?_
  obtain ⟨hc2, h⟩ := h
  refine jr_get2 hC fl_RX7_100 hc2 dX7_trimClip_9 ?_
  refine jr_iload_n (j := 1) hC dX7_trimClip_12 rfl rfl ?_
  obtain ⟨hc3, h⟩ := h
  obtain ⟨hc4, h⟩ := h
  refine jr_aald (t := 14) hC (by decide) (by decide) hc3 hc4 dX7_trimClip_13 ?_
  refine jr_nmA (fun q5 eq5 => ?_)
  have h := h q5 eq5
  refine jr_astore (L1 := [(4, .ref q5), (0, .ref a0), (1, .int x1), (2, .int x2), (3, .int x3)]) hC dX7_trimClip_14 hnL (by decide) rfl ?_
  refine jr_iload_n (j := 3) hC dX7_trimClip_16 rfl rfl ?_
  refine jr_iconst (v := (0 : Int32)) hC dX7_trimClip_17 (by decide) ?_
  refine jr_aload (j := 0) hC dX7_trimClip_18 rfl ?_
  obtain ⟨hc6, h⟩ := h
  refine jr_get0 hC fl_RX7_113 hc6 dX7_trimClip_20 ?_
  refine jr_iconst (v := (1 : Int32)) hC dX7_trimClip_23 (by decide) ?_
  refine jr_isub hC dX7_trimClip_24 ?_
  refine jr_callS_pi (As := [.int x2, .int (0 : Int32), .int ((mI M q5 4) - (1 : Int32))]) (st := []) hC nc_RX7_41 (c_X7_isOutside hlt h) rfl rfl ⟨⟨rfl, rfl⟩, ⟨by decide, by decide⟩, by decide, by decide⟩ (Nat.le_of_ble_eq_true rfl) dX7_trimClip_25 (fun v7 h => ?_)
  obtain ⟨hthb8, hfhb8⟩ := h
  refine jr_if_ne (tgt := 61) hC dX7_trimClip_28 (by decide) (fun hb8 => ?_) (fun hb8 => ?_)
  · have h := hthb8 hb8
    refine jr_sub [] (L1 := []) rfl ?_
    exact B61 M h
  · have h := hfhb8 hb8
    refine jr_iload_n (j := 4) hC dX7_trimClip_31 rfl rfl ?_
    refine jr_iconst (v := (0 : Int32)) hC dX7_trimClip_32 (by decide) ?_
    refine jr_aload (j := 0) hC dX7_trimClip_33 rfl ?_
    refine jr_get0 hC fl_RX7_113 hc6 dX7_trimClip_35 ?_
    refine jr_iconst (v := (1 : Int32)) hC dX7_trimClip_38 (by decide) ?_
    refine jr_isub hC dX7_trimClip_39 ?_
    refine jr_iload_n (j := 3) hC dX7_trimClip_40 rfl rfl ?_
    refine jr_isub hC dX7_trimClip_41 ?_
    refine jr_callS_pi (As := [.int x3, .int (0 : Int32), .int (((mI M q5 4) - (1 : Int32)) - x2)]) (st := []) hC nc_RX7_41 (c_X7_isOutside hlt h) rfl rfl ⟨⟨rfl, rfl⟩, ⟨by decide, by decide⟩, by decide, by decide⟩ (Nat.le_of_ble_eq_true rfl) dX7_trimClip_42 (fun v9 h => ?_)
    obtain ⟨hthb10, hfhb10⟩ := h
    refine jr_if_ne (tgt := 61) hC dX7_trimClip_45 (by decide) (fun hb10 => ?_) (fun hb10 => ?_)
    · have h := hthb10 hb10
      refine jr_sub [] (L1 := []) rfl ?_
      exact B61 M h
    · have h := hfhb10 hb10
      refine jr_aload (j := 0) hC dX7_trimClip_48 rfl ?_
      refine jr_get0 hC fl_RX7_122 hc6 dX7_trimClip_50 ?_
      refine jr_iload_n (j := 3) hC dX7_trimClip_53 rfl rfl ?_
      refine jr_iadd hC dX7_trimClip_54 ?_
      refine jr_sipush (v := (3999 : Int32)) hC dX7_trimClip_55 (by decide) ?_
      obtain ⟨hthb11, hfhb11⟩ := h
      refine jr_ic_le (tgt := 71) hC dX7_trimClip_58 (by decide) (fun hb11 => ?_) (fun hb11 => ?_)
      · have h := hthb11 hb11
        refine jr_aload_n (j := 1) hC dX7_trimClip_71 rfl rfl ?_
        refine jr_callV_a (As := []) (st := []) hC nc_RX7_62 (c_X7_draft hlt h) hc1 rfl rfl ⟨⟨rfl, rfl⟩, ⟨by decide, by decide⟩, by decide, by decide⟩ (Nat.le_of_ble_eq_true rfl) dX7_trimClip_72 (fun M12 q13 h => ?_)
        refine jr_astore (L1 := [(5, .ref q13), (4, .ref q5), (0, .ref a0), (1, .int x1), (2, .int x2), (3, .int x3)]) hC dX7_trimClip_75 hnL (by decide) rfl ?_
        refine jr_aload (j := 0) hC dX7_trimClip_77 rfl ?_
        obtain ⟨hc14, h⟩ := h
        refine jr_get2 hC fl_RX7_100 hc14 dX7_trimClip_79 ?_
        refine jr_iload_n (j := 3) hC dX7_trimClip_82 rfl rfl ?_
        obtain ⟨hc15, h⟩ := h
        obtain ⟨hc16, h⟩ := h
        refine jr_aald (t := 14) hC (by decide) (by decide) hc15 hc16 dX7_trimClip_83 ?_
        refine jr_iload_n (j := 4) hC dX7_trimClip_84 rfl rfl ?_
        refine jr_iload_n (j := 5) hC dX7_trimClip_85 rfl rfl ?_
        obtain ⟨hc17, h⟩ := h
        refine jr_callV_v (As := [.int x2, .int x3]) (st := []) hC nc_RX7_127 (c_X0_trim hlt h) hc17 rfl rfl ⟨⟨rfl, rfl⟩, ⟨by decide, by decide⟩, by decide, by decide⟩ (Nat.le_of_ble_eq_true rfl) dX7_trimClip_86 (fun M18 h => ?_)
        refine jr_aload (j := 0) hC dX7_trimClip_89 rfl ?_
        refine jr_callSx_pv (As := [.ref q13]) (st := []) hC nc_RX7_91 (c_X7_checkLawful hlt h) rfl rfl ⟨⟨rfl, rfl⟩, ⟨by decide, by decide⟩, by decide, by decide⟩ (Nat.le_of_ble_eq_true rfl) hZ hn00 (fun _ _ h9 => h9) (by decide) (by decide) dX7_trimClip_91 (fun  h => ?_)
        refine jr_aload_n (j := 2) hC dX7_trimClip_94 rfl rfl ?_
        refine jr_callV_v (As := []) (st := []) hC nc_RX7_70 (c_X7_keepSound hlt h) hc1 rfl rfl ⟨⟨rfl, rfl⟩, ⟨by decide, by decide⟩, by decide, by decide⟩ (Nat.le_of_ble_eq_true rfl) dX7_trimClip_95 (fun M19 h => ?_)
        refine jr_aload_n (j := 2) hC dX7_trimClip_98 rfl rfl ?_
        refine jr_get2 hC fl_RX7_12 hc1 dX7_trimClip_99 ?_
        obtain ⟨hc20, h⟩ := h
        refine jr_get2 hC fl_RX7_100 hc20 dX7_trimClip_102 ?_
        refine jr_iload_n (j := 3) hC dX7_trimClip_105 rfl rfl ?_
        obtain ⟨hc21, h⟩ := h
        obtain ⟨hc22, h⟩ := h
        refine jr_aald (t := 14) hC (by decide) (by decide) hc21 hc22 dX7_trimClip_106 ?_
        obtain ⟨hc23, h⟩ := h
        refine jr_get0 hC fl_RX7_113 hc23 dX7_trimClip_107 ?_
        exact jr_ireti hC hZ (by decide) (by decide) dX7_trimClip_110 ⟨rfl, _, rfl, h⟩
      · have h := hfhb11 hb11
        refine jr_sub [] (L1 := []) rfl ?_
        exact B61 M h
set_option maxHeartbeats 4000000 in
set_option maxRecDepth 100000 in
theorem c_X7_splitClip {G : mw_G} {l : Launch} (hlt : l.stackTraces = false) {n : Nat} {M : mw_M} {a0 : Nat} {x1 : Int32} {x2 : Int32} {Q : mw_M → Int32 → Prop} {X : mw_M → String → Prop} (h : w_X7_splitClip n M a0 x1 x2 Q X) : mw_Met G l yX7_splitClip (.code yX7_splitClip cX7_splitClip 6 (some .int)) { frames := 7, cells := 3, slots := 18, locals := 103 } n M [.ref a0, .int x1, .int x2] (fun n1 M1 v => n1 = n ∧ mw_rI Q M1 v) X := by
  refine mw_enter (L0 := [(0, .ref a0), (1, .int x1), (2, .int x2)]) hlt rfl rfl (plainFor_of_name (by decide)) (Nat.le_of_ble_eq_true rfl) rfl ?_
  intro Y hC0 hZ hnL hini0 hn00
  have hC : mw_C G l _ Y cX7_splitClip RX7 := hC0
  have B51 : ∀ (M : mw_M) (h : w_X7_splitClip_b51 n M Q X), mw_J Y 1 6 n M 51 [] [] := by
    intro M h
    unfold w_X7_splitClip_b51 at h
    exact jr_throwS (names := ["java/lang/RuntimeException", "java/lang/Exception"]) hC hZ hn00 (by decide +kernel) (by decide +kernel) tw_641 tw_73 sx_RX7_135 at_RX7_49 dX7_splitClip_51 dX7_splitClip_54 dX7_splitClip_55 dX7_splitClip_57 dX7_splitClip_60 (by decide) (by decide) (by decide) (by decide) (by decide) (by decide) h
  unfold w_X7_splitClip at h
  refine jr_aload_n (j := 0) hC dX7_splitClip_0 rfl rfl ?_
  refine jr_iload_n (j := 1) hC dX7_splitClip_1 rfl rfl ?_
  obtain ⟨hc1, h⟩ := h
  refine jr_callVx_pv (As := [.int x1]) (st := []) hC nc_RX7_95 (c_X7_checkClip hlt h) hc1 rfl rfl ⟨⟨rfl, rfl⟩, ⟨by decide, by decide⟩, by decide, by decide⟩ (Nat.le_of_ble_eq_true rfl) hZ hn00 (fun _ _ h9 => h9) (by decide) (by decide) dX7_splitClip_2 (fun  h => ?_)
  refine jr_aload_n (j := 0) hC dX7_splitClip_5 rfl rfl ?_
  refine jr_get2 hC fl_RX7_12 hc1 dX7_splitClip_6 ?_
  obtain ⟨hc2, h⟩ := h
  refine jr_get2 hC fl_RX7_100 hc2 dX7_splitClip_9 ?_
  refine jr_iload_n (j := 1) hC dX7_splitClip_12 rfl rfl ?_
  obtain ⟨hc3, h⟩ := h
  obtain ⟨hc4, h⟩ := h
  refine jr_aald (t := 14) hC (by decide) (by decide) hc3 hc4 dX7_splitClip_13 ?_
  refine jr_nmA (fun q5 eq5 => ?_)
  have h := h q5 eq5
  refine jr_astore_n (L1 := [(3, .ref q5), (0, .ref a0), (1, .int x1), (2, .int x2)]) hC dX7_splitClip_14 rfl hnL (by decide) rfl ?_
  refine jr_iload_n (j := 3) hC dX7_splitClip_15 rfl rfl ?_
  refine jr_aload_n (j := 0) hC dX7_splitClip_16 rfl rfl ?_
  obtain ⟨hc6, h⟩ := h
  refine jr_get0 hC fl_RX7_116 hc6 dX7_splitClip_17 ?_
  refine jr_iconst (v := (1 : Int32)) hC dX7_splitClip_20 (by decide) ?_
  refine jr_iadd hC dX7_splitClip_21 ?_
  refine jr_aload_n (j := 0) hC dX7_splitClip_22 rfl rfl ?_
  refine jr_callV_pi (As := []) (st := [.int ((mI M q5 2) + (1 : Int32)), .int x2]) hC nc_RX7_131 (c_X0_end hlt h) hc6 rfl rfl ⟨⟨rfl, rfl⟩, ⟨by decide, by decide⟩, by decide, by decide⟩ (Nat.le_of_ble_eq_true rfl) dX7_splitClip_23 (fun v7 h => ?_)
  refine jr_iconst (v := (1 : Int32)) hC dX7_splitClip_26 (by decide) ?_
  refine jr_isub hC dX7_splitClip_27 ?_
  refine jr_callS_pi (As := [.int x2, .int ((mI M q5 2) + (1 : Int32)), .int (v7 - (1 : Int32))]) (st := []) hC nc_RX7_41 (c_X7_isOutside hlt h) rfl rfl ⟨⟨rfl, rfl⟩, ⟨by decide, by decide⟩, by decide, by decide⟩ (Nat.le_of_ble_eq_true rfl) dX7_splitClip_28 (fun v8 h => ?_)
  obtain ⟨hthb9, hfhb9⟩ := h
  refine jr_if_ne (tgt := 51) hC dX7_splitClip_31 (by decide) (fun hb9 => ?_) (fun hb9 => ?_)
  · have h := hthb9 hb9
    refine jr_sub [] (L1 := []) rfl ?_
    exact B51 M h
  · have h := hfhb9 hb9
    refine jr_aload_n (j := 0) hC dX7_splitClip_34 rfl rfl ?_
    refine jr_get0 hC fl_RX7_122 hc6 dX7_splitClip_35 ?_
    refine jr_iload_n (j := 3) hC dX7_splitClip_38 rfl rfl ?_
    refine jr_iadd hC dX7_splitClip_39 ?_
    refine jr_aload_n (j := 0) hC dX7_splitClip_40 rfl rfl ?_
    refine jr_get0 hC fl_RX7_116 hc6 dX7_splitClip_41 ?_
    refine jr_isub hC dX7_splitClip_44 ?_
    refine jr_sipush (v := (3999 : Int32)) hC dX7_splitClip_45 (by decide) ?_
    obtain ⟨hthb10, hfhb10⟩ := h
    refine jr_ic_le (tgt := 61) hC dX7_splitClip_48 (by decide) (fun hb10 => ?_) (fun hb10 => ?_)
    · have h := hthb10 hb10
      refine jr_aload_n (j := 1) hC dX7_splitClip_61 rfl rfl ?_
      refine jr_callVx_pv (As := []) (st := []) hC nc_RX7_84 (c_X7_checkRoomForClip hlt h) hc1 rfl rfl ⟨⟨rfl, rfl⟩, ⟨by decide, by decide⟩, by decide, by decide⟩ (Nat.le_of_ble_eq_true rfl) hZ hn00 (fun _ _ h9 => h9) (by decide) (by decide) dX7_splitClip_62 (fun  h => ?_)
      refine jr_aload_n (j := 1) hC dX7_splitClip_65 rfl rfl ?_
      refine jr_callV_a (As := []) (st := []) hC nc_RX7_62 (c_X7_draft hlt h) hc1 rfl rfl ⟨⟨rfl, rfl⟩, ⟨by decide, by decide⟩, by decide, by decide⟩ (Nat.le_of_ble_eq_true rfl) dX7_splitClip_66 (fun M11 q12 h => ?_)
      refine jr_astore (L1 := [(4, .ref q12), (3, .ref q5), (0, .ref a0), (1, .int x1), (2, .int x2)]) hC dX7_splitClip_69 hnL (by decide) rfl ?_
      refine jr_aload (j := 0) hC dX7_splitClip_71 rfl ?_
      refine jr_iload_n (j := 3) hC dX7_splitClip_73 rfl rfl ?_
      refine jr_iload_n (j := 4) hC dX7_splitClip_74 rfl rfl ?_
      obtain ⟨hc13, h⟩ := h
      refine jr_callV_i (As := [.int x1, .int x2]) (st := []) hC nc_RX7_137 (c_X5_cutInTwo hlt h) hc13 rfl rfl ⟨⟨rfl, rfl⟩, ⟨by decide, by decide⟩, by decide, by decide⟩ (Nat.le_of_ble_eq_true rfl) dX7_splitClip_75 (fun M14 v15 h => ?_)
      refine jr_istore (L1 := [(5, .int v15), (4, .ref q12), (3, .ref q5), (0, .ref a0), (1, .int x1), (2, .int x2)]) hC dX7_splitClip_78 hnL (by decide) rfl ?_
      refine jr_aload (j := 1) hC dX7_splitClip_80 rfl ?_
      refine jr_callSx_pv (As := [.ref q12]) (st := []) hC nc_RX7_91 (c_X7_checkLawful hlt h) rfl rfl ⟨⟨rfl, rfl⟩, ⟨by decide, by decide⟩, by decide, by decide⟩ (Nat.le_of_ble_eq_true rfl) hZ hn00 (fun _ _ h9 => h9) (by decide) (by decide) dX7_splitClip_82 (fun  h => ?_)
      refine jr_aload_n (j := 3) hC dX7_splitClip_85 rfl rfl ?_
      refine jr_callV_v (As := []) (st := []) hC nc_RX7_70 (c_X7_keepSound hlt h) hc1 rfl rfl ⟨⟨rfl, rfl⟩, ⟨by decide, by decide⟩, by decide, by decide⟩ (Nat.le_of_ble_eq_true rfl) dX7_splitClip_86 (fun M16 h => ?_)
      refine jr_iload (j := 0) hC dX7_splitClip_89 rfl ?_
      exact jr_ireti hC hZ (by decide) (by decide) dX7_splitClip_91 ⟨rfl, _, rfl, h⟩
    · have h := hfhb10 hb10
      refine jr_sub [] (L1 := []) rfl ?_
      exact B51 M h
set_option maxHeartbeats 4000000 in
set_option maxRecDepth 100000 in
theorem c_X7_removeClip {G : mw_G} {l : Launch} (hlt : l.stackTraces = false) {n : Nat} {M : mw_M} {a0 : Nat} {x1 : Int32} {Q : mw_M → Int32 → Prop} {X : mw_M → String → Prop} (h : w_X7_removeClip n M a0 x1 Q X) : mw_Met G l yX7_removeClip (.code yX7_removeClip cX7_removeClip 2 (some .int)) { frames := 7, cells := 1, slots := 6, locals := 103 } n M [.ref a0, .int x1] (fun n1 M1 v => n1 = n ∧ mw_rI Q M1 v) X := by
  refine mw_enter (L0 := [(0, .ref a0), (1, .int x1)]) hlt rfl rfl (plainFor_of_name (by decide)) (Nat.le_of_ble_eq_true rfl) rfl ?_
  intro Y hC0 hZ hnL hini0 hn00
  have hC : mw_C G l _ Y cX7_removeClip RX7 := hC0
  unfold w_X7_removeClip at h
  refine jr_aload_n (j := 0) hC dX7_removeClip_0 rfl rfl ?_
  refine jr_iload_n (j := 1) hC dX7_removeClip_1 rfl rfl ?_
  obtain ⟨hc1, h⟩ := h
  refine jr_callVx_pv (As := [.int x1]) (st := []) hC nc_RX7_95 (c_X7_checkClip hlt h) hc1 rfl rfl ⟨⟨rfl, rfl⟩, ⟨by decide, by decide⟩, by decide, by decide⟩ (Nat.le_of_ble_eq_true rfl) hZ hn00 (fun _ _ h9 => h9) (by decide) (by decide) dX7_removeClip_2 (fun  h => ?_)
  refine jr_aload_n (j := 0) hC dX7_removeClip_5 rfl rfl ?_
  refine jr_callV_a (As := []) (st := []) hC nc_RX7_62 (c_X7_draft hlt h) hc1 rfl rfl ⟨⟨rfl, rfl⟩, ⟨by decide, by decide⟩, by decide, by decide⟩ (Nat.le_of_ble_eq_true rfl) dX7_removeClip_6 (fun M2 q3 h => ?_)
  refine jr_iload_n (j := 1) hC dX7_removeClip_9 rfl rfl ?_
  obtain ⟨hc4, h⟩ := h
  refine jr_callV_v (As := [.int x1]) (st := []) hC nc_RX7_141 (c_X5_drop hlt h) hc4 rfl rfl ⟨⟨rfl, rfl⟩, ⟨by decide, by decide⟩, by decide, by decide⟩ (Nat.le_of_ble_eq_true rfl) dX7_removeClip_10 (fun M5 h => ?_)
  refine jr_aload_n (j := 0) hC dX7_removeClip_13 rfl rfl ?_
  refine jr_callV_v (As := []) (st := []) hC nc_RX7_70 (c_X7_keepSound hlt h) hc1 rfl rfl ⟨⟨rfl, rfl⟩, ⟨by decide, by decide⟩, by decide, by decide⟩ (Nat.le_of_ble_eq_true rfl) dX7_removeClip_14 (fun M6 h => ?_)
  refine jr_aload_n (j := 0) hC dX7_removeClip_17 rfl rfl ?_
  refine jr_get2 hC fl_RX7_12 hc1 dX7_removeClip_18 ?_
  obtain ⟨hc7, h⟩ := h
  refine jr_get0 hC fl_RX7_144 hc7 dX7_removeClip_21 ?_
  exact jr_ireti hC hZ (by decide) (by decide) dX7_removeClip_24 ⟨rfl, _, rfl, h⟩
set_option maxHeartbeats 4000000 in
set_option maxRecDepth 100000 in
theorem c_X7_checkTrack {G : mw_G} {l : Launch} (hlt : l.stackTraces = false) {n : Nat} {M : mw_M} {x0 : Int32} {Q : Prop} {X : mw_M → String → Prop} (h : w_X7_checkTrack n M x0 Q X) : mw_Met G l yX7_checkTrack (.code yX7_checkTrack cX7_checkTrack 1 none) { frames := 6, cells := 1, slots := 6, locals := 82 } n M [.int x0] (fun n1 M1 v => n1 = n ∧ mw_pV M Q M1 v) X := by
  refine mw_enter (L0 := [(0, .int x0)]) hlt rfl rfl (plainFor_of_name (by decide)) (Nat.le_of_ble_eq_true rfl) rfl ?_
  intro Y hC0 hZ hnL hini0 hn00
  have hC : mw_C G l _ Y cX7_checkTrack RX7 := hC0
  unfold w_X7_checkTrack at h
  refine jr_iload_n (j := 0) hC dX7_checkTrack_0 rfl rfl ?_
  refine jr_iconst (v := (0 : Int32)) hC dX7_checkTrack_1 (by decide) ?_
  refine jr_iconst (v := (3 : Int32)) hC dX7_checkTrack_2 (by decide) ?_
  refine jr_callS_pi (As := [.int x0, .int (0 : Int32), .int (3 : Int32)]) (st := []) hC nc_RX7_41 (c_X7_isOutside hlt h) rfl rfl ⟨⟨rfl, rfl⟩, ⟨by decide, by decide⟩, by decide, by decide⟩ (Nat.le_of_ble_eq_true rfl) dX7_checkTrack_3 (fun v1 h => ?_)
  obtain ⟨hthb2, hfhb2⟩ := h
  refine jr_if_eq (tgt := 20) hC dX7_checkTrack_6 (by decide) (fun hb2 => ?_) (fun hb2 => ?_)
  · have h := hthb2 hb2
    exact jr_vret hC hZ (by decide) (by decide) dX7_checkTrack_20 ⟨rfl, rfl, rfl, h⟩
  · have h := hfhb2 hb2
    exact jr_throwSW (names := ["java/lang/RuntimeException", "java/lang/Exception"]) hC hZ hn00 (by decide +kernel) (by decide +kernel) tw_572 tw_72 sx_RX7_352 at_RX7_77 dX7_checkTrack_9 dX7_checkTrack_12 dX7_checkTrack_13 dX7_checkTrack_16 dX7_checkTrack_19 (by decide) (by decide) (by decide) (by decide) (by decide) (by decide) h
set_option maxHeartbeats 4000000 in
set_option maxRecDepth 100000 in
theorem c_X7_deleteTime {G : mw_G} {l : Launch} (hlt : l.stackTraces = false) {n : Nat} {M : mw_M} {a0 : Nat} {x1 : Int32} {x2 : Int32} {x3 : Int32} {Q : mw_M → Int32 → Prop} {X : mw_M → String → Prop} (h : w_X7_deleteTime n M a0 x1 x2 x3 Q X) : mw_Met G l yX7_deleteTime (.code yX7_deleteTime cX7_deleteTime 6 (some .int)) { frames := 7, cells := 2, slots := 12, locals := 102 } n M [.ref a0, .int x1, .int x2, .int x3] (fun n1 M1 v => n1 = n ∧ mw_rI Q M1 v) X := by
  refine mw_enter (L0 := [(0, .ref a0), (1, .int x1), (2, .int x2), (3, .int x3)]) hlt rfl rfl (plainFor_of_name (by decide)) (Nat.le_of_ble_eq_true rfl) rfl ?_
  intro Y hC0 hZ hnL hini0 hn00
  have hC : mw_C G l _ Y cX7_deleteTime RX7 := hC0
  have B26 : ∀ (M : mw_M) (h : w_X7_deleteTime_b26 n M Q X), mw_J Y 1 6 n M 26 [] [] := by
    intro M h
    unfold w_X7_deleteTime_b26 at h
    exact jr_throwS (names := ["java/lang/RuntimeException", "java/lang/Exception"]) hC hZ hn00 (by decide +kernel) (by decide +kernel) tw_641 tw_73 sx_RX7_150 at_RX7_49 dX7_deleteTime_26 dX7_deleteTime_29 dX7_deleteTime_30 dX7_deleteTime_32 dX7_deleteTime_35 (by decide) (by decide) (by decide) (by decide) (by decide) (by decide) h
  unfold w_X7_deleteTime at h
  refine jr_iload_n (j := 1) hC dX7_deleteTime_0 rfl rfl ?_
  refine jr_callSx_pv (As := [.int x1]) (st := []) hC nc_RX7_147 (c_X7_checkTrack hlt h) rfl rfl ⟨⟨rfl, rfl⟩, ⟨by decide, by decide⟩, by decide, by decide⟩ (Nat.le_of_ble_eq_true rfl) hZ hn00 (fun _ _ h9 => h9) (by decide) (by decide) dX7_deleteTime_1 (fun  h => ?_)
  refine jr_iload_n (j := 3) hC dX7_deleteTime_4 rfl rfl ?_
  refine jr_iconst (v := (1 : Int32)) hC dX7_deleteTime_5 (by decide) ?_
  refine jr_sipush (v := (4000 : Int32)) hC dX7_deleteTime_6 (by decide) ?_
  refine jr_callS_pi (As := [.int x3, .int (1 : Int32), .int (4000 : Int32)]) (st := []) hC nc_RX7_41 (c_X7_isOutside hlt h) rfl rfl ⟨⟨rfl, rfl⟩, ⟨by decide, by decide⟩, by decide, by decide⟩ (Nat.le_of_ble_eq_true rfl) dX7_deleteTime_9 (fun v1 h => ?_)
  obtain ⟨hthb2, hfhb2⟩ := h
  refine jr_if_ne (tgt := 26) hC dX7_deleteTime_12 (by decide) (fun hb2 => ?_) (fun hb2 => ?_)
  · have h := hthb2 hb2
    refine jr_sub [] (L1 := []) rfl ?_
    exact B26 M h
  · have h := hfhb2 hb2
    refine jr_iload_n (j := 2) hC dX7_deleteTime_15 rfl rfl ?_
    refine jr_iconst (v := (0 : Int32)) hC dX7_deleteTime_16 (by decide) ?_
    refine jr_iload_n (j := 3) hC dX7_deleteTime_17 rfl rfl ?_
    refine jr_iconst (v := (1 : Int32)) hC dX7_deleteTime_18 (by decide) ?_
    refine jr_isub hC dX7_deleteTime_19 ?_
    refine jr_callS_pi (As := [.int x2, .int (0 : Int32), .int (x3 - (1 : Int32))]) (st := []) hC nc_RX7_41 (c_X7_isOutside hlt h) rfl rfl ⟨⟨rfl, rfl⟩, ⟨by decide, by decide⟩, by decide, by decide⟩ (Nat.le_of_ble_eq_true rfl) dX7_deleteTime_20 (fun v3 h => ?_)
    obtain ⟨hthb4, hfhb4⟩ := h
    refine jr_if_eq (tgt := 36) hC dX7_deleteTime_23 (by decide) (fun hb4 => ?_) (fun hb4 => ?_)
    · have h := hthb4 hb4
      refine jr_aload_n (j := 0) hC dX7_deleteTime_36 rfl rfl ?_
      obtain ⟨hc5, h⟩ := h
      refine jr_callV_a (As := []) (st := []) hC nc_RX7_62 (c_X7_draft hlt h) hc5 rfl rfl ⟨⟨rfl, rfl⟩, ⟨by decide, by decide⟩, by decide, by decide⟩ (Nat.le_of_ble_eq_true rfl) dX7_deleteTime_37 (fun M6 q7 h => ?_)
      refine jr_astore (L1 := [(4, .ref q7), (0, .ref a0), (1, .int x1), (2, .int x2), (3, .int x3)]) hC dX7_deleteTime_40 hnL (by decide) rfl ?_
      refine jr_aload (j := 0) hC dX7_deleteTime_42 rfl ?_
      refine jr_iload_n (j := 2) hC dX7_deleteTime_44 rfl rfl ?_
      refine jr_iload_n (j := 3) hC dX7_deleteTime_45 rfl rfl ?_
      refine jr_iload_n (j := 4) hC dX7_deleteTime_46 rfl rfl ?_
      obtain ⟨hc8, h⟩ := h
      refine jr_callV_i (As := [.int x1, .int x2, .int x3]) (st := []) hC nc_RX7_152 (c_X5_cutOut hlt h) hc8 rfl rfl ⟨⟨rfl, rfl⟩, ⟨by decide, by decide⟩, by decide, by decide⟩ (Nat.le_of_ble_eq_true rfl) dX7_deleteTime_47 (fun M9 v10 h => ?_)
      refine jr_istore (L1 := [(5, .int v10), (4, .ref q7), (0, .ref a0), (1, .int x1), (2, .int x2), (3, .int x3)]) hC dX7_deleteTime_50 hnL (by decide) rfl ?_
      refine jr_aload (j := 1) hC dX7_deleteTime_52 rfl ?_
      refine jr_callV_pi (As := []) (st := []) hC nc_RX7_156 (c_X5_offsetsFit hlt h) hc8 rfl rfl ⟨⟨rfl, rfl⟩, ⟨by decide, by decide⟩, by decide, by decide⟩ (Nat.le_of_ble_eq_true rfl) dX7_deleteTime_54 (fun v11 h => ?_)
      obtain ⟨hthb12, hfhb12⟩ := h
      refine jr_if_ne (tgt := 70) hC dX7_deleteTime_57 (by decide) (fun hb12 => ?_) (fun hb12 => ?_)
      · have h := hthb12 hb12
        refine jr_aload (j := 1) hC dX7_deleteTime_70 rfl ?_
        refine jr_callSx_pv (As := [.ref q7]) (st := []) hC nc_RX7_91 (c_X7_checkLawful hlt h) rfl rfl ⟨⟨rfl, rfl⟩, ⟨by decide, by decide⟩, by decide, by decide⟩ (Nat.le_of_ble_eq_true rfl) hZ hn00 (fun _ _ h9 => h9) (by decide) (by decide) dX7_deleteTime_72 (fun  h => ?_)
        refine jr_aload_n (j := 2) hC dX7_deleteTime_75 rfl rfl ?_
        refine jr_callV_v (As := []) (st := []) hC nc_RX7_70 (c_X7_keepSound hlt h) hc5 rfl rfl ⟨⟨rfl, rfl⟩, ⟨by decide, by decide⟩, by decide, by decide⟩ (Nat.le_of_ble_eq_true rfl) dX7_deleteTime_76 (fun M13 h => ?_)
        refine jr_iload (j := 0) hC dX7_deleteTime_79 rfl ?_
        exact jr_ireti hC hZ (by decide) (by decide) dX7_deleteTime_81 ⟨rfl, _, rfl, h⟩
      · have h := hfhb12 hb12
        exact jr_throwS (names := ["java/lang/RuntimeException", "java/lang/Exception"]) hC hZ hn00 (by decide +kernel) (by decide +kernel) tw_641 tw_73 sx_RX7_160 at_RX7_49 dX7_deleteTime_60 dX7_deleteTime_63 dX7_deleteTime_64 dX7_deleteTime_66 dX7_deleteTime_69 (by decide) (by decide) (by decide) (by decide) (by decide) (by decide) h
    · have h := hfhb4 hb4
      refine jr_sub [] (L1 := []) rfl ?_
      exact B26 M h
set_option maxHeartbeats 4000000 in
set_option maxRecDepth 100000 in
theorem c_X7_clips {G : mw_G} {l : Launch} (hlt : l.stackTraces = false) {n : Nat} {M : mw_M} {a0 : Nat} {Q : Int32 → Prop} (h : w_X7_clips n M a0 Q) : mw_Met G l yX7_clips (.code yX7_clips cX7_clips 1 (some .int)) { frames := 0, cells := 0, slots := 0, locals := 0 } n M [.ref a0] (fun n1 M1 v => n1 = n ∧ mw_pI M Q M1 v) (fun _ _ => False) := by
  refine mw_enter (L0 := [(0, .ref a0)]) hlt rfl rfl (plainFor_of_name (by decide)) (Nat.le_of_ble_eq_true rfl) rfl ?_
  intro Y hC0 hZ hnL hini0 hn00
  have hC : mw_C G l _ Y cX7_clips RX7 := hC0
  unfold w_X7_clips at h
  refine jr_aload_n (j := 0) hC dX7_clips_0 rfl rfl ?_
  obtain ⟨hc1, h⟩ := h
  refine jr_get2 hC fl_RX7_12 hc1 dX7_clips_1 ?_
  obtain ⟨hc2, h⟩ := h
  refine jr_get0 hC fl_RX7_144 hc2 dX7_clips_4 ?_
  exact jr_ireti hC hZ (by decide) (by decide) dX7_clips_7 ⟨rfl, rfl, _, rfl, h⟩
set_option maxHeartbeats 4000000 in
set_option maxRecDepth 100000 in
theorem c_X7_clip {G : mw_G} {l : Launch} (hlt : l.stackTraces = false) {n : Nat} {M : mw_M} {a0 : Nat} {x1 : Int32} {x2 : Int32} {Q : Int32 → Prop} {X : mw_M → String → Prop} (h : w_X7_clip n M a0 x1 x2 Q X) : mw_Met G l yX7_clip (.code yX7_clip cX7_clip 3 (some .int)) { frames := 7, cells := 2, slots := 12, locals := 103 } n M [.ref a0, .int x1, .int x2] (fun n1 M1 v => n1 = n ∧ mw_pI M Q M1 v) X := by
  refine mw_enter (L0 := [(0, .ref a0), (1, .int x1), (2, .int x2)]) hlt rfl rfl (plainFor_of_name (by decide)) (Nat.le_of_ble_eq_true rfl) rfl ?_
  intro Y hC0 hZ hnL hini0 hn00
  have hC : mw_C G l _ Y cX7_clip RX7 := hC0
  unfold w_X7_clip at h
  refine jr_aload_n (j := 0) hC dX7_clip_0 rfl rfl ?_
  refine jr_iload_n (j := 1) hC dX7_clip_1 rfl rfl ?_
  obtain ⟨hc1, h⟩ := h
  refine jr_callVx_pv (As := [.int x1]) (st := []) hC nc_RX7_95 (c_X7_checkClip hlt h) hc1 rfl rfl ⟨⟨rfl, rfl⟩, ⟨by decide, by decide⟩, by decide, by decide⟩ (Nat.le_of_ble_eq_true rfl) hZ hn00 (fun _ _ h9 => h9) (by decide) (by decide) dX7_clip_2 (fun  h => ?_)
  refine jr_iload_n (j := 2) hC dX7_clip_5 rfl rfl ?_
  refine jr_iconst (v := (0 : Int32)) hC dX7_clip_6 (by decide) ?_
  refine jr_bipush (v := (8 : Int32)) hC dX7_clip_7 (by decide) ?_
  refine jr_callS_pi (As := [.int x2, .int (0 : Int32), .int (8 : Int32)]) (st := []) hC nc_RX7_41 (c_X7_isOutside hlt h) rfl rfl ⟨⟨rfl, rfl⟩, ⟨by decide, by decide⟩, by decide, by decide⟩ (Nat.le_of_ble_eq_true rfl) dX7_clip_9 (fun v2 h => ?_)
  obtain ⟨hthb3, hfhb3⟩ := h
  refine jr_if_eq (tgt := 25) hC dX7_clip_12 (by decide) (fun hb3 => ?_) (fun hb3 => ?_)
  · have h := hthb3 hb3
    refine jr_aload_n (j := 0) hC dX7_clip_25 rfl rfl ?_
    refine jr_get2 hC fl_RX7_12 hc1 dX7_clip_26 ?_
    obtain ⟨hc4, h⟩ := h
    refine jr_get2 hC fl_RX7_100 hc4 dX7_clip_29 ?_
    refine jr_iload_n (j := 1) hC dX7_clip_32 rfl rfl ?_
    obtain ⟨hc5, h⟩ := h
    obtain ⟨hc6, h⟩ := h
    refine jr_aald (t := 14) hC (by decide) (by decide) hc5 hc6 dX7_clip_33 ?_
    refine jr_iload_n (j := 2) hC dX7_clip_34 rfl rfl ?_
    obtain ⟨hc7, h⟩ := h
    refine jr_callV_pi (As := [.int x2]) (st := []) hC nc_RX7_164 (c_X0_property hlt h) hc7 rfl rfl ⟨⟨rfl, rfl⟩, ⟨by decide, by decide⟩, by decide, by decide⟩ (Nat.le_of_ble_eq_true rfl) dX7_clip_35 (fun v8 h => ?_)
    exact jr_ireti hC hZ (by decide) (by decide) dX7_clip_38 ⟨rfl, rfl, _, rfl, h⟩
  · have h := hfhb3 hb3
    exact jr_throwS (names := ["java/lang/RuntimeException", "java/lang/Exception"]) hC hZ hn00 (by decide +kernel) (by decide +kernel) tw_641 tw_73 sx_RX7_162 at_RX7_49 dX7_clip_15 dX7_clip_18 dX7_clip_19 dX7_clip_21 dX7_clip_24 (by decide) (by decide) (by decide) (by decide) (by decide) (by decide) h
set_option maxHeartbeats 4000000 in
set_option maxRecDepth 100000 in
theorem c_X7_clipValue {G : mw_G} {l : Launch} (hlt : l.stackTraces = false) {n : Nat} {M : mw_M} {a0 : Nat} {x1 : Int32} {x2 : Int32} {Q : Int32 → Prop} {X : mw_M → String → Prop} (h : w_X7_clipValue n M a0 x1 x2 Q X) : mw_Met G l yX7_clipValue (.code yX7_clipValue cX7_clipValue 3 (some .int)) { frames := 7, cells := 2, slots := 12, locals := 103 } n M [.ref a0, .int x1, .int x2] (fun n1 M1 v => n1 = n ∧ mw_pI M Q M1 v) X := by
  refine mw_enter (L0 := [(0, .ref a0), (1, .int x1), (2, .int x2)]) hlt rfl rfl (plainFor_of_name (by decide)) (Nat.le_of_ble_eq_true rfl) rfl ?_
  intro Y hC0 hZ hnL hini0 hn00
  have hC : mw_C G l _ Y cX7_clipValue RX7 := hC0
  unfold w_X7_clipValue at h
  refine jr_aload_n (j := 0) hC dX7_clipValue_0 rfl rfl ?_
  refine jr_iload_n (j := 1) hC dX7_clipValue_1 rfl rfl ?_
  obtain ⟨hc1, h⟩ := h
  refine jr_callVx_pv (As := [.int x1]) (st := []) hC nc_RX7_95 (c_X7_checkClip hlt h) hc1 rfl rfl ⟨⟨rfl, rfl⟩, ⟨by decide, by decide⟩, by decide, by decide⟩ (Nat.le_of_ble_eq_true rfl) hZ hn00 (fun _ _ h9 => h9) (by decide) (by decide) dX7_clipValue_2 (fun  h => ?_)
  refine jr_aload_n (j := 0) hC dX7_clipValue_5 rfl rfl ?_
  refine jr_get2 hC fl_RX7_12 hc1 dX7_clipValue_6 ?_
  obtain ⟨hc2, h⟩ := h
  refine jr_get2 hC fl_RX7_100 hc2 dX7_clipValue_9 ?_
  refine jr_iload_n (j := 1) hC dX7_clipValue_12 rfl rfl ?_
  obtain ⟨hc3, h⟩ := h
  obtain ⟨hc4, h⟩ := h
  refine jr_aald (t := 14) hC (by decide) (by decide) hc3 hc4 dX7_clipValue_13 ?_
  refine jr_iload_n (j := 2) hC dX7_clipValue_14 rfl rfl ?_
  obtain ⟨hc5, h⟩ := h
  refine jr_callV_pi (As := [.int x2]) (st := []) hC nc_RX7_167 (c_X0_covers hlt h) hc5 rfl rfl ⟨⟨rfl, rfl⟩, ⟨by decide, by decide⟩, by decide, by decide⟩ (Nat.le_of_ble_eq_true rfl) dX7_clipValue_15 (fun v6 h => ?_)
  obtain ⟨hthb7, hfhb7⟩ := h
  refine jr_if_ne (tgt := 31) hC dX7_clipValue_18 (by decide) (fun hb7 => ?_) (fun hb7 => ?_)
  · have h := hthb7 hb7
    refine jr_aload_n (j := 0) hC dX7_clipValue_31 rfl rfl ?_
    refine jr_get2 hC fl_RX7_12 hc1 dX7_clipValue_32 ?_
    refine jr_aload_n (j := 0) hC dX7_clipValue_35 rfl rfl ?_
    refine jr_get2 hC fl_RX7_12 hc1 dX7_clipValue_36 ?_
    refine jr_get2 hC fl_RX7_100 hc2 dX7_clipValue_39 ?_
    refine jr_iload_n (j := 1) hC dX7_clipValue_42 rfl rfl ?_
    refine jr_aald (t := 14) hC (by decide) (by decide) hc3 hc4 dX7_clipValue_43 ?_
    refine jr_iload_n (j := 2) hC dX7_clipValue_44 rfl rfl ?_
    refine jr_callV_pi (As := [.ref (mP M (mP M (mP M a0 0) 1) (Int32.toNatClampNeg x1)), .int x2]) (st := []) hC nc_RX7_173 (c_X5_rawValue hlt h) hc2 rfl rfl ⟨⟨rfl, rfl⟩, ⟨by decide, by decide⟩, by decide, by decide⟩ (Nat.le_of_ble_eq_true rfl) dX7_clipValue_45 (fun v8 h => ?_)
    exact jr_ireti hC hZ (by decide) (by decide) dX7_clipValue_48 ⟨rfl, rfl, _, rfl, h⟩
  · have h := hfhb7 hb7
    exact jr_throwS (names := ["java/lang/RuntimeException", "java/lang/Exception"]) hC hZ hn00 (by decide +kernel) (by decide +kernel) tw_641 tw_73 sx_RX7_171 at_RX7_49 dX7_clipValue_21 dX7_clipValue_24 dX7_clipValue_25 dX7_clipValue_27 dX7_clipValue_30 (by decide) (by decide) (by decide) (by decide) (by decide) (by decide) h
set_option maxHeartbeats 4000000 in
set_option maxRecDepth 100000 in
theorem c_X7_setTrack {G : mw_G} {l : Launch} (hlt : l.stackTraces = false) {n : Nat} {M : mw_M} {a0 : Nat} {x1 : Int32} {x2 : Int32} {x3 : Int32} {x4 : Int32} {x5 : Int32} {Q : mw_M → Int32 → Prop} {X : mw_M → String → Prop} (h : w_X7_setTrack n M a0 x1 x2 x3 x4 x5 Q X) : mw_Met G l yX7_setTrack (.code yX7_setTrack cX7_setTrack 8 (some .int)) { frames := 7, cells := 2, slots := 12, locals := 102 } n M [.ref a0, .int x1, .int x2, .int x3, .int x4, .int x5] (fun n1 M1 v => n1 = n ∧ mw_rI Q M1 v) X := by
  refine mw_enter (L0 := [(0, .ref a0), (1, .int x1), (2, .int x2), (3, .int x3), (4, .int x4), (5, .int x5)]) hlt rfl rfl (plainFor_of_name (by decide)) (Nat.le_of_ble_eq_true rfl) rfl ?_
  intro Y hC0 hZ hnL hini0 hn00
  have hC : mw_C G l _ Y cX7_setTrack RX7 := hC0
  have B26 : ∀ (M : mw_M) (h : w_X7_setTrack_b26 n M Q X), mw_J Y 1 6 n M 26 [] [] := by
    intro M h
    unfold w_X7_setTrack_b26 at h
    exact jr_throwS (names := ["java/lang/RuntimeException", "java/lang/Exception"]) hC hZ hn00 (by decide +kernel) (by decide +kernel) tw_641 tw_73 sx_RX7_177 at_RX7_49 dX7_setTrack_26 dX7_setTrack_29 dX7_setTrack_30 dX7_setTrack_32 dX7_setTrack_35 (by decide) (by decide) (by decide) (by decide) (by decide) (by decide) h
  unfold w_X7_setTrack at h
  refine jr_iload_n (j := 1) hC dX7_setTrack_0 rfl rfl ?_
  refine jr_callSx_pv (As := [.int x1]) (st := []) hC nc_RX7_147 (c_X7_checkTrack hlt h) rfl rfl ⟨⟨rfl, rfl⟩, ⟨by decide, by decide⟩, by decide, by decide⟩ (Nat.le_of_ble_eq_true rfl) hZ hn00 (fun _ _ h9 => h9) (by decide) (by decide) dX7_setTrack_1 (fun  h => ?_)
  refine jr_iload_n (j := 2) hC dX7_setTrack_4 rfl rfl ?_
  refine jr_iconst (v := (0 : Int32)) hC dX7_setTrack_5 (by decide) ?_
  refine jr_sipush (v := (2000 : Int32)) hC dX7_setTrack_6 (by decide) ?_
  refine jr_callS_pi (As := [.int x2, .int (0 : Int32), .int (2000 : Int32)]) (st := []) hC nc_RX7_41 (c_X7_isOutside hlt h) rfl rfl ⟨⟨rfl, rfl⟩, ⟨by decide, by decide⟩, by decide, by decide⟩ (Nat.le_of_ble_eq_true rfl) dX7_setTrack_9 (fun v1 h => ?_)
  obtain ⟨hthb2, hfhb2⟩ := h
  refine jr_if_ne (tgt := 26) hC dX7_setTrack_12 (by decide) (fun hb2 => ?_) (fun hb2 => ?_)
  · have h := hthb2 hb2
    refine jr_sub [] (L1 := []) rfl ?_
    exact B26 M h
  · have h := hfhb2 hb2
    refine jr_iload_n (j := 3) hC dX7_setTrack_15 rfl rfl ?_
    refine jr_bipush (v := (-100 : Int32)) hC dX7_setTrack_16 (by decide) ?_
    refine jr_bipush (v := (100 : Int32)) hC dX7_setTrack_18 (by decide) ?_
    refine jr_callS_pi (As := [.int x3, .int (-100 : Int32), .int (100 : Int32)]) (st := []) hC nc_RX7_41 (c_X7_isOutside hlt h) rfl rfl ⟨⟨rfl, rfl⟩, ⟨by decide, by decide⟩, by decide, by decide⟩ (Nat.le_of_ble_eq_true rfl) dX7_setTrack_20 (fun v3 h => ?_)
    obtain ⟨hthb4, hfhb4⟩ := h
    refine jr_if_eq (tgt := 36) hC dX7_setTrack_23 (by decide) (fun hb4 => ?_) (fun hb4 => ?_)
    · have h := hthb4 hb4
      refine jr_aload_n (j := 0) hC dX7_setTrack_36 rfl rfl ?_
      obtain ⟨hc5, h⟩ := h
      refine jr_get2 hC fl_RX7_12 hc5 dX7_setTrack_37 ?_
      obtain ⟨hc6, h⟩ := h
      refine jr_get2 hC fl_RX7_179 hc6 dX7_setTrack_40 ?_
      refine jr_iload_n (j := 1) hC dX7_setTrack_43 rfl rfl ?_
      obtain ⟨hc7, h⟩ := h
      obtain ⟨hc8, h⟩ := h
      refine jr_aald (t := 15) hC (by decide) (by decide) hc7 hc8 dX7_setTrack_44 ?_
      obtain ⟨hc9, h⟩ := h
      refine jr_get0 hC fl_RX7_183 hc9 dX7_setTrack_45 ?_
      refine jr_nmI (fun v10 ev10 => ?_)
      have h := h v10 ev10
      refine jr_istore (L1 := [(6, .int v10), (0, .ref a0), (1, .int x1), (2, .int x2), (3, .int x3), (4, .int x4), (5, .int x5)]) hC dX7_setTrack_48 hnL (by decide) rfl ?_
      refine jr_aload_n (j := 1) hC dX7_setTrack_50 rfl rfl ?_
      refine jr_callV_a (As := []) (st := []) hC nc_RX7_62 (c_X7_draft hlt h) hc5 rfl rfl ⟨⟨rfl, rfl⟩, ⟨by decide, by decide⟩, by decide, by decide⟩ (Nat.le_of_ble_eq_true rfl) dX7_setTrack_51 (fun M11 q12 h => ?_)
      obtain ⟨hc13, h⟩ := h
      refine jr_get2 hC fl_RX7_179 hc13 dX7_setTrack_54 ?_
      refine jr_iload_n (j := 2) hC dX7_setTrack_57 rfl rfl ?_
      obtain ⟨hc14, h⟩ := h
      obtain ⟨hc15, h⟩ := h
      refine jr_aald (t := 15) hC (by decide) (by decide) hc14 hc15 dX7_setTrack_58 ?_
      refine jr_nmA (fun q16 eq16 => ?_)
      have h := h q16 eq16
      refine jr_astore (L1 := [(7, .ref q16), (6, .int v10), (0, .ref a0), (1, .int x1), (2, .int x2), (3, .int x3), (4, .int x4), (5, .int x5)]) hC dX7_setTrack_59 hnL (by decide) rfl ?_
      refine jr_aload (j := 0) hC dX7_setTrack_61 rfl ?_
      refine jr_iload_n (j := 4) hC dX7_setTrack_63 rfl rfl ?_
      obtain ⟨hc17, h⟩ := h
      obtain ⟨M18, eM18⟩ : ∃ y : mw_M, y = sI M11 q16 0 x2 := ⟨_, rfl⟩
      have h := h M18 eM18
      refine jr_putI hC fp_RX7_183 hc17 eM18 dX7_setTrack_64 ?_
      refine jr_aload (j := 0) hC dX7_setTrack_67 rfl ?_
      refine jr_iload_n (j := 5) hC dX7_setTrack_69 rfl rfl ?_
      obtain ⟨M19, eM19⟩ : ∃ y : mw_M, y = sI M18 q16 1 x3 := ⟨_, rfl⟩
      have h := h M19 eM19
      refine jr_putI hC fp_RX7_188 hc17 eM19 dX7_setTrack_70 ?_
      refine jr_aload (j := 0) hC dX7_setTrack_73 rfl ?_
      refine jr_iload (j := 6) hC dX7_setTrack_75 rfl ?_
      obtain ⟨hc20, h⟩ := h
      obtain ⟨M21, eM21⟩ : ∃ y : mw_M, y = sI M19 q16 2 x4 := ⟨_, rfl⟩
      have h := h M21 eM21
      refine jr_putZ hC fp_RX7_191 hc17 hc20 eM21 dX7_setTrack_77 ?_
      refine jr_aload (j := 0) hC dX7_setTrack_80 rfl ?_
      refine jr_iload (j := 7) hC dX7_setTrack_82 rfl ?_
      obtain ⟨hc22, h⟩ := h
      obtain ⟨M23, eM23⟩ : ∃ y : mw_M, y = sI M21 q16 3 x5 := ⟨_, rfl⟩
      have h := h M23 eM23
      refine jr_putZ hC fp_RX7_195 hc17 hc22 eM23 dX7_setTrack_84 ?_
      refine jr_aload_n (j := 2) hC dX7_setTrack_87 rfl rfl ?_
      refine jr_callV_v (As := []) (st := []) hC nc_RX7_70 (c_X7_keepSound hlt h) hc5 rfl rfl ⟨⟨rfl, rfl⟩, ⟨by decide, by decide⟩, by decide, by decide⟩ (Nat.le_of_ble_eq_true rfl) dX7_setTrack_88 (fun M24 h => ?_)
      refine jr_iload (j := 1) hC dX7_setTrack_91 rfl ?_
      exact jr_ireti hC hZ (by decide) (by decide) dX7_setTrack_93 ⟨rfl, _, rfl, h⟩
    · have h := hfhb4 hb4
      refine jr_sub [] (L1 := []) rfl ?_
      exact B26 M h
set_option maxHeartbeats 4000000 in
set_option maxRecDepth 100000 in
theorem c_X7_checkPosition {G : mw_G} {l : Launch} (hlt : l.stackTraces = false) {n : Nat} {M : mw_M} {x0 : Int32} {Q : Prop} {X : mw_M → String → Prop} (h : w_X7_checkPosition n M x0 Q X) : mw_Met G l yX7_checkPosition (.code yX7_checkPosition cX7_checkPosition 1 none) { frames := 6, cells := 1, slots := 6, locals := 82 } n M [.int x0] (fun n1 M1 v => n1 = n ∧ mw_pV M Q M1 v) X := by
  refine mw_enter (L0 := [(0, .int x0)]) hlt rfl rfl (plainFor_of_name (by decide)) (Nat.le_of_ble_eq_true rfl) rfl ?_
  intro Y hC0 hZ hnL hini0 hn00
  have hC : mw_C G l _ Y cX7_checkPosition RX7 := hC0
  unfold w_X7_checkPosition at h
  refine jr_iload_n (j := 0) hC dX7_checkPosition_0 rfl rfl ?_
  refine jr_iconst (v := (0 : Int32)) hC dX7_checkPosition_1 (by decide) ?_
  refine jr_sipush (v := (3999 : Int32)) hC dX7_checkPosition_2 (by decide) ?_
  refine jr_callS_pi (As := [.int x0, .int (0 : Int32), .int (3999 : Int32)]) (st := []) hC nc_RX7_41 (c_X7_isOutside hlt h) rfl rfl ⟨⟨rfl, rfl⟩, ⟨by decide, by decide⟩, by decide, by decide⟩ (Nat.le_of_ble_eq_true rfl) dX7_checkPosition_5 (fun v1 h => ?_)
  obtain ⟨hthb2, hfhb2⟩ := h
  refine jr_if_eq (tgt := 22) hC dX7_checkPosition_8 (by decide) (fun hb2 => ?_) (fun hb2 => ?_)
  · have h := hthb2 hb2
    exact jr_vret hC hZ (by decide) (by decide) dX7_checkPosition_22 ⟨rfl, rfl, rfl, h⟩
  · have h := hfhb2 hb2
    exact jr_throwSW (names := ["java/lang/RuntimeException", "java/lang/Exception"]) hC hZ hn00 (by decide +kernel) (by decide +kernel) tw_641 tw_73 sx_RX7_354 at_RX7_49 dX7_checkPosition_11 dX7_checkPosition_14 dX7_checkPosition_15 dX7_checkPosition_18 dX7_checkPosition_21 (by decide) (by decide) (by decide) (by decide) (by decide) (by decide) h
set_option maxHeartbeats 4000000 in
set_option maxRecDepth 100000 in
theorem c_X7_setPoint {G : mw_G} {l : Launch} (hlt : l.stackTraces = false) {n : Nat} {M : mw_M} {a0 : Nat} {x1 : Int32} {x2 : Int32} {x3 : Int32} {x4 : Int32} {Q : mw_M → Int32 → Prop} {X : mw_M → String → Prop} (h : w_X7_setPoint n M a0 x1 x2 x3 x4 Q X) : mw_Met G l yX7_setPoint (.code yX7_setPoint cX7_setPoint 6 (some .int)) { frames := 7, cells := 3, slots := 18, locals := 102 } n M [.ref a0, .int x1, .int x2, .int x3, .int x4] (fun n1 M1 v => n1 = n ∧ mw_rI Q M1 v) X := by
  refine mw_enter (L0 := [(0, .ref a0), (1, .int x1), (2, .int x2), (3, .int x3), (4, .int x4)]) hlt rfl rfl (plainFor_of_name (by decide)) (Nat.le_of_ble_eq_true rfl) rfl ?_
  intro Y hC0 hZ hnL hini0 hn00
  have hC : mw_C G l _ Y cX7_setPoint RX7 := hC0
  have B70 : ∀ (M : mw_M) (r0 : Nat) (x1 : Int32) (x2 : Int32) (x3 : Int32) (x4 : Int32) (h : w_X7_setPoint_b70 n M r0 x1 x2 x3 x4 Q X), mw_J Y 2 12 n M 70 [(0, .ref r0), (1, .int x1), (2, .int x2), (3, .int x3), (4, .int x4)] [] := by
    intro M r0 x1 x2 x3 x4 h
    unfold w_X7_setPoint_b70 at h
    refine jr_aload_n (j := 0) hC dX7_setPoint_70 rfl rfl ?_
    obtain ⟨hc1, h⟩ := h
    refine jr_callV_a (As := []) (st := []) hC nc_RX7_62 (c_X7_draft hlt h) hc1 rfl rfl ⟨⟨rfl, rfl⟩, ⟨by decide, by decide⟩, by decide, by decide⟩ (Nat.le_of_ble_eq_true rfl) dX7_setPoint_71 (fun M2 q3 h => ?_)
    obtain ⟨hc4, h⟩ := h
    refine jr_get2 hC fl_RX7_179 hc4 dX7_setPoint_74 ?_
    refine jr_iload_n (j := 1) hC dX7_setPoint_77 rfl rfl ?_
    obtain ⟨hc5, h⟩ := h
    obtain ⟨hc6, h⟩ := h
    refine jr_aald (t := 15) hC (by decide) (by decide) hc5 hc6 dX7_setPoint_78 ?_
    refine jr_iload_n (j := 2) hC dX7_setPoint_79 rfl rfl ?_
    refine jr_iload_n (j := 3) hC dX7_setPoint_80 rfl rfl ?_
    refine jr_iload (j := 4) hC dX7_setPoint_81 rfl ?_
    obtain ⟨hc7, h⟩ := h
    refine jr_callV_v (As := [.int x2, .int x3, .int x4]) (st := []) hC nc_RX7_214 (c_X6_putPoint hlt h) hc7 rfl rfl ⟨⟨rfl, rfl⟩, ⟨by decide, by decide⟩, by decide, by decide⟩ (Nat.le_of_ble_eq_true rfl) dX7_setPoint_83 (fun M8 h => ?_)
    refine jr_aload_n (j := 0) hC dX7_setPoint_86 rfl rfl ?_
    refine jr_callV_v (As := []) (st := []) hC nc_RX7_70 (c_X7_keepSound hlt h) hc1 rfl rfl ⟨⟨rfl, rfl⟩, ⟨by decide, by decide⟩, by decide, by decide⟩ (Nat.le_of_ble_eq_true rfl) dX7_setPoint_87 (fun M9 h => ?_)
    refine jr_aload_n (j := 0) hC dX7_setPoint_90 rfl rfl ?_
    refine jr_get2 hC fl_RX7_12 hc1 dX7_setPoint_91 ?_
    obtain ⟨hc10, h⟩ := h
    refine jr_get2 hC fl_RX7_179 hc10 dX7_setPoint_94 ?_
    refine jr_iload_n (j := 1) hC dX7_setPoint_97 rfl rfl ?_
    obtain ⟨hc11, h⟩ := h
    obtain ⟨hc12, h⟩ := h
    refine jr_aald (t := 15) hC (by decide) (by decide) hc11 hc12 dX7_setPoint_98 ?_
    obtain ⟨hc13, h⟩ := h
    refine jr_get0 hC fl_RX7_203 hc13 dX7_setPoint_99 ?_
    exact jr_ireti hC hZ (by decide) (by decide) dX7_setPoint_102 ⟨rfl, _, rfl, h⟩
  unfold w_X7_setPoint at h
  refine jr_iload_n (j := 1) hC dX7_setPoint_0 rfl rfl ?_
  refine jr_callSx_pv (As := [.int x1]) (st := []) hC nc_RX7_147 (c_X7_checkTrack hlt h) rfl rfl ⟨⟨rfl, rfl⟩, ⟨by decide, by decide⟩, by decide, by decide⟩ (Nat.le_of_ble_eq_true rfl) hZ hn00 (fun _ _ h9 => h9) (by decide) (by decide) dX7_setPoint_1 (fun  h => ?_)
  refine jr_iload_n (j := 2) hC dX7_setPoint_4 rfl rfl ?_
  refine jr_callSx_pv (As := [.int x2]) (st := []) hC nc_RX7_198 (c_X7_checkPosition hlt h) rfl rfl ⟨⟨rfl, rfl⟩, ⟨by decide, by decide⟩, by decide, by decide⟩ (Nat.le_of_ble_eq_true rfl) hZ hn00 (fun _ _ h9 => h9) (by decide) (by decide) dX7_setPoint_5 (fun  h => ?_)
  refine jr_iload_n (j := 3) hC dX7_setPoint_8 rfl rfl ?_
  refine jr_iconst (v := (0 : Int32)) hC dX7_setPoint_9 (by decide) ?_
  refine jr_sipush (v := (2000 : Int32)) hC dX7_setPoint_10 (by decide) ?_
  refine jr_callS_pi (As := [.int x3, .int (0 : Int32), .int (2000 : Int32)]) (st := []) hC nc_RX7_41 (c_X7_isOutside hlt h) rfl rfl ⟨⟨rfl, rfl⟩, ⟨by decide, by decide⟩, by decide, by decide⟩ (Nat.le_of_ble_eq_true rfl) dX7_setPoint_13 (fun v14 h => ?_)
  obtain ⟨hthb15, hfhb15⟩ := h
  refine jr_if_eq (tgt := 29) hC dX7_setPoint_16 (by decide) (fun hb15 => ?_) (fun hb15 => ?_)
  · have h := hthb15 hb15
    refine jr_aload_n (j := 0) hC dX7_setPoint_29 rfl rfl ?_
    obtain ⟨hc16, h⟩ := h
    refine jr_get2 hC fl_RX7_12 hc16 dX7_setPoint_30 ?_
    obtain ⟨hc17, h⟩ := h
    refine jr_get2 hC fl_RX7_179 hc17 dX7_setPoint_33 ?_
    refine jr_iload_n (j := 1) hC dX7_setPoint_36 rfl rfl ?_
    obtain ⟨hc18, h⟩ := h
    obtain ⟨hc19, h⟩ := h
    refine jr_aald (t := 15) hC (by decide) (by decide) hc18 hc19 dX7_setPoint_37 ?_
    refine jr_nmA (fun q20 eq20 => ?_)
    have h := h q20 eq20
    refine jr_astore (L1 := [(5, .ref q20), (0, .ref a0), (1, .int x1), (2, .int x2), (3, .int x3), (4, .int x4)]) hC dX7_setPoint_38 hnL (by decide) rfl ?_
    refine jr_aload (j := 0) hC dX7_setPoint_40 rfl ?_
    obtain ⟨hc21, h⟩ := h
    refine jr_get0 hC fl_RX7_203 hc21 dX7_setPoint_42 ?_
    refine jr_bipush (v := (8 : Int32)) hC dX7_setPoint_45 (by decide) ?_
    obtain ⟨hthb22, hfhb22⟩ := h
    refine jr_ic_lt (tgt := 70) hC dX7_setPoint_47 (by decide) (fun hb22 => ?_) (fun hb22 => ?_)
    · have h := hthb22 hb22
      refine jr_sub [1, 2, 3, 4, 5] (L1 := [(0, .ref a0), (1, .int x1), (2, .int x2), (3, .int x3), (4, .int x4)]) rfl ?_
      exact B70 M a0 x1 x2 x3 x4 h
    · have h := hfhb22 hb22
      refine jr_aload (j := 0) hC dX7_setPoint_50 rfl ?_
      refine jr_iload_n (j := 3) hC dX7_setPoint_52 rfl rfl ?_
      refine jr_callV_pi (As := [.int x2]) (st := []) hC nc_RX7_206 (c_X6_pointAt hlt h) hc21 rfl rfl ⟨⟨rfl, rfl⟩, ⟨by decide, by decide⟩, by decide, by decide⟩ (Nat.le_of_ble_eq_true rfl) dX7_setPoint_53 (fun v23 h => ?_)
      refine jr_iconst (v := (-1 : Int32)) hC dX7_setPoint_56 (by decide) ?_
      obtain ⟨hthb24, hfhb24⟩ := h
      refine jr_ic_ne (tgt := 70) hC dX7_setPoint_57 (by decide) (fun hb24 => ?_) (fun hb24 => ?_)
      · have h := hthb24 hb24
        refine jr_sub [1, 2, 3, 4, 5] (L1 := [(0, .ref a0), (1, .int x1), (2, .int x2), (3, .int x3), (4, .int x4)]) rfl ?_
        exact B70 M a0 x1 x2 x3 x4 h
      · have h := hfhb24 hb24
        exact jr_throwS (names := ["java/lang/RuntimeException", "java/lang/Exception"]) hC hZ hn00 (by decide +kernel) (by decide +kernel) tw_693 tw_75 sx_RX7_211 at_RX7_213 dX7_setPoint_60 dX7_setPoint_63 dX7_setPoint_64 dX7_setPoint_66 dX7_setPoint_69 (by decide) (by decide) (by decide) (by decide) (by decide) (by decide) h
  · have h := hfhb15 hb15
    exact jr_throwS (names := ["java/lang/RuntimeException", "java/lang/Exception"]) hC hZ hn00 (by decide +kernel) (by decide +kernel) tw_641 tw_73 sx_RX7_201 at_RX7_49 dX7_setPoint_19 dX7_setPoint_22 dX7_setPoint_23 dX7_setPoint_25 dX7_setPoint_28 (by decide) (by decide) (by decide) (by decide) (by decide) (by decide) h
set_option maxHeartbeats 4000000 in
set_option maxRecDepth 100000 in
theorem c_X7_removePoint {G : mw_G} {l : Launch} (hlt : l.stackTraces = false) {n : Nat} {M : mw_M} {a0 : Nat} {x1 : Int32} {x2 : Int32} {Q : mw_M → Int32 → Prop} {X : mw_M → String → Prop} (h : w_X7_removePoint n M a0 x1 x2 Q X) : mw_Met G l yX7_removePoint (.code yX7_removePoint cX7_removePoint 4 (some .int)) { frames := 7, cells := 2, slots := 12, locals := 102 } n M [.ref a0, .int x1, .int x2] (fun n1 M1 v => n1 = n ∧ mw_rI Q M1 v) X := by
  refine mw_enter (L0 := [(0, .ref a0), (1, .int x1), (2, .int x2)]) hlt rfl rfl (plainFor_of_name (by decide)) (Nat.le_of_ble_eq_true rfl) rfl ?_
  intro Y hC0 hZ hnL hini0 hn00
  have hC : mw_C G l _ Y cX7_removePoint RX7 := hC0
  unfold w_X7_removePoint at h
  refine jr_iload_n (j := 1) hC dX7_removePoint_0 rfl rfl ?_
  refine jr_callSx_pv (As := [.int x1]) (st := []) hC nc_RX7_147 (c_X7_checkTrack hlt h) rfl rfl ⟨⟨rfl, rfl⟩, ⟨by decide, by decide⟩, by decide, by decide⟩ (Nat.le_of_ble_eq_true rfl) hZ hn00 (fun _ _ h9 => h9) (by decide) (by decide) dX7_removePoint_1 (fun  h => ?_)
  refine jr_aload_n (j := 0) hC dX7_removePoint_4 rfl rfl ?_
  obtain ⟨hc1, h⟩ := h
  refine jr_get2 hC fl_RX7_12 hc1 dX7_removePoint_5 ?_
  obtain ⟨hc2, h⟩ := h
  refine jr_get2 hC fl_RX7_179 hc2 dX7_removePoint_8 ?_
  refine jr_iload_n (j := 1) hC dX7_removePoint_11 rfl rfl ?_
  obtain ⟨hc3, h⟩ := h
  obtain ⟨hc4, h⟩ := h
  refine jr_aald (t := 15) hC (by decide) (by decide) hc3 hc4 dX7_removePoint_12 ?_
  refine jr_iload_n (j := 2) hC dX7_removePoint_13 rfl rfl ?_
  obtain ⟨hc5, h⟩ := h
  refine jr_callV_pi (As := [.int x2]) (st := []) hC nc_RX7_206 (c_X6_pointAt hlt h) hc5 rfl rfl ⟨⟨rfl, rfl⟩, ⟨by decide, by decide⟩, by decide, by decide⟩ (Nat.le_of_ble_eq_true rfl) dX7_removePoint_14 (fun v6 h => ?_)
  refine jr_istore_n (L1 := [(3, .int v6), (0, .ref a0), (1, .int x1), (2, .int x2)]) hC dX7_removePoint_17 rfl hnL (by decide) rfl ?_
  refine jr_iload_n (j := 0) hC dX7_removePoint_18 rfl rfl ?_
  refine jr_iconst (v := (-1 : Int32)) hC dX7_removePoint_19 (by decide) ?_
  obtain ⟨hthb7, hfhb7⟩ := h
  refine jr_ic_ne (tgt := 33) hC dX7_removePoint_20 (by decide) (fun hb7 => ?_) (fun hb7 => ?_)
  · have h := hthb7 hb7
    refine jr_aload_n (j := 1) hC dX7_removePoint_33 rfl rfl ?_
    refine jr_callV_a (As := []) (st := []) hC nc_RX7_62 (c_X7_draft hlt h) hc1 rfl rfl ⟨⟨rfl, rfl⟩, ⟨by decide, by decide⟩, by decide, by decide⟩ (Nat.le_of_ble_eq_true rfl) dX7_removePoint_34 (fun M8 q9 h => ?_)
    obtain ⟨hc10, h⟩ := h
    refine jr_get2 hC fl_RX7_179 hc10 dX7_removePoint_37 ?_
    refine jr_iload_n (j := 2) hC dX7_removePoint_40 rfl rfl ?_
    obtain ⟨hc11, h⟩ := h
    obtain ⟨hc12, h⟩ := h
    refine jr_aald (t := 15) hC (by decide) (by decide) hc11 hc12 dX7_removePoint_41 ?_
    refine jr_iload_n (j := 0) hC dX7_removePoint_42 rfl rfl ?_
    obtain ⟨hc13, h⟩ := h
    refine jr_callV_v (As := [.int v6]) (st := []) hC nc_RX7_220 (c_X6_dropPoint hlt h) hc13 rfl rfl ⟨⟨rfl, rfl⟩, ⟨by decide, by decide⟩, by decide, by decide⟩ (Nat.le_of_ble_eq_true rfl) dX7_removePoint_43 (fun M14 h => ?_)
    refine jr_aload_n (j := 1) hC dX7_removePoint_46 rfl rfl ?_
    refine jr_callV_v (As := []) (st := []) hC nc_RX7_70 (c_X7_keepSound hlt h) hc1 rfl rfl ⟨⟨rfl, rfl⟩, ⟨by decide, by decide⟩, by decide, by decide⟩ (Nat.le_of_ble_eq_true rfl) dX7_removePoint_47 (fun M15 h => ?_)
    refine jr_aload_n (j := 1) hC dX7_removePoint_50 rfl rfl ?_
    refine jr_get2 hC fl_RX7_12 hc1 dX7_removePoint_51 ?_
    obtain ⟨hc16, h⟩ := h
    refine jr_get2 hC fl_RX7_179 hc16 dX7_removePoint_54 ?_
    refine jr_iload_n (j := 2) hC dX7_removePoint_57 rfl rfl ?_
    obtain ⟨hc17, h⟩ := h
    obtain ⟨hc18, h⟩ := h
    refine jr_aald (t := 15) hC (by decide) (by decide) hc17 hc18 dX7_removePoint_58 ?_
    obtain ⟨hc19, h⟩ := h
    refine jr_get0 hC fl_RX7_203 hc19 dX7_removePoint_59 ?_
    exact jr_ireti hC hZ (by decide) (by decide) dX7_removePoint_62 ⟨rfl, _, rfl, h⟩
  · have h := hfhb7 hb7
    exact jr_throwS (names := ["java/lang/RuntimeException", "java/lang/Exception"]) hC hZ hn00 (by decide +kernel) (by decide +kernel) tw_641 tw_73 sx_RX7_218 at_RX7_49 dX7_removePoint_23 dX7_removePoint_26 dX7_removePoint_27 dX7_removePoint_29 dX7_removePoint_32 (by decide) (by decide) (by decide) (by decide) (by decide) (by decide) h
set_option maxHeartbeats 4000000 in
set_option maxRecDepth 100000 in
theorem c_X7_automation {G : mw_G} {l : Launch} (hlt : l.stackTraces = false) {n : Nat} {M : mw_M} {a0 : Nat} {x1 : Int32} {x2 : Int32} {Q : Int32 → Prop} {X : mw_M → String → Prop} (h : w_X7_automation n M a0 x1 x2 Q X) : mw_Met G l yX7_automation (.code yX7_automation cX7_automation 3 (some .int)) { frames := 7, cells := 2, slots := 12, locals := 102 } n M [.ref a0, .int x1, .int x2] (fun n1 M1 v => n1 = n ∧ mw_pI M Q M1 v) X := by
  refine mw_enter (L0 := [(0, .ref a0), (1, .int x1), (2, .int x2)]) hlt rfl rfl (plainFor_of_name (by decide)) (Nat.le_of_ble_eq_true rfl) rfl ?_
  intro Y hC0 hZ hnL hini0 hn00
  have hC : mw_C G l _ Y cX7_automation RX7 := hC0
  unfold w_X7_automation at h
  refine jr_iload_n (j := 1) hC dX7_automation_0 rfl rfl ?_
  refine jr_callSx_pv (As := [.int x1]) (st := []) hC nc_RX7_147 (c_X7_checkTrack hlt h) rfl rfl ⟨⟨rfl, rfl⟩, ⟨by decide, by decide⟩, by decide, by decide⟩ (Nat.le_of_ble_eq_true rfl) hZ hn00 (fun _ _ h9 => h9) (by decide) (by decide) dX7_automation_1 (fun  h => ?_)
  refine jr_iload_n (j := 2) hC dX7_automation_4 rfl rfl ?_
  refine jr_callSx_pv (As := [.int x2]) (st := []) hC nc_RX7_198 (c_X7_checkPosition hlt h) rfl rfl ⟨⟨rfl, rfl⟩, ⟨by decide, by decide⟩, by decide, by decide⟩ (Nat.le_of_ble_eq_true rfl) hZ hn00 (fun _ _ h9 => h9) (by decide) (by decide) dX7_automation_5 (fun  h => ?_)
  refine jr_aload_n (j := 0) hC dX7_automation_8 rfl rfl ?_
  obtain ⟨hc1, h⟩ := h
  refine jr_get2 hC fl_RX7_12 hc1 dX7_automation_9 ?_
  obtain ⟨hc2, h⟩ := h
  refine jr_get2 hC fl_RX7_179 hc2 dX7_automation_12 ?_
  refine jr_iload_n (j := 1) hC dX7_automation_15 rfl rfl ?_
  obtain ⟨hc3, h⟩ := h
  obtain ⟨hc4, h⟩ := h
  refine jr_aald (t := 15) hC (by decide) (by decide) hc3 hc4 dX7_automation_16 ?_
  refine jr_iload_n (j := 2) hC dX7_automation_17 rfl rfl ?_
  obtain ⟨hc5, h⟩ := h
  refine jr_callV_pi (As := [.int x2]) (st := []) hC nc_RX7_223 (c_X6_laneGain hlt h) hc5 rfl rfl ⟨⟨rfl, rfl⟩, ⟨by decide, by decide⟩, by decide, by decide⟩ (Nat.le_of_ble_eq_true rfl) dX7_automation_18 (fun v6 h => ?_)
  exact jr_ireti hC hZ (by decide) (by decide) dX7_automation_21 ⟨rfl, rfl, _, rfl, h⟩
set_option maxHeartbeats 4000000 in
set_option maxRecDepth 100000 in
theorem c_X7_duck {G : mw_G} {l : Launch} (hlt : l.stackTraces = false) {n : Nat} {M : mw_M} {a0 : Nat} {x1 : Int32} {x2 : Int32} {x3 : Int32} {x4 : Int32} {x5 : Int32} {x6 : Int32} {Q : mw_M → Int32 → Prop} {X : mw_M → String → Prop} (h : w_X7_duck n M a0 x1 x2 x3 x4 x5 x6 Q X) : mw_Met G l yX7_duck (.code yX7_duck cX7_duck 9 (some .int)) { frames := 7, cells := 2, slots := 12, locals := 102 } n M [.ref a0, .int x1, .int x2, .int x3, .int x4, .int x5, .int x6] (fun n1 M1 v => n1 = n ∧ mw_rI Q M1 v) X := by
  refine mw_enter (L0 := [(0, .ref a0), (1, .int x1), (2, .int x2), (3, .int x3), (4, .int x4), (5, .int x5), (6, .int x6)]) hlt rfl rfl (plainFor_of_name (by decide)) (Nat.le_of_ble_eq_true rfl) rfl ?_
  intro Y hC0 hZ hnL hini0 hn00
  have hC : mw_C G l _ Y cX7_duck RX7 := hC0
  have B59 : ∀ (M : mw_M) (h : w_X7_duck_b59 n M Q X), mw_J Y 1 6 n M 59 [] [] := by
    intro M h
    unfold w_X7_duck_b59 at h
    exact jr_throwS (names := ["java/lang/RuntimeException", "java/lang/Exception"]) hC hZ hn00 (by decide +kernel) (by decide +kernel) tw_641 tw_73 sx_RX7_82 at_RX7_49 dX7_duck_59 dX7_duck_62 dX7_duck_63 dX7_duck_65 dX7_duck_68 (by decide) (by decide) (by decide) (by decide) (by decide) (by decide) h
  have B101 : ∀ (M : mw_M) (h : w_X7_duck_b101 n M Q X), mw_J Y 1 6 n M 101 [] [] := by
    intro M h
    unfold w_X7_duck_b101 at h
    exact jr_throwS (names := ["java/lang/RuntimeException", "java/lang/Exception"]) hC hZ hn00 (by decide +kernel) (by decide +kernel) tw_693 tw_75 sx_RX7_233 at_RX7_213 dX7_duck_101 dX7_duck_104 dX7_duck_105 dX7_duck_107 dX7_duck_110 (by decide) (by decide) (by decide) (by decide) (by decide) (by decide) h
  unfold w_X7_duck at h
  refine jr_iload_n (j := 1) hC dX7_duck_0 rfl rfl ?_
  refine jr_callSx_pv (As := [.int x1]) (st := []) hC nc_RX7_147 (c_X7_checkTrack hlt h) rfl rfl ⟨⟨rfl, rfl⟩, ⟨by decide, by decide⟩, by decide, by decide⟩ (Nat.le_of_ble_eq_true rfl) hZ hn00 (fun _ _ h9 => h9) (by decide) (by decide) dX7_duck_1 (fun  h => ?_)
  refine jr_iload_n (j := 2) hC dX7_duck_4 rfl rfl ?_
  refine jr_iconst (v := (0 : Int32)) hC dX7_duck_5 (by decide) ?_
  refine jr_iconst (v := (3 : Int32)) hC dX7_duck_6 (by decide) ?_
  refine jr_callS_pi (As := [.int x2, .int (0 : Int32), .int (3 : Int32)]) (st := []) hC nc_RX7_41 (c_X7_isOutside hlt h) rfl rfl ⟨⟨rfl, rfl⟩, ⟨by decide, by decide⟩, by decide, by decide⟩ (Nat.le_of_ble_eq_true rfl) dX7_duck_7 (fun v1 h => ?_)
  obtain ⟨hthb2, hfhb2⟩ := h
  refine jr_if_ne (tgt := 59) hC dX7_duck_10 (by decide) (fun hb2 => ?_) (fun hb2 => ?_)
  · have h := hthb2 hb2
    refine jr_sub [] (L1 := []) rfl ?_
    exact B59 M h
  · have h := hfhb2 hb2
    refine jr_iload_n (j := 3) hC dX7_duck_13 rfl rfl ?_
    refine jr_iconst (v := (0 : Int32)) hC dX7_duck_14 (by decide) ?_
    refine jr_ldc (v := (100000 : Int32)) hC tw_918 dX7_duck_15 ?_
    refine jr_callS_pi (As := [.int x3, .int (0 : Int32), .int (100000 : Int32)]) (st := []) hC nc_RX7_41 (c_X7_isOutside hlt h) rfl rfl ⟨⟨rfl, rfl⟩, ⟨by decide, by decide⟩, by decide, by decide⟩ (Nat.le_of_ble_eq_true rfl) dX7_duck_17 (fun v3 h => ?_)
    obtain ⟨hthb4, hfhb4⟩ := h
    refine jr_if_ne (tgt := 59) hC dX7_duck_20 (by decide) (fun hb4 => ?_) (fun hb4 => ?_)
    · have h := hthb4 hb4
      refine jr_sub [] (L1 := []) rfl ?_
      exact B59 M h
    · have h := hfhb4 hb4
      refine jr_iload (j := 4) hC dX7_duck_23 rfl ?_
      refine jr_iconst (v := (0 : Int32)) hC dX7_duck_25 (by decide) ?_
      refine jr_sipush (v := (1000 : Int32)) hC dX7_duck_26 (by decide) ?_
      refine jr_callS_pi (As := [.int x4, .int (0 : Int32), .int (1000 : Int32)]) (st := []) hC nc_RX7_41 (c_X7_isOutside hlt h) rfl rfl ⟨⟨rfl, rfl⟩, ⟨by decide, by decide⟩, by decide, by decide⟩ (Nat.le_of_ble_eq_true rfl) dX7_duck_29 (fun v5 h => ?_)
      obtain ⟨hthb6, hfhb6⟩ := h
      refine jr_if_ne (tgt := 59) hC dX7_duck_32 (by decide) (fun hb6 => ?_) (fun hb6 => ?_)
      · have h := hthb6 hb6
        refine jr_sub [] (L1 := []) rfl ?_
        exact B59 M h
      · have h := hfhb6 hb6
        refine jr_iload (j := 5) hC dX7_duck_35 rfl ?_
        refine jr_iconst (v := (1 : Int32)) hC dX7_duck_37 (by decide) ?_
        refine jr_sipush (v := (1000 : Int32)) hC dX7_duck_38 (by decide) ?_
        refine jr_callS_pi (As := [.int x5, .int (1 : Int32), .int (1000 : Int32)]) (st := []) hC nc_RX7_41 (c_X7_isOutside hlt h) rfl rfl ⟨⟨rfl, rfl⟩, ⟨by decide, by decide⟩, by decide, by decide⟩ (Nat.le_of_ble_eq_true rfl) dX7_duck_41 (fun v7 h => ?_)
        obtain ⟨hthb8, hfhb8⟩ := h
        refine jr_if_ne (tgt := 59) hC dX7_duck_44 (by decide) (fun hb8 => ?_) (fun hb8 => ?_)
        · have h := hthb8 hb8
          refine jr_sub [] (L1 := []) rfl ?_
          exact B59 M h
        · have h := hfhb8 hb8
          refine jr_iload (j := 6) hC dX7_duck_47 rfl ?_
          refine jr_iconst (v := (1 : Int32)) hC dX7_duck_49 (by decide) ?_
          refine jr_sipush (v := (1000 : Int32)) hC dX7_duck_50 (by decide) ?_
          refine jr_callS_pi (As := [.int x6, .int (1 : Int32), .int (1000 : Int32)]) (st := []) hC nc_RX7_41 (c_X7_isOutside hlt h) rfl rfl ⟨⟨rfl, rfl⟩, ⟨by decide, by decide⟩, by decide, by decide⟩ (Nat.le_of_ble_eq_true rfl) dX7_duck_53 (fun v9 h => ?_)
          obtain ⟨hthb10, hfhb10⟩ := h
          refine jr_if_eq (tgt := 69) hC dX7_duck_56 (by decide) (fun hb10 => ?_) (fun hb10 => ?_)
          · have h := hthb10 hb10
            refine jr_iload_n (j := 2) hC dX7_duck_69 rfl rfl ?_
            refine jr_iload_n (j := 1) hC dX7_duck_70 rfl rfl ?_
            obtain ⟨hthb11, hfhb11⟩ := h
            refine jr_ic_eq (tgt := 101) hC dX7_duck_71 (by decide) (fun hb11 => ?_) (fun hb11 => ?_)
            · have h := hthb11 hb11
              refine jr_sub [] (L1 := []) rfl ?_
              exact B101 M h
            · have h := hfhb11 hb11
              refine jr_aload_n (j := 0) hC dX7_duck_74 rfl rfl ?_
              obtain ⟨hc12, h⟩ := h
              refine jr_get2 hC fl_RX7_12 hc12 dX7_duck_75 ?_
              obtain ⟨hc13, h⟩ := h
              refine jr_get2 hC fl_RX7_179 hc13 dX7_duck_78 ?_
              refine jr_iload_n (j := 2) hC dX7_duck_81 rfl rfl ?_
              obtain ⟨hc14, h⟩ := h
              obtain ⟨hc15, h⟩ := h
              refine jr_aald (t := 15) hC (by decide) (by decide) hc14 hc15 dX7_duck_82 ?_
              obtain ⟨hc16, h⟩ := h
              refine jr_get0 hC fl_RX7_227 hc16 dX7_duck_83 ?_
              refine jr_iconst (v := (-1 : Int32)) hC dX7_duck_86 (by decide) ?_
              obtain ⟨hthb17, hfhb17⟩ := h
              refine jr_ic_ne (tgt := 101) hC dX7_duck_87 (by decide) (fun hb17 => ?_) (fun hb17 => ?_)
              · have h := hthb17 hb17
                refine jr_sub [] (L1 := []) rfl ?_
                exact B101 M h
              · have h := hfhb17 hb17
                refine jr_aload_n (j := 0) hC dX7_duck_90 rfl rfl ?_
                refine jr_get2 hC fl_RX7_12 hc12 dX7_duck_91 ?_
                refine jr_iload_n (j := 1) hC dX7_duck_94 rfl rfl ?_
                refine jr_callV_pi (As := [.int x1]) (st := []) hC nc_RX7_230 (c_X5_isKey hlt h) hc13 rfl rfl ⟨⟨rfl, rfl⟩, ⟨by decide, by decide⟩, by decide, by decide⟩ (Nat.le_of_ble_eq_true rfl) dX7_duck_95 (fun v18 h => ?_)
                obtain ⟨hthb19, hfhb19⟩ := h
                refine jr_if_eq (tgt := 111) hC dX7_duck_98 (by decide) (fun hb19 => ?_) (fun hb19 => ?_)
                · have h := hthb19 hb19
                  refine jr_aload_n (j := 0) hC dX7_duck_111 rfl rfl ?_
                  refine jr_get2 hC fl_RX7_12 hc12 dX7_duck_112 ?_
                  refine jr_get2 hC fl_RX7_179 hc13 dX7_duck_115 ?_
                  refine jr_iload_n (j := 1) hC dX7_duck_118 rfl rfl ?_
                  obtain ⟨hc20, h⟩ := h
                  refine jr_aald (t := 15) hC (by decide) (by decide) hc14 hc20 dX7_duck_119 ?_
                  obtain ⟨hc21, h⟩ := h
                  refine jr_get0 hC fl_RX7_227 hc21 dX7_duck_120 ?_
                  refine jr_nmI (fun v22 ev22 => ?_)
                  have h := h v22 ev22
                  refine jr_istore (L1 := [(7, .int v22), (0, .ref a0), (1, .int x1), (2, .int x2), (3, .int x3), (4, .int x4), (5, .int x5), (6, .int x6)]) hC dX7_duck_123 hnL (by decide) rfl ?_
                  refine jr_aload_n (j := 1) hC dX7_duck_125 rfl rfl ?_
                  refine jr_callV_a (As := []) (st := []) hC nc_RX7_62 (c_X7_draft hlt h) hc12 rfl rfl ⟨⟨rfl, rfl⟩, ⟨by decide, by decide⟩, by decide, by decide⟩ (Nat.le_of_ble_eq_true rfl) dX7_duck_126 (fun M23 q24 h => ?_)
                  obtain ⟨hc25, h⟩ := h
                  refine jr_get2 hC fl_RX7_179 hc25 dX7_duck_129 ?_
                  refine jr_iload_n (j := 2) hC dX7_duck_132 rfl rfl ?_
                  obtain ⟨hc26, h⟩ := h
                  obtain ⟨hc27, h⟩ := h
                  refine jr_aald (t := 15) hC (by decide) (by decide) hc26 hc27 dX7_duck_133 ?_
                  refine jr_nmA (fun q28 eq28 => ?_)
                  have h := h q28 eq28
                  refine jr_astore (L1 := [(8, .ref q28), (7, .int v22), (0, .ref a0), (1, .int x1), (2, .int x2), (3, .int x3), (4, .int x4), (5, .int x5), (6, .int x6)]) hC dX7_duck_134 hnL (by decide) rfl ?_
                  refine jr_aload (j := 0) hC dX7_duck_136 rfl ?_
                  refine jr_iload_n (j := 4) hC dX7_duck_138 rfl rfl ?_
                  obtain ⟨hc29, h⟩ := h
                  obtain ⟨M30, eM30⟩ : ∃ y : mw_M, y = sI M23 q28 8 x2 := ⟨_, rfl⟩
                  have h := h M30 eM30
                  refine jr_putI hC fp_RX7_227 hc29 eM30 dX7_duck_139 ?_
                  refine jr_aload (j := 0) hC dX7_duck_142 rfl ?_
                  refine jr_iload_n (j := 5) hC dX7_duck_144 rfl rfl ?_
                  obtain ⟨M31, eM31⟩ : ∃ y : mw_M, y = sI M30 q28 9 x3 := ⟨_, rfl⟩
                  have h := h M31 eM31
                  refine jr_putI hC fp_RX7_235 hc29 eM31 dX7_duck_145 ?_
                  refine jr_aload (j := 0) hC dX7_duck_148 rfl ?_
                  refine jr_iload (j := 6) hC dX7_duck_150 rfl ?_
                  obtain ⟨M32, eM32⟩ : ∃ y : mw_M, y = sI M31 q28 10 x4 := ⟨_, rfl⟩
                  have h := h M32 eM32
                  refine jr_putI hC fp_RX7_238 hc29 eM32 dX7_duck_152 ?_
                  refine jr_aload (j := 0) hC dX7_duck_155 rfl ?_
                  refine jr_iload (j := 7) hC dX7_duck_157 rfl ?_
                  obtain ⟨M33, eM33⟩ : ∃ y : mw_M, y = sI M32 q28 11 x5 := ⟨_, rfl⟩
                  have h := h M33 eM33
                  refine jr_putI hC fp_RX7_241 hc29 eM33 dX7_duck_159 ?_
                  refine jr_aload (j := 0) hC dX7_duck_162 rfl ?_
                  refine jr_iload (j := 8) hC dX7_duck_164 rfl ?_
                  obtain ⟨M34, eM34⟩ : ∃ y : mw_M, y = sI M33 q28 12 x6 := ⟨_, rfl⟩
                  have h := h M34 eM34
                  refine jr_putI hC fp_RX7_244 hc29 eM34 dX7_duck_166 ?_
                  refine jr_aload_n (j := 2) hC dX7_duck_169 rfl rfl ?_
                  refine jr_callV_v (As := []) (st := []) hC nc_RX7_70 (c_X7_keepSound hlt h) hc12 rfl rfl ⟨⟨rfl, rfl⟩, ⟨by decide, by decide⟩, by decide, by decide⟩ (Nat.le_of_ble_eq_true rfl) dX7_duck_170 (fun M35 h => ?_)
                  refine jr_iload (j := 1) hC dX7_duck_173 rfl ?_
                  exact jr_ireti hC hZ (by decide) (by decide) dX7_duck_175 ⟨rfl, _, rfl, h⟩
                · have h := hfhb19 hb19
                  refine jr_sub [] (L1 := []) rfl ?_
                  exact B101 M h
          · have h := hfhb10 hb10
            refine jr_sub [] (L1 := []) rfl ?_
            exact B59 M h
set_option maxHeartbeats 4000000 in
set_option maxRecDepth 100000 in
theorem c_X7_endDuck {G : mw_G} {l : Launch} (hlt : l.stackTraces = false) {n : Nat} {M : mw_M} {a0 : Nat} {x1 : Int32} {Q : mw_M → Int32 → Prop} {X : mw_M → String → Prop} (h : w_X7_endDuck n M a0 x1 Q X) : mw_Met G l yX7_endDuck (.code yX7_endDuck cX7_endDuck 3 (some .int)) { frames := 7, cells := 1, slots := 6, locals := 102 } n M [.ref a0, .int x1] (fun n1 M1 v => n1 = n ∧ mw_rI Q M1 v) X := by
  refine mw_enter (L0 := [(0, .ref a0), (1, .int x1)]) hlt rfl rfl (plainFor_of_name (by decide)) (Nat.le_of_ble_eq_true rfl) rfl ?_
  intro Y hC0 hZ hnL hini0 hn00
  have hC : mw_C G l _ Y cX7_endDuck RX7 := hC0
  unfold w_X7_endDuck at h
  refine jr_iload_n (j := 1) hC dX7_endDuck_0 rfl rfl ?_
  refine jr_callSx_pv (As := [.int x1]) (st := []) hC nc_RX7_147 (c_X7_checkTrack hlt h) rfl rfl ⟨⟨rfl, rfl⟩, ⟨by decide, by decide⟩, by decide, by decide⟩ (Nat.le_of_ble_eq_true rfl) hZ hn00 (fun _ _ h9 => h9) (by decide) (by decide) dX7_endDuck_1 (fun  h => ?_)
  refine jr_aload_n (j := 0) hC dX7_endDuck_4 rfl rfl ?_
  obtain ⟨hc1, h⟩ := h
  refine jr_get2 hC fl_RX7_12 hc1 dX7_endDuck_5 ?_
  obtain ⟨hc2, h⟩ := h
  refine jr_get2 hC fl_RX7_179 hc2 dX7_endDuck_8 ?_
  refine jr_iload_n (j := 1) hC dX7_endDuck_11 rfl rfl ?_
  obtain ⟨hc3, h⟩ := h
  obtain ⟨hc4, h⟩ := h
  refine jr_aald (t := 15) hC (by decide) (by decide) hc3 hc4 dX7_endDuck_12 ?_
  obtain ⟨hc5, h⟩ := h
  refine jr_get0 hC fl_RX7_227 hc5 dX7_endDuck_13 ?_
  refine jr_nmI (fun v6 ev6 => ?_)
  have h := h v6 ev6
  refine jr_istore_n (L1 := [(2, .int v6), (0, .ref a0), (1, .int x1)]) hC dX7_endDuck_16 rfl hnL (by decide) rfl ?_
  refine jr_aload_n (j := 1) hC dX7_endDuck_17 rfl rfl ?_
  refine jr_callV_a (As := []) (st := []) hC nc_RX7_62 (c_X7_draft hlt h) hc1 rfl rfl ⟨⟨rfl, rfl⟩, ⟨by decide, by decide⟩, by decide, by decide⟩ (Nat.le_of_ble_eq_true rfl) dX7_endDuck_18 (fun M7 q8 h => ?_)
  obtain ⟨hc9, h⟩ := h
  refine jr_get2 hC fl_RX7_179 hc9 dX7_endDuck_21 ?_
  refine jr_iload_n (j := 2) hC dX7_endDuck_24 rfl rfl ?_
  obtain ⟨hc10, h⟩ := h
  obtain ⟨hc11, h⟩ := h
  refine jr_aald (t := 15) hC (by decide) (by decide) hc10 hc11 dX7_endDuck_25 ?_
  refine jr_iconst (v := (-1 : Int32)) hC dX7_endDuck_26 (by decide) ?_
  obtain ⟨hc12, h⟩ := h
  obtain ⟨M13, eM13⟩ : ∃ y : mw_M, y = sI M7 (mP M7 (mP M7 q8 3) (Int32.toNatClampNeg x1)) 8 (-1 : Int32) := ⟨_, rfl⟩
  have h := h M13 eM13
  refine jr_putI hC fp_RX7_227 hc12 eM13 dX7_endDuck_27 ?_
  refine jr_aload_n (j := 1) hC dX7_endDuck_30 rfl rfl ?_
  refine jr_callV_v (As := []) (st := []) hC nc_RX7_70 (c_X7_keepSound hlt h) hc1 rfl rfl ⟨⟨rfl, rfl⟩, ⟨by decide, by decide⟩, by decide, by decide⟩ (Nat.le_of_ble_eq_true rfl) dX7_endDuck_31 (fun M14 h => ?_)
  refine jr_iload_n (j := 0) hC dX7_endDuck_34 rfl rfl ?_
  exact jr_ireti hC hZ (by decide) (by decide) dX7_endDuck_35 ⟨rfl, _, rfl, h⟩
set_option maxHeartbeats 4000000 in
set_option maxRecDepth 100000 in
theorem c_X7_learnDucking {G : mw_G} {l : Launch} (hlt : l.stackTraces = false) {n : Nat} {M : mw_M} {a0 : Nat} {x1 : Int32} {x2 : Int32} {Q : mw_M → Prop} (h : w_X7_learnDucking n M a0 x1 x2 Q) : mw_Met G l yX7_learnDucking (.code yX7_learnDucking cX7_learnDucking 6 none) { frames := 5, cells := 0, slots := 0, locals := 123 } n M [.ref a0, .int x1, .int x2] (fun n1 M1 v => n1 = n ∧ mw_rV Q M1 v) (fun _ _ => False) := by
  refine mw_enter (L0 := [(0, .ref a0), (1, .int x1), (2, .int x2)]) hlt rfl rfl (plainFor_of_name (by decide)) (Nat.le_of_ble_eq_true rfl) rfl ?_
  intro Y hC0 hZ hnL hini0 hn00
  have hC : mw_C G l _ Y cX7_learnDucking RX7 := hC0
  have B36 : ∀ (M : mw_M) (r0 : Nat) (x1 : Int32) (r3 : Nat) (x4 : Int32) (x5 : Int32) (h : w_X7_learnDucking_b36 n M r0 x1 r3 x4 x5 Q), mw_J Y 0 0 n M 36 [(0, .ref r0), (1, .int x1), (3, .ref r3), (4, .int x4), (5, .int x5)] [] := by
    intro M r0 x1 r3 x4 x5 h
    obtain ⟨Inv, mu, h0, hs⟩ := h
    refine mw_loop2 (fun (M : mw_M) (x5 : Int32) => mw_J Y 0 0 n M 36 [(0, .ref r0), (1, .int x1), (3, .ref r3), (4, .int x4), (5, .int x5)] []) Inv mu (fun M x5 hI hrec => ?_) M x5 h0
    have h := hs M x5 hI
    refine jr_iload (j := 4) hC dX7_learnDucking_36 rfl ?_
    refine jr_iload (j := 3) hC dX7_learnDucking_38 rfl ?_
    obtain ⟨hthb1, hfhb1⟩ := h
    refine jr_ic_gt (tgt := 78) hC dX7_learnDucking_40 (by decide) (fun hb1 => ?_) (fun hb1 => ?_)
    · have h := hthb1 hb1
      exact jr_vret hC hZ (by decide) (by decide) dX7_learnDucking_78 ⟨rfl, rfl, h⟩
    · have h := hfhb1 hb1
      refine jr_aload_n (j := 0) hC dX7_learnDucking_43 rfl rfl ?_
      obtain ⟨hc2, h⟩ := h
      refine jr_get2 hC fl_RX7_25 hc2 dX7_learnDucking_44 ?_
      refine jr_iload_n (j := 1) hC dX7_learnDucking_47 rfl rfl ?_
      obtain ⟨hc3, h⟩ := h
      obtain ⟨hc4, h⟩ := h
      refine jr_aald (t := 17) hC (by decide) (by decide) hc3 hc4 dX7_learnDucking_48 ?_
      refine jr_aload_n (j := 2) hC dX7_learnDucking_49 rfl rfl ?_
      refine jr_aload_n (j := 0) hC dX7_learnDucking_50 rfl rfl ?_
      refine jr_get2 hC fl_RX7_12 hc2 dX7_learnDucking_51 ?_
      refine jr_aload_n (j := 2) hC dX7_learnDucking_54 rfl rfl ?_
      obtain ⟨hc5, h⟩ := h
      refine jr_get0 hC fl_RX7_227 hc5 dX7_learnDucking_55 ?_
      refine jr_iload (j := 4) hC dX7_learnDucking_58 rfl ?_
      refine jr_iconst (v := (1 : Int32)) hC dX7_learnDucking_60 (by decide) ?_
      refine jr_isub hC dX7_learnDucking_61 ?_
      refine jr_aload_n (j := 2) hC dX7_learnDucking_62 rfl rfl ?_
      refine jr_get0 hC fl_RX7_235 hc5 dX7_learnDucking_63 ?_
      obtain ⟨hc6, h⟩ := h
      refine jr_callV_pi (As := [.int (mI M r3 8), .int (x5 - (1 : Int32)), .int (mI M r3 9)]) (st := [.ref r3, .ref (mP M (mP M r0 4) (Int32.toNatClampNeg x1))]) hC nc_RX7_385 (c_X5_reaches hlt h) hc6 rfl rfl ⟨⟨rfl, rfl⟩, ⟨by decide, by decide⟩, by decide, by decide⟩ (Nat.le_of_ble_eq_true rfl) dX7_learnDucking_66 (fun v7 h => ?_)
      obtain ⟨hc8, h⟩ := h
      refine jr_callV_v (As := [.ref r3, .int v7]) (st := []) hC nc_RX7_388 (c_X1_follow hlt h) hc8 rfl rfl ⟨⟨rfl, rfl⟩, ⟨by decide, by decide⟩, by decide, by decide⟩ (Nat.le_of_ble_eq_true rfl) dX7_learnDucking_69 (fun M9 h => ?_)
      obtain ⟨v10, ev10⟩ : ∃ y : Int32, y = (x5 + (1 : Int32)) := ⟨_, rfl⟩
      have h := h v10 ev10
      refine jr_iinc (j := 4) (v := v10) (L1 := [(5, .int v10), (0, .ref r0), (1, .int x1), (3, .ref r3), (4, .int x4)]) hC dX7_learnDucking_72 rfl (by rw [ev10]; rfl) hnL (by decide) rfl ?_
      refine jr_goto (tgt := 36) hC dX7_learnDucking_75 (by decide) ?_
      refine jr_sub [1, 2, 3, 4, 0] (L1 := [(0, .ref r0), (1, .int x1), (3, .ref r3), (4, .int x4), (5, .int v10)]) rfl ?_
      exact hrec M9 v10 h
  unfold w_X7_learnDucking at h
  refine jr_aload_n (j := 0) hC dX7_learnDucking_0 rfl rfl ?_
  obtain ⟨hc11, h⟩ := h
  refine jr_get2 hC fl_RX7_12 hc11 dX7_learnDucking_1 ?_
  obtain ⟨hc12, h⟩ := h
  refine jr_get2 hC fl_RX7_179 hc12 dX7_learnDucking_4 ?_
  refine jr_iload_n (j := 1) hC dX7_learnDucking_7 rfl rfl ?_
  obtain ⟨hc13, h⟩ := h
  obtain ⟨hc14, h⟩ := h
  refine jr_aald (t := 15) hC (by decide) (by decide) hc13 hc14 dX7_learnDucking_8 ?_
  refine jr_nmA (fun q15 eq15 => ?_)
  have h := h q15 eq15
  refine jr_astore_n (L1 := [(3, .ref q15), (0, .ref a0), (1, .int x1), (2, .int x2)]) hC dX7_learnDucking_9 rfl hnL (by decide) rfl ?_
  refine jr_aload_n (j := 0) hC dX7_learnDucking_10 rfl rfl ?_
  obtain ⟨hc16, h⟩ := h
  refine jr_get0 hC fl_RX7_227 hc16 dX7_learnDucking_11 ?_
  refine jr_iconst (v := (-1 : Int32)) hC dX7_learnDucking_14 (by decide) ?_
  obtain ⟨hthb17, hfhb17⟩ := h
  refine jr_ic_ne (tgt := 19) hC dX7_learnDucking_15 (by decide) (fun hb17 => ?_) (fun hb17 => ?_)
  · have h := hthb17 hb17
    refine jr_iload_n (j := 3) hC dX7_learnDucking_19 rfl rfl ?_
    refine jr_bipush (v := (40 : Int32)) hC dX7_learnDucking_20 (by decide) ?_
    refine jr_idiv hC dX7_learnDucking_22 (by decide) ?_
    refine jr_nmI (fun v18 ev18 => ?_)
    have h := h v18 ev18
    refine jr_istore (L1 := [(4, .int v18), (3, .ref q15), (0, .ref a0), (1, .int x1), (2, .int x2)]) hC dX7_learnDucking_23 hnL (by decide) rfl ?_
    refine jr_aload_n (j := 2) hC dX7_learnDucking_25 rfl rfl ?_
    refine jr_get2 hC fl_RX7_25 hc11 dX7_learnDucking_26 ?_
    refine jr_iload_n (j := 3) hC dX7_learnDucking_29 rfl rfl ?_
    obtain ⟨hc19, h⟩ := h
    obtain ⟨hc20, h⟩ := h
    refine jr_aald (t := 17) hC (by decide) (by decide) hc19 hc20 dX7_learnDucking_30 ?_
    obtain ⟨hc21, h⟩ := h
    refine jr_get0 hC fl_RX7_382 hc21 dX7_learnDucking_31 ?_
    refine jr_nmI (fun v22 ev22 => ?_)
    have h := h v22 ev22
    refine jr_istore (L1 := [(5, .int v22), (4, .int v18), (3, .ref q15), (0, .ref a0), (1, .int x1), (2, .int x2)]) hC dX7_learnDucking_34 hnL (by decide) rfl ?_
    refine jr_sub [3, 4, 2, 1, 0] (L1 := [(0, .ref a0), (1, .int x1), (3, .ref q15), (4, .int v18), (5, .int v22)]) rfl ?_
    exact B36 M a0 x1 q15 v18 v22 h
  · have h := hfhb17 hb17
    exact jr_vret hC hZ (by decide) (by decide) dX7_learnDucking_18 ⟨rfl, rfl, h⟩
set_option maxHeartbeats 4000000 in
set_option maxRecDepth 100000 in
theorem c_X7_duckGainAt {G : mw_G} {l : Launch} (hlt : l.stackTraces = false) {n : Nat} {M : mw_M} {a0 : Nat} {x1 : Int32} {x2 : Int32} {Q : Int32 → Prop} (h : w_X7_duckGainAt n M a0 x1 x2 Q) : mw_Met G l yX7_duckGainAt (.code yX7_duckGainAt cX7_duckGainAt 3 (some .int)) { frames := 2, cells := 0, slots := 0, locals := 45 } n M [.ref a0, .int x1, .int x2] (fun n1 M1 v => n1 = n ∧ mw_pI M Q M1 v) (fun _ _ => False) := by
  refine mw_enter (L0 := [(0, .ref a0), (1, .int x1), (2, .int x2)]) hlt rfl rfl (plainFor_of_name (by decide)) (Nat.le_of_ble_eq_true rfl) rfl ?_
  intro Y hC0 hZ hnL hini0 hn00
  have hC : mw_C G l _ Y cX7_duckGainAt RX7 := hC0
  have B32 : ∀ (s0 : Int32) (h : w_X7_duckGainAt_b32 n M s0 Q), mw_J Y 0 0 n M 32 [] [.int s0] := by
    intro s0 h
    unfold w_X7_duckGainAt_b32 at h
    exact jr_ireti hC hZ (by decide) (by decide) dX7_duckGainAt_32 ⟨rfl, rfl, _, rfl, h⟩
  unfold w_X7_duckGainAt at h
  refine jr_aload_n (j := 0) hC dX7_duckGainAt_0 rfl rfl ?_
  obtain ⟨hc1, h⟩ := h
  refine jr_get2 hC fl_RX7_12 hc1 dX7_duckGainAt_1 ?_
  obtain ⟨hc2, h⟩ := h
  refine jr_get2 hC fl_RX7_179 hc2 dX7_duckGainAt_4 ?_
  refine jr_iload_n (j := 1) hC dX7_duckGainAt_7 rfl rfl ?_
  obtain ⟨hc3, h⟩ := h
  obtain ⟨hc4, h⟩ := h
  refine jr_aald (t := 15) hC (by decide) (by decide) hc3 hc4 dX7_duckGainAt_8 ?_
  obtain ⟨hc5, h⟩ := h
  refine jr_get0 hC fl_RX7_227 hc5 dX7_duckGainAt_9 ?_
  refine jr_iconst (v := (-1 : Int32)) hC dX7_duckGainAt_12 (by decide) ?_
  obtain ⟨hthb6, hfhb6⟩ := h
  refine jr_ic_ne (tgt := 22) hC dX7_duckGainAt_13 (by decide) (fun hb6 => ?_) (fun hb6 => ?_)
  · have h := hthb6 hb6
    refine jr_aload_n (j := 0) hC dX7_duckGainAt_22 rfl rfl ?_
    refine jr_get2 hC fl_RX7_25 hc1 dX7_duckGainAt_23 ?_
    refine jr_iload_n (j := 1) hC dX7_duckGainAt_26 rfl rfl ?_
    obtain ⟨hc7, h⟩ := h
    obtain ⟨hc8, h⟩ := h
    refine jr_aald (t := 17) hC (by decide) (by decide) hc7 hc8 dX7_duckGainAt_27 ?_
    refine jr_iload_n (j := 2) hC dX7_duckGainAt_28 rfl rfl ?_
    obtain ⟨hc9, h⟩ := h
    refine jr_callV_pi (As := [.int x2]) (st := []) hC nc_RX7_392 (c_X1_gainAt hlt h) hc9 rfl rfl ⟨⟨rfl, rfl⟩, ⟨by decide, by decide⟩, by decide, by decide⟩ (Nat.le_of_ble_eq_true rfl) dX7_duckGainAt_29 (fun v10 h => ?_)
    refine jr_sub [] (L1 := []) rfl ?_
    exact B32 v10 h
  · have h := hfhb6 hb6
    refine jr_sipush (v := (1000 : Int32)) hC dX7_duckGainAt_16 (by decide) ?_
    refine jr_goto (tgt := 32) hC dX7_duckGainAt_19 (by decide) ?_
    refine jr_sub [] (L1 := []) rfl ?_
    exact B32 (1000 : Int32) h
set_option maxHeartbeats 4000000 in
set_option maxRecDepth 100000 in
theorem c_X7_duckGain {G : mw_G} {l : Launch} (hlt : l.stackTraces = false) {n : Nat} {M : mw_M} {a0 : Nat} {x1 : Int32} {x2 : Int32} {Q : mw_M → Int32 → Prop} {X : mw_M → String → Prop} (h : w_X7_duckGain n M a0 x1 x2 Q X) : mw_Met G l yX7_duckGain (.code yX7_duckGain cX7_duckGain 3 (some .int)) { frames := 7, cells := 2, slots := 12, locals := 148 } n M [.ref a0, .int x1, .int x2] (fun n1 M1 v => n1 = n ∧ mw_rI Q M1 v) X := by
  refine mw_enter (L0 := [(0, .ref a0), (1, .int x1), (2, .int x2)]) hlt rfl rfl (plainFor_of_name (by decide)) (Nat.le_of_ble_eq_true rfl) rfl ?_
  intro Y hC0 hZ hnL hini0 hn00
  have hC : mw_C G l _ Y cX7_duckGain RX7 := hC0
  unfold w_X7_duckGain at h
  refine jr_iload_n (j := 1) hC dX7_duckGain_0 rfl rfl ?_
  refine jr_callSx_pv (As := [.int x1]) (st := []) hC nc_RX7_147 (c_X7_checkTrack hlt h) rfl rfl ⟨⟨rfl, rfl⟩, ⟨by decide, by decide⟩, by decide, by decide⟩ (Nat.le_of_ble_eq_true rfl) hZ hn00 (fun _ _ h9 => h9) (by decide) (by decide) dX7_duckGain_1 (fun  h => ?_)
  refine jr_iload_n (j := 2) hC dX7_duckGain_4 rfl rfl ?_
  refine jr_callSx_pv (As := [.int x2]) (st := []) hC nc_RX7_198 (c_X7_checkPosition hlt h) rfl rfl ⟨⟨rfl, rfl⟩, ⟨by decide, by decide⟩, by decide, by decide⟩ (Nat.le_of_ble_eq_true rfl) hZ hn00 (fun _ _ h9 => h9) (by decide) (by decide) dX7_duckGain_5 (fun  h => ?_)
  refine jr_aload_n (j := 0) hC dX7_duckGain_8 rfl rfl ?_
  refine jr_iload_n (j := 1) hC dX7_duckGain_9 rfl rfl ?_
  refine jr_iload_n (j := 2) hC dX7_duckGain_10 rfl rfl ?_
  obtain ⟨hc1, h⟩ := h
  refine jr_callV_v (As := [.int x1, .int x2]) (st := []) hC nc_RX7_247 (c_X7_learnDucking hlt h) hc1 rfl rfl ⟨⟨rfl, rfl⟩, ⟨by decide, by decide⟩, by decide, by decide⟩ (Nat.le_of_ble_eq_true rfl) dX7_duckGain_11 (fun M2 h => ?_)
  refine jr_aload_n (j := 0) hC dX7_duckGain_14 rfl rfl ?_
  refine jr_iload_n (j := 1) hC dX7_duckGain_15 rfl rfl ?_
  refine jr_iload_n (j := 2) hC dX7_duckGain_16 rfl rfl ?_
  refine jr_callV_pi (As := [.int x1, .int x2]) (st := []) hC nc_RX7_250 (c_X7_duckGainAt hlt h) hc1 rfl rfl ⟨⟨rfl, rfl⟩, ⟨by decide, by decide⟩, by decide, by decide⟩ (Nat.le_of_ble_eq_true rfl) dX7_duckGain_17 (fun v3 h => ?_)
  exact jr_ireti hC hZ (by decide) (by decide) dX7_duckGain_20 ⟨rfl, _, rfl, h⟩
set_option maxHeartbeats 4000000 in
set_option maxRecDepth 100000 in
theorem c_X7_valueOfTrack {G : mw_G} {l : Launch} (hlt : l.stackTraces = false) {n : Nat} {M : mw_M} {a0 : Nat} {x1 : Int32} {x2 : Int32} {Q : Int32 → Prop} (h : w_X7_valueOfTrack n M a0 x1 x2 Q) : mw_Met G l yX7_valueOfTrack (.code yX7_valueOfTrack cX7_valueOfTrack 3 (some .int)) { frames := 4, cells := 0, slots := 0, locals := 98 } n M [.ref a0, .int x1, .int x2] (fun n1 M1 v => n1 = n ∧ mw_pI M Q M1 v) (fun _ _ => False) := by
  refine mw_enter (L0 := [(0, .ref a0), (1, .int x1), (2, .int x2)]) hlt rfl rfl (plainFor_of_name (by decide)) (Nat.le_of_ble_eq_true rfl) rfl ?_
  intro Y hC0 hZ hnL hini0 hn00
  have hC : mw_C G l _ Y cX7_valueOfTrack RX7 := hC0
  unfold w_X7_valueOfTrack at h
  refine jr_aload_n (j := 0) hC dX7_valueOfTrack_0 rfl rfl ?_
  obtain ⟨hc1, h⟩ := h
  refine jr_get2 hC fl_RX7_12 hc1 dX7_valueOfTrack_1 ?_
  refine jr_iload_n (j := 1) hC dX7_valueOfTrack_4 rfl rfl ?_
  refine jr_iload_n (j := 2) hC dX7_valueOfTrack_5 rfl rfl ?_
  obtain ⟨hc2, h⟩ := h
  refine jr_callV_pi (As := [.int x1, .int x2]) (st := []) hC nc_RX7_395 (c_X5_dryValue hlt h) hc2 rfl rfl ⟨⟨rfl, rfl⟩, ⟨by decide, by decide⟩, by decide, by decide⟩ (Nat.le_of_ble_eq_true rfl) dX7_valueOfTrack_6 (fun v3 h => ?_)
  refine jr_aload_n (j := 0) hC dX7_valueOfTrack_9 rfl rfl ?_
  refine jr_iload_n (j := 1) hC dX7_valueOfTrack_10 rfl rfl ?_
  refine jr_iload_n (j := 2) hC dX7_valueOfTrack_11 rfl rfl ?_
  refine jr_callV_pi (As := [.int x1, .int x2]) (st := [.int v3]) hC nc_RX7_250 (c_X7_duckGainAt hlt h) hc1 rfl rfl ⟨⟨rfl, rfl⟩, ⟨by decide, by decide⟩, by decide, by decide⟩ (Nat.le_of_ble_eq_true rfl) dX7_valueOfTrack_12 (fun v4 h => ?_)
  refine jr_callS_pi (As := [.int v3, .int v4]) (st := []) hC nc_RX7_398 (c_X7_applied hlt h) rfl rfl ⟨⟨rfl, rfl⟩, ⟨by decide, by decide⟩, by decide, by decide⟩ (Nat.le_of_ble_eq_true rfl) dX7_valueOfTrack_15 (fun v5 h => ?_)
  exact jr_ireti hC hZ (by decide) (by decide) dX7_valueOfTrack_18 ⟨rfl, rfl, _, rfl, h⟩
set_option maxHeartbeats 4000000 in
set_option maxRecDepth 100000 in
theorem c_X7_trackValue {G : mw_G} {l : Launch} (hlt : l.stackTraces = false) {n : Nat} {M : mw_M} {a0 : Nat} {x1 : Int32} {x2 : Int32} {Q : mw_M → Int32 → Prop} {X : mw_M → String → Prop} (h : w_X7_trackValue n M a0 x1 x2 Q X) : mw_Met G l yX7_trackValue (.code yX7_trackValue cX7_trackValue 3 (some .int)) { frames := 7, cells := 2, slots := 12, locals := 148 } n M [.ref a0, .int x1, .int x2] (fun n1 M1 v => n1 = n ∧ mw_rI Q M1 v) X := by
  refine mw_enter (L0 := [(0, .ref a0), (1, .int x1), (2, .int x2)]) hlt rfl rfl (plainFor_of_name (by decide)) (Nat.le_of_ble_eq_true rfl) rfl ?_
  intro Y hC0 hZ hnL hini0 hn00
  have hC : mw_C G l _ Y cX7_trackValue RX7 := hC0
  unfold w_X7_trackValue at h
  refine jr_iload_n (j := 1) hC dX7_trackValue_0 rfl rfl ?_
  refine jr_callSx_pv (As := [.int x1]) (st := []) hC nc_RX7_147 (c_X7_checkTrack hlt h) rfl rfl ⟨⟨rfl, rfl⟩, ⟨by decide, by decide⟩, by decide, by decide⟩ (Nat.le_of_ble_eq_true rfl) hZ hn00 (fun _ _ h9 => h9) (by decide) (by decide) dX7_trackValue_1 (fun  h => ?_)
  refine jr_iload_n (j := 2) hC dX7_trackValue_4 rfl rfl ?_
  refine jr_callSx_pv (As := [.int x2]) (st := []) hC nc_RX7_198 (c_X7_checkPosition hlt h) rfl rfl ⟨⟨rfl, rfl⟩, ⟨by decide, by decide⟩, by decide, by decide⟩ (Nat.le_of_ble_eq_true rfl) hZ hn00 (fun _ _ h9 => h9) (by decide) (by decide) dX7_trackValue_5 (fun  h => ?_)
  refine jr_aload_n (j := 0) hC dX7_trackValue_8 rfl rfl ?_
  refine jr_iload_n (j := 1) hC dX7_trackValue_9 rfl rfl ?_
  refine jr_iload_n (j := 2) hC dX7_trackValue_10 rfl rfl ?_
  obtain ⟨hc1, h⟩ := h
  refine jr_callV_v (As := [.int x1, .int x2]) (st := []) hC nc_RX7_247 (c_X7_learnDucking hlt h) hc1 rfl rfl ⟨⟨rfl, rfl⟩, ⟨by decide, by decide⟩, by decide, by decide⟩ (Nat.le_of_ble_eq_true rfl) dX7_trackValue_11 (fun M2 h => ?_)
  refine jr_aload_n (j := 0) hC dX7_trackValue_14 rfl rfl ?_
  refine jr_iload_n (j := 1) hC dX7_trackValue_15 rfl rfl ?_
  refine jr_iload_n (j := 2) hC dX7_trackValue_16 rfl rfl ?_
  refine jr_callV_pi (As := [.int x1, .int x2]) (st := []) hC nc_RX7_253 (c_X7_valueOfTrack hlt h) hc1 rfl rfl ⟨⟨rfl, rfl⟩, ⟨by decide, by decide⟩, by decide, by decide⟩ (Nat.le_of_ble_eq_true rfl) dX7_trackValue_17 (fun v3 h => ?_)
  exact jr_ireti hC hZ (by decide) (by decide) dX7_trackValue_20 ⟨rfl, _, rfl, h⟩
set_option maxHeartbeats 4000000 in
set_option maxRecDepth 100000 in
theorem c_X7_isAudible {G : mw_G} {l : Launch} (hlt : l.stackTraces = false) {n : Nat} {M : mw_M} {a0 : Nat} {x1 : Int32} {Q : Int32 → Prop} {X : mw_M → String → Prop} (h : w_X7_isAudible n M a0 x1 Q X) : mw_Met G l yX7_isAudible (.code yX7_isAudible cX7_isAudible 2 (some .boolean)) { frames := 7, cells := 1, slots := 6, locals := 102 } n M [.ref a0, .int x1] (fun n1 M1 v => n1 = n ∧ mw_pI M Q M1 v) X := by
  refine mw_enter (L0 := [(0, .ref a0), (1, .int x1)]) hlt rfl rfl (plainFor_of_name (by decide)) (Nat.le_of_ble_eq_true rfl) rfl ?_
  intro Y hC0 hZ hnL hini0 hn00
  have hC : mw_C G l _ Y cX7_isAudible RX7 := hC0
  unfold w_X7_isAudible at h
  refine jr_iload_n (j := 1) hC dX7_isAudible_0 rfl rfl ?_
  refine jr_callSx_pv (As := [.int x1]) (st := []) hC nc_RX7_147 (c_X7_checkTrack hlt h) rfl rfl ⟨⟨rfl, rfl⟩, ⟨by decide, by decide⟩, by decide, by decide⟩ (Nat.le_of_ble_eq_true rfl) hZ hn00 (fun _ _ h9 => h9) (by decide) (by decide) dX7_isAudible_1 (fun  h => ?_)
  refine jr_aload_n (j := 0) hC dX7_isAudible_4 rfl rfl ?_
  obtain ⟨hc1, h⟩ := h
  refine jr_get2 hC fl_RX7_12 hc1 dX7_isAudible_5 ?_
  obtain ⟨hc2, h⟩ := h
  refine jr_get2 hC fl_RX7_179 hc2 dX7_isAudible_8 ?_
  refine jr_iload_n (j := 1) hC dX7_isAudible_11 rfl rfl ?_
  obtain ⟨hc3, h⟩ := h
  obtain ⟨hc4, h⟩ := h
  refine jr_aald (t := 15) hC (by decide) (by decide) hc3 hc4 dX7_isAudible_12 ?_
  refine jr_aload_n (j := 0) hC dX7_isAudible_13 rfl rfl ?_
  refine jr_get2 hC fl_RX7_12 hc1 dX7_isAudible_14 ?_
  refine jr_callV_pi (As := []) (st := [.ref (mP M (mP M (mP M a0 0) 3) (Int32.toNatClampNeg x1))]) hC nc_RX7_256 (c_X5_hasSolo hlt h) hc2 rfl rfl ⟨⟨rfl, rfl⟩, ⟨by decide, by decide⟩, by decide, by decide⟩ (Nat.le_of_ble_eq_true rfl) dX7_isAudible_17 (fun v5 h => ?_)
  obtain ⟨hc6, h⟩ := h
  refine jr_callV_pi (As := [.int v5]) (st := []) hC nc_RX7_259 (c_X6_isHeard hlt h) hc6 rfl rfl ⟨⟨rfl, rfl⟩, ⟨by decide, by decide⟩, by decide, by decide⟩ (Nat.le_of_ble_eq_true rfl) dX7_isAudible_20 (fun v7 h => ?_)
  obtain ⟨hc8, h⟩ := h
  exact jr_iretz hC hZ (by decide) (by decide) hc8 dX7_isAudible_23 ⟨rfl, rfl, _, rfl, h⟩
set_option maxHeartbeats 4000000 in
set_option maxRecDepth 100000 in
theorem c_X7_setMaster {G : mw_G} {l : Launch} (hlt : l.stackTraces = false) {n : Nat} {M : mw_M} {a0 : Nat} {x1 : Int32} {Q : mw_M → Int32 → Prop} {X : mw_M → String → Prop} (h : w_X7_setMaster n M a0 x1 Q X) : mw_Met G l yX7_setMaster (.code yX7_setMaster cX7_setMaster 3 (some .int)) { frames := 6, cells := 1, slots := 6, locals := 88 } n M [.ref a0, .int x1] (fun n1 M1 v => n1 = n ∧ mw_rI Q M1 v) X := by
  refine mw_enter (L0 := [(0, .ref a0), (1, .int x1)]) hlt rfl rfl (plainFor_of_name (by decide)) (Nat.le_of_ble_eq_true rfl) rfl ?_
  intro Y hC0 hZ hnL hini0 hn00
  have hC : mw_C G l _ Y cX7_setMaster RX7 := hC0
  unfold w_X7_setMaster at h
  refine jr_iload_n (j := 1) hC dX7_setMaster_0 rfl rfl ?_
  refine jr_iconst (v := (0 : Int32)) hC dX7_setMaster_1 (by decide) ?_
  refine jr_sipush (v := (2000 : Int32)) hC dX7_setMaster_2 (by decide) ?_
  refine jr_callS_pi (As := [.int x1, .int (0 : Int32), .int (2000 : Int32)]) (st := []) hC nc_RX7_41 (c_X7_isOutside hlt h) rfl rfl ⟨⟨rfl, rfl⟩, ⟨by decide, by decide⟩, by decide, by decide⟩ (Nat.le_of_ble_eq_true rfl) dX7_setMaster_5 (fun v1 h => ?_)
  obtain ⟨hthb2, hfhb2⟩ := h
  refine jr_if_eq (tgt := 22) hC dX7_setMaster_8 (by decide) (fun hb2 => ?_) (fun hb2 => ?_)
  · have h := hthb2 hb2
    refine jr_aload_n (j := 0) hC dX7_setMaster_22 rfl rfl ?_
    obtain ⟨hc3, h⟩ := h
    refine jr_get2 hC fl_RX7_12 hc3 dX7_setMaster_23 ?_
    obtain ⟨hc4, h⟩ := h
    refine jr_get0 hC fl_RX7_265 hc4 dX7_setMaster_26 ?_
    refine jr_nmI (fun v5 ev5 => ?_)
    have h := h v5 ev5
    refine jr_istore_n (L1 := [(2, .int v5), (0, .ref a0), (1, .int x1)]) hC dX7_setMaster_29 rfl hnL (by decide) rfl ?_
    refine jr_aload_n (j := 1) hC dX7_setMaster_30 rfl rfl ?_
    refine jr_callV_a (As := []) (st := []) hC nc_RX7_62 (c_X7_draft hlt h) hc3 rfl rfl ⟨⟨rfl, rfl⟩, ⟨by decide, by decide⟩, by decide, by decide⟩ (Nat.le_of_ble_eq_true rfl) dX7_setMaster_31 (fun M6 q7 h => ?_)
    refine jr_iload_n (j := 2) hC dX7_setMaster_34 rfl rfl ?_
    obtain ⟨hc8, h⟩ := h
    obtain ⟨M9, eM9⟩ : ∃ y : mw_M, y = sI M6 q7 4 x1 := ⟨_, rfl⟩
    have h := h M9 eM9
    refine jr_putI hC fp_RX7_265 hc8 eM9 dX7_setMaster_35 ?_
    refine jr_aload_n (j := 1) hC dX7_setMaster_38 rfl rfl ?_
    refine jr_callV_v (As := []) (st := []) hC nc_RX7_268 (c_X7_keepDraft hlt h) hc3 rfl rfl ⟨⟨rfl, rfl⟩, ⟨by decide, by decide⟩, by decide, by decide⟩ (Nat.le_of_ble_eq_true rfl) dX7_setMaster_39 (fun M10 h => ?_)
    refine jr_iload_n (j := 0) hC dX7_setMaster_42 rfl rfl ?_
    exact jr_ireti hC hZ (by decide) (by decide) dX7_setMaster_43 ⟨rfl, _, rfl, h⟩
  · have h := hfhb2 hb2
    exact jr_throwSW (names := ["java/lang/RuntimeException", "java/lang/Exception"]) hC hZ hn00 (by decide +kernel) (by decide +kernel) tw_641 tw_73 sx_RX7_263 at_RX7_49 dX7_setMaster_11 dX7_setMaster_14 dX7_setMaster_15 dX7_setMaster_18 dX7_setMaster_21 (by decide) (by decide) (by decide) (by decide) (by decide) (by decide) h
set_option maxHeartbeats 4000000 in
set_option maxRecDepth 100000 in
theorem c_X7_mixInto {G : mw_G} {l : Launch} (hlt : l.stackTraces = false) {n : Nat} {M : mw_M} {a0 : Nat} {a1 : Nat} {x2 : Int32} {Q : mw_M → Prop} (h : w_X7_mixInto n M a0 a1 x2 Q) : mw_Met G l yX7_mixInto (.code yX7_mixInto cX7_mixInto 9 none) { frames := 6, cells := 0, slots := 0, locals := 148 } n M [.ref a0, .ref a1, .int x2] (fun n1 M1 v => n1 = n ∧ mw_rV Q M1 v) (fun _ _ => False) := by
  refine mw_enter (L0 := [(0, .ref a0), (1, .ref a1), (2, .int x2)]) hlt rfl rfl (plainFor_of_name (by decide)) (Nat.le_of_ble_eq_true rfl) rfl ?_
  intro Y hC0 hZ hnL hini0 hn00
  have hC : mw_C G l _ Y cX7_mixInto RX7 := hC0
  have B110 : ∀ (M : mw_M) (r0 : Nat) (r1 : Nat) (x2 : Int32) (x3 : Int32) (x4 : Int32) (x5 : Int32) (x6 : Int32) (K17 : mw_M → Int32 → Int32 → Int32 → Prop) (hK17 : ∀ (M_ : mw_M) (x4_ : Int32) (x5_ : Int32) (x6_ : Int32), K17 M_ x4_ x5_ x6_ → mw_J Y 0 0 n M_ 17 [(0, .ref r0), (1, .ref r1), (2, .int x2), (3, .int x3), (4, .int x4_), (5, .int x5_), (6, .int x6_)] []) (h : w_X7_mixInto_b110 n M r0 r1 x2 x3 x4 x5 x6 Q K17), mw_J Y 0 0 n M 110 [(0, .ref r0), (1, .ref r1), (2, .int x2), (3, .int x3), (4, .int x4), (5, .int x5), (6, .int x6)] [] := by
    intro M r0 r1 x2 x3 x4 x5 x6 K17 hK17 h
    unfold w_X7_mixInto_b110 at h
    obtain ⟨v1, ev1⟩ : ∃ y : Int32, y = (x6 + (1 : Int32)) := ⟨_, rfl⟩
    have h := h v1 ev1
    refine jr_iinc (j := 6) (v := v1) (L1 := [(6, .int v1), (0, .ref r0), (1, .ref r1), (2, .int x2), (3, .int x3), (4, .int x4), (5, .int x5)]) hC dX7_mixInto_110 rfl (by rw [ev1]; rfl) hnL (by decide) rfl ?_
    refine jr_goto (tgt := 17) hC dX7_mixInto_113 (by decide) ?_
    refine jr_sub [1, 2, 3, 4, 5, 6, 0] (L1 := [(0, .ref r0), (1, .ref r1), (2, .int x2), (3, .int x3), (4, .int x4), (5, .int x5), (6, .int v1)]) rfl ?_
    exact hK17 M x4 x5 v1 h
  have B17 : ∀ (M : mw_M) (r0 : Nat) (r1 : Nat) (x2 : Int32) (x3 : Int32) (x4 : Int32) (x5 : Int32) (x6 : Int32) (h : w_X7_mixInto_b17 n M r0 r1 x2 x3 x4 x5 x6 Q), mw_J Y 0 0 n M 17 [(0, .ref r0), (1, .ref r1), (2, .int x2), (3, .int x3), (4, .int x4), (5, .int x5), (6, .int x6)] [] := by
    intro M r0 r1 x2 x3 x4 x5 x6 h
    obtain ⟨Inv, mu, h0, hs⟩ := h
    refine mw_loop4 (fun (M : mw_M) (x4 : Int32) (x5 : Int32) (x6 : Int32) => mw_J Y 0 0 n M 17 [(0, .ref r0), (1, .ref r1), (2, .int x2), (3, .int x3), (4, .int x4), (5, .int x5), (6, .int x6)] []) Inv mu (fun M x4 x5 x6 hI hrec => ?_) M x4 x5 x6 h0
    have h := hs M x4 x5 x6 hI
    refine jr_iload (j := 6) hC dX7_mixInto_17 rfl ?_
    refine jr_iconst (v := (4 : Int32)) hC dX7_mixInto_19 (by decide) ?_
    obtain ⟨hthb2, hfhb2⟩ := h
    refine jr_ic_ge (tgt := 116) hC dX7_mixInto_20 (by decide) (fun hb2 => ?_) (fun hb2 => ?_)
    · have h := hthb2 hb2
      refine jr_aload_n (j := 1) hC dX7_mixInto_116 rfl rfl ?_
      refine jr_iload (j := 4) hC dX7_mixInto_117 rfl ?_
      refine jr_aload_n (j := 0) hC dX7_mixInto_119 rfl rfl ?_
      obtain ⟨hc3, h⟩ := h
      refine jr_get2 hC fl_RX7_12 hc3 dX7_mixInto_120 ?_
      obtain ⟨hc4, h⟩ := h
      refine jr_get0 hC fl_RX7_265 hc4 dX7_mixInto_123 ?_
      refine jr_callS_pi (As := [.int x4, .int (mI M (mP M r0 0) 4)]) (st := [.ref r1]) hC nc_RX7_398 (c_X7_applied hlt h) rfl rfl ⟨⟨rfl, rfl⟩, ⟨by decide, by decide⟩, by decide, by decide⟩ (Nat.le_of_ble_eq_true rfl) dX7_mixInto_126 (fun v5 h => ?_)
      refine jr_iload (j := 5) hC dX7_mixInto_129 rfl ?_
      refine jr_aload_n (j := 0) hC dX7_mixInto_131 rfl rfl ?_
      refine jr_get2 hC fl_RX7_12 hc3 dX7_mixInto_132 ?_
      refine jr_get0 hC fl_RX7_265 hc4 dX7_mixInto_135 ?_
      refine jr_callS_pi (As := [.int x5, .int (mI M (mP M r0 0) 4)]) (st := [.int v5, .ref r1]) hC nc_RX7_398 (c_X7_applied hlt h) rfl rfl ⟨⟨rfl, rfl⟩, ⟨by decide, by decide⟩, by decide, by decide⟩ (Nat.le_of_ble_eq_true rfl) dX7_mixInto_138 (fun v6 h => ?_)
      obtain ⟨hc7, h⟩ := h
      refine jr_callV_v (As := [.int v5, .int v6]) (st := []) hC nc_RX7_404 (c_X2_limit hlt h) hc7 rfl rfl ⟨⟨rfl, rfl⟩, ⟨by decide, by decide⟩, by decide, by decide⟩ (Nat.le_of_ble_eq_true rfl) dX7_mixInto_141 (fun M8 h => ?_)
      exact jr_vret hC hZ (by decide) (by decide) dX7_mixInto_144 ⟨rfl, rfl, h⟩
    · have h := hfhb2 hb2
      refine jr_aload_n (j := 0) hC dX7_mixInto_23 rfl rfl ?_
      obtain ⟨hc9, h⟩ := h
      refine jr_get2 hC fl_RX7_12 hc9 dX7_mixInto_24 ?_
      obtain ⟨hc10, h⟩ := h
      refine jr_get2 hC fl_RX7_179 hc10 dX7_mixInto_27 ?_
      refine jr_iload (j := 6) hC dX7_mixInto_30 rfl ?_
      obtain ⟨hc11, h⟩ := h
      obtain ⟨hc12, h⟩ := h
      refine jr_aald (t := 15) hC (by decide) (by decide) hc11 hc12 dX7_mixInto_32 ?_
      refine jr_nmA (fun q13 eq13 => ?_)
      have h := h q13 eq13
      refine jr_astore (L1 := [(7, .ref q13), (0, .ref r0), (1, .ref r1), (2, .int x2), (3, .int x3), (4, .int x4), (5, .int x5), (6, .int x6)]) hC dX7_mixInto_33 hnL (by decide) rfl ?_
      refine jr_aload (j := 0) hC dX7_mixInto_35 rfl ?_
      refine jr_iload_n (j := 4) hC dX7_mixInto_37 rfl rfl ?_
      obtain ⟨hc14, h⟩ := h
      refine jr_callV_pi (As := [.int x3]) (st := []) hC nc_RX7_259 (c_X6_isHeard hlt h) hc14 rfl rfl ⟨⟨rfl, rfl⟩, ⟨by decide, by decide⟩, by decide, by decide⟩ (Nat.le_of_ble_eq_true rfl) dX7_mixInto_38 (fun v15 h => ?_)
      obtain ⟨hthb16, hfhb16⟩ := h
      refine jr_if_eq (tgt := 110) hC dX7_mixInto_41 (by decide) (fun hb16 => ?_) (fun hb16 => ?_)
      · have h := hthb16 hb16
        refine jr_sub [1, 2, 3, 4, 5, 6, 7] (L1 := [(0, .ref r0), (1, .ref r1), (2, .int x2), (3, .int x3), (4, .int x4), (5, .int x5), (6, .int x6)]) rfl ?_
        exact B110 M r0 r1 x2 x3 x4 x5 x6 (fun (M_ : mw_M) (x4_ : Int32) (x5_ : Int32) (x6_ : Int32) => Inv M_ x4_ x5_ x6_ ∧ mu M_ x4_ x5_ x6_ < mu M x4 x5 x6) (fun M_ x4_ x5_ x6_ h9 => hrec M_ x4_ x5_ x6_ h9) h
      · have h := hfhb16 hb16
        refine jr_aload_n (j := 1) hC dX7_mixInto_44 rfl rfl ?_
        refine jr_iload (j := 7) hC dX7_mixInto_45 rfl ?_
        refine jr_iload_n (j := 3) hC dX7_mixInto_47 rfl rfl ?_
        refine jr_callV_v (As := [.int x6, .int x2]) (st := []) hC nc_RX7_247 (c_X7_learnDucking hlt h) hc9 rfl rfl ⟨⟨rfl, rfl⟩, ⟨by decide, by decide⟩, by decide, by decide⟩ (Nat.le_of_ble_eq_true rfl) dX7_mixInto_48 (fun M17 h => ?_)
        refine jr_aload_n (j := 1) hC dX7_mixInto_51 rfl rfl ?_
        refine jr_iload (j := 7) hC dX7_mixInto_52 rfl ?_
        refine jr_iload_n (j := 3) hC dX7_mixInto_54 rfl rfl ?_
        refine jr_callV_pi (As := [.int x6, .int x2]) (st := []) hC nc_RX7_253 (c_X7_valueOfTrack hlt h) hc9 rfl rfl ⟨⟨rfl, rfl⟩, ⟨by decide, by decide⟩, by decide, by decide⟩ (Nat.le_of_ble_eq_true rfl) dX7_mixInto_55 (fun v18 h => ?_)
        refine jr_istore (L1 := [(8, .int v18), (7, .ref q13), (0, .ref r0), (1, .ref r1), (2, .int x2), (3, .int x3), (4, .int x4), (5, .int x5), (6, .int x6)]) hC dX7_mixInto_58 hnL (by decide) rfl ?_
        refine jr_iload (j := 6) hC dX7_mixInto_60 rfl ?_
        refine jr_iload (j := 0) hC dX7_mixInto_62 rfl ?_
        refine jr_bipush (v := (100 : Int32)) hC dX7_mixInto_64 (by decide) ?_
        refine jr_iconst (v := (0 : Int32)) hC dX7_mixInto_66 (by decide) ?_
        refine jr_aload (j := 1) hC dX7_mixInto_67 rfl ?_
        refine jr_get0 hC fl_RX7_188 hc14 dX7_mixInto_69 ?_
        refine jr_mmax hC tw_417 tw_418 tw_74 tw_419 (by decide) (by decide) (Nat.le_of_ble_eq_true rfl) (by decide) (by decide) dX7_mixInto_72 ?_
        refine jr_nmI (fun v19 ev19 => ?_)
        have h := h v19 ev19
        refine jr_isub hC dX7_mixInto_75 ?_
        refine jr_imul hC dX7_mixInto_76 ?_
        refine jr_bipush (v := (100 : Int32)) hC dX7_mixInto_77 (by decide) ?_
        refine jr_callS_pi (As := [.int (v18 * ((100 : Int32) - v19)), .int (100 : Int32)]) (st := [.int x4]) hC nc_RX7_374 (c_J9_floorDiv_7cf53 hlt h) rfl rfl ⟨⟨rfl, rfl⟩, ⟨by decide, by decide⟩, by decide, by decide⟩ (Nat.le_of_ble_eq_true rfl) dX7_mixInto_79 (fun v20 h => ?_)
        refine jr_iadd hC dX7_mixInto_82 ?_
        refine jr_nmI (fun v21 ev21 => ?_)
        have h := h v21 ev21
        refine jr_istore (L1 := [(4, .int v21), (8, .int v18), (7, .ref q13), (0, .ref r0), (1, .ref r1), (2, .int x2), (3, .int x3), (5, .int x5), (6, .int x6)]) hC dX7_mixInto_83 hnL (by decide) rfl ?_
        refine jr_iload (j := 7) hC dX7_mixInto_85 rfl ?_
        refine jr_iload (j := 1) hC dX7_mixInto_87 rfl ?_
        refine jr_bipush (v := (100 : Int32)) hC dX7_mixInto_89 (by decide) ?_
        refine jr_iconst (v := (0 : Int32)) hC dX7_mixInto_91 (by decide) ?_
        refine jr_aload (j := 2) hC dX7_mixInto_92 rfl ?_
        refine jr_get0 hC fl_RX7_188 hc14 dX7_mixInto_94 ?_
        refine jr_mmin hC tw_550 tw_533 tw_74 tw_534 (by decide) (by decide) (Nat.le_of_ble_eq_true rfl) (by decide) (by decide) dX7_mixInto_97 ?_
        refine jr_nmI (fun v22 ev22 => ?_)
        have h := h v22 ev22
        refine jr_iadd hC dX7_mixInto_100 ?_
        refine jr_imul hC dX7_mixInto_101 ?_
        refine jr_bipush (v := (100 : Int32)) hC dX7_mixInto_102 (by decide) ?_
        refine jr_callS_pi (As := [.int (v18 * ((100 : Int32) + v22)), .int (100 : Int32)]) (st := [.int x5]) hC nc_RX7_374 (c_J9_floorDiv_7cf53 hlt h) rfl rfl ⟨⟨rfl, rfl⟩, ⟨by decide, by decide⟩, by decide, by decide⟩ (Nat.le_of_ble_eq_true rfl) dX7_mixInto_104 (fun v23 h => ?_)
        refine jr_iadd hC dX7_mixInto_107 ?_
        refine jr_nmI (fun v24 ev24 => ?_)
        have h := h v24 ev24
        refine jr_istore (L1 := [(5, .int v24), (4, .int v21), (8, .int v18), (7, .ref q13), (0, .ref r0), (1, .ref r1), (2, .int x2), (3, .int x3), (6, .int x6)]) hC dX7_mixInto_108 hnL (by decide) rfl ?_
        refine jr_sub [4, 5, 6, 7, 1, 0, 8] (L1 := [(0, .ref r0), (1, .ref r1), (2, .int x2), (3, .int x3), (4, .int v21), (5, .int v24), (6, .int x6)]) rfl ?_
        exact B110 M17 r0 r1 x2 x3 v21 v24 x6 (fun (M_ : mw_M) (x4_ : Int32) (x5_ : Int32) (x6_ : Int32) => Inv M_ x4_ x5_ x6_ ∧ mu M_ x4_ x5_ x6_ < mu M x4 x5 x6) (fun M_ x4_ x5_ x6_ h9 => hrec M_ x4_ x5_ x6_ h9) h
  unfold w_X7_mixInto at h
  refine jr_aload_n (j := 0) hC dX7_mixInto_0 rfl rfl ?_
  obtain ⟨hc25, h⟩ := h
  refine jr_get2 hC fl_RX7_12 hc25 dX7_mixInto_1 ?_
  obtain ⟨hc26, h⟩ := h
  refine jr_callV_pi (As := []) (st := []) hC nc_RX7_256 (c_X5_hasSolo hlt h) hc26 rfl rfl ⟨⟨rfl, rfl⟩, ⟨by decide, by decide⟩, by decide, by decide⟩ (Nat.le_of_ble_eq_true rfl) dX7_mixInto_4 (fun v27 h => ?_)
  refine jr_istore_n (L1 := [(3, .int v27), (0, .ref a0), (1, .ref a1), (2, .int x2)]) hC dX7_mixInto_7 rfl hnL (by decide) rfl ?_
  refine jr_iconst (v := (0 : Int32)) hC dX7_mixInto_8 (by decide) ?_
  refine jr_istore (L1 := [(4, .int (0 : Int32)), (3, .int v27), (0, .ref a0), (1, .ref a1), (2, .int x2)]) hC dX7_mixInto_9 hnL (by decide) rfl ?_
  refine jr_iconst (v := (0 : Int32)) hC dX7_mixInto_11 (by decide) ?_
  refine jr_istore (L1 := [(5, .int (0 : Int32)), (4, .int (0 : Int32)), (3, .int v27), (0, .ref a0), (1, .ref a1), (2, .int x2)]) hC dX7_mixInto_12 hnL (by decide) rfl ?_
  refine jr_iconst (v := (0 : Int32)) hC dX7_mixInto_14 (by decide) ?_
  refine jr_istore (L1 := [(6, .int (0 : Int32)), (5, .int (0 : Int32)), (4, .int (0 : Int32)), (3, .int v27), (0, .ref a0), (1, .ref a1), (2, .int x2)]) hC dX7_mixInto_15 hnL (by decide) rfl ?_
  refine jr_sub [4, 5, 6, 3, 2, 1, 0] (L1 := [(0, .ref a0), (1, .ref a1), (2, .int x2), (3, .int v27), (4, .int (0 : Int32)), (5, .int (0 : Int32)), (6, .int (0 : Int32))]) rfl ?_
  exact B17 M a0 a1 x2 v27 (0 : Int32) (0 : Int32) (0 : Int32) h
set_option maxHeartbeats 4000000 in
set_option maxRecDepth 100000 in
theorem c_X7_mix {G : mw_G} {l : Launch} (hlt : l.stackTraces = false) {n : Nat} {M : mw_M} {a0 : Nat} {x1 : Int32} {x2 : Int32} {Q : mw_M → Int32 → Prop} {X : mw_M → String → Prop} (h : w_X7_mix n M a0 x1 x2 Q X) : mw_Met G l yX7_mix (.code yX7_mix cX7_mix 3 (some .int)) { frames := 7, cells := 1, slots := 6, locals := 176 } n M [.ref a0, .int x1, .int x2] (fun n1 M1 v => n1 = n ∧ mw_rI Q M1 v) X := by
  refine mw_enter (L0 := [(0, .ref a0), (1, .int x1), (2, .int x2)]) hlt rfl rfl (plainFor_of_name (by decide)) (Nat.le_of_ble_eq_true rfl) rfl ?_
  intro Y hC0 hZ hnL hini0 hn00
  have hC : mw_C G l _ Y cX7_mix RX7 := hC0
  have B34 : ∀ (M : mw_M) (s0 : Int32) (h : w_X7_mix_b34 n M s0 Q X), mw_J Y 1 6 n M 34 [] [.int s0] := by
    intro M s0 h
    unfold w_X7_mix_b34 at h
    exact jr_ireti hC hZ (by decide) (by decide) dX7_mix_34 ⟨rfl, _, rfl, h⟩
  unfold w_X7_mix at h
  refine jr_iload_n (j := 1) hC dX7_mix_0 rfl rfl ?_
  refine jr_callSx_pv (As := [.int x1]) (st := []) hC nc_RX7_198 (c_X7_checkPosition hlt h) rfl rfl ⟨⟨rfl, rfl⟩, ⟨by decide, by decide⟩, by decide, by decide⟩ (Nat.le_of_ble_eq_true rfl) hZ hn00 (fun _ _ h9 => h9) (by decide) (by decide) dX7_mix_1 (fun  h => ?_)
  refine jr_aload_n (j := 0) hC dX7_mix_4 rfl rfl ?_
  refine jr_aload_n (j := 0) hC dX7_mix_5 rfl rfl ?_
  obtain ⟨hc1, h⟩ := h
  refine jr_get2 hC fl_RX7_32 hc1 dX7_mix_6 ?_
  refine jr_iload_n (j := 1) hC dX7_mix_9 rfl rfl ?_
  refine jr_callV_v (As := [.ref (mP M a0 5), .int x1]) (st := []) hC nc_RX7_271 (c_X7_mixInto hlt h) hc1 rfl rfl ⟨⟨rfl, rfl⟩, ⟨by decide, by decide⟩, by decide, by decide⟩ (Nat.le_of_ble_eq_true rfl) dX7_mix_10 (fun M2 h => ?_)
  refine jr_iload_n (j := 2) hC dX7_mix_13 rfl rfl ?_
  obtain ⟨hthb3, hfhb3⟩ := h
  refine jr_if_eq (tgt := 27) hC dX7_mix_14 (by decide) (fun hb3 => ?_) (fun hb3 => ?_)
  · have h := hthb3 hb3
    refine jr_aload_n (j := 0) hC dX7_mix_27 rfl rfl ?_
    refine jr_get2 hC fl_RX7_32 hc1 dX7_mix_28 ?_
    obtain ⟨hc4, h⟩ := h
    refine jr_get0 hC fl_RX7_278 hc4 dX7_mix_31 ?_
    refine jr_sub [] (L1 := []) rfl ?_
    exact B34 M2 (mI M2 (mP M2 a0 5) 0) h
  · have h := hfhb3 hb3
    refine jr_aload_n (j := 0) hC dX7_mix_17 rfl rfl ?_
    refine jr_get2 hC fl_RX7_32 hc1 dX7_mix_18 ?_
    obtain ⟨hc5, h⟩ := h
    refine jr_get0 hC fl_RX7_275 hc5 dX7_mix_21 ?_
    refine jr_goto (tgt := 34) hC dX7_mix_24 (by decide) ?_
    refine jr_sub [] (L1 := []) rfl ?_
    exact B34 M2 (mI M2 (mP M2 a0 5) 1) h
set_option maxHeartbeats 4000000 in
set_option maxRecDepth 100000 in
theorem c_X7_setLoop {G : mw_G} {l : Launch} (hlt : l.stackTraces = false) {n : Nat} {M : mw_M} {a0 : Nat} {x1 : Int32} {x2 : Int32} {Q : mw_M → Int32 → Prop} {X : mw_M → String → Prop} (h : w_X7_setLoop n M a0 x1 x2 Q X) : mw_Met G l yX7_setLoop (.code yX7_setLoop cX7_setLoop 5 (some .int)) { frames := 6, cells := 1, slots := 6, locals := 88 } n M [.ref a0, .int x1, .int x2] (fun n1 M1 v => n1 = n ∧ mw_rI Q M1 v) X := by
  refine mw_enter (L0 := [(0, .ref a0), (1, .int x1), (2, .int x2)]) hlt rfl rfl (plainFor_of_name (by decide)) (Nat.le_of_ble_eq_true rfl) rfl ?_
  intro Y hC0 hZ hnL hini0 hn00
  have hC : mw_C G l _ Y cX7_setLoop RX7 := hC0
  have B22 : ∀ (M : mw_M) (h : w_X7_setLoop_b22 n M Q X), mw_J Y 0 0 n M 22 [] [] := by
    intro M h
    unfold w_X7_setLoop_b22 at h
    exact jr_throwS (names := ["java/lang/RuntimeException", "java/lang/Exception"]) hC hZ hn00 (by decide +kernel) (by decide +kernel) tw_641 tw_73 sx_RX7_150 at_RX7_49 dX7_setLoop_22 dX7_setLoop_25 dX7_setLoop_26 dX7_setLoop_28 dX7_setLoop_31 (by decide) (by decide) (by decide) (by decide) (by decide) (by decide) h
  unfold w_X7_setLoop at h
  refine jr_iload_n (j := 2) hC dX7_setLoop_0 rfl rfl ?_
  refine jr_iconst (v := (1 : Int32)) hC dX7_setLoop_1 (by decide) ?_
  refine jr_sipush (v := (4000 : Int32)) hC dX7_setLoop_2 (by decide) ?_
  refine jr_callS_pi (As := [.int x2, .int (1 : Int32), .int (4000 : Int32)]) (st := []) hC nc_RX7_41 (c_X7_isOutside hlt h) rfl rfl ⟨⟨rfl, rfl⟩, ⟨by decide, by decide⟩, by decide, by decide⟩ (Nat.le_of_ble_eq_true rfl) dX7_setLoop_5 (fun v1 h => ?_)
  obtain ⟨hthb2, hfhb2⟩ := h
  refine jr_if_ne (tgt := 22) hC dX7_setLoop_8 (by decide) (fun hb2 => ?_) (fun hb2 => ?_)
  · have h := hthb2 hb2
    refine jr_sub [] (L1 := []) rfl ?_
    exact B22 M h
  · have h := hfhb2 hb2
    refine jr_iload_n (j := 1) hC dX7_setLoop_11 rfl rfl ?_
    refine jr_iconst (v := (0 : Int32)) hC dX7_setLoop_12 (by decide) ?_
    refine jr_iload_n (j := 2) hC dX7_setLoop_13 rfl rfl ?_
    refine jr_iconst (v := (1 : Int32)) hC dX7_setLoop_14 (by decide) ?_
    refine jr_isub hC dX7_setLoop_15 ?_
    refine jr_callS_pi (As := [.int x1, .int (0 : Int32), .int (x2 - (1 : Int32))]) (st := []) hC nc_RX7_41 (c_X7_isOutside hlt h) rfl rfl ⟨⟨rfl, rfl⟩, ⟨by decide, by decide⟩, by decide, by decide⟩ (Nat.le_of_ble_eq_true rfl) dX7_setLoop_16 (fun v3 h => ?_)
    obtain ⟨hthb4, hfhb4⟩ := h
    refine jr_if_eq (tgt := 32) hC dX7_setLoop_19 (by decide) (fun hb4 => ?_) (fun hb4 => ?_)
    · have h := hthb4 hb4
      refine jr_aload_n (j := 0) hC dX7_setLoop_32 rfl rfl ?_
      obtain ⟨hc5, h⟩ := h
      refine jr_get2 hC fl_RX7_12 hc5 dX7_setLoop_33 ?_
      obtain ⟨hc6, h⟩ := h
      refine jr_get0 hC fl_RX7_281 hc6 dX7_setLoop_36 ?_
      refine jr_nmI (fun v7 ev7 => ?_)
      have h := h v7 ev7
      refine jr_istore_n (L1 := [(3, .int v7), (0, .ref a0), (1, .int x1), (2, .int x2)]) hC dX7_setLoop_39 rfl hnL (by decide) rfl ?_
      refine jr_aload_n (j := 1) hC dX7_setLoop_40 rfl rfl ?_
      refine jr_callV_a (As := []) (st := []) hC nc_RX7_62 (c_X7_draft hlt h) hc5 rfl rfl ⟨⟨rfl, rfl⟩, ⟨by decide, by decide⟩, by decide, by decide⟩ (Nat.le_of_ble_eq_true rfl) dX7_setLoop_41 (fun M8 q9 h => ?_)
      refine jr_astore (L1 := [(4, .ref q9), (3, .int v7), (0, .ref a0), (1, .int x1), (2, .int x2)]) hC dX7_setLoop_44 hnL (by decide) rfl ?_
      refine jr_aload (j := 0) hC dX7_setLoop_46 rfl ?_
      refine jr_iload_n (j := 3) hC dX7_setLoop_48 rfl rfl ?_
      obtain ⟨hc10, h⟩ := h
      obtain ⟨M11, eM11⟩ : ∃ y : mw_M, y = sI M8 q9 6 x1 := ⟨_, rfl⟩
      have h := h M11 eM11
      refine jr_putI hC fp_RX7_281 hc10 eM11 dX7_setLoop_49 ?_
      refine jr_aload (j := 0) hC dX7_setLoop_52 rfl ?_
      refine jr_iload_n (j := 4) hC dX7_setLoop_54 rfl rfl ?_
      obtain ⟨M12, eM12⟩ : ∃ y : mw_M, y = sI M11 q9 7 x2 := ⟨_, rfl⟩
      have h := h M12 eM12
      refine jr_putI hC fp_RX7_284 hc10 eM12 dX7_setLoop_55 ?_
      refine jr_aload_n (j := 2) hC dX7_setLoop_58 rfl rfl ?_
      refine jr_callV_v (As := []) (st := []) hC nc_RX7_268 (c_X7_keepDraft hlt h) hc5 rfl rfl ⟨⟨rfl, rfl⟩, ⟨by decide, by decide⟩, by decide, by decide⟩ (Nat.le_of_ble_eq_true rfl) dX7_setLoop_59 (fun M13 h => ?_)
      refine jr_iload_n (j := 1) hC dX7_setLoop_62 rfl rfl ?_
      exact jr_ireti hC hZ (by decide) (by decide) dX7_setLoop_63 ⟨rfl, _, rfl, h⟩
    · have h := hfhb4 hb4
      refine jr_sub [] (L1 := []) rfl ?_
      exact B22 M h
set_option maxHeartbeats 4000000 in
set_option maxRecDepth 100000 in
theorem c_X7_seek {G : mw_G} {l : Launch} (hlt : l.stackTraces = false) {n : Nat} {M : mw_M} {a0 : Nat} {x1 : Int32} {Q : mw_M → Int32 → Prop} {X : mw_M → String → Prop} (h : w_X7_seek n M a0 x1 Q X) : mw_Met G l yX7_seek (.code yX7_seek cX7_seek 3 (some .int)) { frames := 7, cells := 1, slots := 6, locals := 102 } n M [.ref a0, .int x1] (fun n1 M1 v => n1 = n ∧ mw_rI Q M1 v) X := by
  refine mw_enter (L0 := [(0, .ref a0), (1, .int x1)]) hlt rfl rfl (plainFor_of_name (by decide)) (Nat.le_of_ble_eq_true rfl) rfl ?_
  intro Y hC0 hZ hnL hini0 hn00
  have hC : mw_C G l _ Y cX7_seek RX7 := hC0
  unfold w_X7_seek at h
  refine jr_iload_n (j := 1) hC dX7_seek_0 rfl rfl ?_
  refine jr_callSx_pv (As := [.int x1]) (st := []) hC nc_RX7_198 (c_X7_checkPosition hlt h) rfl rfl ⟨⟨rfl, rfl⟩, ⟨by decide, by decide⟩, by decide, by decide⟩ (Nat.le_of_ble_eq_true rfl) hZ hn00 (fun _ _ h9 => h9) (by decide) (by decide) dX7_seek_1 (fun  h => ?_)
  refine jr_aload_n (j := 0) hC dX7_seek_4 rfl rfl ?_
  obtain ⟨hc1, h⟩ := h
  refine jr_get2 hC fl_RX7_12 hc1 dX7_seek_5 ?_
  obtain ⟨hc2, h⟩ := h
  refine jr_get0 hC fl_RX7_287 hc2 dX7_seek_8 ?_
  refine jr_nmI (fun v3 ev3 => ?_)
  have h := h v3 ev3
  refine jr_istore_n (L1 := [(2, .int v3), (0, .ref a0), (1, .int x1)]) hC dX7_seek_11 rfl hnL (by decide) rfl ?_
  refine jr_aload_n (j := 1) hC dX7_seek_12 rfl rfl ?_
  refine jr_callV_a (As := []) (st := []) hC nc_RX7_62 (c_X7_draft hlt h) hc1 rfl rfl ⟨⟨rfl, rfl⟩, ⟨by decide, by decide⟩, by decide, by decide⟩ (Nat.le_of_ble_eq_true rfl) dX7_seek_13 (fun M4 q5 h => ?_)
  refine jr_iload_n (j := 2) hC dX7_seek_16 rfl rfl ?_
  obtain ⟨hc6, h⟩ := h
  obtain ⟨M7, eM7⟩ : ∃ y : mw_M, y = sI M4 q5 5 x1 := ⟨_, rfl⟩
  have h := h M7 eM7
  refine jr_putI hC fp_RX7_287 hc6 eM7 dX7_seek_17 ?_
  refine jr_aload_n (j := 1) hC dX7_seek_20 rfl rfl ?_
  refine jr_callV_v (As := []) (st := []) hC nc_RX7_268 (c_X7_keepDraft hlt h) hc1 rfl rfl ⟨⟨rfl, rfl⟩, ⟨by decide, by decide⟩, by decide, by decide⟩ (Nat.le_of_ble_eq_true rfl) dX7_seek_21 (fun M8 h => ?_)
  refine jr_iload_n (j := 0) hC dX7_seek_24 rfl rfl ?_
  exact jr_ireti hC hZ (by decide) (by decide) dX7_seek_25 ⟨rfl, _, rfl, h⟩
set_option maxHeartbeats 4000000 in
set_option maxRecDepth 100000 in
theorem c_X7_render {G : mw_G} {l : Launch} (hlt : l.stackTraces = false) {n : Nat} {M : mw_M} {a0 : Nat} {x1 : Int32} {Q : mw_M → Int32 → Prop} {X : mw_M → String → Prop} (h : w_X7_render n M a0 x1 Q X) : mw_Met G l yX7_render (.code yX7_render cX7_render 4 (some .int)) { frames := 7, cells := 1, slots := 6, locals := 176 } n M [.ref a0, .int x1] (fun n1 M1 v => n1 = n ∧ mw_rI Q M1 v) X := by
  refine mw_enter (L0 := [(0, .ref a0), (1, .int x1)]) hlt rfl rfl (plainFor_of_name (by decide)) (Nat.le_of_ble_eq_true rfl) rfl ?_
  intro Y hC0 hZ hnL hini0 hn00
  have hC : mw_C G l _ Y cX7_render RX7 := hC0
  have B29 : ∀ (M : mw_M) (r0 : Nat) (x1 : Int32) (r2 : Nat) (x3 : Int32) (h : w_X7_render_b29 n M r0 x1 r2 x3 Q X), mw_J Y 0 0 n M 29 [(0, .ref r0), (1, .int x1), (2, .ref r2), (3, .int x3)] [] := by
    intro M r0 x1 r2 x3 h
    obtain ⟨Inv, mu, h0, hs⟩ := h
    refine mw_loop2 (fun (M : mw_M) (x3 : Int32) => mw_J Y 0 0 n M 29 [(0, .ref r0), (1, .int x1), (2, .ref r2), (3, .int x3)] []) Inv mu (fun M x3 hI hrec => ?_) M x3 h0
    have h := hs M x3 hI
    refine jr_iload_n (j := 3) hC dX7_render_29 rfl rfl ?_
    refine jr_iload_n (j := 1) hC dX7_render_30 rfl rfl ?_
    obtain ⟨hthb1, hfhb1⟩ := h
    refine jr_ic_ge (tgt := 67) hC dX7_render_31 (by decide) (fun hb1 => ?_) (fun hb1 => ?_)
    · have h := hthb1 hb1
      refine jr_aload_n (j := 0) hC dX7_render_67 rfl rfl ?_
      obtain ⟨hc2, h⟩ := h
      refine jr_callV_v (As := []) (st := []) hC nc_RX7_268 (c_X7_keepDraft hlt h) hc2 rfl rfl ⟨⟨rfl, rfl⟩, ⟨by decide, by decide⟩, by decide, by decide⟩ (Nat.le_of_ble_eq_true rfl) dX7_render_68 (fun M3 h => ?_)
      refine jr_aload_n (j := 0) hC dX7_render_71 rfl rfl ?_
      refine jr_get2 hC fl_RX7_12 hc2 dX7_render_72 ?_
      obtain ⟨hc4, h⟩ := h
      refine jr_get0 hC fl_RX7_287 hc4 dX7_render_75 ?_
      exact jr_ireti hC hZ (by decide) (by decide) dX7_render_78 ⟨rfl, _, rfl, h⟩
    · have h := hfhb1 hb1
      refine jr_aload_n (j := 0) hC dX7_render_34 rfl rfl ?_
      refine jr_aload_n (j := 0) hC dX7_render_35 rfl rfl ?_
      obtain ⟨hc5, h⟩ := h
      refine jr_get2 hC fl_RX7_32 hc5 dX7_render_36 ?_
      refine jr_aload_n (j := 2) hC dX7_render_39 rfl rfl ?_
      obtain ⟨hc6, h⟩ := h
      refine jr_get0 hC fl_RX7_287 hc6 dX7_render_40 ?_
      refine jr_callV_v (As := [.ref (mP M r0 5), .int (mI M r2 5)]) (st := []) hC nc_RX7_271 (c_X7_mixInto hlt h) hc5 rfl rfl ⟨⟨rfl, rfl⟩, ⟨by decide, by decide⟩, by decide, by decide⟩ (Nat.le_of_ble_eq_true rfl) dX7_render_43 (fun M7 h => ?_)
      refine jr_aload_n (j := 2) hC dX7_render_46 rfl rfl ?_
      refine jr_get2 hC fl_RX7_292 hc6 dX7_render_47 ?_
      refine jr_aload_n (j := 0) hC dX7_render_50 rfl rfl ?_
      refine jr_get2 hC fl_RX7_32 hc5 dX7_render_51 ?_
      obtain ⟨hc8, h⟩ := h
      refine jr_callV_v (As := [.ref (mP M7 r0 5)]) (st := []) hC nc_RX7_296 (c_X3_take hlt h) hc8 rfl rfl ⟨⟨rfl, rfl⟩, ⟨by decide, by decide⟩, by decide, by decide⟩ (Nat.le_of_ble_eq_true rfl) dX7_render_54 (fun M9 h => ?_)
      refine jr_aload_n (j := 2) hC dX7_render_57 rfl rfl ?_
      refine jr_callV_v (As := []) (st := []) hC nc_RX7_302 (c_X5_advance hlt h) hc6 rfl rfl ⟨⟨rfl, rfl⟩, ⟨by decide, by decide⟩, by decide, by decide⟩ (Nat.le_of_ble_eq_true rfl) dX7_render_58 (fun M10 h => ?_)
      obtain ⟨v11, ev11⟩ : ∃ y : Int32, y = (x3 + (1 : Int32)) := ⟨_, rfl⟩
      have h := h v11 ev11
      refine jr_iinc (j := 3) (v := v11) (L1 := [(3, .int v11), (0, .ref r0), (1, .int x1), (2, .ref r2)]) hC dX7_render_61 rfl (by rw [ev11]; rfl) hnL (by decide) rfl ?_
      refine jr_goto (tgt := 29) hC dX7_render_64 (by decide) ?_
      refine jr_sub [1, 2, 3, 0] (L1 := [(0, .ref r0), (1, .int x1), (2, .ref r2), (3, .int v11)]) rfl ?_
      exact hrec M10 v11 h
  unfold w_X7_render at h
  refine jr_iload_n (j := 1) hC dX7_render_0 rfl rfl ?_
  refine jr_iconst (v := (1 : Int32)) hC dX7_render_1 (by decide) ?_
  refine jr_sipush (v := (1000 : Int32)) hC dX7_render_2 (by decide) ?_
  refine jr_callS_pi (As := [.int x1, .int (1 : Int32), .int (1000 : Int32)]) (st := []) hC nc_RX7_41 (c_X7_isOutside hlt h) rfl rfl ⟨⟨rfl, rfl⟩, ⟨by decide, by decide⟩, by decide, by decide⟩ (Nat.le_of_ble_eq_true rfl) dX7_render_5 (fun v12 h => ?_)
  obtain ⟨hthb13, hfhb13⟩ := h
  refine jr_if_eq (tgt := 22) hC dX7_render_8 (by decide) (fun hb13 => ?_) (fun hb13 => ?_)
  · have h := hthb13 hb13
    refine jr_aload_n (j := 0) hC dX7_render_22 rfl rfl ?_
    obtain ⟨hc14, h⟩ := h
    refine jr_callV_a (As := []) (st := []) hC nc_RX7_62 (c_X7_draft hlt h) hc14 rfl rfl ⟨⟨rfl, rfl⟩, ⟨by decide, by decide⟩, by decide, by decide⟩ (Nat.le_of_ble_eq_true rfl) dX7_render_23 (fun M15 q16 h => ?_)
    refine jr_astore_n (L1 := [(2, .ref q16), (0, .ref a0), (1, .int x1)]) hC dX7_render_26 rfl hnL (by decide) rfl ?_
    refine jr_iconst (v := (0 : Int32)) hC dX7_render_27 (by decide) ?_
    refine jr_istore_n (L1 := [(3, .int (0 : Int32)), (2, .ref q16), (0, .ref a0), (1, .int x1)]) hC dX7_render_28 rfl hnL (by decide) rfl ?_
    refine jr_sub [2, 3, 1, 0] (L1 := [(0, .ref a0), (1, .int x1), (2, .ref q16), (3, .int (0 : Int32))]) rfl ?_
    exact B29 M15 a0 x1 q16 (0 : Int32) h
  · have h := hfhb13 hb13
    exact jr_throwSW (names := ["java/lang/RuntimeException", "java/lang/Exception"]) hC hZ hn00 (by decide +kernel) (by decide +kernel) tw_641 tw_73 sx_RX7_290 at_RX7_49 dX7_render_11 dX7_render_14 dX7_render_15 dX7_render_18 dX7_render_21 (by decide) (by decide) (by decide) (by decide) (by decide) (by decide) h
set_option maxHeartbeats 4000000 in
set_option maxRecDepth 100000 in
theorem c_X7_meter {G : mw_G} {l : Launch} (hlt : l.stackTraces = false) {n : Nat} {M : mw_M} {a0 : Nat} {x1 : Int32} {Q : Int64 → Prop} {X : mw_M → String → Prop} (h : w_X7_meter n M a0 x1 Q X) : mw_Met G l yX7_meter (.code yX7_meter cX7_meter 2 (some .long)) { frames := 6, cells := 1, slots := 6, locals := 82 } n M [.ref a0, .int x1] (fun n1 M1 v => n1 = n ∧ mw_pJ M Q M1 v) X := by
  refine mw_enter (L0 := [(0, .ref a0), (1, .int x1)]) hlt rfl rfl (plainFor_of_name (by decide)) (Nat.le_of_ble_eq_true rfl) rfl ?_
  intro Y hC0 hZ hnL hini0 hn00
  have hC : mw_C G l _ Y cX7_meter RX7 := hC0
  unfold w_X7_meter at h
  refine jr_iload_n (j := 1) hC dX7_meter_0 rfl rfl ?_
  refine jr_iconst (v := (0 : Int32)) hC dX7_meter_1 (by decide) ?_
  refine jr_iconst (v := (4 : Int32)) hC dX7_meter_2 (by decide) ?_
  refine jr_callS_pi (As := [.int x1, .int (0 : Int32), .int (4 : Int32)]) (st := []) hC nc_RX7_41 (c_X7_isOutside hlt h) rfl rfl ⟨⟨rfl, rfl⟩, ⟨by decide, by decide⟩, by decide, by decide⟩ (Nat.le_of_ble_eq_true rfl) dX7_meter_3 (fun v1 h => ?_)
  obtain ⟨hthb2, hfhb2⟩ := h
  refine jr_if_eq (tgt := 20) hC dX7_meter_6 (by decide) (fun hb2 => ?_) (fun hb2 => ?_)
  · have h := hthb2 hb2
    refine jr_aload_n (j := 0) hC dX7_meter_20 rfl rfl ?_
    obtain ⟨hc3, h⟩ := h
    refine jr_get2 hC fl_RX7_12 hc3 dX7_meter_21 ?_
    obtain ⟨hc4, h⟩ := h
    refine jr_get2 hC fl_RX7_292 hc4 dX7_meter_24 ?_
    refine jr_iload_n (j := 1) hC dX7_meter_27 rfl rfl ?_
    obtain ⟨hc5, h⟩ := h
    refine jr_callV_pj (As := [.int x1]) (st := []) hC nc_RX7_307 (c_X3_reading hlt h) hc5 rfl rfl ⟨⟨rfl, rfl⟩, ⟨by decide, by decide⟩, by decide, by decide⟩ (Nat.le_of_ble_eq_true rfl) dX7_meter_28 (fun w6 h => ?_)
    exact jr_lret hC hZ (by decide) (by decide) dX7_meter_31 ⟨rfl, rfl, _, rfl, h⟩
  · have h := hfhb2 hb2
    exact jr_throwSW (names := ["java/lang/RuntimeException", "java/lang/Exception"]) hC hZ hn00 (by decide +kernel) (by decide +kernel) tw_641 tw_73 sx_RX7_305 at_RX7_49 dX7_meter_9 dX7_meter_12 dX7_meter_13 dX7_meter_16 dX7_meter_19 (by decide) (by decide) (by decide) (by decide) (by decide) (by decide) h
set_option maxHeartbeats 4000000 in
set_option maxRecDepth 100000 in
theorem c_X7_clearMeters {G : mw_G} {l : Launch} (hlt : l.stackTraces = false) {n : Nat} {M : mw_M} {a0 : Nat} {Q : mw_M → Int64 → Prop} (h : w_X7_clearMeters n M a0 Q) : mw_Met G l yX7_clearMeters (.code yX7_clearMeters cX7_clearMeters 3 (some .long)) { frames := 4, cells := 0, slots := 0, locals := 88 } n M [.ref a0] (fun n1 M1 v => n1 = n ∧ mw_rJ Q M1 v) (fun _ _ => False) := by
  refine mw_enter (L0 := [(0, .ref a0)]) hlt rfl rfl (plainFor_of_name (by decide)) (Nat.le_of_ble_eq_true rfl) rfl ?_
  intro Y hC0 hZ hnL hini0 hn00
  have hC : mw_C G l _ Y cX7_clearMeters RX7 := hC0
  unfold w_X7_clearMeters at h
  refine jr_aload_n (j := 0) hC dX7_clearMeters_0 rfl rfl ?_
  obtain ⟨hc1, h⟩ := h
  refine jr_get2 hC fl_RX7_12 hc1 dX7_clearMeters_1 ?_
  obtain ⟨hc2, h⟩ := h
  refine jr_get2 hC fl_RX7_292 hc2 dX7_clearMeters_4 ?_
  obtain ⟨hc3, h⟩ := h
  refine jr_get1 hC fl_RX7_311 hc3 dX7_clearMeters_7 ?_
  refine jr_nmJ (fun w4 ew4 => ?_)
  have h := h w4 ew4
  refine jr_lstore_n (L1 := [(1, .long w4), (0, .ref a0)]) hC dX7_clearMeters_10 rfl hnL (by decide) rfl ?_
  refine jr_aload_n (j := 1) hC dX7_clearMeters_11 rfl rfl ?_
  refine jr_callV_a (As := []) (st := []) hC nc_RX7_62 (c_X7_draft hlt h) hc1 rfl rfl ⟨⟨rfl, rfl⟩, ⟨by decide, by decide⟩, by decide, by decide⟩ (Nat.le_of_ble_eq_true rfl) dX7_clearMeters_12 (fun M5 q6 h => ?_)
  obtain ⟨hc7, h⟩ := h
  refine jr_get2 hC fl_RX7_292 hc7 dX7_clearMeters_15 ?_
  obtain ⟨hc8, h⟩ := h
  refine jr_callV_v (As := []) (st := []) hC nc_RX7_315 (c_X3_clear hlt h) hc8 rfl rfl ⟨⟨rfl, rfl⟩, ⟨by decide, by decide⟩, by decide, by decide⟩ (Nat.le_of_ble_eq_true rfl) dX7_clearMeters_18 (fun M9 h => ?_)
  refine jr_aload_n (j := 1) hC dX7_clearMeters_21 rfl rfl ?_
  refine jr_callV_v (As := []) (st := []) hC nc_RX7_268 (c_X7_keepDraft hlt h) hc1 rfl rfl ⟨⟨rfl, rfl⟩, ⟨by decide, by decide⟩, by decide, by decide⟩ (Nat.le_of_ble_eq_true rfl) dX7_clearMeters_22 (fun M10 h => ?_)
  refine jr_lload_n (j := 0) hC dX7_clearMeters_25 rfl rfl ?_
  exact jr_lret hC hZ (by decide) (by decide) dX7_clearMeters_26 ⟨rfl, _, rfl, h⟩
set_option maxHeartbeats 4000000 in
set_option maxRecDepth 100000 in
theorem c_X7_length {G : mw_G} {l : Launch} (hlt : l.stackTraces = false) {n : Nat} {M : mw_M} {a0 : Nat} {Q : Int32 → Prop} (h : w_X7_length n M a0 Q) : mw_Met G l yX7_length (.code yX7_length cX7_length 3 (some .int)) { frames := 1, cells := 0, slots := 0, locals := 21 } n M [.ref a0] (fun n1 M1 v => n1 = n ∧ mw_pI M Q M1 v) (fun _ _ => False) := by
  refine mw_enter (L0 := [(0, .ref a0)]) hlt rfl rfl (plainFor_of_name (by decide)) (Nat.le_of_ble_eq_true rfl) rfl ?_
  intro Y hC0 hZ hnL hini0 hn00
  have hC : mw_C G l _ Y cX7_length RX7 := hC0
  have B4 : ∀ (r0 : Nat) (x1 : Int32) (x2 : Int32) (h : w_X7_length_b4 n M r0 x1 x2 Q), mw_J Y 0 0 n M 4 [(0, .ref r0), (1, .int x1), (2, .int x2)] [] := by
    intro r0 x1 x2 h
    obtain ⟨Inv, mu, h0, hs⟩ := h
    refine mw_loop2 (fun (x1 : Int32) (x2 : Int32) => mw_J Y 0 0 n M 4 [(0, .ref r0), (1, .int x1), (2, .int x2)] []) Inv mu (fun x1 x2 hI hrec => ?_) x1 x2 h0
    have h := hs x1 x2 hI
    refine jr_iload_n (j := 2) hC dX7_length_4 rfl rfl ?_
    refine jr_aload_n (j := 0) hC dX7_length_5 rfl rfl ?_
    obtain ⟨hc1, h⟩ := h
    refine jr_get2 hC fl_RX7_12 hc1 dX7_length_6 ?_
    obtain ⟨hc2, h⟩ := h
    refine jr_get0 hC fl_RX7_144 hc2 dX7_length_9 ?_
    obtain ⟨hthb3, hfhb3⟩ := h
    refine jr_ic_ge (tgt := 38) hC dX7_length_12 (by decide) (fun hb3 => ?_) (fun hb3 => ?_)
    · have h := hthb3 hb3
      refine jr_iload_n (j := 1) hC dX7_length_38 rfl rfl ?_
      exact jr_ireti hC hZ (by decide) (by decide) dX7_length_39 ⟨rfl, rfl, _, rfl, h⟩
    · have h := hfhb3 hb3
      refine jr_iload_n (j := 1) hC dX7_length_15 rfl rfl ?_
      refine jr_aload_n (j := 0) hC dX7_length_16 rfl rfl ?_
      refine jr_get2 hC fl_RX7_12 hc1 dX7_length_17 ?_
      refine jr_get2 hC fl_RX7_100 hc2 dX7_length_20 ?_
      refine jr_iload_n (j := 2) hC dX7_length_23 rfl rfl ?_
      obtain ⟨hc4, h⟩ := h
      obtain ⟨hc5, h⟩ := h
      refine jr_aald (t := 14) hC (by decide) (by decide) hc4 hc5 dX7_length_24 ?_
      obtain ⟨hc6, h⟩ := h
      refine jr_callV_pi (As := []) (st := [.int x1]) hC nc_RX7_131 (c_X0_end hlt h) hc6 rfl rfl ⟨⟨rfl, rfl⟩, ⟨by decide, by decide⟩, by decide, by decide⟩ (Nat.le_of_ble_eq_true rfl) dX7_length_25 (fun v7 h => ?_)
      refine jr_mmax hC tw_417 tw_418 tw_74 tw_419 (by decide) (by decide) (Nat.le_of_ble_eq_true rfl) (by decide) (by decide) dX7_length_28 ?_
      refine jr_nmI (fun v8 ev8 => ?_)
      have h := h v8 ev8
      refine jr_istore_n (L1 := [(1, .int v8), (0, .ref r0), (2, .int x2)]) hC dX7_length_31 rfl hnL (by decide) rfl ?_
      obtain ⟨v9, ev9⟩ : ∃ y : Int32, y = (x2 + (1 : Int32)) := ⟨_, rfl⟩
      have h := h v9 ev9
      refine jr_iinc (j := 2) (v := v9) (L1 := [(2, .int v9), (1, .int v8), (0, .ref r0)]) hC dX7_length_32 rfl (by rw [ev9]; rfl) hnL (by decide) rfl ?_
      refine jr_goto (tgt := 4) hC dX7_length_35 (by decide) ?_
      refine jr_sub [2, 1, 0] (L1 := [(0, .ref r0), (1, .int v8), (2, .int v9)]) rfl ?_
      exact hrec v8 v9 h
  unfold w_X7_length at h
  refine jr_iconst (v := (0 : Int32)) hC dX7_length_0 (by decide) ?_
  refine jr_istore_n (L1 := [(1, .int (0 : Int32)), (0, .ref a0)]) hC dX7_length_1 rfl hnL (by decide) rfl ?_
  refine jr_iconst (v := (0 : Int32)) hC dX7_length_2 (by decide) ?_
  refine jr_istore_n (L1 := [(2, .int (0 : Int32)), (1, .int (0 : Int32)), (0, .ref a0)]) hC dX7_length_3 rfl hnL (by decide) rfl ?_
  refine jr_sub [2, 1, 0] (L1 := [(0, .ref a0), (1, .int (0 : Int32)), (2, .int (0 : Int32))]) rfl ?_
  exact B4 a0 (0 : Int32) (0 : Int32) h
set_option maxHeartbeats 4000000 in
set_option maxRecDepth 100000 in
theorem c_X7_undo {G : mw_G} {l : Launch} (hlt : l.stackTraces = false) {n : Nat} {M : mw_M} {a0 : Nat} {Q : mw_M → Int32 → Prop} {X : mw_M → String → Prop} (h : w_X7_undo n M a0 Q X) : mw_Met G l yX7_undo (.code yX7_undo cX7_undo 2 (some .int)) { frames := 6, cells := 1, slots := 6, locals := 82 } n M [.ref a0] (fun n1 M1 v => n1 = n ∧ mw_rI Q M1 v) X := by
  refine mw_enter (L0 := [(0, .ref a0)]) hlt rfl rfl (plainFor_of_name (by decide)) (Nat.le_of_ble_eq_true rfl) rfl ?_
  intro Y hC0 hZ hnL hini0 hn00
  have hC : mw_C G l _ Y cX7_undo RX7 := hC0
  unfold w_X7_undo at h
  refine jr_aload_n (j := 0) hC dX7_undo_0 rfl rfl ?_
  obtain ⟨hc1, h⟩ := h
  refine jr_get0 hC fl_RX7_323 hc1 dX7_undo_1 ?_
  obtain ⟨hthb2, hfhb2⟩ := h
  refine jr_if_gt (tgt := 18) hC dX7_undo_4 (by decide) (fun hb2 => ?_) (fun hb2 => ?_)
  · have h := hthb2 hb2
    refine jr_aload_n (j := 0) hC dX7_undo_18 rfl rfl ?_
    refine jr_dup hC dX7_undo_19 rfl ?_
    refine jr_get0 hC fl_RX7_323 hc1 dX7_undo_20 ?_
    refine jr_iconst (v := (1 : Int32)) hC dX7_undo_23 (by decide) ?_
    refine jr_isub hC dX7_undo_24 ?_
    obtain ⟨M3, eM3⟩ : ∃ y : mw_M, y = sI M a0 3 ((mI M a0 3) - (1 : Int32)) := ⟨_, rfl⟩
    have h := h M3 eM3
    refine jr_putI hC fp_RX7_323 hc1 eM3 dX7_undo_25 ?_
    refine jr_aload_n (j := 0) hC dX7_undo_28 rfl rfl ?_
    refine jr_get2 hC fl_RX7_12 hc1 dX7_undo_29 ?_
    refine jr_nmA (fun q4 eq4 => ?_)
    have h := h q4 eq4
    refine jr_astore_n (L1 := [(1, .ref q4), (0, .ref a0)]) hC dX7_undo_32 rfl hnL (by decide) rfl ?_
    refine jr_aload_n (j := 1) hC dX7_undo_33 rfl rfl ?_
    refine jr_aload_n (j := 1) hC dX7_undo_34 rfl rfl ?_
    refine jr_get2 hC fl_RX7_19 hc1 dX7_undo_35 ?_
    refine jr_aload_n (j := 1) hC dX7_undo_38 rfl rfl ?_
    refine jr_get0 hC fl_RX7_323 hc1 dX7_undo_39 ?_
    obtain ⟨hc5, h⟩ := h
    obtain ⟨hc6, h⟩ := h
    refine jr_aald (t := 16) hC (by decide) (by decide) hc5 hc6 dX7_undo_42 ?_
    obtain ⟨M7, eM7⟩ : ∃ y : mw_M, y = sP M3 a0 0 (mP M3 (mP M3 a0 2) (Int32.toNatClampNeg (mI M3 a0 3))) := ⟨_, rfl⟩
    have h := h M7 eM7
    refine jr_putO hC fp_RX7_12 hc1 eM7 dX7_undo_43 ?_
    refine jr_aload_n (j := 1) hC dX7_undo_46 rfl rfl ?_
    refine jr_get2 hC fl_RX7_19 hc1 dX7_undo_47 ?_
    refine jr_aload_n (j := 1) hC dX7_undo_50 rfl rfl ?_
    refine jr_get0 hC fl_RX7_323 hc1 dX7_undo_51 ?_
    refine jr_aload_n (j := 0) hC dX7_undo_54 rfl rfl ?_
    obtain ⟨hc8, h⟩ := h
    obtain ⟨hc9, h⟩ := h
    obtain ⟨hc10, h⟩ := h
    obtain ⟨M11, eM11⟩ : ∃ y : mw_M, y = sP M7 (mP M7 a0 2) (Int32.toNatClampNeg (mI M7 a0 3)) q4 := ⟨_, rfl⟩
    have h := h M11 eM11
    refine jr_aast (t := 16) (tc := 5) (C9 := RX5) (T9 := TX5) hC (by decide) (by decide) rfl rfl hc8 hc9 hc10 eM11 dX7_undo_55 ?_
    refine jr_aload_n (j := 1) hC dX7_undo_56 rfl rfl ?_
    refine jr_callV_v (As := []) (st := []) hC nc_RX7_328 (c_X7_forgetDucking hlt h) hc1 rfl rfl ⟨⟨rfl, rfl⟩, ⟨by decide, by decide⟩, by decide, by decide⟩ (Nat.le_of_ble_eq_true rfl) dX7_undo_57 (fun M12 h => ?_)
    refine jr_aload_n (j := 1) hC dX7_undo_60 rfl rfl ?_
    refine jr_get0 hC fl_RX7_323 hc1 dX7_undo_61 ?_
    exact jr_ireti hC hZ (by decide) (by decide) dX7_undo_64 ⟨rfl, _, rfl, h⟩
  · have h := hfhb2 hb2
    exact jr_throwSW (names := ["java/lang/RuntimeException", "java/lang/Exception"]) hC hZ hn00 (by decide +kernel) (by decide +kernel) tw_693 tw_75 sx_RX7_326 at_RX7_213 dX7_undo_7 dX7_undo_10 dX7_undo_11 dX7_undo_14 dX7_undo_17 (by decide) (by decide) (by decide) (by decide) (by decide) (by decide) h
set_option maxHeartbeats 4000000 in
set_option maxRecDepth 100000 in
theorem c_X7_digest {G : mw_G} {l : Launch} (hlt : l.stackTraces = false) {n : Nat} {M : mw_M} {a0 : Nat} {Q : mw_M → Int64 → Prop} (h : w_X7_digest n M a0 Q) : mw_Met G l yX7_digest (.code yX7_digest cX7_digest 4 (some .long)) { frames := 7, cells := 0, slots := 0, locals := 176 } n M [.ref a0] (fun n1 M1 v => n1 = n ∧ mw_rJ Q M1 v) (fun _ _ => False) := by
  refine mw_enter (L0 := [(0, .ref a0)]) hlt rfl rfl (plainFor_of_name (by decide)) (Nat.le_of_ble_eq_true rfl) rfl ?_
  intro Y hC0 hZ hnL hini0 hn00
  have hC : mw_C G l _ Y cX7_digest RX7 := hC0
  have B66 : ∀ (M : mw_M) (r0 : Nat) (l1 : Int64) (x3 : Int32) (h : w_X7_digest_b66 n M r0 l1 x3 Q), mw_J Y 0 0 n M 66 [(0, .ref r0), (1, .long l1), (3, .int x3)] [] := by
    intro M r0 l1 x3 h
    obtain ⟨Inv, mu, h0, hs⟩ := h
    refine mw_loop3 (fun (M : mw_M) (l1 : Int64) (x3 : Int32) => mw_J Y 0 0 n M 66 [(0, .ref r0), (1, .long l1), (3, .int x3)] []) Inv mu (fun M l1 x3 hI hrec => ?_) M l1 x3 h0
    have h := hs M l1 x3 hI
    refine jr_iload_n (j := 2) hC dX7_digest_66 rfl rfl ?_
    refine jr_sipush (v := (4000 : Int32)) hC dX7_digest_67 (by decide) ?_
    obtain ⟨hthb1, hfhb1⟩ := h
    refine jr_ic_ge (tgt := 112) hC dX7_digest_70 (by decide) (fun hb1 => ?_) (fun hb1 => ?_)
    · have h := hthb1 hb1
      refine jr_lload_n (j := 1) hC dX7_digest_112 rfl rfl ?_
      exact jr_lret hC hZ (by decide) (by decide) dX7_digest_113 ⟨rfl, _, rfl, h⟩
    · have h := hfhb1 hb1
      refine jr_aload_n (j := 0) hC dX7_digest_73 rfl rfl ?_
      refine jr_aload_n (j := 0) hC dX7_digest_74 rfl rfl ?_
      obtain ⟨hc2, h⟩ := h
      refine jr_get2 hC fl_RX7_32 hc2 dX7_digest_75 ?_
      refine jr_iload_n (j := 2) hC dX7_digest_78 rfl rfl ?_
      refine jr_callV_v (As := [.ref (mP M r0 5), .int x3]) (st := []) hC nc_RX7_271 (c_X7_mixInto hlt h) hc2 rfl rfl ⟨⟨rfl, rfl⟩, ⟨by decide, by decide⟩, by decide, by decide⟩ (Nat.le_of_ble_eq_true rfl) dX7_digest_79 (fun M3 h => ?_)
      refine jr_lload_n (j := 1) hC dX7_digest_82 rfl rfl ?_
      refine jr_aload_n (j := 0) hC dX7_digest_83 rfl rfl ?_
      refine jr_get2 hC fl_RX7_32 hc2 dX7_digest_84 ?_
      obtain ⟨hc4, h⟩ := h
      refine jr_get0 hC fl_RX7_278 hc4 dX7_digest_87 ?_
      refine jr_i2l hC dX7_digest_90 ?_
      refine jr_callS_pj (As := [.long l1, .long (Int32.toInt64 (mI M3 (mP M3 r0 5) 0))]) (st := []) hC nc_RX7_333 (c_X7_hashed hlt h) rfl rfl ⟨⟨rfl, rfl⟩, ⟨by decide, by decide⟩, by decide, by decide⟩ (Nat.le_of_ble_eq_true rfl) dX7_digest_91 (fun w5 h => ?_)
      refine jr_aload_n (j := 0) hC dX7_digest_94 rfl rfl ?_
      refine jr_get2 hC fl_RX7_32 hc2 dX7_digest_95 ?_
      refine jr_get0 hC fl_RX7_275 hc4 dX7_digest_98 ?_
      refine jr_i2l hC dX7_digest_101 ?_
      refine jr_callS_pj (As := [.long w5, .long (Int32.toInt64 (mI M3 (mP M3 r0 5) 1))]) (st := []) hC nc_RX7_333 (c_X7_hashed hlt h) rfl rfl ⟨⟨rfl, rfl⟩, ⟨by decide, by decide⟩, by decide, by decide⟩ (Nat.le_of_ble_eq_true rfl) dX7_digest_102 (fun w6 h => ?_)
      refine jr_lstore_n (L1 := [(1, .long w6), (0, .ref r0), (3, .int x3)]) hC dX7_digest_105 rfl hnL (by decide) rfl ?_
      obtain ⟨v7, ev7⟩ : ∃ y : Int32, y = (x3 + (50 : Int32)) := ⟨_, rfl⟩
      have h := h v7 ev7
      refine jr_iinc (j := 2) (v := v7) (L1 := [(3, .int v7), (1, .long w6), (0, .ref r0)]) hC dX7_digest_106 rfl (by rw [ev7]; rfl) hnL (by decide) rfl ?_
      refine jr_goto (tgt := 66) hC dX7_digest_109 (by decide) ?_
      refine jr_sub [2, 1, 0] (L1 := [(0, .ref r0), (1, .long w6), (3, .int v7)]) rfl ?_
      exact hrec M3 w6 v7 h
  have B39 : ∀ (M : mw_M) (r0 : Nat) (l1 : Int64) (x3 : Int32) (h : w_X7_digest_b39 n M r0 l1 x3 Q), mw_J Y 0 0 n M 39 [(0, .ref r0), (1, .long l1), (3, .int x3)] [] := by
    intro M r0 l1 x3 h
    obtain ⟨Inv, mu, h0, hs⟩ := h
    refine mw_loop3 (fun (M : mw_M) (l1 : Int64) (x3 : Int32) => mw_J Y 0 0 n M 39 [(0, .ref r0), (1, .long l1), (3, .int x3)] []) Inv mu (fun M l1 x3 hI hrec => ?_) M l1 x3 h0
    have h := hs M l1 x3 hI
    refine jr_iload_n (j := 2) hC dX7_digest_39 rfl rfl ?_
    refine jr_iconst (v := (4 : Int32)) hC dX7_digest_40 (by decide) ?_
    obtain ⟨hthb8, hfhb8⟩ := h
    refine jr_ic_ge (tgt := 64) hC dX7_digest_41 (by decide) (fun hb8 => ?_) (fun hb8 => ?_)
    · have h := hthb8 hb8
      refine jr_iconst (v := (0 : Int32)) hC dX7_digest_64 (by decide) ?_
      refine jr_istore_n (L1 := [(3, .int (0 : Int32)), (0, .ref r0), (1, .long l1)]) hC dX7_digest_65 rfl hnL (by decide) rfl ?_
      refine jr_sub [1, 2, 0] (L1 := [(0, .ref r0), (1, .long l1), (3, .int (0 : Int32))]) rfl ?_
      exact B66 M r0 l1 (0 : Int32) h
    · have h := hfhb8 hb8
      refine jr_aload_n (j := 0) hC dX7_digest_44 rfl rfl ?_
      obtain ⟨hc9, h⟩ := h
      refine jr_get2 hC fl_RX7_12 hc9 dX7_digest_45 ?_
      obtain ⟨hc10, h⟩ := h
      refine jr_get2 hC fl_RX7_179 hc10 dX7_digest_48 ?_
      refine jr_iload_n (j := 2) hC dX7_digest_51 rfl rfl ?_
      obtain ⟨hc11, h⟩ := h
      obtain ⟨hc12, h⟩ := h
      refine jr_aald (t := 15) hC (by decide) (by decide) hc11 hc12 dX7_digest_52 ?_
      refine jr_lload_n (j := 1) hC dX7_digest_53 rfl rfl ?_
      obtain ⟨hc13, h⟩ := h
      refine jr_callV_pj (As := [.long l1]) (st := []) hC nc_RX7_347 (c_X6_hashTrack hlt h) hc13 rfl rfl ⟨⟨rfl, rfl⟩, ⟨by decide, by decide⟩, by decide, by decide⟩ (Nat.le_of_ble_eq_true rfl) dX7_digest_54 (fun w14 h => ?_)
      refine jr_lstore_n (L1 := [(1, .long w14), (0, .ref r0), (3, .int x3)]) hC dX7_digest_57 rfl hnL (by decide) rfl ?_
      obtain ⟨v15, ev15⟩ : ∃ y : Int32, y = (x3 + (1 : Int32)) := ⟨_, rfl⟩
      have h := h v15 ev15
      refine jr_iinc (j := 2) (v := v15) (L1 := [(3, .int v15), (1, .long w14), (0, .ref r0)]) hC dX7_digest_58 rfl (by rw [ev15]; rfl) hnL (by decide) rfl ?_
      refine jr_goto (tgt := 39) hC dX7_digest_61 (by decide) ?_
      refine jr_sub [2, 1, 0] (L1 := [(0, .ref r0), (1, .long w14), (3, .int v15)]) rfl ?_
      exact hrec M w14 v15 h
  unfold w_X7_digest at h
  refine jr_ldc2 (v := (18363 : Int64)) hC tw_424 dX7_digest_0 ?_
  refine jr_aload_n (j := 0) hC dX7_digest_3 rfl rfl ?_
  obtain ⟨hc16, h⟩ := h
  refine jr_get0 hC fl_RX7_323 hc16 dX7_digest_4 ?_
  refine jr_i2l hC dX7_digest_7 ?_
  refine jr_callS_pj (As := [.long (18363 : Int64), .long (Int32.toInt64 (mI M a0 3))]) (st := []) hC nc_RX7_333 (c_X7_hashed hlt h) rfl rfl ⟨⟨rfl, rfl⟩, ⟨by decide, by decide⟩, by decide, by decide⟩ (Nat.le_of_ble_eq_true rfl) dX7_digest_8 (fun w17 h => ?_)
  refine jr_lstore_n (L1 := [(1, .long w17), (0, .ref a0)]) hC dX7_digest_11 rfl hnL (by decide) rfl ?_
  refine jr_aload_n (j := 1) hC dX7_digest_12 rfl rfl ?_
  refine jr_get2 hC fl_RX7_12 hc16 dX7_digest_13 ?_
  refine jr_lload_n (j := 0) hC dX7_digest_16 rfl rfl ?_
  obtain ⟨hc18, h⟩ := h
  refine jr_callV_pj (As := [.long w17]) (st := []) hC nc_RX7_337 (c_X5_hashTransport hlt h) hc18 rfl rfl ⟨⟨rfl, rfl⟩, ⟨by decide, by decide⟩, by decide, by decide⟩ (Nat.le_of_ble_eq_true rfl) dX7_digest_17 (fun w19 h => ?_)
  refine jr_lstore_n (L1 := [(1, .long w19), (0, .ref a0)]) hC dX7_digest_20 rfl hnL (by decide) rfl ?_
  refine jr_aload_n (j := 1) hC dX7_digest_21 rfl rfl ?_
  refine jr_get2 hC fl_RX7_12 hc16 dX7_digest_22 ?_
  refine jr_aload_n (j := 1) hC dX7_digest_25 rfl rfl ?_
  refine jr_get2 hC fl_RX7_12 hc16 dX7_digest_26 ?_
  refine jr_lload_n (j := 0) hC dX7_digest_29 rfl rfl ?_
  refine jr_callV_pj (As := [.long w19]) (st := [.ref (mP M a0 0)]) hC nc_RX7_341 (c_X5_hashSources hlt h) hc18 rfl rfl ⟨⟨rfl, rfl⟩, ⟨by decide, by decide⟩, by decide, by decide⟩ (Nat.le_of_ble_eq_true rfl) dX7_digest_30 (fun w20 h => ?_)
  refine jr_callV_pj (As := [.long w20]) (st := []) hC nc_RX7_344 (c_X5_hashClips hlt h) hc18 rfl rfl ⟨⟨rfl, rfl⟩, ⟨by decide, by decide⟩, by decide, by decide⟩ (Nat.le_of_ble_eq_true rfl) dX7_digest_33 (fun w21 h => ?_)
  refine jr_lstore_n (L1 := [(1, .long w21), (0, .ref a0)]) hC dX7_digest_36 rfl hnL (by decide) rfl ?_
  refine jr_iconst (v := (0 : Int32)) hC dX7_digest_37 (by decide) ?_
  refine jr_istore_n (L1 := [(3, .int (0 : Int32)), (1, .long w21), (0, .ref a0)]) hC dX7_digest_38 rfl hnL (by decide) rfl ?_
  refine jr_sub [2, 1, 0] (L1 := [(0, .ref a0), (1, .long w21), (3, .int (0 : Int32))]) rfl ?_
  exact B39 M a0 w21 (0 : Int32) h
