set_option maxHeartbeats 4000000 in
set_option maxRecDepth 100000 in
theorem c_X0_init {G : mw_G} {l : Launch} (hlt : l.stackTraces = false) {n : Nat} {M : mw_M} {a0 : Nat} {Q : mw_M → Prop} (h : w_X0_init n M a0 Q) : mw_Met G l yX0_init (.code yX0_init cX0_init 1 none) { frames := 1, cells := 0, slots := 0, locals := 12 } n M [.ref a0] (fun n1 M1 v => n1 = n ∧ mw_rV Q M1 v) (fun _ _ => False) := by
  refine mw_enter (L0 := [(0, .ref a0)]) hlt rfl rfl (plainFor_of_name (by decide)) (Nat.le_of_ble_eq_true rfl) rfl ?_
  intro Y hC0 hZ hnL hini0 hn00
  have hC : mw_C G l _ Y cX0_init RX0 := hC0
  have hini : mw_init Y := hini0 rfl
  unfold w_X0_init at h
  refine jr_aload_n (j := 0) hC dX0_init_0 rfl rfl ?_
  obtain ⟨hc1, h⟩ := h
  refine jr_objinit hC hc1 tw_148 tw_83 tw_84 (by decide) (by decide) dX0_init_1 ?_
  exact jr_vret hC hZ (by decide) (by decide) dX0_init_4 ⟨rfl, rfl, h⟩
set_option maxHeartbeats 4000000 in
set_option maxRecDepth 100000 in
theorem c_X0_fade {G : mw_G} {l : Launch} (hlt : l.stackTraces = false) {n : Nat} {M : mw_M} {a0 : Nat} {x1 : Int32} {x2 : Int32} {x3 : Int32} {Q : mw_M → Prop} (h : w_X0_fade n M a0 x1 x2 x3 Q) : mw_Met G l yX0_fade (.code yX0_fade cX0_fade 4 none) { frames := 0, cells := 0, slots := 0, locals := 0 } n M [.ref a0, .int x1, .int x2, .int x3] (fun n1 M1 v => n1 = n ∧ mw_rV Q M1 v) (fun _ _ => False) := by
  refine mw_enter (L0 := [(0, .ref a0), (1, .int x1), (2, .int x2), (3, .int x3)]) hlt rfl rfl (plainFor_of_name (by decide)) (Nat.le_of_ble_eq_true rfl) rfl ?_
  intro Y hC0 hZ hnL hini0 hn00
  have hC : mw_C G l _ Y cX0_fade RX0 := hC0
  unfold w_X0_fade at h
  refine jr_aload_n (j := 0) hC dX0_fade_0 rfl rfl ?_
  refine jr_iload_n (j := 1) hC dX0_fade_1 rfl rfl ?_
  obtain ⟨hc1, h⟩ := h
  obtain ⟨M2, eM2⟩ : ∃ y : mw_M, y = sI M a0 6 x1 := ⟨_, rfl⟩
  have h := h M2 eM2
  refine jr_putI hC fp_RX0_9 hc1 eM2 dX0_fade_2 ?_
  refine jr_aload_n (j := 0) hC dX0_fade_5 rfl rfl ?_
  refine jr_iload_n (j := 2) hC dX0_fade_6 rfl rfl ?_
  obtain ⟨M3, eM3⟩ : ∃ y : mw_M, y = sI M2 a0 7 x2 := ⟨_, rfl⟩
  have h := h M3 eM3
  refine jr_putI hC fp_RX0_15 hc1 eM3 dX0_fade_7 ?_
  refine jr_aload_n (j := 0) hC dX0_fade_10 rfl rfl ?_
  refine jr_iload_n (j := 3) hC dX0_fade_11 rfl rfl ?_
  obtain ⟨M4, eM4⟩ : ∃ y : mw_M, y = sI M3 a0 8 x3 := ⟨_, rfl⟩
  have h := h M4 eM4
  refine jr_putI hC fp_RX0_18 hc1 eM4 dX0_fade_12 ?_
  exact jr_vret hC hZ (by decide) (by decide) dX0_fade_15 ⟨rfl, rfl, h⟩
set_option maxHeartbeats 4000000 in
set_option maxRecDepth 100000 in
theorem c_X0_place {G : mw_G} {l : Launch} (hlt : l.stackTraces = false) {n : Nat} {M : mw_M} {a0 : Nat} {x1 : Int32} {x2 : Int32} {x3 : Int32} {Q : mw_M → Prop} (h : w_X0_place n M a0 x1 x2 x3 Q) : mw_Met G l yX0_place (.code yX0_place cX0_place 4 none) { frames := 0, cells := 0, slots := 0, locals := 0 } n M [.ref a0, .int x1, .int x2, .int x3] (fun n1 M1 v => n1 = n ∧ mw_rV Q M1 v) (fun _ _ => False) := by
  refine mw_enter (L0 := [(0, .ref a0), (1, .int x1), (2, .int x2), (3, .int x3)]) hlt rfl rfl (plainFor_of_name (by decide)) (Nat.le_of_ble_eq_true rfl) rfl ?_
  intro Y hC0 hZ hnL hini0 hn00
  have hC : mw_C G l _ Y cX0_place RX0 := hC0
  unfold w_X0_place at h
  refine jr_aload_n (j := 0) hC dX0_place_0 rfl rfl ?_
  refine jr_iload_n (j := 1) hC dX0_place_1 rfl rfl ?_
  obtain ⟨hc1, h⟩ := h
  obtain ⟨M2, eM2⟩ : ∃ y : mw_M, y = sI M a0 0 x1 := ⟨_, rfl⟩
  have h := h M2 eM2
  refine jr_putI hC fp_RX0_21 hc1 eM2 dX0_place_2 ?_
  refine jr_aload_n (j := 0) hC dX0_place_5 rfl rfl ?_
  refine jr_iload_n (j := 2) hC dX0_place_6 rfl rfl ?_
  obtain ⟨M3, eM3⟩ : ∃ y : mw_M, y = sI M2 a0 2 x2 := ⟨_, rfl⟩
  have h := h M3 eM3
  refine jr_putI hC fp_RX0_24 hc1 eM3 dX0_place_7 ?_
  refine jr_aload_n (j := 0) hC dX0_place_10 rfl rfl ?_
  refine jr_iload_n (j := 3) hC dX0_place_11 rfl rfl ?_
  obtain ⟨M4, eM4⟩ : ∃ y : mw_M, y = sI M3 a0 4 x3 := ⟨_, rfl⟩
  have h := h M4 eM4
  refine jr_putI hC fp_RX0_27 hc1 eM4 dX0_place_12 ?_
  exact jr_vret hC hZ (by decide) (by decide) dX0_place_15 ⟨rfl, rfl, h⟩
set_option maxHeartbeats 4000000 in
set_option maxRecDepth 100000 in
theorem c_X0_play {G : mw_G} {l : Launch} (hlt : l.stackTraces = false) {n : Nat} {M : mw_M} {a0 : Nat} {x1 : Int32} {x2 : Int32} {x3 : Int32} {Q : mw_M → Prop} (h : w_X0_play n M a0 x1 x2 x3 Q) : mw_Met G l yX0_play (.code yX0_play cX0_play 4 none) { frames := 0, cells := 0, slots := 0, locals := 0 } n M [.ref a0, .int x1, .int x2, .int x3] (fun n1 M1 v => n1 = n ∧ mw_rV Q M1 v) (fun _ _ => False) := by
  refine mw_enter (L0 := [(0, .ref a0), (1, .int x1), (2, .int x2), (3, .int x3)]) hlt rfl rfl (plainFor_of_name (by decide)) (Nat.le_of_ble_eq_true rfl) rfl ?_
  intro Y hC0 hZ hnL hini0 hn00
  have hC : mw_C G l _ Y cX0_play RX0 := hC0
  unfold w_X0_play at h
  refine jr_aload_n (j := 0) hC dX0_play_0 rfl rfl ?_
  refine jr_iload_n (j := 1) hC dX0_play_1 rfl rfl ?_
  obtain ⟨hc1, h⟩ := h
  obtain ⟨M2, eM2⟩ : ∃ y : mw_M, y = sI M a0 1 x1 := ⟨_, rfl⟩
  have h := h M2 eM2
  refine jr_putI hC fp_RX0_30 hc1 eM2 dX0_play_2 ?_
  refine jr_aload_n (j := 0) hC dX0_play_5 rfl rfl ?_
  refine jr_iload_n (j := 2) hC dX0_play_6 rfl rfl ?_
  obtain ⟨M3, eM3⟩ : ∃ y : mw_M, y = sI M2 a0 3 x2 := ⟨_, rfl⟩
  have h := h M3 eM3
  refine jr_putI hC fp_RX0_33 hc1 eM3 dX0_play_7 ?_
  refine jr_aload_n (j := 0) hC dX0_play_10 rfl rfl ?_
  refine jr_iload_n (j := 3) hC dX0_play_11 rfl rfl ?_
  obtain ⟨M4, eM4⟩ : ∃ y : mw_M, y = sI M3 a0 5 x3 := ⟨_, rfl⟩
  have h := h M4 eM4
  refine jr_putI hC fp_RX0_36 hc1 eM4 dX0_play_12 ?_
  exact jr_vret hC hZ (by decide) (by decide) dX0_play_15 ⟨rfl, rfl, h⟩
set_option maxHeartbeats 4000000 in
set_option maxRecDepth 100000 in
theorem c_X0_takeFrom {G : mw_G} {l : Launch} (hlt : l.stackTraces = false) {n : Nat} {M : mw_M} {a0 : Nat} {a1 : Nat} {Q : mw_M → Prop} (h : w_X0_takeFrom n M a0 a1 Q) : mw_Met G l yX0_takeFrom (.code yX0_takeFrom cX0_takeFrom 2 none) { frames := 1, cells := 0, slots := 0, locals := 23 } n M [.ref a0, .ref a1] (fun n1 M1 v => n1 = n ∧ mw_rV Q M1 v) (fun _ _ => False) := by
  refine mw_enter (L0 := [(0, .ref a0), (1, .ref a1)]) hlt rfl rfl (plainFor_of_name (by decide)) (Nat.le_of_ble_eq_true rfl) rfl ?_
  intro Y hC0 hZ hnL hini0 hn00
  have hC : mw_C G l _ Y cX0_takeFrom RX0 := hC0
  unfold w_X0_takeFrom at h
  refine jr_aload_n (j := 0) hC dX0_takeFrom_0 rfl rfl ?_
  refine jr_aload_n (j := 1) hC dX0_takeFrom_1 rfl rfl ?_
  obtain ⟨hc1, h⟩ := h
  refine jr_get0 hC fl_RX0_21 hc1 dX0_takeFrom_2 ?_
  refine jr_aload_n (j := 1) hC dX0_takeFrom_5 rfl rfl ?_
  refine jr_get0 hC fl_RX0_24 hc1 dX0_takeFrom_6 ?_
  refine jr_aload_n (j := 1) hC dX0_takeFrom_9 rfl rfl ?_
  refine jr_get0 hC fl_RX0_27 hc1 dX0_takeFrom_10 ?_
  obtain ⟨hc2, h⟩ := h
  refine jr_callV_v (As := [.int (mI M a1 0), .int (mI M a1 2), .int (mI M a1 4)]) (st := []) hC nc_RX0_39 (c_X0_place hlt h) hc2 rfl rfl ⟨⟨rfl, rfl⟩, ⟨by decide, by decide⟩, by decide, by decide⟩ (Nat.le_of_ble_eq_true rfl) dX0_takeFrom_13 (fun M3 h => ?_)
  refine jr_aload_n (j := 0) hC dX0_takeFrom_16 rfl rfl ?_
  refine jr_aload_n (j := 1) hC dX0_takeFrom_17 rfl rfl ?_
  refine jr_get0 hC fl_RX0_30 hc1 dX0_takeFrom_18 ?_
  refine jr_aload_n (j := 1) hC dX0_takeFrom_21 rfl rfl ?_
  refine jr_get0 hC fl_RX0_33 hc1 dX0_takeFrom_22 ?_
  refine jr_aload_n (j := 1) hC dX0_takeFrom_25 rfl rfl ?_
  refine jr_get0 hC fl_RX0_36 hc1 dX0_takeFrom_26 ?_
  refine jr_callV_v (As := [.int (mI M3 a1 1), .int (mI M3 a1 3), .int (mI M3 a1 5)]) (st := []) hC nc_RX0_43 (c_X0_play hlt h) hc2 rfl rfl ⟨⟨rfl, rfl⟩, ⟨by decide, by decide⟩, by decide, by decide⟩ (Nat.le_of_ble_eq_true rfl) dX0_takeFrom_29 (fun M4 h => ?_)
  refine jr_aload_n (j := 0) hC dX0_takeFrom_32 rfl rfl ?_
  refine jr_aload_n (j := 1) hC dX0_takeFrom_33 rfl rfl ?_
  refine jr_get0 hC fl_RX0_9 hc1 dX0_takeFrom_34 ?_
  refine jr_aload_n (j := 1) hC dX0_takeFrom_37 rfl rfl ?_
  refine jr_get0 hC fl_RX0_15 hc1 dX0_takeFrom_38 ?_
  refine jr_aload_n (j := 1) hC dX0_takeFrom_41 rfl rfl ?_
  refine jr_get0 hC fl_RX0_18 hc1 dX0_takeFrom_42 ?_
  refine jr_callV_v (As := [.int (mI M4 a1 6), .int (mI M4 a1 7), .int (mI M4 a1 8)]) (st := []) hC nc_RX0_46 (c_X0_fade hlt h) hc2 rfl rfl ⟨⟨rfl, rfl⟩, ⟨by decide, by decide⟩, by decide, by decide⟩ (Nat.le_of_ble_eq_true rfl) dX0_takeFrom_45 (fun M5 h => ?_)
  exact jr_vret hC hZ (by decide) (by decide) dX0_takeFrom_48 ⟨rfl, rfl, h⟩
set_option maxHeartbeats 4000000 in
set_option maxRecDepth 100000 in
theorem c_X0_end {G : mw_G} {l : Launch} (hlt : l.stackTraces = false) {n : Nat} {M : mw_M} {a0 : Nat} {Q : Int32 → Prop} (h : w_X0_end n M a0 Q) : mw_Met G l yX0_end (.code yX0_end cX0_end 1 (some .int)) { frames := 0, cells := 0, slots := 0, locals := 0 } n M [.ref a0] (fun n1 M1 v => n1 = n ∧ mw_pI M Q M1 v) (fun _ _ => False) := by
  refine mw_enter (L0 := [(0, .ref a0)]) hlt rfl rfl (plainFor_of_name (by decide)) (Nat.le_of_ble_eq_true rfl) rfl ?_
  intro Y hC0 hZ hnL hini0 hn00
  have hC : mw_C G l _ Y cX0_end RX0 := hC0
  unfold w_X0_end at h
  refine jr_aload_n (j := 0) hC dX0_end_0 rfl rfl ?_
  obtain ⟨hc1, h⟩ := h
  refine jr_get0 hC fl_RX0_24 hc1 dX0_end_1 ?_
  refine jr_aload_n (j := 0) hC dX0_end_4 rfl rfl ?_
  refine jr_get0 hC fl_RX0_27 hc1 dX0_end_5 ?_
  refine jr_iadd hC dX0_end_8 ?_
  exact jr_ireti hC hZ (by decide) (by decide) dX0_end_9 ⟨rfl, rfl, _, rfl, h⟩
set_option maxHeartbeats 4000000 in
set_option maxRecDepth 100000 in
theorem c_X0_covers {G : mw_G} {l : Launch} (hlt : l.stackTraces = false) {n : Nat} {M : mw_M} {a0 : Nat} {x1 : Int32} {Q : Int32 → Prop} (h : w_X0_covers n M a0 x1 Q) : mw_Met G l yX0_covers (.code yX0_covers cX0_covers 2 (some .boolean)) { frames := 0, cells := 0, slots := 0, locals := 0 } n M [.ref a0, .int x1] (fun n1 M1 v => n1 = n ∧ mw_pI M Q M1 v) (fun _ _ => False) := by
  refine mw_enter (L0 := [(0, .ref a0), (1, .int x1)]) hlt rfl rfl (plainFor_of_name (by decide)) (Nat.le_of_ble_eq_true rfl) rfl ?_
  intro Y hC0 hZ hnL hini0 hn00
  have hC : mw_C G l _ Y cX0_covers RX0 := hC0
  have B26 : ∀ (s0 : Int32) (h : w_X0_covers_b26 n M s0 Q), mw_J Y 0 0 n M 26 [] [.int s0] := by
    intro s0 h
    unfold w_X0_covers_b26 at h
    obtain ⟨hc1, h⟩ := h
    exact jr_iretz hC hZ (by decide) (by decide) hc1 dX0_covers_26 ⟨rfl, rfl, _, rfl, h⟩
  have B25 : (w_X0_covers_b25 n M Q) → mw_J Y 0 0 n M 25 [] [] := by
    intro  h
    unfold w_X0_covers_b25 at h
    refine jr_iconst (v := (0 : Int32)) hC dX0_covers_25 (by decide) ?_
    exact B26 (0 : Int32) h
  unfold w_X0_covers at h
  refine jr_iload_n (j := 1) hC dX0_covers_0 rfl rfl ?_
  refine jr_aload_n (j := 0) hC dX0_covers_1 rfl rfl ?_
  obtain ⟨hc2, h⟩ := h
  refine jr_get0 hC fl_RX0_24 hc2 dX0_covers_2 ?_
  obtain ⟨hthb3, hfhb3⟩ := h
  refine jr_ic_lt (tgt := 25) hC dX0_covers_5 (by decide) (fun hb3 => ?_) (fun hb3 => ?_)
  · have h := hthb3 hb3
    refine jr_sub [] (L1 := []) rfl ?_
    exact B25 h
  · have h := hfhb3 hb3
    refine jr_iload_n (j := 1) hC dX0_covers_8 rfl rfl ?_
    refine jr_aload_n (j := 0) hC dX0_covers_9 rfl rfl ?_
    refine jr_get0 hC fl_RX0_24 hc2 dX0_covers_10 ?_
    refine jr_aload_n (j := 0) hC dX0_covers_13 rfl rfl ?_
    refine jr_get0 hC fl_RX0_27 hc2 dX0_covers_14 ?_
    refine jr_iadd hC dX0_covers_17 ?_
    obtain ⟨hthb4, hfhb4⟩ := h
    refine jr_ic_ge (tgt := 25) hC dX0_covers_18 (by decide) (fun hb4 => ?_) (fun hb4 => ?_)
    · have h := hthb4 hb4
      refine jr_sub [] (L1 := []) rfl ?_
      exact B25 h
    · have h := hfhb4 hb4
      refine jr_iconst (v := (1 : Int32)) hC dX0_covers_21 (by decide) ?_
      refine jr_goto (tgt := 26) hC dX0_covers_22 (by decide) ?_
      refine jr_sub [] (L1 := []) rfl ?_
      exact B26 (1 : Int32) h
set_option maxHeartbeats 4000000 in
set_option maxRecDepth 100000 in
theorem c_X0_isBefore {G : mw_G} {l : Launch} (hlt : l.stackTraces = false) {n : Nat} {M : mw_M} {a0 : Nat} {a1 : Nat} {Q : Int32 → Prop} (h : w_X0_isBefore n M a0 a1 Q) : mw_Met G l yX0_isBefore (.code yX0_isBefore cX0_isBefore 2 (some .boolean)) { frames := 0, cells := 0, slots := 0, locals := 0 } n M [.ref a0, .ref a1] (fun n1 M1 v => n1 = n ∧ mw_pI M Q M1 v) (fun _ _ => False) := by
  refine mw_enter (L0 := [(0, .ref a0), (1, .ref a1)]) hlt rfl rfl (plainFor_of_name (by decide)) (Nat.le_of_ble_eq_true rfl) rfl ?_
  intro Y hC0 hZ hnL hini0 hn00
  have hC : mw_C G l _ Y cX0_isBefore RX0 := hC0
  have B46 : ∀ (s0 : Int32) (h : w_X0_isBefore_b46 n M s0 Q), mw_J Y 0 0 n M 46 [] [.int s0] := by
    intro s0 h
    unfold w_X0_isBefore_b46 at h
    obtain ⟨hc1, h⟩ := h
    exact jr_iretz hC hZ (by decide) (by decide) hc1 dX0_isBefore_46 ⟨rfl, rfl, _, rfl, h⟩
  unfold w_X0_isBefore at h
  refine jr_aload_n (j := 0) hC dX0_isBefore_0 rfl rfl ?_
  obtain ⟨hc2, h⟩ := h
  refine jr_get0 hC fl_RX0_21 hc2 dX0_isBefore_1 ?_
  refine jr_aload_n (j := 1) hC dX0_isBefore_4 rfl rfl ?_
  obtain ⟨hc3, h⟩ := h
  refine jr_get0 hC fl_RX0_21 hc3 dX0_isBefore_5 ?_
  obtain ⟨hthb4, hfhb4⟩ := h
  refine jr_ic_eq (tgt := 30) hC dX0_isBefore_8 (by decide) (fun hb4 => ?_) (fun hb4 => ?_)
  · have h := hthb4 hb4
    refine jr_aload_n (j := 0) hC dX0_isBefore_30 rfl rfl ?_
    refine jr_get0 hC fl_RX0_24 hc2 dX0_isBefore_31 ?_
    refine jr_aload_n (j := 1) hC dX0_isBefore_34 rfl rfl ?_
    refine jr_get0 hC fl_RX0_24 hc3 dX0_isBefore_35 ?_
    obtain ⟨hthb5, hfhb5⟩ := h
    refine jr_ic_ge (tgt := 45) hC dX0_isBefore_38 (by decide) (fun hb5 => ?_) (fun hb5 => ?_)
    · have h := hthb5 hb5
      refine jr_iconst (v := (0 : Int32)) hC dX0_isBefore_45 (by decide) ?_
      refine jr_sub [] (L1 := []) rfl ?_
      exact B46 (0 : Int32) h
    · have h := hfhb5 hb5
      refine jr_iconst (v := (1 : Int32)) hC dX0_isBefore_41 (by decide) ?_
      refine jr_goto (tgt := 46) hC dX0_isBefore_42 (by decide) ?_
      refine jr_sub [] (L1 := []) rfl ?_
      exact B46 (1 : Int32) h
  · have h := hfhb4 hb4
    refine jr_aload_n (j := 0) hC dX0_isBefore_11 rfl rfl ?_
    refine jr_get0 hC fl_RX0_21 hc2 dX0_isBefore_12 ?_
    refine jr_aload_n (j := 1) hC dX0_isBefore_15 rfl rfl ?_
    refine jr_get0 hC fl_RX0_21 hc3 dX0_isBefore_16 ?_
    obtain ⟨hthb6, hfhb6⟩ := h
    refine jr_ic_ge (tgt := 26) hC dX0_isBefore_19 (by decide) (fun hb6 => ?_) (fun hb6 => ?_)
    · have h := hthb6 hb6
      refine jr_iconst (v := (0 : Int32)) hC dX0_isBefore_26 (by decide) ?_
      refine jr_goto (tgt := 46) hC dX0_isBefore_27 (by decide) ?_
      refine jr_sub [] (L1 := []) rfl ?_
      exact B46 (0 : Int32) h
    · have h := hfhb6 hb6
      refine jr_iconst (v := (1 : Int32)) hC dX0_isBefore_22 (by decide) ?_
      refine jr_goto (tgt := 46) hC dX0_isBefore_23 (by decide) ?_
      refine jr_sub [] (L1 := []) rfl ?_
      exact B46 (1 : Int32) h
set_option maxHeartbeats 4000000 in
set_option maxRecDepth 100000 in
theorem c_X0_trim {G : mw_G} {l : Launch} (hlt : l.stackTraces = false) {n : Nat} {M : mw_M} {a0 : Nat} {x1 : Int32} {x2 : Int32} {Q : mw_M → Prop} (h : w_X0_trim n M a0 x1 x2 Q) : mw_Met G l yX0_trim (.code yX0_trim cX0_trim 3 none) { frames := 1, cells := 0, slots := 0, locals := 21 } n M [.ref a0, .int x1, .int x2] (fun n1 M1 v => n1 = n ∧ mw_rV Q M1 v) (fun _ _ => False) := by
  refine mw_enter (L0 := [(0, .ref a0), (1, .int x1), (2, .int x2)]) hlt rfl rfl (plainFor_of_name (by decide)) (Nat.le_of_ble_eq_true rfl) rfl ?_
  intro Y hC0 hZ hnL hini0 hn00
  have hC : mw_C G l _ Y cX0_trim RX0 := hC0
  unfold w_X0_trim at h
  refine jr_aload_n (j := 0) hC dX0_trim_0 rfl rfl ?_
  refine jr_dup hC dX0_trim_1 rfl ?_
  obtain ⟨hc1, h⟩ := h
  refine jr_get0 hC fl_RX0_24 hc1 dX0_trim_2 ?_
  refine jr_iload_n (j := 1) hC dX0_trim_5 rfl rfl ?_
  refine jr_iadd hC dX0_trim_6 ?_
  obtain ⟨M2, eM2⟩ : ∃ y : mw_M, y = sI M a0 2 ((mI M a0 2) + x1) := ⟨_, rfl⟩
  have h := h M2 eM2
  refine jr_putI hC fp_RX0_24 hc1 eM2 dX0_trim_7 ?_
  refine jr_aload_n (j := 0) hC dX0_trim_10 rfl rfl ?_
  refine jr_dup hC dX0_trim_11 rfl ?_
  refine jr_get0 hC fl_RX0_33 hc1 dX0_trim_12 ?_
  refine jr_iload_n (j := 1) hC dX0_trim_15 rfl rfl ?_
  refine jr_iadd hC dX0_trim_16 ?_
  obtain ⟨M3, eM3⟩ : ∃ y : mw_M, y = sI M2 a0 3 ((mI M2 a0 3) + x1) := ⟨_, rfl⟩
  have h := h M3 eM3
  refine jr_putI hC fp_RX0_33 hc1 eM3 dX0_trim_17 ?_
  refine jr_aload_n (j := 0) hC dX0_trim_20 rfl rfl ?_
  refine jr_dup hC dX0_trim_21 rfl ?_
  refine jr_get0 hC fl_RX0_27 hc1 dX0_trim_22 ?_
  refine jr_iload_n (j := 1) hC dX0_trim_25 rfl rfl ?_
  refine jr_iload_n (j := 2) hC dX0_trim_26 rfl rfl ?_
  refine jr_iadd hC dX0_trim_27 ?_
  refine jr_isub hC dX0_trim_28 ?_
  obtain ⟨M4, eM4⟩ : ∃ y : mw_M, y = sI M3 a0 4 ((mI M3 a0 4) - (x1 + x2)) := ⟨_, rfl⟩
  have h := h M4 eM4
  refine jr_putI hC fp_RX0_27 hc1 eM4 dX0_trim_29 ?_
  refine jr_aload_n (j := 0) hC dX0_trim_32 rfl rfl ?_
  refine jr_aload_n (j := 0) hC dX0_trim_33 rfl rfl ?_
  refine jr_get0 hC fl_RX0_9 hc1 dX0_trim_34 ?_
  refine jr_aload_n (j := 0) hC dX0_trim_37 rfl rfl ?_
  refine jr_get0 hC fl_RX0_27 hc1 dX0_trim_38 ?_
  refine jr_mmin hC tw_786 tw_533 tw_74 tw_534 (by decide) (by decide) (Nat.le_of_ble_eq_true rfl) (by decide) (by decide) dX0_trim_41 ?_
  refine jr_nmI (fun v5 ev5 => ?_)
  have h := h v5 ev5
  obtain ⟨M6, eM6⟩ : ∃ y : mw_M, y = sI M4 a0 6 v5 := ⟨_, rfl⟩
  have h := h M6 eM6
  refine jr_putI hC fp_RX0_9 hc1 eM6 dX0_trim_44 ?_
  refine jr_aload_n (j := 0) hC dX0_trim_47 rfl rfl ?_
  refine jr_aload_n (j := 0) hC dX0_trim_48 rfl rfl ?_
  refine jr_get0 hC fl_RX0_15 hc1 dX0_trim_49 ?_
  refine jr_aload_n (j := 0) hC dX0_trim_52 rfl rfl ?_
  refine jr_get0 hC fl_RX0_27 hc1 dX0_trim_53 ?_
  refine jr_mmin hC tw_786 tw_533 tw_74 tw_534 (by decide) (by decide) (Nat.le_of_ble_eq_true rfl) (by decide) (by decide) dX0_trim_56 ?_
  refine jr_nmI (fun v7 ev7 => ?_)
  have h := h v7 ev7
  obtain ⟨M8, eM8⟩ : ∃ y : mw_M, y = sI M6 a0 7 v7 := ⟨_, rfl⟩
  have h := h M8 eM8
  refine jr_putI hC fp_RX0_15 hc1 eM8 dX0_trim_59 ?_
  exact jr_vret hC hZ (by decide) (by decide) dX0_trim_62 ⟨rfl, rfl, h⟩
set_option maxHeartbeats 4000000 in
set_option maxRecDepth 100000 in
theorem c_X0_loseStretch {G : mw_G} {l : Launch} (hlt : l.stackTraces = false) {n : Nat} {M : mw_M} {a0 : Nat} {x1 : Int32} {x2 : Int32} {Q : mw_M → Prop} (h : w_X0_loseStretch n M a0 x1 x2 Q) : mw_Met G l yX0_loseStretch (.code yX0_loseStretch cX0_loseStretch 3 none) { frames := 2, cells := 0, slots := 0, locals := 43 } n M [.ref a0, .int x1, .int x2] (fun n1 M1 v => n1 = n ∧ mw_rV Q M1 v) (fun _ _ => False) := by
  refine mw_enter (L0 := [(0, .ref a0), (1, .int x1), (2, .int x2)]) hlt rfl rfl (plainFor_of_name (by decide)) (Nat.le_of_ble_eq_true rfl) rfl ?_
  intro Y hC0 hZ hnL hini0 hn00
  have hC : mw_C G l _ Y cX0_loseStretch RX0 := hC0
  have B47 : ∀ (M : mw_M) (r0 : Nat) (x1 : Int32) (x2 : Int32) (h : w_X0_loseStretch_b47 n M r0 x1 x2 Q), mw_J Y 0 0 n M 47 [(0, .ref r0), (1, .int x1), (2, .int x2)] [] := by
    intro M r0 x1 x2 h
    unfold w_X0_loseStretch_b47 at h
    refine jr_aload_n (j := 0) hC dX0_loseStretch_47 rfl rfl ?_
    refine jr_dup hC dX0_loseStretch_48 rfl ?_
    obtain ⟨hc1, h⟩ := h
    refine jr_get0 hC fl_RX0_24 hc1 dX0_loseStretch_49 ?_
    refine jr_iload_n (j := 2) hC dX0_loseStretch_52 rfl rfl ?_
    refine jr_iload_n (j := 1) hC dX0_loseStretch_53 rfl rfl ?_
    refine jr_isub hC dX0_loseStretch_54 ?_
    refine jr_isub hC dX0_loseStretch_55 ?_
    obtain ⟨M2, eM2⟩ : ∃ y : mw_M, y = sI M r0 2 ((mI M r0 2) - (x2 - x1)) := ⟨_, rfl⟩
    have h := h M2 eM2
    refine jr_putI hC fp_RX0_24 hc1 eM2 dX0_loseStretch_56 ?_
    exact jr_vret hC hZ (by decide) (by decide) dX0_loseStretch_59 ⟨rfl, rfl, h⟩
  have B27 : ∀ (M : mw_M) (h : w_X0_loseStretch_b27 n M Q), mw_J Y 0 0 n M 27 [] [] := by
    intro M h
    unfold w_X0_loseStretch_b27 at h
    exact jr_vret hC hZ (by decide) (by decide) dX0_loseStretch_27 ⟨rfl, rfl, h⟩
  unfold w_X0_loseStretch at h
  refine jr_aload_n (j := 0) hC dX0_loseStretch_0 rfl rfl ?_
  obtain ⟨hc3, h⟩ := h
  refine jr_get0 hC fl_RX0_24 hc3 dX0_loseStretch_1 ?_
  refine jr_iload_n (j := 1) hC dX0_loseStretch_4 rfl rfl ?_
  obtain ⟨hthb4, hfhb4⟩ := h
  refine jr_ic_ge (tgt := 28) hC dX0_loseStretch_5 (by decide) (fun hb4 => ?_) (fun hb4 => ?_)
  · have h := hthb4 hb4
    refine jr_aload_n (j := 0) hC dX0_loseStretch_28 rfl rfl ?_
    refine jr_get0 hC fl_RX0_24 hc3 dX0_loseStretch_29 ?_
    refine jr_iload_n (j := 2) hC dX0_loseStretch_32 rfl rfl ?_
    obtain ⟨hthb5, hfhb5⟩ := h
    refine jr_ic_ge (tgt := 47) hC dX0_loseStretch_33 (by decide) (fun hb5 => ?_) (fun hb5 => ?_)
    · have h := hthb5 hb5
      exact B47 M a0 x1 x2 h
    · have h := hfhb5 hb5
      refine jr_aload_n (j := 0) hC dX0_loseStretch_36 rfl rfl ?_
      refine jr_iload_n (j := 2) hC dX0_loseStretch_37 rfl rfl ?_
      refine jr_aload_n (j := 0) hC dX0_loseStretch_38 rfl rfl ?_
      refine jr_get0 hC fl_RX0_24 hc3 dX0_loseStretch_39 ?_
      refine jr_isub hC dX0_loseStretch_42 ?_
      refine jr_iconst (v := (0 : Int32)) hC dX0_loseStretch_43 (by decide) ?_
      refine jr_callV_v (As := [.int (x2 - (mI M a0 2)), .int (0 : Int32)]) (st := []) hC nc_RX0_59 (c_X0_trim hlt h) hc3 rfl rfl ⟨⟨rfl, rfl⟩, ⟨by decide, by decide⟩, by decide, by decide⟩ (Nat.le_of_ble_eq_true rfl) dX0_loseStretch_44 (fun M6 h => ?_)
      exact B47 M6 a0 x1 x2 h
  · have h := hfhb4 hb4
    refine jr_aload_n (j := 0) hC dX0_loseStretch_8 rfl rfl ?_
    refine jr_callV_pi (As := []) (st := []) hC nc_RX0_55 (c_X0_end hlt h) hc3 rfl rfl ⟨⟨rfl, rfl⟩, ⟨by decide, by decide⟩, by decide, by decide⟩ (Nat.le_of_ble_eq_true rfl) dX0_loseStretch_9 (fun v7 h => ?_)
    refine jr_iload_n (j := 1) hC dX0_loseStretch_12 rfl rfl ?_
    obtain ⟨hthb8, hfhb8⟩ := h
    refine jr_ic_le (tgt := 27) hC dX0_loseStretch_13 (by decide) (fun hb8 => ?_) (fun hb8 => ?_)
    · have h := hthb8 hb8
      refine jr_sub [] (L1 := []) rfl ?_
      exact B27 M h
    · have h := hfhb8 hb8
      refine jr_aload_n (j := 0) hC dX0_loseStretch_16 rfl rfl ?_
      refine jr_iconst (v := (0 : Int32)) hC dX0_loseStretch_17 (by decide) ?_
      refine jr_aload_n (j := 0) hC dX0_loseStretch_18 rfl rfl ?_
      refine jr_callV_pi (As := []) (st := [.int (0 : Int32), .ref a0]) hC nc_RX0_55 (c_X0_end hlt h) hc3 rfl rfl ⟨⟨rfl, rfl⟩, ⟨by decide, by decide⟩, by decide, by decide⟩ (Nat.le_of_ble_eq_true rfl) dX0_loseStretch_19 (fun v9 h => ?_)
      refine jr_iload_n (j := 1) hC dX0_loseStretch_22 rfl rfl ?_
      refine jr_isub hC dX0_loseStretch_23 ?_
      refine jr_callV_v (As := [.int (0 : Int32), .int (v9 - x1)]) (st := []) hC nc_RX0_59 (c_X0_trim hlt h) hc3 rfl rfl ⟨⟨rfl, rfl⟩, ⟨by decide, by decide⟩, by decide, by decide⟩ (Nat.le_of_ble_eq_true rfl) dX0_loseStretch_24 (fun M10 h => ?_)
      refine jr_sub [] (L1 := []) rfl ?_
      exact B27 M10 h
set_option maxHeartbeats 4000000 in
set_option maxRecDepth 100000 in
theorem c_X0_fadeGain {G : mw_G} {l : Launch} (hlt : l.stackTraces = false) {n : Nat} {M : mw_M} {a0 : Nat} {x1 : Int32} {x2 : Int32} {Q : Int32 → Prop} (h : w_X0_fadeGain n M a0 x1 x2 Q) : mw_Met G l yX0_fadeGain (.code yX0_fadeGain cX0_fadeGain 4 (some .int)) { frames := 0, cells := 0, slots := 0, locals := 0 } n M [.ref a0, .int x1, .int x2] (fun n1 M1 v => n1 = n ∧ mw_pI M Q M1 v) (fun _ _ => False) := by
  refine mw_enter (L0 := [(0, .ref a0), (1, .int x1), (2, .int x2)]) hlt rfl rfl (plainFor_of_name (by decide)) (Nat.le_of_ble_eq_true rfl) rfl ?_
  intro Y hC0 hZ hnL hini0 hn00
  have hC : mw_C G l _ Y cX0_fadeGain RX0 := hC0
  have B10 : (w_X0_fadeGain_b10 n M Q) → mw_J Y 0 0 n M 10 [] [] := by
    intro  h
    unfold w_X0_fadeGain_b10 at h
    refine jr_sipush (v := (1000 : Int32)) hC dX0_fadeGain_10 (by decide) ?_
    exact jr_ireti hC hZ (by decide) (by decide) dX0_fadeGain_13 ⟨rfl, rfl, _, rfl, h⟩
  have B41 : ∀ (s0 : Int32) (h : w_X0_fadeGain_b41 n M s0 Q), mw_J Y 0 0 n M 41 [] [.int s0] := by
    intro s0 h
    unfold w_X0_fadeGain_b41 at h
    exact jr_ireti hC hZ (by decide) (by decide) dX0_fadeGain_41 ⟨rfl, rfl, _, rfl, h⟩
  unfold w_X0_fadeGain at h
  refine jr_iload_n (j := 2) hC dX0_fadeGain_0 rfl rfl ?_
  refine jr_iconst (v := (1 : Int32)) hC dX0_fadeGain_1 (by decide) ?_
  obtain ⟨hthb1, hfhb1⟩ := h
  refine jr_ic_lt (tgt := 10) hC dX0_fadeGain_2 (by decide) (fun hb1 => ?_) (fun hb1 => ?_)
  · have h := hthb1 hb1
    refine jr_sub [] (L1 := []) rfl ?_
    exact B10 h
  · have h := hfhb1 hb1
    refine jr_iload_n (j := 1) hC dX0_fadeGain_5 rfl rfl ?_
    refine jr_iload_n (j := 2) hC dX0_fadeGain_6 rfl rfl ?_
    obtain ⟨hthb2, hfhb2⟩ := h
    refine jr_ic_lt (tgt := 14) hC dX0_fadeGain_7 (by decide) (fun hb2 => ?_) (fun hb2 => ?_)
    · have h := hthb2 hb2
      refine jr_sipush (v := (1000 : Int32)) hC dX0_fadeGain_14 (by decide) ?_
      refine jr_iload_n (j := 1) hC dX0_fadeGain_17 rfl rfl ?_
      refine jr_imul hC dX0_fadeGain_18 ?_
      refine jr_iload_n (j := 2) hC dX0_fadeGain_19 rfl rfl ?_
      obtain ⟨hc3, h⟩ := h
      refine jr_idiv hC dX0_fadeGain_20 hc3 ?_
      refine jr_nmI (fun v4 ev4 => ?_)
      have h := h v4 ev4
      refine jr_istore_n (L1 := [(3, .int v4), (0, .ref a0), (1, .int x1), (2, .int x2)]) hC dX0_fadeGain_21 rfl hnL (by decide) rfl ?_
      refine jr_aload_n (j := 1) hC dX0_fadeGain_22 rfl rfl ?_
      obtain ⟨hc5, h⟩ := h
      refine jr_get0 hC fl_RX0_18 hc5 dX0_fadeGain_23 ?_
      refine jr_iconst (v := (1 : Int32)) hC dX0_fadeGain_26 (by decide) ?_
      obtain ⟨hthb6, hfhb6⟩ := h
      refine jr_ic_ne (tgt := 40) hC dX0_fadeGain_27 (by decide) (fun hb6 => ?_) (fun hb6 => ?_)
      · have h := hthb6 hb6
        refine jr_iload_n (j := 0) hC dX0_fadeGain_40 rfl rfl ?_
        refine jr_sub [] (L1 := []) rfl ?_
        exact B41 v4 h
      · have h := hfhb6 hb6
        refine jr_iload_n (j := 0) hC dX0_fadeGain_30 rfl rfl ?_
        refine jr_iload_n (j := 0) hC dX0_fadeGain_31 rfl rfl ?_
        refine jr_imul hC dX0_fadeGain_32 ?_
        refine jr_sipush (v := (1000 : Int32)) hC dX0_fadeGain_33 (by decide) ?_
        refine jr_idiv hC dX0_fadeGain_36 (by decide) ?_
        refine jr_goto (tgt := 41) hC dX0_fadeGain_37 (by decide) ?_
        refine jr_sub [] (L1 := []) rfl ?_
        exact B41 ((v4 * v4) / (1000 : Int32)) h
    · have h := hfhb2 hb2
      refine jr_sub [] (L1 := []) rfl ?_
      exact B10 h
set_option maxHeartbeats 4000000 in
set_option maxRecDepth 100000 in
theorem c_X0_property {G : mw_G} {l : Launch} (hlt : l.stackTraces = false) {n : Nat} {M : mw_M} {a0 : Nat} {x1 : Int32} {Q : Int32 → Prop} (h : w_X0_property n M a0 x1 Q) : mw_Met G l yX0_property (.code yX0_property cX0_property 2 (some .int)) { frames := 0, cells := 0, slots := 0, locals := 0 } n M [.ref a0, .int x1] (fun n1 M1 v => n1 = n ∧ mw_pI M Q M1 v) (fun _ _ => False) := by
  refine mw_enter (L0 := [(0, .ref a0), (1, .int x1)]) hlt rfl rfl (plainFor_of_name (by decide)) (Nat.le_of_ble_eq_true rfl) rfl ?_
  intro Y hC0 hZ hnL hini0 hn00
  have hC : mw_C G l _ Y cX0_property RX0 := hC0
  unfold w_X0_property at h
  refine jr_iload_n (j := 1) hC dX0_property_0 rfl rfl ?_
  obtain ⟨hs0, hs1, hs2, hs3, hs4, hs5, hs6, hs7, hs8⟩ := h
  rcases (show Int32.toInt x1 < 0 ∨ 7 < Int32.toInt x1 ∨ Int32.toInt x1 = 0 ∨ Int32.toInt x1 = 1 ∨ Int32.toInt x1 = 2 ∨ Int32.toInt x1 = 3 ∨ Int32.toInt x1 = 4 ∨ Int32.toInt x1 = 5 ∨ Int32.toInt x1 = 6 ∨ Int32.toInt x1 = 7 from by omega) with hq | hq | hq | hq | hq | hq | hq | hq | hq | hq
  · have h := hs0 (Or.inl hq)
    refine jr_tout (tgt := 88) hC (Or.inl hq) dX0_property_1 (by decide) ?_
    refine jr_aload_n (j := 0) hC dX0_property_88 rfl rfl ?_
    obtain ⟨hc1, h⟩ := h
    refine jr_get0 hC fl_RX0_18 hc1 dX0_property_89 ?_
    exact jr_ireti hC hZ (by decide) (by decide) dX0_property_92 ⟨rfl, rfl, _, rfl, h⟩
  · have h := hs0 (Or.inr hq)
    refine jr_tout (tgt := 88) hC (Or.inr hq) dX0_property_1 (by decide) ?_
    refine jr_aload_n (j := 0) hC dX0_property_88 rfl rfl ?_
    obtain ⟨hc1, h⟩ := h
    refine jr_get0 hC fl_RX0_18 hc1 dX0_property_89 ?_
    exact jr_ireti hC hZ (by decide) (by decide) dX0_property_92 ⟨rfl, rfl, _, rfl, h⟩
  · have h := hs1 hq
    refine jr_tin (tgt := 48) hC 0 hq dX0_property_1 (by decide) (by decide) rfl (by decide) ?_
    refine jr_aload_n (j := 0) hC dX0_property_48 rfl rfl ?_
    obtain ⟨hc2, h⟩ := h
    refine jr_get0 hC fl_RX0_21 hc2 dX0_property_49 ?_
    exact jr_ireti hC hZ (by decide) (by decide) dX0_property_52 ⟨rfl, rfl, _, rfl, h⟩
  · have h := hs2 hq
    refine jr_tin (tgt := 53) hC 1 hq dX0_property_1 (by decide) (by decide) rfl (by decide) ?_
    refine jr_aload_n (j := 0) hC dX0_property_53 rfl rfl ?_
    obtain ⟨hc3, h⟩ := h
    refine jr_get0 hC fl_RX0_30 hc3 dX0_property_54 ?_
    exact jr_ireti hC hZ (by decide) (by decide) dX0_property_57 ⟨rfl, rfl, _, rfl, h⟩
  · have h := hs3 hq
    refine jr_tin (tgt := 58) hC 2 hq dX0_property_1 (by decide) (by decide) rfl (by decide) ?_
    refine jr_aload_n (j := 0) hC dX0_property_58 rfl rfl ?_
    obtain ⟨hc4, h⟩ := h
    refine jr_get0 hC fl_RX0_24 hc4 dX0_property_59 ?_
    exact jr_ireti hC hZ (by decide) (by decide) dX0_property_62 ⟨rfl, rfl, _, rfl, h⟩
  · have h := hs4 hq
    refine jr_tin (tgt := 63) hC 3 hq dX0_property_1 (by decide) (by decide) rfl (by decide) ?_
    refine jr_aload_n (j := 0) hC dX0_property_63 rfl rfl ?_
    obtain ⟨hc5, h⟩ := h
    refine jr_get0 hC fl_RX0_33 hc5 dX0_property_64 ?_
    exact jr_ireti hC hZ (by decide) (by decide) dX0_property_67 ⟨rfl, rfl, _, rfl, h⟩
  · have h := hs5 hq
    refine jr_tin (tgt := 68) hC 4 hq dX0_property_1 (by decide) (by decide) rfl (by decide) ?_
    refine jr_aload_n (j := 0) hC dX0_property_68 rfl rfl ?_
    obtain ⟨hc6, h⟩ := h
    refine jr_get0 hC fl_RX0_27 hc6 dX0_property_69 ?_
    exact jr_ireti hC hZ (by decide) (by decide) dX0_property_72 ⟨rfl, rfl, _, rfl, h⟩
  · have h := hs6 hq
    refine jr_tin (tgt := 73) hC 5 hq dX0_property_1 (by decide) (by decide) rfl (by decide) ?_
    refine jr_aload_n (j := 0) hC dX0_property_73 rfl rfl ?_
    obtain ⟨hc7, h⟩ := h
    refine jr_get0 hC fl_RX0_36 hc7 dX0_property_74 ?_
    exact jr_ireti hC hZ (by decide) (by decide) dX0_property_77 ⟨rfl, rfl, _, rfl, h⟩
  · have h := hs7 hq
    refine jr_tin (tgt := 78) hC 6 hq dX0_property_1 (by decide) (by decide) rfl (by decide) ?_
    refine jr_aload_n (j := 0) hC dX0_property_78 rfl rfl ?_
    obtain ⟨hc8, h⟩ := h
    refine jr_get0 hC fl_RX0_9 hc8 dX0_property_79 ?_
    exact jr_ireti hC hZ (by decide) (by decide) dX0_property_82 ⟨rfl, rfl, _, rfl, h⟩
  · have h := hs8 hq
    refine jr_tin (tgt := 83) hC 7 hq dX0_property_1 (by decide) (by decide) rfl (by decide) ?_
    refine jr_aload_n (j := 0) hC dX0_property_83 rfl rfl ?_
    obtain ⟨hc9, h⟩ := h
    refine jr_get0 hC fl_RX0_15 hc9 dX0_property_84 ?_
    exact jr_ireti hC hZ (by decide) (by decide) dX0_property_87 ⟨rfl, rfl, _, rfl, h⟩
set_option maxHeartbeats 4000000 in
set_option maxRecDepth 100000 in
theorem c_X1_init {G : mw_G} {l : Launch} (hlt : l.stackTraces = false) {n : Nat} {M : mw_M} {a0 : Nat} {Q : Nat → mw_M → Prop} (h : w_X1_init n M a0 Q) : mw_Met G l yX1_init (.code yX1_init cX1_init 1 none) { frames := 1, cells := 1, slots := 101, locals := 12 } n M [.ref a0] (mw_rN Q) (fun _ _ => False) := by
  refine mw_enter (L0 := [(0, .ref a0)]) hlt rfl rfl (plainFor_of_name (by decide)) (Nat.le_of_ble_eq_true rfl) rfl ?_
  intro Y hC0 hZ hnL hini0 hn00
  have hC : mw_C G l _ Y cX1_init RX1 := hC0
  have hini : mw_init Y := hini0 rfl
  unfold w_X1_init at h
  refine jr_aload_n (j := 0) hC dX1_init_0 rfl rfl ?_
  obtain ⟨hc1, h⟩ := h
  refine jr_objinit hC hc1 tw_317 tw_83 tw_84 (by decide) (by decide) dX1_init_1 ?_
  refine jr_aload_n (j := 0) hC dX1_init_4 rfl rfl ?_
  refine jr_bipush (v := (101 : Int32)) hC dX1_init_5 (by decide) ?_
  obtain ⟨hc2, h⟩ := h
  obtain ⟨hc3, h⟩ := h
  obtain ⟨hc4, h⟩ := h
  obtain ⟨hc5, h⟩ := h
  obtain ⟨hc6, h⟩ := h
  refine jr_newi (N := 101) hC tw_250 hc2 hc3 (by decide) (by decide) (mw_okl_c hc6 mw_okl_n) (mw_oks_c hc6 mw_oks_n) hc4 hc5 dX1_init_7 ?_
  obtain ⟨hc7, h⟩ := h
  obtain ⟨M8, eM8⟩ : ∃ y : mw_M, y = sP M a0 0 n := ⟨_, rfl⟩
  have h := h M8 eM8
  refine jr_putAF hC fp_RX1_9 hc7 hini (by intro C T N h9; cases h9; rfl) eM8 dX1_init_9 ?_
  refine jr_aload_n (j := 0) hC dX1_init_12 rfl rfl ?_
  refine jr_iconst (v := (1 : Int32)) hC dX1_init_13 (by decide) ?_
  obtain ⟨M9, eM9⟩ : ∃ y : mw_M, y = sI M8 a0 1 (1 : Int32) := ⟨_, rfl⟩
  have h := h M9 eM9
  refine jr_putI hC fp_RX1_15 hc7 eM9 dX1_init_14 ?_
  refine jr_aload_n (j := 0) hC dX1_init_17 rfl rfl ?_
  refine jr_get2 hC fl_RX1_9 hc7 dX1_init_18 ?_
  refine jr_iconst (v := (0 : Int32)) hC dX1_init_21 (by decide) ?_
  refine jr_sipush (v := (1000 : Int32)) hC dX1_init_22 (by decide) ?_
  obtain ⟨hc10, h⟩ := h
  obtain ⟨hc11, h⟩ := h
  obtain ⟨M12, eM12⟩ : ∃ y : mw_M, y = sI M9 (mP M9 a0 0) (Int32.toNatClampNeg (0 : Int32)) (1000 : Int32) := ⟨_, rfl⟩
  have h := h M12 eM12
  refine jr_iast hC hc10 hc11 eM12 dX1_init_25 ?_
  refine jr_aload_n (j := 0) hC dX1_init_26 rfl rfl ?_
  refine jr_get2 hC fl_RX1_9 hc7 dX1_init_27 ?_
  refine jr_iconst (v := (1 : Int32)) hC dX1_init_30 (by decide) ?_
  refine jr_sipush (v := (1000 : Int32)) hC dX1_init_31 (by decide) ?_
  obtain ⟨hc13, h⟩ := h
  obtain ⟨hc14, h⟩ := h
  obtain ⟨M15, eM15⟩ : ∃ y : mw_M, y = sI M12 (mP M12 a0 0) (Int32.toNatClampNeg (1 : Int32)) (1000 : Int32) := ⟨_, rfl⟩
  have h := h M15 eM15
  refine jr_iast hC hc13 hc14 eM15 dX1_init_34 ?_
  obtain ⟨hc16, h⟩ := h
  obtain ⟨hc17, h⟩ := h
  exact jr_vret hC hZ hc16 hc17 dX1_init_35 ⟨rfl, h⟩
set_option maxHeartbeats 4000000 in
set_option maxRecDepth 100000 in
theorem c_X1_forget {G : mw_G} {l : Launch} (hlt : l.stackTraces = false) {n : Nat} {M : mw_M} {a0 : Nat} {Q : mw_M → Prop} (h : w_X1_forget n M a0 Q) : mw_Met G l yX1_forget (.code yX1_forget cX1_forget 1 none) { frames := 0, cells := 0, slots := 0, locals := 0 } n M [.ref a0] (fun n1 M1 v => n1 = n ∧ mw_rV Q M1 v) (fun _ _ => False) := by
  refine mw_enter (L0 := [(0, .ref a0)]) hlt rfl rfl (plainFor_of_name (by decide)) (Nat.le_of_ble_eq_true rfl) rfl ?_
  intro Y hC0 hZ hnL hini0 hn00
  have hC : mw_C G l _ Y cX1_forget RX1 := hC0
  unfold w_X1_forget at h
  refine jr_aload_n (j := 0) hC dX1_forget_0 rfl rfl ?_
  refine jr_iconst (v := (1 : Int32)) hC dX1_forget_1 (by decide) ?_
  obtain ⟨hc1, h⟩ := h
  obtain ⟨M2, eM2⟩ : ∃ y : mw_M, y = sI M a0 1 (1 : Int32) := ⟨_, rfl⟩
  have h := h M2 eM2
  refine jr_putI hC fp_RX1_15 hc1 eM2 dX1_forget_2 ?_
  exact jr_vret hC hZ (by decide) (by decide) dX1_forget_5 ⟨rfl, rfl, h⟩
set_option maxHeartbeats 4000000 in
set_option maxRecDepth 100000 in
theorem c_X1_follow {G : mw_G} {l : Launch} (hlt : l.stackTraces = false) {n : Nat} {M : mw_M} {a0 : Nat} {a1 : Nat} {x2 : Int32} {Q : mw_M → Prop} (h : w_X1_follow n M a0 a1 x2 Q) : mw_Met G l yX1_follow (.code yX1_follow cX1_follow 4 none) { frames := 1, cells := 0, slots := 0, locals := 21 } n M [.ref a0, .ref a1, .int x2] (fun n1 M1 v => n1 = n ∧ mw_rV Q M1 v) (fun _ _ => False) := by
  refine mw_enter (L0 := [(0, .ref a0), (1, .ref a1), (2, .int x2)]) hlt rfl rfl (plainFor_of_name (by decide)) (Nat.le_of_ble_eq_true rfl) rfl ?_
  intro Y hC0 hZ hnL hini0 hn00
  have hC : mw_C G l _ Y cX1_follow RX1 := hC0
  have B75 : ∀ (M : mw_M) (s0 : Int32) (s1 : Int32) (s2r : Nat) (h : w_X1_follow_b75 n M s0 s1 s2r Q), mw_J Y 0 0 n M 75 [] [.int s0, .int s1, .ref s2r] := by
    intro M s0 s1 s2r h
    unfold w_X1_follow_b75 at h
    obtain ⟨hc1, h⟩ := h
    obtain ⟨hc2, h⟩ := h
    obtain ⟨M3, eM3⟩ : ∃ y : mw_M, y = sI M s2r (Int32.toNatClampNeg s1) s0 := ⟨_, rfl⟩
    have h := h M3 eM3
    refine jr_iast hC hc1 hc2 eM3 dX1_follow_75 ?_
    exact jr_vret hC hZ (by decide) (by decide) dX1_follow_76 ⟨rfl, rfl, h⟩
  unfold w_X1_follow at h
  refine jr_aload_n (j := 0) hC dX1_follow_0 rfl rfl ?_
  obtain ⟨hc4, h⟩ := h
  refine jr_get0 hC fl_RX1_15 hc4 dX1_follow_1 ?_
  refine jr_iconst (v := (1 : Int32)) hC dX1_follow_4 (by decide) ?_
  refine jr_iadd hC dX1_follow_5 ?_
  refine jr_aload_n (j := 0) hC dX1_follow_6 rfl rfl ?_
  refine jr_get2 hC fl_RX1_9 hc4 dX1_follow_7 ?_
  obtain ⟨hc5, h⟩ := h
  refine jr_alen (t := 10) hC (by decide) (by decide) hc5 dX1_follow_10 ?_
  obtain ⟨hthb6, hfhb6⟩ := h
  refine jr_ic_lt (tgt := 15) hC dX1_follow_11 (by decide) (fun hb6 => ?_) (fun hb6 => ?_)
  · have h := hthb6 hb6
    refine jr_aload_n (j := 0) hC dX1_follow_15 rfl rfl ?_
    refine jr_get2 hC fl_RX1_9 hc4 dX1_follow_16 ?_
    refine jr_aload_n (j := 0) hC dX1_follow_19 rfl rfl ?_
    refine jr_get0 hC fl_RX1_15 hc4 dX1_follow_20 ?_
    obtain ⟨hc7, h⟩ := h
    refine jr_iald hC hc5 hc7 dX1_follow_23 ?_
    refine jr_nmI (fun v8 ev8 => ?_)
    have h := h v8 ev8
    refine jr_istore_n (L1 := [(3, .int v8), (0, .ref a0), (1, .ref a1), (2, .int x2)]) hC dX1_follow_24 rfl hnL (by decide) rfl ?_
    refine jr_aload_n (j := 1) hC dX1_follow_25 rfl rfl ?_
    refine jr_dup hC dX1_follow_26 rfl ?_
    refine jr_get0 hC fl_RX1_15 hc4 dX1_follow_27 ?_
    refine jr_iconst (v := (1 : Int32)) hC dX1_follow_30 (by decide) ?_
    refine jr_iadd hC dX1_follow_31 ?_
    obtain ⟨M9, eM9⟩ : ∃ y : mw_M, y = sI M a0 1 ((mI M a0 1) + (1 : Int32)) := ⟨_, rfl⟩
    have h := h M9 eM9
    refine jr_putI hC fp_RX1_15 hc4 eM9 dX1_follow_32 ?_
    refine jr_aload_n (j := 1) hC dX1_follow_35 rfl rfl ?_
    refine jr_get2 hC fl_RX1_9 hc4 dX1_follow_36 ?_
    refine jr_aload_n (j := 1) hC dX1_follow_39 rfl rfl ?_
    refine jr_get0 hC fl_RX1_15 hc4 dX1_follow_40 ?_
    refine jr_iload_n (j := 3) hC dX1_follow_43 rfl rfl ?_
    obtain ⟨hthb10, hfhb10⟩ := h
    refine jr_if_eq (tgt := 63) hC dX1_follow_44 (by decide) (fun hb10 => ?_) (fun hb10 => ?_)
    · have h := hthb10 hb10
      refine jr_sipush (v := (1000 : Int32)) hC dX1_follow_63 (by decide) ?_
      refine jr_iload_n (j := 0) hC dX1_follow_66 rfl rfl ?_
      refine jr_aload_n (j := 2) hC dX1_follow_67 rfl rfl ?_
      obtain ⟨hc11, h⟩ := h
      refine jr_get0 hC fl_RX1_33 hc11 dX1_follow_68 ?_
      refine jr_iadd hC dX1_follow_71 ?_
      refine jr_mmin hC tw_532 tw_533 tw_74 tw_534 (by decide) (by decide) (Nat.le_of_ble_eq_true rfl) (by decide) (by decide) dX1_follow_72 ?_
      refine jr_nmI (fun v12 ev12 => ?_)
      have h := h v12 ev12
      refine jr_sub [] (L1 := []) rfl ?_
      exact B75 M9 v12 (mI M9 a0 1) (mP M9 a0 0) h
    · have h := hfhb10 hb10
      refine jr_aload_n (j := 2) hC dX1_follow_47 rfl rfl ?_
      obtain ⟨hc13, h⟩ := h
      refine jr_get0 hC fl_RX1_19 hc13 dX1_follow_48 ?_
      refine jr_iload_n (j := 0) hC dX1_follow_51 rfl rfl ?_
      refine jr_aload_n (j := 2) hC dX1_follow_52 rfl rfl ?_
      refine jr_get0 hC fl_RX1_24 hc13 dX1_follow_53 ?_
      refine jr_isub hC dX1_follow_56 ?_
      refine jr_mmax hC tw_531 tw_418 tw_74 tw_419 (by decide) (by decide) (Nat.le_of_ble_eq_true rfl) (by decide) (by decide) dX1_follow_57 ?_
      refine jr_nmI (fun v14 ev14 => ?_)
      have h := h v14 ev14
      refine jr_goto (tgt := 75) hC dX1_follow_60 (by decide) ?_
      refine jr_sub [] (L1 := []) rfl ?_
      exact B75 M9 v14 (mI M9 a0 1) (mP M9 a0 0) h
  · have h := hfhb6 hb6
    exact jr_vret hC hZ (by decide) (by decide) dX1_follow_14 ⟨rfl, rfl, h⟩
set_option maxHeartbeats 4000000 in
set_option maxRecDepth 100000 in
theorem c_J9_floorDiv_7cf53 {G : mw_G} {l : Launch} (hlt : l.stackTraces = false) {n : Nat} {M : mw_M} {x0 : Int32} {x1 : Int32} {Q : Int32 → Prop} (h : w_J9_floorDiv_7cf53 n M x0 x1 Q) : mw_Met G l yJ9_floorDiv_7cf53 (.code yJ9_floorDiv_7cf53 cJ9_floorDiv_7cf53 3 (some .int)) { frames := 0, cells := 0, slots := 0, locals := 0 } n M [.int x0, .int x1] (fun n1 M1 v => n1 = n ∧ mw_pI M Q M1 v) (fun _ _ => False) := by
  refine mw_enter (L0 := [(0, .int x0), (1, .int x1)]) hlt rfl rfl (by decide +kernel) (Nat.le_of_ble_eq_true rfl) rfl ?_
  intro Y hC0 hZ hnL hini0 hn00
  have hC : mw_C G l _ Y cJ9_floorDiv_7cf53 RJ9 := hC0
  have B21 : ∀ (x2 : Int32) (h : w_J9_floorDiv_7cf53_b21 n M x2 Q), mw_J Y 0 0 n M 21 [(2, .int x2)] [] := by
    intro x2 h
    unfold w_J9_floorDiv_7cf53_b21 at h
    refine jr_iload_n (j := 0) hC dJ9_floorDiv_7cf53_21 rfl rfl ?_
    exact jr_ireti hC hZ (by decide) (by decide) dJ9_floorDiv_7cf53_22 ⟨rfl, rfl, _, rfl, h⟩
  unfold w_J9_floorDiv_7cf53 at h
  refine jr_iload_n (j := 0) hC dJ9_floorDiv_7cf53_0 rfl rfl ?_
  refine jr_iload_n (j := 1) hC dJ9_floorDiv_7cf53_1 rfl rfl ?_
  obtain ⟨hc1, h⟩ := h
  refine jr_idiv hC dJ9_floorDiv_7cf53_2 hc1 ?_
  refine jr_nmI (fun v2 ev2 => ?_)
  have h := h v2 ev2
  refine jr_istore_n (L1 := [(2, .int v2), (0, .int x0), (1, .int x1)]) hC dJ9_floorDiv_7cf53_3 rfl hnL (by decide) rfl ?_
  refine jr_iload_n (j := 1) hC dJ9_floorDiv_7cf53_4 rfl rfl ?_
  refine jr_iload_n (j := 2) hC dJ9_floorDiv_7cf53_5 rfl rfl ?_
  refine jr_ixor hC dJ9_floorDiv_7cf53_6 ?_
  obtain ⟨hthb3, hfhb3⟩ := h
  refine jr_if_ge (tgt := 21) hC dJ9_floorDiv_7cf53_7 (by decide) (fun hb3 => ?_) (fun hb3 => ?_)
  · have h := hthb3 hb3
    refine jr_sub [0] (L1 := [(2, .int v2)]) rfl ?_
    exact B21 v2 h
  · have h := hfhb3 hb3
    refine jr_iload_n (j := 0) hC dJ9_floorDiv_7cf53_10 rfl rfl ?_
    refine jr_iload_n (j := 2) hC dJ9_floorDiv_7cf53_11 rfl rfl ?_
    refine jr_imul hC dJ9_floorDiv_7cf53_12 ?_
    refine jr_iload_n (j := 1) hC dJ9_floorDiv_7cf53_13 rfl rfl ?_
    obtain ⟨hthb4, hfhb4⟩ := h
    refine jr_ic_eq (tgt := 21) hC dJ9_floorDiv_7cf53_14 (by decide) (fun hb4 => ?_) (fun hb4 => ?_)
    · have h := hthb4 hb4
      refine jr_sub [0] (L1 := [(2, .int v2)]) rfl ?_
      exact B21 v2 h
    · have h := hfhb4 hb4
      refine jr_iload_n (j := 0) hC dJ9_floorDiv_7cf53_17 rfl rfl ?_
      refine jr_iconst (v := (1 : Int32)) hC dJ9_floorDiv_7cf53_18 (by decide) ?_
      refine jr_isub hC dJ9_floorDiv_7cf53_19 ?_
      exact jr_ireti hC hZ (by decide) (by decide) dJ9_floorDiv_7cf53_20 ⟨rfl, rfl, _, rfl, h⟩
set_option maxHeartbeats 4000000 in
set_option maxRecDepth 100000 in
theorem c_X1_gainAt {G : mw_G} {l : Launch} (hlt : l.stackTraces = false) {n : Nat} {M : mw_M} {a0 : Nat} {x1 : Int32} {Q : Int32 → Prop} (h : w_X1_gainAt n M a0 x1 Q) : mw_Met G l yX1_gainAt (.code yX1_gainAt cX1_gainAt 4 (some .int)) { frames := 1, cells := 0, slots := 0, locals := 22 } n M [.ref a0, .int x1] (fun n1 M1 v => n1 = n ∧ mw_pI M Q M1 v) (fun _ _ => False) := by
  refine mw_enter (L0 := [(0, .ref a0), (1, .int x1)]) hlt rfl rfl (plainFor_of_name (by decide)) (Nat.le_of_ble_eq_true rfl) rfl ?_
  intro Y hC0 hZ hnL hini0 hn00
  have hC : mw_C G l _ Y cX1_gainAt RX1 := hC0
  have B17 : (w_X1_gainAt_b17 n M Q) → mw_J Y 0 0 n M 17 [] [] := by
    intro  h
    unfold w_X1_gainAt_b17 at h
    refine jr_sipush (v := (1000 : Int32)) hC dX1_gainAt_17 (by decide) ?_
    exact jr_ireti hC hZ (by decide) (by decide) dX1_gainAt_20 ⟨rfl, rfl, _, rfl, h⟩
  unfold w_X1_gainAt at h
  refine jr_iload_n (j := 1) hC dX1_gainAt_0 rfl rfl ?_
  refine jr_bipush (v := (40 : Int32)) hC dX1_gainAt_1 (by decide) ?_
  refine jr_idiv hC dX1_gainAt_3 (by decide) ?_
  refine jr_nmI (fun v1 ev1 => ?_)
  have h := h v1 ev1
  refine jr_istore_n (L1 := [(2, .int v1), (0, .ref a0), (1, .int x1)]) hC dX1_gainAt_4 rfl hnL (by decide) rfl ?_
  refine jr_iload_n (j := 0) hC dX1_gainAt_5 rfl rfl ?_
  obtain ⟨hthb2, hfhb2⟩ := h
  refine jr_if_lt (tgt := 17) hC dX1_gainAt_6 (by decide) (fun hb2 => ?_) (fun hb2 => ?_)
  · have h := hthb2 hb2
    refine jr_sub [] (L1 := []) rfl ?_
    exact B17 h
  · have h := hfhb2 hb2
    refine jr_iload_n (j := 0) hC dX1_gainAt_9 rfl rfl ?_
    refine jr_aload_n (j := 1) hC dX1_gainAt_10 rfl rfl ?_
    obtain ⟨hc3, h⟩ := h
    refine jr_get0 hC fl_RX1_15 hc3 dX1_gainAt_11 ?_
    obtain ⟨hthb4, hfhb4⟩ := h
    refine jr_ic_lt (tgt := 21) hC dX1_gainAt_14 (by decide) (fun hb4 => ?_) (fun hb4 => ?_)
    · have h := hthb4 hb4
      refine jr_aload_n (j := 1) hC dX1_gainAt_21 rfl rfl ?_
      refine jr_get2 hC fl_RX1_9 hc3 dX1_gainAt_22 ?_
      refine jr_iload_n (j := 0) hC dX1_gainAt_25 rfl rfl ?_
      refine jr_iconst (v := (1 : Int32)) hC dX1_gainAt_26 (by decide) ?_
      refine jr_iadd hC dX1_gainAt_27 ?_
      obtain ⟨hc5, h⟩ := h
      obtain ⟨hc6, h⟩ := h
      refine jr_iald hC hc5 hc6 dX1_gainAt_28 ?_
      refine jr_aload_n (j := 1) hC dX1_gainAt_29 rfl rfl ?_
      refine jr_get2 hC fl_RX1_9 hc3 dX1_gainAt_30 ?_
      refine jr_iload_n (j := 0) hC dX1_gainAt_33 rfl rfl ?_
      obtain ⟨hc7, h⟩ := h
      refine jr_iald hC hc5 hc7 dX1_gainAt_34 ?_
      refine jr_isub hC dX1_gainAt_35 ?_
      refine jr_nmI (fun v8 ev8 => ?_)
      have h := h v8 ev8
      refine jr_istore_n (L1 := [(3, .int v8), (2, .int v1), (0, .ref a0), (1, .int x1)]) hC dX1_gainAt_36 rfl hnL (by decide) rfl ?_
      refine jr_aload_n (j := 2) hC dX1_gainAt_37 rfl rfl ?_
      refine jr_get2 hC fl_RX1_9 hc3 dX1_gainAt_38 ?_
      refine jr_iload_n (j := 1) hC dX1_gainAt_41 rfl rfl ?_
      refine jr_iald hC hc5 hc7 dX1_gainAt_42 ?_
      refine jr_iload_n (j := 0) hC dX1_gainAt_43 rfl rfl ?_
      refine jr_iload_n (j := 3) hC dX1_gainAt_44 rfl rfl ?_
      refine jr_bipush (v := (40 : Int32)) hC dX1_gainAt_45 (by decide) ?_
      refine jr_iload_n (j := 1) hC dX1_gainAt_47 rfl rfl ?_
      refine jr_imul hC dX1_gainAt_48 ?_
      refine jr_isub hC dX1_gainAt_49 ?_
      refine jr_imul hC dX1_gainAt_50 ?_
      refine jr_bipush (v := (40 : Int32)) hC dX1_gainAt_51 (by decide) ?_
      refine jr_callS_pi (As := [.int (v8 * (x1 - ((40 : Int32) * v1))), .int (40 : Int32)]) (st := [.int (mI M (mP M a0 0) (Int32.toNatClampNeg v1))]) hC nc_RX1_39 (c_J9_floorDiv_7cf53 hlt h) rfl rfl ⟨⟨rfl, rfl⟩, ⟨by decide, by decide⟩, by decide, by decide⟩ (Nat.le_of_ble_eq_true rfl) dX1_gainAt_53 (fun v9 h => ?_)
      refine jr_iadd hC dX1_gainAt_56 ?_
      exact jr_ireti hC hZ (by decide) (by decide) dX1_gainAt_57 ⟨rfl, rfl, _, rfl, h⟩
    · have h := hfhb4 hb4
      refine jr_sub [] (L1 := []) rfl ?_
      exact B17 h
set_option maxHeartbeats 4000000 in
set_option maxRecDepth 100000 in
theorem c_X2_init {G : mw_G} {l : Launch} (hlt : l.stackTraces = false) {n : Nat} {M : mw_M} {a0 : Nat} {Q : mw_M → Prop} (h : w_X2_init n M a0 Q) : mw_Met G l yX2_init (.code yX2_init cX2_init 1 none) { frames := 1, cells := 0, slots := 0, locals := 12 } n M [.ref a0] (fun n1 M1 v => n1 = n ∧ mw_rV Q M1 v) (fun _ _ => False) := by
  refine mw_enter (L0 := [(0, .ref a0)]) hlt rfl rfl (plainFor_of_name (by decide)) (Nat.le_of_ble_eq_true rfl) rfl ?_
  intro Y hC0 hZ hnL hini0 hn00
  have hC : mw_C G l _ Y cX2_init RX2 := hC0
  have hini : mw_init Y := hini0 rfl
  unfold w_X2_init at h
  refine jr_aload_n (j := 0) hC dX2_init_0 rfl rfl ?_
  obtain ⟨hc1, h⟩ := h
  refine jr_objinit hC hc1 tw_297 tw_83 tw_84 (by decide) (by decide) dX2_init_1 ?_
  exact jr_vret hC hZ (by decide) (by decide) dX2_init_4 ⟨rfl, rfl, h⟩
set_option maxHeartbeats 4000000 in
set_option maxRecDepth 100000 in
theorem c_X2_limit {G : mw_G} {l : Launch} (hlt : l.stackTraces = false) {n : Nat} {M : mw_M} {a0 : Nat} {x1 : Int32} {x2 : Int32} {Q : mw_M → Prop} (h : w_X2_limit n M a0 x1 x2 Q) : mw_Met G l yX2_limit (.code yX2_limit cX2_limit 3 none) { frames := 1, cells := 0, slots := 0, locals := 21 } n M [.ref a0, .int x1, .int x2] (fun n1 M1 v => n1 = n ∧ mw_rV Q M1 v) (fun _ _ => False) := by
  refine mw_enter (L0 := [(0, .ref a0), (1, .int x1), (2, .int x2)]) hlt rfl rfl (plainFor_of_name (by decide)) (Nat.le_of_ble_eq_true rfl) rfl ?_
  intro Y hC0 hZ hnL hini0 hn00
  have hC : mw_C G l _ Y cX2_limit RX2 := hC0
  have B61 : ∀ (M : mw_M) (s0 : Int32) (s1 : Int32) (s2r : Nat) (h : w_X2_limit_b61 n M s0 s1 s2r Q), mw_J Y 0 0 n M 61 [] [.int s0, .int s1, .ref s2r] := by
    intro M s0 s1 s2r h
    unfold w_X2_limit_b61 at h
    refine jr_iadd hC dX2_limit_61 ?_
    obtain ⟨hc1, h⟩ := h
    obtain ⟨M2, eM2⟩ : ∃ y : mw_M, y = sI M s2r 2 (s1 + s0) := ⟨_, rfl⟩
    have h := h M2 eM2
    refine jr_putI hC fp_RX2_27 hc1 eM2 dX2_limit_62 ?_
    exact jr_vret hC hZ (by decide) (by decide) dX2_limit_65 ⟨rfl, rfl, h⟩
  have B48 : ∀ (M : mw_M) (r0 : Nat) (x2 : Int32) (s0 : Int32) (s1r : Nat) (h : w_X2_limit_b48 n M r0 x2 s0 s1r Q), mw_J Y 0 0 n M 48 [(0, .ref r0), (2, .int x2)] [.int s0, .ref s1r] := by
    intro M r0 x2 s0 s1r h
    unfold w_X2_limit_b48 at h
    refine jr_aload_n (j := 0) hC dX2_limit_48 rfl rfl ?_
    obtain ⟨hc3, h⟩ := h
    refine jr_get0 hC fl_RX2_24 hc3 dX2_limit_49 ?_
    refine jr_iload_n (j := 1) hC dX2_limit_52 rfl rfl ?_
    obtain ⟨hthb4, hfhb4⟩ := h
    refine jr_ic_ne (tgt := 60) hC dX2_limit_53 (by decide) (fun hb4 => ?_) (fun hb4 => ?_)
    · have h := hthb4 hb4
      refine jr_iconst (v := (1 : Int32)) hC dX2_limit_60 (by decide) ?_
      refine jr_sub [] (L1 := []) rfl ?_
      exact B61 M (1 : Int32) s0 s1r h
    · have h := hfhb4 hb4
      refine jr_iconst (v := (0 : Int32)) hC dX2_limit_56 (by decide) ?_
      refine jr_goto (tgt := 61) hC dX2_limit_57 (by decide) ?_
      refine jr_sub [] (L1 := []) rfl ?_
      exact B61 M (0 : Int32) s0 s1r h
  unfold w_X2_limit at h
  refine jr_aload_n (j := 0) hC dX2_limit_0 rfl rfl ?_
  refine jr_sipush (v := (-32767 : Int32)) hC dX2_limit_1 (by decide) ?_
  refine jr_sipush (v := (32767 : Int32)) hC dX2_limit_4 (by decide) ?_
  refine jr_iload_n (j := 1) hC dX2_limit_7 rfl rfl ?_
  refine jr_mmin hC tw_555 tw_533 tw_74 tw_534 (by decide) (by decide) (Nat.le_of_ble_eq_true rfl) (by decide) (by decide) dX2_limit_8 ?_
  refine jr_nmI (fun v5 ev5 => ?_)
  have h := h v5 ev5
  refine jr_mmax hC tw_556 tw_418 tw_74 tw_419 (by decide) (by decide) (Nat.le_of_ble_eq_true rfl) (by decide) (by decide) dX2_limit_11 ?_
  refine jr_nmI (fun v6 ev6 => ?_)
  have h := h v6 ev6
  obtain ⟨hc7, h⟩ := h
  obtain ⟨M8, eM8⟩ : ∃ y : mw_M, y = sI M a0 0 v6 := ⟨_, rfl⟩
  have h := h M8 eM8
  refine jr_putI hC fp_RX2_18 hc7 eM8 dX2_limit_14 ?_
  refine jr_aload_n (j := 0) hC dX2_limit_17 rfl rfl ?_
  refine jr_sipush (v := (-32767 : Int32)) hC dX2_limit_18 (by decide) ?_
  refine jr_sipush (v := (32767 : Int32)) hC dX2_limit_21 (by decide) ?_
  refine jr_iload_n (j := 2) hC dX2_limit_24 rfl rfl ?_
  refine jr_mmin hC tw_555 tw_533 tw_74 tw_534 (by decide) (by decide) (Nat.le_of_ble_eq_true rfl) (by decide) (by decide) dX2_limit_25 ?_
  refine jr_nmI (fun v9 ev9 => ?_)
  have h := h v9 ev9
  refine jr_mmax hC tw_556 tw_418 tw_74 tw_419 (by decide) (by decide) (Nat.le_of_ble_eq_true rfl) (by decide) (by decide) dX2_limit_28 ?_
  refine jr_nmI (fun v10 ev10 => ?_)
  have h := h v10 ev10
  obtain ⟨M11, eM11⟩ : ∃ y : mw_M, y = sI M8 a0 1 v10 := ⟨_, rfl⟩
  have h := h M11 eM11
  refine jr_putI hC fp_RX2_24 hc7 eM11 dX2_limit_31 ?_
  refine jr_aload_n (j := 0) hC dX2_limit_34 rfl rfl ?_
  refine jr_aload_n (j := 0) hC dX2_limit_35 rfl rfl ?_
  refine jr_get0 hC fl_RX2_18 hc7 dX2_limit_36 ?_
  refine jr_iload_n (j := 1) hC dX2_limit_39 rfl rfl ?_
  obtain ⟨hthb12, hfhb12⟩ := h
  refine jr_ic_ne (tgt := 47) hC dX2_limit_40 (by decide) (fun hb12 => ?_) (fun hb12 => ?_)
  · have h := hthb12 hb12
    refine jr_iconst (v := (1 : Int32)) hC dX2_limit_47 (by decide) ?_
    refine jr_sub [0, 2] (L1 := [(0, .ref a0), (2, .int x2)]) rfl ?_
    exact B48 M11 a0 x2 (1 : Int32) a0 h
  · have h := hfhb12 hb12
    refine jr_iconst (v := (0 : Int32)) hC dX2_limit_43 (by decide) ?_
    refine jr_goto (tgt := 48) hC dX2_limit_44 (by decide) ?_
    refine jr_sub [0, 2] (L1 := [(0, .ref a0), (2, .int x2)]) rfl ?_
    exact B48 M11 a0 x2 (0 : Int32) a0 h
set_option maxHeartbeats 4000000 in
set_option maxRecDepth 100000 in
theorem c_X3_init {G : mw_G} {l : Launch} (hlt : l.stackTraces = false) {n : Nat} {M : mw_M} {a0 : Nat} {Q : mw_M → Prop} (h : w_X3_init n M a0 Q) : mw_Met G l yX3_init (.code yX3_init cX3_init 1 none) { frames := 1, cells := 0, slots := 0, locals := 12 } n M [.ref a0] (fun n1 M1 v => n1 = n ∧ mw_rV Q M1 v) (fun _ _ => False) := by
  refine mw_enter (L0 := [(0, .ref a0)]) hlt rfl rfl (plainFor_of_name (by decide)) (Nat.le_of_ble_eq_true rfl) rfl ?_
  intro Y hC0 hZ hnL hini0 hn00
  have hC : mw_C G l _ Y cX3_init RX3 := hC0
  have hini : mw_init Y := hini0 rfl
  unfold w_X3_init at h
  refine jr_aload_n (j := 0) hC dX3_init_0 rfl rfl ?_
  obtain ⟨hc1, h⟩ := h
  refine jr_objinit hC hc1 tw_102 tw_83 tw_84 (by decide) (by decide) dX3_init_1 ?_
  refine jr_aload_n (j := 0) hC dX3_init_4 rfl rfl ?_
  refine jr_ldc2 (v := (7 : Int64)) hC tw_103 dX3_init_5 ?_
  obtain ⟨hc2, h⟩ := h
  obtain ⟨M3, eM3⟩ : ∃ y : mw_M, y = sL M a0 4 (7 : Int64) := ⟨_, rfl⟩
  have h := h M3 eM3
  refine jr_putL hC fp_RX3_11 hc2 eM3 dX3_init_8 ?_
  exact jr_vret hC hZ (by decide) (by decide) dX3_init_11 ⟨rfl, rfl, h⟩
set_option maxHeartbeats 4000000 in
set_option maxRecDepth 100000 in
theorem c_X3_takeFrom {G : mw_G} {l : Launch} (hlt : l.stackTraces = false) {n : Nat} {M : mw_M} {a0 : Nat} {a1 : Nat} {Q : mw_M → Prop} (h : w_X3_takeFrom n M a0 a1 Q) : mw_Met G l yX3_takeFrom (.code yX3_takeFrom cX3_takeFrom 2 none) { frames := 0, cells := 0, slots := 0, locals := 0 } n M [.ref a0, .ref a1] (fun n1 M1 v => n1 = n ∧ mw_rV Q M1 v) (fun _ _ => False) := by
  refine mw_enter (L0 := [(0, .ref a0), (1, .ref a1)]) hlt rfl rfl (plainFor_of_name (by decide)) (Nat.le_of_ble_eq_true rfl) rfl ?_
  intro Y hC0 hZ hnL hini0 hn00
  have hC : mw_C G l _ Y cX3_takeFrom RX3 := hC0
  unfold w_X3_takeFrom at h
  refine jr_aload_n (j := 0) hC dX3_takeFrom_0 rfl rfl ?_
  refine jr_aload_n (j := 1) hC dX3_takeFrom_1 rfl rfl ?_
  obtain ⟨hc1, h⟩ := h
  refine jr_get1 hC fl_RX3_17 hc1 dX3_takeFrom_2 ?_
  obtain ⟨hc2, h⟩ := h
  obtain ⟨M3, eM3⟩ : ∃ y : mw_M, y = sL M a0 0 (mL M a1 0) := ⟨_, rfl⟩
  have h := h M3 eM3
  refine jr_putL hC fp_RX3_17 hc2 eM3 dX3_takeFrom_5 ?_
  refine jr_aload_n (j := 0) hC dX3_takeFrom_8 rfl rfl ?_
  refine jr_aload_n (j := 1) hC dX3_takeFrom_9 rfl rfl ?_
  refine jr_get1 hC fl_RX3_20 hc1 dX3_takeFrom_10 ?_
  obtain ⟨M4, eM4⟩ : ∃ y : mw_M, y = sL M3 a0 1 (mL M3 a1 1) := ⟨_, rfl⟩
  have h := h M4 eM4
  refine jr_putL hC fp_RX3_20 hc2 eM4 dX3_takeFrom_13 ?_
  refine jr_aload_n (j := 0) hC dX3_takeFrom_16 rfl rfl ?_
  refine jr_aload_n (j := 1) hC dX3_takeFrom_17 rfl rfl ?_
  refine jr_get1 hC fl_RX3_23 hc1 dX3_takeFrom_18 ?_
  obtain ⟨M5, eM5⟩ : ∃ y : mw_M, y = sL M4 a0 2 (mL M4 a1 2) := ⟨_, rfl⟩
  have h := h M5 eM5
  refine jr_putL hC fp_RX3_23 hc2 eM5 dX3_takeFrom_21 ?_
  refine jr_aload_n (j := 0) hC dX3_takeFrom_24 rfl rfl ?_
  refine jr_aload_n (j := 1) hC dX3_takeFrom_25 rfl rfl ?_
  refine jr_get1 hC fl_RX3_26 hc1 dX3_takeFrom_26 ?_
  obtain ⟨M6, eM6⟩ : ∃ y : mw_M, y = sL M5 a0 3 (mL M5 a1 3) := ⟨_, rfl⟩
  have h := h M6 eM6
  refine jr_putL hC fp_RX3_26 hc2 eM6 dX3_takeFrom_29 ?_
  refine jr_aload_n (j := 0) hC dX3_takeFrom_32 rfl rfl ?_
  refine jr_aload_n (j := 1) hC dX3_takeFrom_33 rfl rfl ?_
  refine jr_get1 hC fl_RX3_11 hc1 dX3_takeFrom_34 ?_
  obtain ⟨M7, eM7⟩ : ∃ y : mw_M, y = sL M6 a0 4 (mL M6 a1 4) := ⟨_, rfl⟩
  have h := h M7 eM7
  refine jr_putL hC fp_RX3_11 hc2 eM7 dX3_takeFrom_37 ?_
  exact jr_vret hC hZ (by decide) (by decide) dX3_takeFrom_40 ⟨rfl, rfl, h⟩
set_option maxHeartbeats 4000000 in
set_option maxRecDepth 100000 in
theorem c_X3_clear {G : mw_G} {l : Launch} (hlt : l.stackTraces = false) {n : Nat} {M : mw_M} {a0 : Nat} {Q : mw_M → Prop} (h : w_X3_clear n M a0 Q) : mw_Met G l yX3_clear (.code yX3_clear cX3_clear 1 none) { frames := 0, cells := 0, slots := 0, locals := 0 } n M [.ref a0] (fun n1 M1 v => n1 = n ∧ mw_rV Q M1 v) (fun _ _ => False) := by
  refine mw_enter (L0 := [(0, .ref a0)]) hlt rfl rfl (plainFor_of_name (by decide)) (Nat.le_of_ble_eq_true rfl) rfl ?_
  intro Y hC0 hZ hnL hini0 hn00
  have hC : mw_C G l _ Y cX3_clear RX3 := hC0
  unfold w_X3_clear at h
  refine jr_aload_n (j := 0) hC dX3_clear_0 rfl rfl ?_
  refine jr_lconst (v := (0 : Int64)) hC dX3_clear_1 (by decide) ?_
  obtain ⟨hc1, h⟩ := h
  obtain ⟨M2, eM2⟩ : ∃ y : mw_M, y = sL M a0 0 (0 : Int64) := ⟨_, rfl⟩
  have h := h M2 eM2
  refine jr_putL hC fp_RX3_17 hc1 eM2 dX3_clear_2 ?_
  refine jr_aload_n (j := 0) hC dX3_clear_5 rfl rfl ?_
  refine jr_lconst (v := (0 : Int64)) hC dX3_clear_6 (by decide) ?_
  obtain ⟨M3, eM3⟩ : ∃ y : mw_M, y = sL M2 a0 1 (0 : Int64) := ⟨_, rfl⟩
  have h := h M3 eM3
  refine jr_putL hC fp_RX3_20 hc1 eM3 dX3_clear_7 ?_
  refine jr_aload_n (j := 0) hC dX3_clear_10 rfl rfl ?_
  refine jr_lconst (v := (0 : Int64)) hC dX3_clear_11 (by decide) ?_
  obtain ⟨M4, eM4⟩ : ∃ y : mw_M, y = sL M3 a0 2 (0 : Int64) := ⟨_, rfl⟩
  have h := h M4 eM4
  refine jr_putL hC fp_RX3_23 hc1 eM4 dX3_clear_12 ?_
  refine jr_aload_n (j := 0) hC dX3_clear_15 rfl rfl ?_
  refine jr_lconst (v := (0 : Int64)) hC dX3_clear_16 (by decide) ?_
  obtain ⟨M5, eM5⟩ : ∃ y : mw_M, y = sL M4 a0 3 (0 : Int64) := ⟨_, rfl⟩
  have h := h M5 eM5
  refine jr_putL hC fp_RX3_26 hc1 eM5 dX3_clear_17 ?_
  refine jr_aload_n (j := 0) hC dX3_clear_20 rfl rfl ?_
  refine jr_ldc2 (v := (7 : Int64)) hC tw_103 dX3_clear_21 ?_
  obtain ⟨M6, eM6⟩ : ∃ y : mw_M, y = sL M5 a0 4 (7 : Int64) := ⟨_, rfl⟩
  have h := h M6 eM6
  refine jr_putL hC fp_RX3_11 hc1 eM6 dX3_clear_24 ?_
  exact jr_vret hC hZ (by decide) (by decide) dX3_clear_27 ⟨rfl, rfl, h⟩
set_option maxHeartbeats 4000000 in
set_option maxRecDepth 100000 in
theorem c_X7_hashed {G : mw_G} {l : Launch} (hlt : l.stackTraces = false) {n : Nat} {M : mw_M} {l0 : Int64} {l2 : Int64} {Q : Int64 → Prop} (h : w_X7_hashed n M l0 l2 Q) : mw_Met G l yX7_hashed (.code yX7_hashed cX7_hashed 4 (some .long)) { frames := 0, cells := 0, slots := 0, locals := 0 } n M [.long l0, .long l2] (fun n1 M1 v => n1 = n ∧ mw_pJ M Q M1 v) (fun _ _ => False) := by
  refine mw_enter (L0 := [(0, .long l0), (2, .long l2)]) hlt rfl rfl (plainFor_of_name (by decide)) (Nat.le_of_ble_eq_true rfl) rfl ?_
  intro Y hC0 hZ hnL hini0 hn00
  have hC : mw_C G l _ Y cX7_hashed RX7 := hC0
  unfold w_X7_hashed at h
  refine jr_ldc2 (v := (31 : Int64)) hC tw_428 dX7_hashed_0 ?_
  refine jr_lload_n (j := 0) hC dX7_hashed_3 rfl rfl ?_
  refine jr_lmul hC dX7_hashed_4 ?_
  refine jr_lload_n (j := 1) hC dX7_hashed_5 rfl rfl ?_
  refine jr_ladd hC dX7_hashed_6 ?_
  exact jr_lret hC hZ (by decide) (by decide) dX7_hashed_7 ⟨rfl, rfl, _, rfl, h⟩
set_option maxHeartbeats 4000000 in
set_option maxRecDepth 100000 in
theorem c_X3_take {G : mw_G} {l : Launch} (hlt : l.stackTraces = false) {n : Nat} {M : mw_M} {a0 : Nat} {a1 : Nat} {Q : mw_M → Prop} (h : w_X3_take n M a0 a1 Q) : mw_Met G l yX3_take (.code yX3_take cX3_take 2 none) { frames := 1, cells := 0, slots := 0, locals := 23 } n M [.ref a0, .ref a1] (fun n1 M1 v => n1 = n ∧ mw_rV Q M1 v) (fun _ _ => False) := by
  refine mw_enter (L0 := [(0, .ref a0), (1, .ref a1)]) hlt rfl rfl (plainFor_of_name (by decide)) (Nat.le_of_ble_eq_true rfl) rfl ?_
  intro Y hC0 hZ hnL hini0 hn00
  have hC : mw_C G l _ Y cX3_take RX3 := hC0
  unfold w_X3_take at h
  refine jr_aload_n (j := 0) hC dX3_take_0 rfl rfl ?_
  refine jr_dup hC dX3_take_1 rfl ?_
  obtain ⟨hc1, h⟩ := h
  refine jr_get1 hC fl_RX3_17 hc1 dX3_take_2 ?_
  refine jr_lconst (v := (1 : Int64)) hC dX3_take_5 (by decide) ?_
  refine jr_ladd hC dX3_take_6 ?_
  obtain ⟨M2, eM2⟩ : ∃ y : mw_M, y = sL M a0 0 ((mL M a0 0) + (1 : Int64)) := ⟨_, rfl⟩
  have h := h M2 eM2
  refine jr_putL hC fp_RX3_17 hc1 eM2 dX3_take_7 ?_
  refine jr_aload_n (j := 0) hC dX3_take_10 rfl rfl ?_
  refine jr_aload_n (j := 0) hC dX3_take_11 rfl rfl ?_
  refine jr_get1 hC fl_RX3_20 hc1 dX3_take_12 ?_
  refine jr_aload_n (j := 1) hC dX3_take_15 rfl rfl ?_
  obtain ⟨hc3, h⟩ := h
  refine jr_get0 hC fl_RX3_29 hc3 dX3_take_16 ?_
  refine jr_mabs hC tw_993 tw_525 tw_74 tw_526 (by decide) (by decide) (Nat.le_of_ble_eq_true rfl) (by decide) (by decide) dX3_take_19 ?_
  refine jr_nmI (fun v4 ev4 => ?_)
  have h := h v4 ev4
  refine jr_i2l hC dX3_take_22 ?_
  refine jr_mmaxl hC tw_994 tw_995 tw_74 tw_996 (by decide) (by decide) (Nat.le_of_ble_eq_true rfl) (by decide) (by decide) dX3_take_23 ?_
  refine jr_nmJ (fun w5 ew5 => ?_)
  have h := h w5 ew5
  obtain ⟨M6, eM6⟩ : ∃ y : mw_M, y = sL M2 a0 1 w5 := ⟨_, rfl⟩
  have h := h M6 eM6
  refine jr_putL hC fp_RX3_20 hc1 eM6 dX3_take_26 ?_
  refine jr_aload_n (j := 0) hC dX3_take_29 rfl rfl ?_
  refine jr_aload_n (j := 0) hC dX3_take_30 rfl rfl ?_
  refine jr_get1 hC fl_RX3_23 hc1 dX3_take_31 ?_
  refine jr_aload_n (j := 1) hC dX3_take_34 rfl rfl ?_
  refine jr_get0 hC fl_RX3_45 hc3 dX3_take_35 ?_
  refine jr_mabs hC tw_993 tw_525 tw_74 tw_526 (by decide) (by decide) (Nat.le_of_ble_eq_true rfl) (by decide) (by decide) dX3_take_38 ?_
  refine jr_nmI (fun v7 ev7 => ?_)
  have h := h v7 ev7
  refine jr_i2l hC dX3_take_41 ?_
  refine jr_mmaxl hC tw_994 tw_995 tw_74 tw_996 (by decide) (by decide) (Nat.le_of_ble_eq_true rfl) (by decide) (by decide) dX3_take_42 ?_
  refine jr_nmJ (fun w8 ew8 => ?_)
  have h := h w8 ew8
  obtain ⟨M9, eM9⟩ : ∃ y : mw_M, y = sL M6 a0 2 w8 := ⟨_, rfl⟩
  have h := h M9 eM9
  refine jr_putL hC fp_RX3_23 hc1 eM9 dX3_take_45 ?_
  refine jr_aload_n (j := 0) hC dX3_take_48 rfl rfl ?_
  refine jr_dup hC dX3_take_49 rfl ?_
  refine jr_get1 hC fl_RX3_26 hc1 dX3_take_50 ?_
  refine jr_aload_n (j := 1) hC dX3_take_53 rfl rfl ?_
  refine jr_get0 hC fl_RX3_48 hc3 dX3_take_54 ?_
  refine jr_i2l hC dX3_take_57 ?_
  refine jr_ladd hC dX3_take_58 ?_
  obtain ⟨M10, eM10⟩ : ∃ y : mw_M, y = sL M9 a0 3 ((mL M9 a0 3) + (Int32.toInt64 (mI M9 a1 2))) := ⟨_, rfl⟩
  have h := h M10 eM10
  refine jr_putL hC fp_RX3_26 hc1 eM10 dX3_take_59 ?_
  refine jr_aload_n (j := 0) hC dX3_take_62 rfl rfl ?_
  refine jr_aload_n (j := 0) hC dX3_take_63 rfl rfl ?_
  refine jr_get1 hC fl_RX3_11 hc1 dX3_take_64 ?_
  refine jr_aload_n (j := 1) hC dX3_take_67 rfl rfl ?_
  refine jr_get0 hC fl_RX3_29 hc3 dX3_take_68 ?_
  refine jr_i2l hC dX3_take_71 ?_
  refine jr_callSn_pj (As := [.long (mL M10 a0 4), .long (Int32.toInt64 (mI M10 a1 0))]) (st := [.ref a0]) hC nc_RX3_50 (c_X7_hashed hlt h) rfl rfl ⟨⟨rfl, rfl⟩, ⟨by decide, by decide⟩, by decide, by decide⟩ (Nat.le_of_ble_eq_true rfl) dX3_take_72 (fun w11 h => ?_)
  refine jr_aload_n (j := 1) hC dX3_take_75 rfl rfl ?_
  refine jr_get0 hC fl_RX3_45 hc3 dX3_take_76 ?_
  refine jr_i2l hC dX3_take_79 ?_
  refine jr_callSn_pj (As := [.long w11, .long (Int32.toInt64 (mI M10 a1 1))]) (st := [.ref a0]) hC nc_RX3_50 (c_X7_hashed hlt h) rfl rfl ⟨⟨rfl, rfl⟩, ⟨by decide, by decide⟩, by decide, by decide⟩ (Nat.le_of_ble_eq_true rfl) dX3_take_80 (fun w12 h => ?_)
  obtain ⟨M13, eM13⟩ : ∃ y : mw_M, y = sL M10 a0 4 w12 := ⟨_, rfl⟩
  have h := h M13 eM13
  refine jr_putL hC fp_RX3_11 hc1 eM13 dX3_take_83 ?_
  exact jr_vret hC hZ (by decide) (by decide) dX3_take_86 ⟨rfl, rfl, h⟩
set_option maxHeartbeats 4000000 in
set_option maxRecDepth 100000 in
theorem c_X3_reading {G : mw_G} {l : Launch} (hlt : l.stackTraces = false) {n : Nat} {M : mw_M} {a0 : Nat} {x1 : Int32} {Q : Int64 → Prop} (h : w_X3_reading n M a0 x1 Q) : mw_Met G l yX3_reading (.code yX3_reading cX3_reading 2 (some .long)) { frames := 0, cells := 0, slots := 0, locals := 0 } n M [.ref a0, .int x1] (fun n1 M1 v => n1 = n ∧ mw_pJ M Q M1 v) (fun _ _ => False) := by
  refine mw_enter (L0 := [(0, .ref a0), (1, .int x1)]) hlt rfl rfl (plainFor_of_name (by decide)) (Nat.le_of_ble_eq_true rfl) rfl ?_
  intro Y hC0 hZ hnL hini0 hn00
  have hC : mw_C G l _ Y cX3_reading RX3 := hC0
  unfold w_X3_reading at h
  refine jr_iload_n (j := 1) hC dX3_reading_0 rfl rfl ?_
  obtain ⟨hs0, hs1, hs2, hs3, hs4⟩ := h
  rcases (show Int32.toInt x1 < 0 ∨ 3 < Int32.toInt x1 ∨ Int32.toInt x1 = 0 ∨ Int32.toInt x1 = 1 ∨ Int32.toInt x1 = 2 ∨ Int32.toInt x1 = 3 from by omega) with hq | hq | hq | hq | hq | hq
  · have h := hs0 (Or.inl hq)
    refine jr_tout (tgt := 52) hC (Or.inl hq) dX3_reading_1 (by decide) ?_
    refine jr_aload_n (j := 0) hC dX3_reading_52 rfl rfl ?_
    obtain ⟨hc1, h⟩ := h
    refine jr_get1 hC fl_RX3_11 hc1 dX3_reading_53 ?_
    exact jr_lret hC hZ (by decide) (by decide) dX3_reading_56 ⟨rfl, rfl, _, rfl, h⟩
  · have h := hs0 (Or.inr hq)
    refine jr_tout (tgt := 52) hC (Or.inr hq) dX3_reading_1 (by decide) ?_
    refine jr_aload_n (j := 0) hC dX3_reading_52 rfl rfl ?_
    obtain ⟨hc1, h⟩ := h
    refine jr_get1 hC fl_RX3_11 hc1 dX3_reading_53 ?_
    exact jr_lret hC hZ (by decide) (by decide) dX3_reading_56 ⟨rfl, rfl, _, rfl, h⟩
  · have h := hs1 hq
    refine jr_tin (tgt := 32) hC 0 hq dX3_reading_1 (by decide) (by decide) rfl (by decide) ?_
    refine jr_aload_n (j := 0) hC dX3_reading_32 rfl rfl ?_
    obtain ⟨hc2, h⟩ := h
    refine jr_get1 hC fl_RX3_17 hc2 dX3_reading_33 ?_
    exact jr_lret hC hZ (by decide) (by decide) dX3_reading_36 ⟨rfl, rfl, _, rfl, h⟩
  · have h := hs2 hq
    refine jr_tin (tgt := 37) hC 1 hq dX3_reading_1 (by decide) (by decide) rfl (by decide) ?_
    refine jr_aload_n (j := 0) hC dX3_reading_37 rfl rfl ?_
    obtain ⟨hc3, h⟩ := h
    refine jr_get1 hC fl_RX3_20 hc3 dX3_reading_38 ?_
    exact jr_lret hC hZ (by decide) (by decide) dX3_reading_41 ⟨rfl, rfl, _, rfl, h⟩
  · have h := hs3 hq
    refine jr_tin (tgt := 42) hC 2 hq dX3_reading_1 (by decide) (by decide) rfl (by decide) ?_
    refine jr_aload_n (j := 0) hC dX3_reading_42 rfl rfl ?_
    obtain ⟨hc4, h⟩ := h
    refine jr_get1 hC fl_RX3_23 hc4 dX3_reading_43 ?_
    exact jr_lret hC hZ (by decide) (by decide) dX3_reading_46 ⟨rfl, rfl, _, rfl, h⟩
  · have h := hs4 hq
    refine jr_tin (tgt := 47) hC 3 hq dX3_reading_1 (by decide) (by decide) rfl (by decide) ?_
    refine jr_aload_n (j := 0) hC dX3_reading_47 rfl rfl ?_
    obtain ⟨hc5, h⟩ := h
    refine jr_get1 hC fl_RX3_26 hc5 dX3_reading_48 ?_
    exact jr_lret hC hZ (by decide) (by decide) dX3_reading_51 ⟨rfl, rfl, _, rfl, h⟩
set_option maxHeartbeats 4000000 in
set_option maxRecDepth 100000 in
theorem c_X4_init {G : mw_G} {l : Launch} (hlt : l.stackTraces = false) {n : Nat} {M : mw_M} {a0 : Nat} {Q : mw_M → Prop} (h : w_X4_init n M a0 Q) : mw_Met G l yX4_init (.code yX4_init cX4_init 1 none) { frames := 1, cells := 0, slots := 0, locals := 12 } n M [.ref a0] (fun n1 M1 v => n1 = n ∧ mw_rV Q M1 v) (fun _ _ => False) := by
  refine mw_enter (L0 := [(0, .ref a0)]) hlt rfl rfl (plainFor_of_name (by decide)) (Nat.le_of_ble_eq_true rfl) rfl ?_
  intro Y hC0 hZ hnL hini0 hn00
  have hC : mw_C G l _ Y cX4_init RX4 := hC0
  have hini : mw_init Y := hini0 rfl
  unfold w_X4_init at h
  refine jr_aload_n (j := 0) hC dX4_init_0 rfl rfl ?_
  obtain ⟨hc1, h⟩ := h
  refine jr_objinit hC hc1 tw_125 tw_83 tw_84 (by decide) (by decide) dX4_init_1 ?_
  refine jr_aload_n (j := 0) hC dX4_init_4 rfl rfl ?_
  refine jr_iconst (v := (0 : Int32)) hC dX4_init_5 (by decide) ?_
  obtain ⟨hc2, h⟩ := h
  obtain ⟨M3, eM3⟩ : ∃ y : mw_M, y = sI M a0 0 (0 : Int32) := ⟨_, rfl⟩
  have h := h M3 eM3
  refine jr_putI hC fp_RX4_9 hc2 eM3 dX4_init_6 ?_
  refine jr_aload_n (j := 0) hC dX4_init_9 rfl rfl ?_
  refine jr_iconst (v := (1 : Int32)) hC dX4_init_10 (by decide) ?_
  obtain ⟨M4, eM4⟩ : ∃ y : mw_M, y = sI M3 a0 2 (1 : Int32) := ⟨_, rfl⟩
  have h := h M4 eM4
  refine jr_putI hC fp_RX4_15 hc2 eM4 dX4_init_11 ?_
  refine jr_aload_n (j := 0) hC dX4_init_14 rfl rfl ?_
  refine jr_sipush (v := (4000 : Int32)) hC dX4_init_15 (by decide) ?_
  obtain ⟨M5, eM5⟩ : ∃ y : mw_M, y = sI M4 a0 3 (4000 : Int32) := ⟨_, rfl⟩
  have h := h M5 eM5
  refine jr_putI hC fp_RX4_18 hc2 eM5 dX4_init_18 ?_
  exact jr_vret hC hZ (by decide) (by decide) dX4_init_21 ⟨rfl, rfl, h⟩
set_option maxHeartbeats 4000000 in
set_option maxRecDepth 100000 in
theorem c_X4_define {G : mw_G} {l : Launch} (hlt : l.stackTraces = false) {n : Nat} {M : mw_M} {a0 : Nat} {x1 : Int32} {x2 : Int32} {x3 : Int32} {x4 : Int32} {Q : mw_M → Prop} (h : w_X4_define n M a0 x1 x2 x3 x4 Q) : mw_Met G l yX4_define (.code yX4_define cX4_define 5 none) { frames := 0, cells := 0, slots := 0, locals := 0 } n M [.ref a0, .int x1, .int x2, .int x3, .int x4] (fun n1 M1 v => n1 = n ∧ mw_rV Q M1 v) (fun _ _ => False) := by
  refine mw_enter (L0 := [(0, .ref a0), (1, .int x1), (2, .int x2), (3, .int x3), (4, .int x4)]) hlt rfl rfl (plainFor_of_name (by decide)) (Nat.le_of_ble_eq_true rfl) rfl ?_
  intro Y hC0 hZ hnL hini0 hn00
  have hC : mw_C G l _ Y cX4_define RX4 := hC0
  unfold w_X4_define at h
  refine jr_aload_n (j := 0) hC dX4_define_0 rfl rfl ?_
  refine jr_iload_n (j := 1) hC dX4_define_1 rfl rfl ?_
  obtain ⟨hc1, h⟩ := h
  obtain ⟨M2, eM2⟩ : ∃ y : mw_M, y = sI M a0 0 x1 := ⟨_, rfl⟩
  have h := h M2 eM2
  refine jr_putI hC fp_RX4_9 hc1 eM2 dX4_define_2 ?_
  refine jr_aload_n (j := 0) hC dX4_define_5 rfl rfl ?_
  refine jr_iload_n (j := 2) hC dX4_define_6 rfl rfl ?_
  obtain ⟨M3, eM3⟩ : ∃ y : mw_M, y = sI M2 a0 1 x2 := ⟨_, rfl⟩
  have h := h M3 eM3
  refine jr_putI hC fp_RX4_21 hc1 eM3 dX4_define_7 ?_
  refine jr_aload_n (j := 0) hC dX4_define_10 rfl rfl ?_
  refine jr_iload_n (j := 3) hC dX4_define_11 rfl rfl ?_
  obtain ⟨M4, eM4⟩ : ∃ y : mw_M, y = sI M3 a0 2 x3 := ⟨_, rfl⟩
  have h := h M4 eM4
  refine jr_putI hC fp_RX4_15 hc1 eM4 dX4_define_12 ?_
  refine jr_aload_n (j := 0) hC dX4_define_15 rfl rfl ?_
  refine jr_iload (j := 4) hC dX4_define_16 rfl ?_
  obtain ⟨M5, eM5⟩ : ∃ y : mw_M, y = sI M4 a0 3 x4 := ⟨_, rfl⟩
  have h := h M5 eM5
  refine jr_putI hC fp_RX4_18 hc1 eM5 dX4_define_18 ?_
  exact jr_vret hC hZ (by decide) (by decide) dX4_define_21 ⟨rfl, rfl, h⟩
set_option maxHeartbeats 4000000 in
set_option maxRecDepth 100000 in
theorem c_X4_takeFrom {G : mw_G} {l : Launch} (hlt : l.stackTraces = false) {n : Nat} {M : mw_M} {a0 : Nat} {a1 : Nat} {Q : mw_M → Prop} (h : w_X4_takeFrom n M a0 a1 Q) : mw_Met G l yX4_takeFrom (.code yX4_takeFrom cX4_takeFrom 2 none) { frames := 1, cells := 0, slots := 0, locals := 24 } n M [.ref a0, .ref a1] (fun n1 M1 v => n1 = n ∧ mw_rV Q M1 v) (fun _ _ => False) := by
  refine mw_enter (L0 := [(0, .ref a0), (1, .ref a1)]) hlt rfl rfl (plainFor_of_name (by decide)) (Nat.le_of_ble_eq_true rfl) rfl ?_
  intro Y hC0 hZ hnL hini0 hn00
  have hC : mw_C G l _ Y cX4_takeFrom RX4 := hC0
  unfold w_X4_takeFrom at h
  refine jr_aload_n (j := 0) hC dX4_takeFrom_0 rfl rfl ?_
  refine jr_aload_n (j := 1) hC dX4_takeFrom_1 rfl rfl ?_
  obtain ⟨hc1, h⟩ := h
  refine jr_get0 hC fl_RX4_9 hc1 dX4_takeFrom_2 ?_
  refine jr_aload_n (j := 1) hC dX4_takeFrom_5 rfl rfl ?_
  refine jr_get0 hC fl_RX4_21 hc1 dX4_takeFrom_6 ?_
  refine jr_aload_n (j := 1) hC dX4_takeFrom_9 rfl rfl ?_
  refine jr_get0 hC fl_RX4_15 hc1 dX4_takeFrom_10 ?_
  refine jr_aload_n (j := 1) hC dX4_takeFrom_13 rfl rfl ?_
  refine jr_get0 hC fl_RX4_18 hc1 dX4_takeFrom_14 ?_
  obtain ⟨hc2, h⟩ := h
  refine jr_callV_v (As := [.int (mI M a1 0), .int (mI M a1 1), .int (mI M a1 2), .int (mI M a1 3)]) (st := []) hC nc_RX4_24 (c_X4_define hlt h) hc2 rfl rfl ⟨⟨rfl, rfl⟩, ⟨by decide, by decide⟩, by decide, by decide⟩ (Nat.le_of_ble_eq_true rfl) dX4_takeFrom_17 (fun M3 h => ?_)
  exact jr_vret hC hZ (by decide) (by decide) dX4_takeFrom_20 ⟨rfl, rfl, h⟩
set_option maxHeartbeats 4000000 in
set_option maxRecDepth 100000 in
theorem c_X4_valueAt {G : mw_G} {l : Launch} (hlt : l.stackTraces = false) {n : Nat} {M : mw_M} {a0 : Nat} {x1 : Int32} {Q : Int32 → Prop} (h : w_X4_valueAt n M a0 x1 Q) : mw_Met G l yX4_valueAt (.code yX4_valueAt cX4_valueAt 6 (some .int)) { frames := 1, cells := 0, slots := 0, locals := 21 } n M [.ref a0, .int x1] (fun n1 M1 v => n1 = n ∧ mw_pI M Q M1 v) (fun _ _ => False) := by
  refine mw_enter (L0 := [(0, .ref a0), (1, .int x1)]) hlt rfl rfl (plainFor_of_name (by decide)) (Nat.le_of_ble_eq_true rfl) rfl ?_
  intro Y hC0 hZ hnL hini0 hn00
  have hC : mw_C G l _ Y cX4_valueAt RX4 := hC0
  have B20 : (w_X4_valueAt_b20 n M Q) → mw_J Y 0 0 n M 20 [] [] := by
    intro  h
    unfold w_X4_valueAt_b20 at h
    refine jr_iconst (v := (0 : Int32)) hC dX4_valueAt_20 (by decide) ?_
    exact jr_ireti hC hZ (by decide) (by decide) dX4_valueAt_21 ⟨rfl, rfl, _, rfl, h⟩
  have B82 : ∀ (s0 : Int32) (h : w_X4_valueAt_b82 n M s0 Q), mw_J Y 0 0 n M 82 [] [.int s0] := by
    intro s0 h
    unfold w_X4_valueAt_b82 at h
    exact jr_ireti hC hZ (by decide) (by decide) dX4_valueAt_82 ⟨rfl, rfl, _, rfl, h⟩
  unfold w_X4_valueAt at h
  refine jr_iload_n (j := 1) hC dX4_valueAt_0 rfl rfl ?_
  obtain ⟨hthb1, hfhb1⟩ := h
  refine jr_if_lt (tgt := 20) hC dX4_valueAt_1 (by decide) (fun hb1 => ?_) (fun hb1 => ?_)
  · have h := hthb1 hb1
    refine jr_sub [] (L1 := []) rfl ?_
    exact B20 h
  · have h := hfhb1 hb1
    refine jr_iload_n (j := 1) hC dX4_valueAt_4 rfl rfl ?_
    refine jr_aload_n (j := 0) hC dX4_valueAt_5 rfl rfl ?_
    obtain ⟨hc2, h⟩ := h
    refine jr_get0 hC fl_RX4_18 hc2 dX4_valueAt_6 ?_
    obtain ⟨hthb3, hfhb3⟩ := h
    refine jr_ic_ge (tgt := 20) hC dX4_valueAt_9 (by decide) (fun hb3 => ?_) (fun hb3 => ?_)
    · have h := hthb3 hb3
      refine jr_sub [] (L1 := []) rfl ?_
      exact B20 h
    · have h := hfhb3 hb3
      refine jr_aload_n (j := 0) hC dX4_valueAt_12 rfl rfl ?_
      refine jr_get0 hC fl_RX4_15 hc2 dX4_valueAt_13 ?_
      refine jr_iconst (v := (1 : Int32)) hC dX4_valueAt_16 (by decide) ?_
      obtain ⟨hthb4, hfhb4⟩ := h
      refine jr_ic_ge (tgt := 22) hC dX4_valueAt_17 (by decide) (fun hb4 => ?_) (fun hb4 => ?_)
      · have h := hthb4 hb4
        refine jr_iload_n (j := 1) hC dX4_valueAt_22 rfl rfl ?_
        refine jr_aload_n (j := 0) hC dX4_valueAt_23 rfl rfl ?_
        refine jr_get0 hC fl_RX4_15 hc2 dX4_valueAt_24 ?_
        obtain ⟨hc5, h⟩ := h
        refine jr_irem hC dX4_valueAt_27 hc5 ?_
        refine jr_nmI (fun v6 ev6 => ?_)
        have h := h v6 ev6
        refine jr_istore_n (L1 := [(2, .int v6), (0, .ref a0), (1, .int x1)]) hC dX4_valueAt_28 rfl hnL (by decide) rfl ?_
        refine jr_aload_n (j := 1) hC dX4_valueAt_29 rfl rfl ?_
        refine jr_get0 hC fl_RX4_9 hc2 dX4_valueAt_30 ?_
        obtain ⟨hs0, hs1, hs2, hs3⟩ := h
        rcases (show Int32.toInt (mI M a0 0) < 1 ∨ 3 < Int32.toInt (mI M a0 0) ∨ Int32.toInt (mI M a0 0) = 1 ∨ Int32.toInt (mI M a0 0) = 2 ∨ Int32.toInt (mI M a0 0) = 3 from by omega) with hq | hq | hq | hq | hq
        · have h := hs0 (Or.inl hq)
          refine jr_tout (tgt := 155) hC (Or.inl hq) dX4_valueAt_33 (by decide) ?_
          refine jr_aload_n (j := 1) hC dX4_valueAt_155 rfl rfl ?_
          refine jr_get0 hC fl_RX4_21 hc2 dX4_valueAt_156 ?_
          exact jr_ireti hC hZ (by decide) (by decide) dX4_valueAt_159 ⟨rfl, rfl, _, rfl, h⟩
        · have h := hs0 (Or.inr hq)
          refine jr_tout (tgt := 155) hC (Or.inr hq) dX4_valueAt_33 (by decide) ?_
          refine jr_aload_n (j := 1) hC dX4_valueAt_155 rfl rfl ?_
          refine jr_get0 hC fl_RX4_21 hc2 dX4_valueAt_156 ?_
          exact jr_ireti hC hZ (by decide) (by decide) dX4_valueAt_159 ⟨rfl, rfl, _, rfl, h⟩
        · have h := hs1 hq
          refine jr_tin (tgt := 60) hC 1 hq dX4_valueAt_33 (by decide) (by decide) rfl (by decide) ?_
          refine jr_iconst (v := (2 : Int32)) hC dX4_valueAt_60 (by decide) ?_
          refine jr_iload_n (j := 0) hC dX4_valueAt_61 rfl rfl ?_
          refine jr_imul hC dX4_valueAt_62 ?_
          refine jr_aload_n (j := 1) hC dX4_valueAt_63 rfl rfl ?_
          refine jr_get0 hC fl_RX4_15 hc2 dX4_valueAt_64 ?_
          obtain ⟨hthb7, hfhb7⟩ := h
          refine jr_ic_ge (tgt := 77) hC dX4_valueAt_67 (by decide) (fun hb7 => ?_) (fun hb7 => ?_)
          · have h := hthb7 hb7
            refine jr_aload_n (j := 1) hC dX4_valueAt_77 rfl rfl ?_
            refine jr_get0 hC fl_RX4_21 hc2 dX4_valueAt_78 ?_
            refine jr_ineg hC dX4_valueAt_81 ?_
            refine jr_sub [] (L1 := []) rfl ?_
            exact B82 (-(mI M a0 1)) h
          · have h := hfhb7 hb7
            refine jr_aload_n (j := 1) hC dX4_valueAt_70 rfl rfl ?_
            refine jr_get0 hC fl_RX4_21 hc2 dX4_valueAt_71 ?_
            refine jr_goto (tgt := 82) hC dX4_valueAt_74 (by decide) ?_
            refine jr_sub [] (L1 := []) rfl ?_
            exact B82 (mI M a0 1) h
        · have h := hs2 hq
          refine jr_tin (tgt := 83) hC 2 hq dX4_valueAt_33 (by decide) (by decide) rfl (by decide) ?_
          refine jr_iconst (v := (2 : Int32)) hC dX4_valueAt_83 (by decide) ?_
          refine jr_aload_n (j := 1) hC dX4_valueAt_84 rfl rfl ?_
          refine jr_get0 hC fl_RX4_21 hc2 dX4_valueAt_85 ?_
          refine jr_imul hC dX4_valueAt_88 ?_
          refine jr_iload_n (j := 0) hC dX4_valueAt_89 rfl rfl ?_
          refine jr_imul hC dX4_valueAt_90 ?_
          refine jr_aload_n (j := 1) hC dX4_valueAt_91 rfl rfl ?_
          refine jr_get0 hC fl_RX4_15 hc2 dX4_valueAt_92 ?_
          refine jr_idiv hC dX4_valueAt_95 hc5 ?_
          refine jr_aload_n (j := 1) hC dX4_valueAt_96 rfl rfl ?_
          refine jr_get0 hC fl_RX4_21 hc2 dX4_valueAt_97 ?_
          refine jr_isub hC dX4_valueAt_100 ?_
          exact jr_ireti hC hZ (by decide) (by decide) dX4_valueAt_101 ⟨rfl, rfl, _, rfl, h⟩
        · have h := hs3 hq
          refine jr_tin (tgt := 102) hC 3 hq dX4_valueAt_33 (by decide) (by decide) rfl (by decide) ?_
          refine jr_iconst (v := (2 : Int32)) hC dX4_valueAt_102 (by decide) ?_
          refine jr_iconst (v := (0 : Int32)) hC dX4_valueAt_103 (by decide) ?_
          refine jr_aload_n (j := 1) hC dX4_valueAt_104 rfl rfl ?_
          refine jr_get0 hC fl_RX4_21 hc2 dX4_valueAt_105 ?_
          refine jr_mmax hC tw_500 tw_418 tw_74 tw_419 (by decide) (by decide) (Nat.le_of_ble_eq_true rfl) (by decide) (by decide) dX4_valueAt_108 ?_
          refine jr_nmI (fun v8 ev8 => ?_)
          have h := h v8 ev8
          refine jr_imul hC dX4_valueAt_111 ?_
          refine jr_iconst (v := (1 : Int32)) hC dX4_valueAt_112 (by decide) ?_
          refine jr_iadd hC dX4_valueAt_113 ?_
          refine jr_nmI (fun v9 ev9 => ?_)
          have h := h v9 ev9
          refine jr_istore_n (L1 := [(3, .int v9), (2, .int v6), (0, .ref a0), (1, .int x1)]) hC dX4_valueAt_114 rfl hnL (by decide) rfl ?_
          refine jr_ldc2 (v := (1103515245 : Int64)) hC tw_501 dX4_valueAt_115 ?_
          refine jr_iload_n (j := 3) hC dX4_valueAt_118 rfl rfl ?_
          refine jr_iconst (v := (1 : Int32)) hC dX4_valueAt_119 (by decide) ?_
          refine jr_iadd hC dX4_valueAt_120 ?_
          refine jr_i2l hC dX4_valueAt_121 ?_
          refine jr_lmul hC dX4_valueAt_122 ?_
          refine jr_ldc2 (v := (12345 : Int64)) hC tw_502 dX4_valueAt_123 ?_
          refine jr_aload_n (j := 2) hC dX4_valueAt_126 rfl rfl ?_
          refine jr_get0 hC fl_RX4_15 hc2 dX4_valueAt_127 ?_
          refine jr_i2l hC dX4_valueAt_130 ?_
          refine jr_lmul hC dX4_valueAt_131 ?_
          refine jr_ladd hC dX4_valueAt_132 ?_
          refine jr_ldc2 (v := (2147483648 : Int64)) hC tw_503 dX4_valueAt_133 ?_
          refine jr_lrem hC dX4_valueAt_136 (by decide) ?_
          refine jr_nmJ (fun w10 ew10 => ?_)
          have h := h w10 ew10
          refine jr_lstore (L1 := [(4, .long w10), (3, .int v9), (2, .int v6), (0, .ref a0), (1, .int x1)]) hC dX4_valueAt_137 hnL (by decide) rfl ?_
          refine jr_lload (j := 0) hC dX4_valueAt_139 rfl ?_
          refine jr_ldc2 (v := (65536 : Int64)) hC tw_504 dX4_valueAt_141 ?_
          refine jr_ldiv hC dX4_valueAt_144 (by decide) ?_
          refine jr_iload_n (j := 1) hC dX4_valueAt_145 rfl rfl ?_
          refine jr_i2l hC dX4_valueAt_146 ?_
          obtain ⟨hc11, h⟩ := h
          refine jr_lrem hC dX4_valueAt_147 hc11 ?_
          refine jr_l2i hC dX4_valueAt_148 ?_
          refine jr_aload_n (j := 3) hC dX4_valueAt_149 rfl rfl ?_
          refine jr_get0 hC fl_RX4_21 hc2 dX4_valueAt_150 ?_
          refine jr_isub hC dX4_valueAt_153 ?_
          exact jr_ireti hC hZ (by decide) (by decide) dX4_valueAt_154 ⟨rfl, rfl, _, rfl, h⟩
      · have h := hfhb4 hb4
        refine jr_sub [] (L1 := []) rfl ?_
        exact B20 h
set_option maxHeartbeats 4000000 in
set_option maxRecDepth 100000 in
theorem c_X6_init {G : mw_G} {l : Launch} (hlt : l.stackTraces = false) {n : Nat} {M : mw_M} {a0 : Nat} {Q : Nat → mw_M → Prop} (h : w_X6_init n M a0 Q) : mw_Met G l yX6_init (.code yX6_init cX6_init 1 none) { frames := 1, cells := 3, slots := 24, locals := 12 } n M [.ref a0] (mw_rN Q) (fun _ _ => False) := by
  refine mw_enter (L0 := [(0, .ref a0)]) hlt rfl rfl (plainFor_of_name (by decide)) (Nat.le_of_ble_eq_true rfl) rfl ?_
  intro Y hC0 hZ hnL hini0 hn00
  have hC : mw_C G l _ Y cX6_init RX6 := hC0
  have hini : mw_init Y := hini0 rfl
  unfold w_X6_init at h
  refine jr_aload_n (j := 0) hC dX6_init_0 rfl rfl ?_
  obtain ⟨hc1, h⟩ := h
  refine jr_objinit hC hc1 tw_193 tw_83 tw_84 (by decide) (by decide) dX6_init_1 ?_
  refine jr_aload_n (j := 0) hC dX6_init_4 rfl rfl ?_
  refine jr_sipush (v := (1000 : Int32)) hC dX6_init_5 (by decide) ?_
  obtain ⟨hc2, h⟩ := h
  obtain ⟨M3, eM3⟩ : ∃ y : mw_M, y = sI M a0 0 (1000 : Int32) := ⟨_, rfl⟩
  have h := h M3 eM3
  refine jr_putI hC fp_RX6_9 hc2 eM3 dX6_init_8 ?_
  refine jr_aload_n (j := 0) hC dX6_init_11 rfl rfl ?_
  refine jr_bipush (v := (8 : Int32)) hC dX6_init_12 (by decide) ?_
  obtain ⟨hc4, h⟩ := h
  obtain ⟨hc5, h⟩ := h
  obtain ⟨hc6, h⟩ := h
  obtain ⟨hc7, h⟩ := h
  obtain ⟨hc8, h⟩ := h
  refine jr_newi (N := 8) hC tw_250 hc4 hc5 (by decide) (by decide) (mw_okl_c hc8 mw_okl_n) (mw_oks_c hc8 mw_oks_n) hc6 hc7 dX6_init_14 ?_
  obtain ⟨hc9, h⟩ := h
  obtain ⟨M10, eM10⟩ : ∃ y : mw_M, y = sP M3 a0 5 n := ⟨_, rfl⟩
  have h := h M10 eM10
  refine jr_putAF hC fp_RX6_15 hc9 hini (by intro C T N h9; cases h9; rfl) eM10 dX6_init_16 ?_
  refine jr_aload_n (j := 0) hC dX6_init_19 rfl rfl ?_
  refine jr_bipush (v := (8 : Int32)) hC dX6_init_20 (by decide) ?_
  obtain ⟨hc11, h⟩ := h
  obtain ⟨hc12, h⟩ := h
  obtain ⟨hc13, h⟩ := h
  obtain ⟨hc14, h⟩ := h
  obtain ⟨hc15, h⟩ := h
  refine jr_newi (N := 8) hC tw_250 hc11 hc12 (by decide) (by decide) (mw_okl_c hc15 mw_okl_n) (mw_oks_c hc15 mw_oks_n) hc13 hc14 dX6_init_22 ?_
  obtain ⟨hc16, h⟩ := h
  obtain ⟨M17, eM17⟩ : ∃ y : mw_M, y = sP M10 a0 6 (n + 1) := ⟨_, rfl⟩
  have h := h M17 eM17
  refine jr_putAF hC fp_RX6_19 hc16 hini (by intro C T N h9; cases h9; rfl) eM17 dX6_init_24 ?_
  refine jr_aload_n (j := 0) hC dX6_init_27 rfl rfl ?_
  refine jr_bipush (v := (8 : Int32)) hC dX6_init_28 (by decide) ?_
  obtain ⟨hc18, h⟩ := h
  obtain ⟨hc19, h⟩ := h
  obtain ⟨hc20, h⟩ := h
  obtain ⟨hc21, h⟩ := h
  obtain ⟨hc22, h⟩ := h
  refine jr_newz (N := 8) hC tw_251 hc18 hc19 (by decide) (by decide) (mw_okl_c hc22 mw_okl_n) (mw_oks_c hc22 mw_oks_n) hc20 hc21 dX6_init_30 ?_
  obtain ⟨hc23, h⟩ := h
  obtain ⟨M24, eM24⟩ : ∃ y : mw_M, y = sP M17 a0 7 ((n + 1) + 1) := ⟨_, rfl⟩
  have h := h M24 eM24
  refine jr_putAF hC fp_RX6_22 hc23 hini (by intro C T N h9; cases h9; rfl) eM24 dX6_init_32 ?_
  refine jr_aload_n (j := 0) hC dX6_init_35 rfl rfl ?_
  refine jr_iconst (v := (-1 : Int32)) hC dX6_init_36 (by decide) ?_
  obtain ⟨M25, eM25⟩ : ∃ y : mw_M, y = sI M24 a0 8 (-1 : Int32) := ⟨_, rfl⟩
  have h := h M25 eM25
  refine jr_putI hC fp_RX6_26 hc23 eM25 dX6_init_37 ?_
  obtain ⟨hc26, h⟩ := h
  obtain ⟨hc27, h⟩ := h
  exact jr_vret hC hZ hc26 hc27 dX6_init_40 ⟨rfl, h⟩
set_option maxHeartbeats 4000000 in
set_option maxRecDepth 100000 in
theorem c_X5_init {G : mw_G} {l : Launch} (hlt : l.stackTraces = false) {n : Nat} {M : mw_M} {a0 : Nat} {Q : Nat → mw_M → Prop} (h : w_X5_init n M a0 Q) : mw_Met G l yX5_init (.code yX5_init cX5_init 2 none) { frames := 2, cells := 38, slots := 307, locals := 32 } n M [.ref a0] (mw_rN Q) (fun _ _ => False) := by
  refine mw_enter (L0 := [(0, .ref a0)]) hlt rfl rfl (plainFor_of_name (by decide)) (Nat.le_of_ble_eq_true rfl) rfl ?_
  intro Y hC0 hZ hnL hini0 hn00
  have hC : mw_C G l _ Y cX5_init RX5 := hC0
  have hini : mw_init Y := hini0 rfl
  have B117 : ∀ (k : Nat) (sl : Nat) (n : Nat) (M : mw_M) (r0 : Nat) (x1 : Int32) (h : w_X5_init_b117 k sl n M r0 x1 Q), mw_J Y k sl n M 117 [(0, .ref r0), (1, .int x1)] [] := by
    intro k sl n M r0 x1 h
    obtain ⟨Inv, mu, h0, hs⟩ := h
    refine mw_loop5 (fun (k : Nat) (sl : Nat) (n : Nat) (M : mw_M) (x1 : Int32) => mw_J Y k sl n M 117 [(0, .ref r0), (1, .int x1)] []) Inv mu (fun k sl n M x1 hI hrec => ?_) k sl n M x1 h0
    have h := hs k sl n M x1 hI
    refine jr_iload_n (j := 1) hC dX5_init_117 rfl rfl ?_
    refine jr_aload_n (j := 0) hC dX5_init_118 rfl rfl ?_
    obtain ⟨hc1, h⟩ := h
    refine jr_get2 hC fl_RX5_25 hc1 dX5_init_119 ?_
    obtain ⟨hc2, h⟩ := h
    refine jr_alen (t := 15) hC (by decide) (by decide) hc2 dX5_init_122 ?_
    obtain ⟨hthb3, hfhb3⟩ := h
    refine jr_ic_ge (tgt := 145) hC dX5_init_123 (by decide) (fun hb3 => ?_) (fun hb3 => ?_)
    · have h := hthb3 hb3
      obtain ⟨hc4, h⟩ := h
      obtain ⟨hc5, h⟩ := h
      exact jr_vret hC hZ hc4 hc5 dX5_init_145 ⟨rfl, h⟩
    · have h := hfhb3 hb3
      refine jr_aload_n (j := 0) hC dX5_init_126 rfl rfl ?_
      refine jr_get2 hC fl_RX5_25 hc1 dX5_init_127 ?_
      refine jr_iload_n (j := 1) hC dX5_init_130 rfl rfl ?_
      obtain ⟨hc6, h⟩ := h
      obtain ⟨hc7, h⟩ := h
      obtain ⟨hc8, h⟩ := h
      obtain ⟨hc9, h⟩ := h
      obtain ⟨hc10, h⟩ := h
      refine jr_new hC mw_Cl6 tyX6 tyX6_ok mw_df6 tw_95 tw_189 tw_65 hc6 (mw_okl_c hc9 (mw_okl_c trivial mw_okl_n)) (mw_oks_c trivial (mw_oks_c hc10 mw_oks_n)) hc7 hc8 dX5_init_131 ?_
      refine jr_dup hC dX5_init_134 rfl ?_
      obtain ⟨hc11, h⟩ := h
      obtain ⟨hc14, h⟩ := h
      obtain ⟨hc15, h⟩ := h
      obtain ⟨hc16, h⟩ := h
      obtain ⟨hc17, h⟩ := h
      obtain ⟨hc18, h⟩ := h
      refine jr_callIna_v (As := []) (st := [.ref n, .int x1, .ref (mP M r0 3)]) hC nc_RX5_45 (c_X6_init hlt h) hc11 (mw_okl_c hc16 (mw_okl_c trivial mw_okl_n)) (mw_oks_c hc18 (mw_oks_c trivial (mw_oks_c hc17 mw_oks_n))) rfl rfl ⟨⟨rfl, rfl⟩, ⟨by decide, by decide⟩, hc14, hc15⟩ (Nat.le_of_ble_eq_true rfl) dX5_init_135 (fun n13 M12 h => ?_)
      obtain ⟨hc20, h⟩ := h
      obtain ⟨hc21, h⟩ := h
      obtain ⟨hc22, h⟩ := h
      obtain ⟨M23, eM23⟩ : ∃ y : mw_M, y = sP M12 (mP M r0 3) (Int32.toNatClampNeg x1) n := ⟨_, rfl⟩
      have h := h M23 eM23
      refine jr_aast (t := 15) (tc := 6) (C9 := RX6) (T9 := TX6) hC (by decide) (by decide) rfl rfl hc20 hc21 hc22 eM23 dX5_init_138 ?_
      obtain ⟨v24, ev24⟩ : ∃ y : Int32, y = (x1 + (1 : Int32)) := ⟨_, rfl⟩
      have h := h v24 ev24
      refine jr_iinc (j := 1) (v := v24) (L1 := [(1, .int v24), (0, .ref r0)]) hC dX5_init_139 rfl (by rw [ev24]; rfl) hnL (by decide) rfl ?_
      refine jr_goto (tgt := 117) hC dX5_init_142 (by decide) ?_
      refine jr_sub [1, 0] (L1 := [(0, .ref r0), (1, .int v24)]) rfl ?_
      exact hrec ((k + 1) + 3) ((sl + 13) + 24) n13 M23 v24 h
  have B87 : ∀ (k : Nat) (sl : Nat) (n : Nat) (M : mw_M) (r0 : Nat) (x1 : Int32) (h : w_X5_init_b87 k sl n M r0 x1 Q), mw_J Y k sl n M 87 [(0, .ref r0), (1, .int x1)] [] := by
    intro k sl n M r0 x1 h
    obtain ⟨Inv, mu, h0, hs⟩ := h
    refine mw_loop5 (fun (k : Nat) (sl : Nat) (n : Nat) (M : mw_M) (x1 : Int32) => mw_J Y k sl n M 87 [(0, .ref r0), (1, .int x1)] []) Inv mu (fun k sl n M x1 hI hrec => ?_) k sl n M x1 h0
    have h := hs k sl n M x1 hI
    refine jr_iload_n (j := 1) hC dX5_init_87 rfl rfl ?_
    refine jr_aload_n (j := 0) hC dX5_init_88 rfl rfl ?_
    obtain ⟨hc25, h⟩ := h
    refine jr_get2 hC fl_RX5_19 hc25 dX5_init_89 ?_
    obtain ⟨hc26, h⟩ := h
    refine jr_alen (t := 14) hC (by decide) (by decide) hc26 dX5_init_92 ?_
    obtain ⟨hthb27, hfhb27⟩ := h
    refine jr_ic_ge (tgt := 115) hC dX5_init_93 (by decide) (fun hb27 => ?_) (fun hb27 => ?_)
    · have h := hthb27 hb27
      refine jr_iconst (v := (0 : Int32)) hC dX5_init_115 (by decide) ?_
      refine jr_istore_n (L1 := [(1, .int (0 : Int32)), (0, .ref r0)]) hC dX5_init_116 rfl hnL (by decide) rfl ?_
      refine jr_sub [1, 0] (L1 := [(0, .ref r0), (1, .int (0 : Int32))]) rfl ?_
      exact B117 k sl n M r0 (0 : Int32) h
    · have h := hfhb27 hb27
      refine jr_aload_n (j := 0) hC dX5_init_96 rfl rfl ?_
      refine jr_get2 hC fl_RX5_19 hc25 dX5_init_97 ?_
      refine jr_iload_n (j := 1) hC dX5_init_100 rfl rfl ?_
      obtain ⟨hc28, h⟩ := h
      obtain ⟨hc29, h⟩ := h
      obtain ⟨hc30, h⟩ := h
      obtain ⟨hc31, h⟩ := h
      obtain ⟨hc32, h⟩ := h
      refine jr_new hC mw_Cl0 tyX0 tyX0_ok mw_df0 tw_93 tw_144 tw_64 hc28 (mw_okl_c hc31 (mw_okl_c trivial mw_okl_n)) (mw_oks_c trivial (mw_oks_c hc32 mw_oks_n)) hc29 hc30 dX5_init_101 ?_
      refine jr_dup hC dX5_init_104 rfl ?_
      obtain ⟨hc33, h⟩ := h
      obtain ⟨hc35, h⟩ := h
      obtain ⟨hc36, h⟩ := h
      refine jr_callIn_v (As := []) (st := [.ref n, .int x1, .ref (mP M r0 1)]) hC nc_RX5_44 (c_X0_init hlt h) hc33 rfl rfl ⟨⟨rfl, rfl⟩, ⟨by decide, by decide⟩, hc35, hc36⟩ (Nat.le_of_ble_eq_true rfl) dX5_init_105 (fun M34 h => ?_)
      obtain ⟨hc37, h⟩ := h
      obtain ⟨hc38, h⟩ := h
      obtain ⟨hc39, h⟩ := h
      obtain ⟨M40, eM40⟩ : ∃ y : mw_M, y = sP M34 (mP M r0 1) (Int32.toNatClampNeg x1) n := ⟨_, rfl⟩
      have h := h M40 eM40
      refine jr_aast (t := 14) (tc := 0) (C9 := RX0) (T9 := TX0) hC (by decide) (by decide) rfl rfl hc37 hc38 hc39 eM40 dX5_init_108 ?_
      obtain ⟨v41, ev41⟩ : ∃ y : Int32, y = (x1 + (1 : Int32)) := ⟨_, rfl⟩
      have h := h v41 ev41
      refine jr_iinc (j := 1) (v := v41) (L1 := [(1, .int v41), (0, .ref r0)]) hC dX5_init_109 rfl (by rw [ev41]; rfl) hnL (by decide) rfl ?_
      refine jr_goto (tgt := 87) hC dX5_init_112 (by decide) ?_
      refine jr_sub [1, 0] (L1 := [(0, .ref r0), (1, .int v41)]) rfl ?_
      exact hrec (k + 1) (sl + 9) (n + 1) M40 v41 h
  have B57 : ∀ (k : Nat) (sl : Nat) (n : Nat) (M : mw_M) (r0 : Nat) (x1 : Int32) (h : w_X5_init_b57 k sl n M r0 x1 Q), mw_J Y k sl n M 57 [(0, .ref r0), (1, .int x1)] [] := by
    intro k sl n M r0 x1 h
    obtain ⟨Inv, mu, h0, hs⟩ := h
    refine mw_loop5 (fun (k : Nat) (sl : Nat) (n : Nat) (M : mw_M) (x1 : Int32) => mw_J Y k sl n M 57 [(0, .ref r0), (1, .int x1)] []) Inv mu (fun k sl n M x1 hI hrec => ?_) k sl n M x1 h0
    have h := hs k sl n M x1 hI
    refine jr_iload_n (j := 1) hC dX5_init_57 rfl rfl ?_
    refine jr_aload_n (j := 0) hC dX5_init_58 rfl rfl ?_
    obtain ⟨hc42, h⟩ := h
    refine jr_get2 hC fl_RX5_11 hc42 dX5_init_59 ?_
    obtain ⟨hc43, h⟩ := h
    refine jr_alen (t := 13) hC (by decide) (by decide) hc43 dX5_init_62 ?_
    obtain ⟨hthb44, hfhb44⟩ := h
    refine jr_ic_ge (tgt := 85) hC dX5_init_63 (by decide) (fun hb44 => ?_) (fun hb44 => ?_)
    · have h := hthb44 hb44
      refine jr_iconst (v := (0 : Int32)) hC dX5_init_85 (by decide) ?_
      refine jr_istore_n (L1 := [(1, .int (0 : Int32)), (0, .ref r0)]) hC dX5_init_86 rfl hnL (by decide) rfl ?_
      refine jr_sub [1, 0] (L1 := [(0, .ref r0), (1, .int (0 : Int32))]) rfl ?_
      exact B87 k sl n M r0 (0 : Int32) h
    · have h := hfhb44 hb44
      refine jr_aload_n (j := 0) hC dX5_init_66 rfl rfl ?_
      refine jr_get2 hC fl_RX5_11 hc42 dX5_init_67 ?_
      refine jr_iload_n (j := 1) hC dX5_init_70 rfl rfl ?_
      obtain ⟨hc45, h⟩ := h
      obtain ⟨hc46, h⟩ := h
      obtain ⟨hc47, h⟩ := h
      obtain ⟨hc48, h⟩ := h
      obtain ⟨hc49, h⟩ := h
      refine jr_new hC mw_Cl4 tyX4 tyX4_ok mw_df4 tw_91 tw_121 tw_63 hc45 (mw_okl_c hc48 (mw_okl_c trivial mw_okl_n)) (mw_oks_c trivial (mw_oks_c hc49 mw_oks_n)) hc46 hc47 dX5_init_71 ?_
      refine jr_dup hC dX5_init_74 rfl ?_
      obtain ⟨hc50, h⟩ := h
      obtain ⟨hc52, h⟩ := h
      obtain ⟨hc53, h⟩ := h
      refine jr_callIn_v (As := []) (st := [.ref n, .int x1, .ref (mP M r0 0)]) hC nc_RX5_43 (c_X4_init hlt h) hc50 rfl rfl ⟨⟨rfl, rfl⟩, ⟨by decide, by decide⟩, hc52, hc53⟩ (Nat.le_of_ble_eq_true rfl) dX5_init_75 (fun M51 h => ?_)
      obtain ⟨hc54, h⟩ := h
      obtain ⟨hc55, h⟩ := h
      obtain ⟨hc56, h⟩ := h
      obtain ⟨M57, eM57⟩ : ∃ y : mw_M, y = sP M51 (mP M r0 0) (Int32.toNatClampNeg x1) n := ⟨_, rfl⟩
      have h := h M57 eM57
      refine jr_aast (t := 13) (tc := 4) (C9 := RX4) (T9 := TX4) hC (by decide) (by decide) rfl rfl hc54 hc55 hc56 eM57 dX5_init_78 ?_
      obtain ⟨v58, ev58⟩ : ∃ y : Int32, y = (x1 + (1 : Int32)) := ⟨_, rfl⟩
      have h := h v58 ev58
      refine jr_iinc (j := 1) (v := v58) (L1 := [(1, .int v58), (0, .ref r0)]) hC dX5_init_79 rfl (by rw [ev58]; rfl) hnL (by decide) rfl ?_
      refine jr_goto (tgt := 57) hC dX5_init_82 (by decide) ?_
      refine jr_sub [1, 0] (L1 := [(0, .ref r0), (1, .int v58)]) rfl ?_
      exact hrec (k + 1) (sl + 4) (n + 1) M57 v58 h
  unfold w_X5_init at h
  refine jr_aload_n (j := 0) hC dX5_init_0 rfl rfl ?_
  obtain ⟨hc59, h⟩ := h
  refine jr_objinit hC hc59 tw_90 tw_83 tw_84 (by decide) (by decide) dX5_init_1 ?_
  refine jr_aload_n (j := 0) hC dX5_init_4 rfl rfl ?_
  refine jr_bipush (v := (6 : Int32)) hC dX5_init_5 (by decide) ?_
  obtain ⟨hc60, h⟩ := h
  obtain ⟨hc61, h⟩ := h
  obtain ⟨hc62, h⟩ := h
  obtain ⟨hc63, h⟩ := h
  obtain ⟨hc64, h⟩ := h
  refine jr_newq (N := 6) (t := 13) (C := RX4) hC (by decide) (by decide) rfl tw_91 (by decide +kernel) hc60 hc61 (by decide) (by decide) (mw_okl_c hc64 mw_okl_n) (mw_oks_c hc64 mw_oks_n) hc62 hc63 dX5_init_7 ?_
  obtain ⟨hc65, h⟩ := h
  obtain ⟨M66, eM66⟩ : ∃ y : mw_M, y = sP M a0 0 n := ⟨_, rfl⟩
  have h := h M66 eM66
  refine jr_putAF hC fp_RX5_11 hc65 hini (by intro C T N h9; cases h9; rfl) eM66 dX5_init_10 ?_
  refine jr_aload_n (j := 0) hC dX5_init_13 rfl rfl ?_
  refine jr_bipush (v := (12 : Int32)) hC dX5_init_14 (by decide) ?_
  obtain ⟨hc67, h⟩ := h
  obtain ⟨hc68, h⟩ := h
  obtain ⟨hc69, h⟩ := h
  obtain ⟨hc70, h⟩ := h
  obtain ⟨hc71, h⟩ := h
  refine jr_newq (N := 12) (t := 14) (C := RX0) hC (by decide) (by decide) rfl tw_93 (by decide +kernel) hc67 hc68 (by decide) (by decide) (mw_okl_c hc71 mw_okl_n) (mw_oks_c hc71 mw_oks_n) hc69 hc70 dX5_init_16 ?_
  obtain ⟨hc72, h⟩ := h
  obtain ⟨M73, eM73⟩ : ∃ y : mw_M, y = sP M66 a0 1 (n + 1) := ⟨_, rfl⟩
  have h := h M73 eM73
  refine jr_putAF hC fp_RX5_19 hc72 hini (by intro C T N h9; cases h9; rfl) eM73 dX5_init_19 ?_
  refine jr_aload_n (j := 0) hC dX5_init_22 rfl rfl ?_
  refine jr_iconst (v := (4 : Int32)) hC dX5_init_23 (by decide) ?_
  obtain ⟨hc74, h⟩ := h
  obtain ⟨hc75, h⟩ := h
  obtain ⟨hc76, h⟩ := h
  obtain ⟨hc77, h⟩ := h
  obtain ⟨hc78, h⟩ := h
  refine jr_newq (N := 4) (t := 15) (C := RX6) hC (by decide) (by decide) rfl tw_95 (by decide +kernel) hc74 hc75 (by decide) (by decide) (mw_okl_c hc78 mw_okl_n) (mw_oks_c hc78 mw_oks_n) hc76 hc77 dX5_init_24 ?_
  obtain ⟨hc79, h⟩ := h
  obtain ⟨M80, eM80⟩ : ∃ y : mw_M, y = sP M73 a0 3 ((n + 1) + 1) := ⟨_, rfl⟩
  have h := h M80 eM80
  refine jr_putAF hC fp_RX5_25 hc79 hini (by intro C T N h9; cases h9; rfl) eM80 dX5_init_27 ?_
  refine jr_aload_n (j := 0) hC dX5_init_30 rfl rfl ?_
  refine jr_sipush (v := (1000 : Int32)) hC dX5_init_31 (by decide) ?_
  obtain ⟨M81, eM81⟩ : ∃ y : mw_M, y = sI M80 a0 4 (1000 : Int32) := ⟨_, rfl⟩
  have h := h M81 eM81
  refine jr_putI hC fp_RX5_29 hc79 eM81 dX5_init_34 ?_
  refine jr_aload_n (j := 0) hC dX5_init_37 rfl rfl ?_
  refine jr_sipush (v := (4000 : Int32)) hC dX5_init_38 (by decide) ?_
  obtain ⟨M82, eM82⟩ : ∃ y : mw_M, y = sI M81 a0 7 (4000 : Int32) := ⟨_, rfl⟩
  have h := h M82 eM82
  refine jr_putI hC fp_RX5_33 hc79 eM82 dX5_init_41 ?_
  refine jr_aload_n (j := 0) hC dX5_init_44 rfl rfl ?_
  obtain ⟨hc83, h⟩ := h
  obtain ⟨hc84, h⟩ := h
  obtain ⟨hc85, h⟩ := h
  obtain ⟨hc86, h⟩ := h
  refine jr_new hC mw_Cl3 tyX3 tyX3_ok mw_df3 tw_97 tw_98 tw_62 hc83 (mw_okl_c hc86 mw_okl_n) (mw_oks_c hc86 mw_oks_n) hc84 hc85 dX5_init_45 ?_
  refine jr_nmA (fun q87 eq87 => ?_)
  have h := h q87 eq87
  refine jr_dup hC dX5_init_48 rfl ?_
  obtain ⟨hc88, h⟩ := h
  obtain ⟨hc90, h⟩ := h
  obtain ⟨hc91, h⟩ := h
  refine jr_callIn_v (As := []) (st := [.ref q87, .ref a0]) hC nc_RX5_38 (c_X3_init hlt h) hc88 rfl rfl ⟨⟨rfl, rfl⟩, ⟨by decide, by decide⟩, hc90, hc91⟩ (Nat.le_of_ble_eq_true rfl) dX5_init_49 (fun M89 h => ?_)
  obtain ⟨hc92, h⟩ := h
  obtain ⟨M93, eM93⟩ : ∃ y : mw_M, y = sP M89 a0 8 q87 := ⟨_, rfl⟩
  have h := h M93 eM93
  refine jr_putOF hC fp_RX5_39 hc92 hini (by intro C T N h9; cases h9; rfl) eM93 dX5_init_52 ?_
  refine jr_iconst (v := (0 : Int32)) hC dX5_init_55 (by decide) ?_
  refine jr_istore_n (L1 := [(1, .int (0 : Int32)), (0, .ref a0)]) hC dX5_init_56 rfl hnL (by decide) rfl ?_
  refine jr_sub [1, 0] (L1 := [(0, .ref a0), (1, .int (0 : Int32))]) rfl ?_
  exact B57 ((((0 + 1) + 1) + 1) + 1) ((((0 + 6) + 12) + 4) + 5) ((((n + 1) + 1) + 1) + 1) M93 a0 (0 : Int32) h
set_option maxHeartbeats 4000000 in
set_option maxRecDepth 100000 in
theorem c_X6_setPlace {G : mw_G} {l : Launch} (hlt : l.stackTraces = false) {n : Nat} {M : mw_M} {a0 : Nat} {x1 : Int32} {x2 : Int32} {x3 : Int32} {x4 : Int32} {Q : mw_M → Prop} (h : w_X6_setPlace n M a0 x1 x2 x3 x4 Q) : mw_Met G l yX6_setPlace (.code yX6_setPlace cX6_setPlace 5 none) { frames := 0, cells := 0, slots := 0, locals := 0 } n M [.ref a0, .int x1, .int x2, .int x3, .int x4] (fun n1 M1 v => n1 = n ∧ mw_rV Q M1 v) (fun _ _ => False) := by
  refine mw_enter (L0 := [(0, .ref a0), (1, .int x1), (2, .int x2), (3, .int x3), (4, .int x4)]) hlt rfl rfl (plainFor_of_name (by decide)) (Nat.le_of_ble_eq_true rfl) rfl ?_
  intro Y hC0 hZ hnL hini0 hn00
  have hC : mw_C G l _ Y cX6_setPlace RX6 := hC0
  unfold w_X6_setPlace at h
  refine jr_aload_n (j := 0) hC dX6_setPlace_0 rfl rfl ?_
  obtain ⟨hc1, h⟩ := h
  refine jr_get2 hC fl_RX6_15 hc1 dX6_setPlace_1 ?_
  refine jr_iload_n (j := 1) hC dX6_setPlace_4 rfl rfl ?_
  refine jr_iload_n (j := 2) hC dX6_setPlace_5 rfl rfl ?_
  obtain ⟨hc2, h⟩ := h
  obtain ⟨hc3, h⟩ := h
  obtain ⟨M4, eM4⟩ : ∃ y : mw_M, y = sI M (mP M a0 5) (Int32.toNatClampNeg x1) x2 := ⟨_, rfl⟩
  have h := h M4 eM4
  refine jr_iast hC hc2 hc3 eM4 dX6_setPlace_6 ?_
  refine jr_aload_n (j := 0) hC dX6_setPlace_7 rfl rfl ?_
  refine jr_get2 hC fl_RX6_19 hc1 dX6_setPlace_8 ?_
  refine jr_iload_n (j := 1) hC dX6_setPlace_11 rfl rfl ?_
  refine jr_iload_n (j := 3) hC dX6_setPlace_12 rfl rfl ?_
  obtain ⟨hc5, h⟩ := h
  obtain ⟨hc6, h⟩ := h
  obtain ⟨M7, eM7⟩ : ∃ y : mw_M, y = sI M4 (mP M4 a0 6) (Int32.toNatClampNeg x1) x3 := ⟨_, rfl⟩
  have h := h M7 eM7
  refine jr_iast hC hc5 hc6 eM7 dX6_setPlace_13 ?_
  refine jr_aload_n (j := 0) hC dX6_setPlace_14 rfl rfl ?_
  refine jr_get2 hC fl_RX6_22 hc1 dX6_setPlace_15 ?_
  refine jr_iload_n (j := 1) hC dX6_setPlace_18 rfl rfl ?_
  refine jr_iload (j := 4) hC dX6_setPlace_19 rfl ?_
  obtain ⟨hc8, h⟩ := h
  obtain ⟨hc9, h⟩ := h
  obtain ⟨hc10, h⟩ := h
  obtain ⟨M11, eM11⟩ : ∃ y : mw_M, y = sI M7 (mP M7 a0 7) (Int32.toNatClampNeg x1) x4 := ⟨_, rfl⟩
  have h := h M11 eM11
  refine jr_zast hC hc8 hc9 hc10 eM11 dX6_setPlace_21 ?_
  exact jr_vret hC hZ (by decide) (by decide) dX6_setPlace_22 ⟨rfl, rfl, h⟩
set_option maxHeartbeats 4000000 in
set_option maxRecDepth 100000 in
theorem c_X6_takeFrom {G : mw_G} {l : Launch} (hlt : l.stackTraces = false) {n : Nat} {M : mw_M} {a0 : Nat} {a1 : Nat} {Q : mw_M → Prop} (h : w_X6_takeFrom n M a0 a1 Q) : mw_Met G l yX6_takeFrom (.code yX6_takeFrom cX6_takeFrom 3 none) { frames := 1, cells := 0, slots := 0, locals := 24 } n M [.ref a0, .ref a1] (fun n1 M1 v => n1 = n ∧ mw_rV Q M1 v) (fun _ _ => False) := by
  refine mw_enter (L0 := [(0, .ref a0), (1, .ref a1)]) hlt rfl rfl (plainFor_of_name (by decide)) (Nat.le_of_ble_eq_true rfl) rfl ?_
  intro Y hC0 hZ hnL hini0 hn00
  have hC : mw_C G l _ Y cX6_takeFrom RX6 := hC0
  have B42 : ∀ (M : mw_M) (r0 : Nat) (r1 : Nat) (x2 : Int32) (h : w_X6_takeFrom_b42 n M r0 r1 x2 Q), mw_J Y 0 0 n M 42 [(0, .ref r0), (1, .ref r1), (2, .int x2)] [] := by
    intro M r0 r1 x2 h
    obtain ⟨Inv, mu, h0, hs⟩ := h
    refine mw_loop2 (fun (M : mw_M) (x2 : Int32) => mw_J Y 0 0 n M 42 [(0, .ref r0), (1, .ref r1), (2, .int x2)] []) Inv mu (fun M x2 hI hrec => ?_) M x2 h0
    have h := hs M x2 hI
    refine jr_iload_n (j := 2) hC dX6_takeFrom_42 rfl rfl ?_
    refine jr_aload_n (j := 0) hC dX6_takeFrom_43 rfl rfl ?_
    obtain ⟨hc1, h⟩ := h
    refine jr_get0 hC fl_RX6_39 hc1 dX6_takeFrom_44 ?_
    obtain ⟨hthb2, hfhb2⟩ := h
    refine jr_ic_ge (tgt := 79) hC dX6_takeFrom_47 (by decide) (fun hb2 => ?_) (fun hb2 => ?_)
    · have h := hthb2 hb2
      refine jr_aload_n (j := 0) hC dX6_takeFrom_79 rfl rfl ?_
      refine jr_aload_n (j := 1) hC dX6_takeFrom_80 rfl rfl ?_
      obtain ⟨hc3, h⟩ := h
      refine jr_get0 hC fl_RX6_26 hc3 dX6_takeFrom_81 ?_
      obtain ⟨M4, eM4⟩ : ∃ y : mw_M, y = sI M r0 8 (mI M r1 8) := ⟨_, rfl⟩
      have h := h M4 eM4
      refine jr_putI hC fp_RX6_26 hc1 eM4 dX6_takeFrom_84 ?_
      refine jr_aload_n (j := 0) hC dX6_takeFrom_87 rfl rfl ?_
      refine jr_aload_n (j := 1) hC dX6_takeFrom_88 rfl rfl ?_
      refine jr_get0 hC fl_RX6_46 hc3 dX6_takeFrom_89 ?_
      obtain ⟨M5, eM5⟩ : ∃ y : mw_M, y = sI M4 r0 9 (mI M4 r1 9) := ⟨_, rfl⟩
      have h := h M5 eM5
      refine jr_putI hC fp_RX6_46 hc1 eM5 dX6_takeFrom_92 ?_
      refine jr_aload_n (j := 0) hC dX6_takeFrom_95 rfl rfl ?_
      refine jr_aload_n (j := 1) hC dX6_takeFrom_96 rfl rfl ?_
      refine jr_get0 hC fl_RX6_49 hc3 dX6_takeFrom_97 ?_
      obtain ⟨M6, eM6⟩ : ∃ y : mw_M, y = sI M5 r0 10 (mI M5 r1 10) := ⟨_, rfl⟩
      have h := h M6 eM6
      refine jr_putI hC fp_RX6_49 hc1 eM6 dX6_takeFrom_100 ?_
      refine jr_aload_n (j := 0) hC dX6_takeFrom_103 rfl rfl ?_
      refine jr_aload_n (j := 1) hC dX6_takeFrom_104 rfl rfl ?_
      refine jr_get0 hC fl_RX6_52 hc3 dX6_takeFrom_105 ?_
      obtain ⟨M7, eM7⟩ : ∃ y : mw_M, y = sI M6 r0 11 (mI M6 r1 11) := ⟨_, rfl⟩
      have h := h M7 eM7
      refine jr_putI hC fp_RX6_52 hc1 eM7 dX6_takeFrom_108 ?_
      refine jr_aload_n (j := 0) hC dX6_takeFrom_111 rfl rfl ?_
      refine jr_aload_n (j := 1) hC dX6_takeFrom_112 rfl rfl ?_
      refine jr_get0 hC fl_RX6_55 hc3 dX6_takeFrom_113 ?_
      obtain ⟨M8, eM8⟩ : ∃ y : mw_M, y = sI M7 r0 12 (mI M7 r1 12) := ⟨_, rfl⟩
      have h := h M8 eM8
      refine jr_putI hC fp_RX6_55 hc1 eM8 dX6_takeFrom_116 ?_
      exact jr_vret hC hZ (by decide) (by decide) dX6_takeFrom_119 ⟨rfl, rfl, h⟩
    · have h := hfhb2 hb2
      refine jr_aload_n (j := 0) hC dX6_takeFrom_50 rfl rfl ?_
      refine jr_iload_n (j := 2) hC dX6_takeFrom_51 rfl rfl ?_
      refine jr_aload_n (j := 1) hC dX6_takeFrom_52 rfl rfl ?_
      obtain ⟨hc9, h⟩ := h
      refine jr_get2 hC fl_RX6_15 hc9 dX6_takeFrom_53 ?_
      refine jr_iload_n (j := 2) hC dX6_takeFrom_56 rfl rfl ?_
      obtain ⟨hc10, h⟩ := h
      obtain ⟨hc11, h⟩ := h
      refine jr_iald hC hc10 hc11 dX6_takeFrom_57 ?_
      refine jr_aload_n (j := 1) hC dX6_takeFrom_58 rfl rfl ?_
      refine jr_get2 hC fl_RX6_19 hc9 dX6_takeFrom_59 ?_
      refine jr_iload_n (j := 2) hC dX6_takeFrom_62 rfl rfl ?_
      obtain ⟨hc12, h⟩ := h
      obtain ⟨hc13, h⟩ := h
      refine jr_iald hC hc12 hc13 dX6_takeFrom_63 ?_
      refine jr_aload_n (j := 1) hC dX6_takeFrom_64 rfl rfl ?_
      refine jr_get2 hC fl_RX6_22 hc9 dX6_takeFrom_65 ?_
      refine jr_iload_n (j := 2) hC dX6_takeFrom_68 rfl rfl ?_
      obtain ⟨hc14, h⟩ := h
      obtain ⟨hc15, h⟩ := h
      refine jr_zald hC hc14 hc15 dX6_takeFrom_69 ?_
      refine jr_callV_v (As := [.int x2, .int (mI M (mP M r1 5) (Int32.toNatClampNeg x2)), .int (mI M (mP M r1 6) (Int32.toNatClampNeg x2)), .int (mI M (mP M r1 7) (Int32.toNatClampNeg x2))]) (st := []) hC nc_RX6_42 (c_X6_setPlace hlt h) hc1 rfl rfl ⟨⟨rfl, rfl⟩, ⟨by decide, by decide⟩, by decide, by decide⟩ (Nat.le_of_ble_eq_true rfl) dX6_takeFrom_70 (fun M16 h => ?_)
      obtain ⟨v17, ev17⟩ : ∃ y : Int32, y = (x2 + (1 : Int32)) := ⟨_, rfl⟩
      have h := h v17 ev17
      refine jr_iinc (j := 2) (v := v17) (L1 := [(2, .int v17), (0, .ref r0), (1, .ref r1)]) hC dX6_takeFrom_73 rfl (by rw [ev17]; rfl) hnL (by decide) rfl ?_
      refine jr_goto (tgt := 42) hC dX6_takeFrom_76 (by decide) ?_
      refine jr_sub [1, 2, 0] (L1 := [(0, .ref r0), (1, .ref r1), (2, .int v17)]) rfl ?_
      exact hrec M16 v17 h
  unfold w_X6_takeFrom at h
  refine jr_aload_n (j := 0) hC dX6_takeFrom_0 rfl rfl ?_
  refine jr_aload_n (j := 1) hC dX6_takeFrom_1 rfl rfl ?_
  obtain ⟨hc18, h⟩ := h
  refine jr_get0 hC fl_RX6_9 hc18 dX6_takeFrom_2 ?_
  obtain ⟨hc19, h⟩ := h
  obtain ⟨M20, eM20⟩ : ∃ y : mw_M, y = sI M a0 0 (mI M a1 0) := ⟨_, rfl⟩
  have h := h M20 eM20
  refine jr_putI hC fp_RX6_9 hc19 eM20 dX6_takeFrom_5 ?_
  refine jr_aload_n (j := 0) hC dX6_takeFrom_8 rfl rfl ?_
  refine jr_aload_n (j := 1) hC dX6_takeFrom_9 rfl rfl ?_
  refine jr_get0 hC fl_RX6_29 hc18 dX6_takeFrom_10 ?_
  obtain ⟨M21, eM21⟩ : ∃ y : mw_M, y = sI M20 a0 1 (mI M20 a1 1) := ⟨_, rfl⟩
  have h := h M21 eM21
  refine jr_putI hC fp_RX6_29 hc19 eM21 dX6_takeFrom_13 ?_
  refine jr_aload_n (j := 0) hC dX6_takeFrom_16 rfl rfl ?_
  refine jr_aload_n (j := 1) hC dX6_takeFrom_17 rfl rfl ?_
  refine jr_get0 hC fl_RX6_32 hc18 dX6_takeFrom_18 ?_
  obtain ⟨hc22, h⟩ := h
  obtain ⟨M23, eM23⟩ : ∃ y : mw_M, y = sI M21 a0 2 (mI M21 a1 2) := ⟨_, rfl⟩
  have h := h M23 eM23
  refine jr_putZ hC fp_RX6_32 hc19 hc22 eM23 dX6_takeFrom_21 ?_
  refine jr_aload_n (j := 0) hC dX6_takeFrom_24 rfl rfl ?_
  refine jr_aload_n (j := 1) hC dX6_takeFrom_25 rfl rfl ?_
  refine jr_get0 hC fl_RX6_36 hc18 dX6_takeFrom_26 ?_
  obtain ⟨hc24, h⟩ := h
  obtain ⟨M25, eM25⟩ : ∃ y : mw_M, y = sI M23 a0 3 (mI M23 a1 3) := ⟨_, rfl⟩
  have h := h M25 eM25
  refine jr_putZ hC fp_RX6_36 hc19 hc24 eM25 dX6_takeFrom_29 ?_
  refine jr_aload_n (j := 0) hC dX6_takeFrom_32 rfl rfl ?_
  refine jr_aload_n (j := 1) hC dX6_takeFrom_33 rfl rfl ?_
  refine jr_get0 hC fl_RX6_39 hc18 dX6_takeFrom_34 ?_
  obtain ⟨M26, eM26⟩ : ∃ y : mw_M, y = sI M25 a0 4 (mI M25 a1 4) := ⟨_, rfl⟩
  have h := h M26 eM26
  refine jr_putI hC fp_RX6_39 hc19 eM26 dX6_takeFrom_37 ?_
  refine jr_iconst (v := (0 : Int32)) hC dX6_takeFrom_40 (by decide) ?_
  refine jr_istore_n (L1 := [(2, .int (0 : Int32)), (0, .ref a0), (1, .ref a1)]) hC dX6_takeFrom_41 rfl hnL (by decide) rfl ?_
  refine jr_sub [1, 2, 0] (L1 := [(0, .ref a0), (1, .ref a1), (2, .int (0 : Int32))]) rfl ?_
  exact B42 M26 a0 a1 (0 : Int32) h
set_option maxHeartbeats 4000000 in
set_option maxRecDepth 100000 in
theorem c_X5_takeFrom {G : mw_G} {l : Launch} (hlt : l.stackTraces = false) {n : Nat} {M : mw_M} {a0 : Nat} {a1 : Nat} {Q : mw_M → Prop} (h : w_X5_takeFrom n M a0 a1 Q) : mw_Met G l yX5_takeFrom (.code yX5_takeFrom cX5_takeFrom 3 none) { frames := 2, cells := 0, slots := 0, locals := 46 } n M [.ref a0, .ref a1] (fun n1 M1 v => n1 = n ∧ mw_rV Q M1 v) (fun _ _ => False) := by
  refine mw_enter (L0 := [(0, .ref a0), (1, .ref a1)]) hlt rfl rfl (plainFor_of_name (by decide)) (Nat.le_of_ble_eq_true rfl) rfl ?_
  intro Y hC0 hZ hnL hini0 hn00
  have hC : mw_C G l _ Y cX5_takeFrom RX5 := hC0
  have B70 : ∀ (M : mw_M) (r0 : Nat) (r1 : Nat) (x2 : Int32) (h : w_X5_takeFrom_b70 n M r0 r1 x2 Q), mw_J Y 0 0 n M 70 [(0, .ref r0), (1, .ref r1), (2, .int x2)] [] := by
    intro M r0 r1 x2 h
    obtain ⟨Inv, mu, h0, hs⟩ := h
    refine mw_loop2 (fun (M : mw_M) (x2 : Int32) => mw_J Y 0 0 n M 70 [(0, .ref r0), (1, .ref r1), (2, .int x2)] []) Inv mu (fun M x2 hI hrec => ?_) M x2 h0
    have h := hs M x2 hI
    refine jr_iload_n (j := 2) hC dX5_takeFrom_70 rfl rfl ?_
    refine jr_iconst (v := (4 : Int32)) hC dX5_takeFrom_71 (by decide) ?_
    obtain ⟨hthb1, hfhb1⟩ := h
    refine jr_ic_ge (tgt := 96) hC dX5_takeFrom_72 (by decide) (fun hb1 => ?_) (fun hb1 => ?_)
    · have h := hthb1 hb1
      refine jr_aload_n (j := 0) hC dX5_takeFrom_96 rfl rfl ?_
      refine jr_aload_n (j := 1) hC dX5_takeFrom_97 rfl rfl ?_
      obtain ⟨hc2, h⟩ := h
      refine jr_get0 hC fl_RX5_29 hc2 dX5_takeFrom_98 ?_
      obtain ⟨hc3, h⟩ := h
      obtain ⟨M4, eM4⟩ : ∃ y : mw_M, y = sI M r0 4 (mI M r1 4) := ⟨_, rfl⟩
      have h := h M4 eM4
      refine jr_putI hC fp_RX5_29 hc3 eM4 dX5_takeFrom_101 ?_
      refine jr_aload_n (j := 0) hC dX5_takeFrom_104 rfl rfl ?_
      refine jr_aload_n (j := 1) hC dX5_takeFrom_105 rfl rfl ?_
      refine jr_get0 hC fl_RX5_59 hc2 dX5_takeFrom_106 ?_
      obtain ⟨M5, eM5⟩ : ∃ y : mw_M, y = sI M4 r0 5 (mI M4 r1 5) := ⟨_, rfl⟩
      have h := h M5 eM5
      refine jr_putI hC fp_RX5_59 hc3 eM5 dX5_takeFrom_109 ?_
      refine jr_aload_n (j := 0) hC dX5_takeFrom_112 rfl rfl ?_
      refine jr_aload_n (j := 1) hC dX5_takeFrom_113 rfl rfl ?_
      refine jr_get0 hC fl_RX5_62 hc2 dX5_takeFrom_114 ?_
      obtain ⟨M6, eM6⟩ : ∃ y : mw_M, y = sI M5 r0 6 (mI M5 r1 6) := ⟨_, rfl⟩
      have h := h M6 eM6
      refine jr_putI hC fp_RX5_62 hc3 eM6 dX5_takeFrom_117 ?_
      refine jr_aload_n (j := 0) hC dX5_takeFrom_120 rfl rfl ?_
      refine jr_aload_n (j := 1) hC dX5_takeFrom_121 rfl rfl ?_
      refine jr_get0 hC fl_RX5_33 hc2 dX5_takeFrom_122 ?_
      obtain ⟨M7, eM7⟩ : ∃ y : mw_M, y = sI M6 r0 7 (mI M6 r1 7) := ⟨_, rfl⟩
      have h := h M7 eM7
      refine jr_putI hC fp_RX5_33 hc3 eM7 dX5_takeFrom_125 ?_
      refine jr_aload_n (j := 0) hC dX5_takeFrom_128 rfl rfl ?_
      refine jr_get2 hC fl_RX5_39 hc3 dX5_takeFrom_129 ?_
      refine jr_aload_n (j := 1) hC dX5_takeFrom_132 rfl rfl ?_
      refine jr_get2 hC fl_RX5_39 hc2 dX5_takeFrom_133 ?_
      obtain ⟨hc8, h⟩ := h
      refine jr_callV_v (As := [.ref (mP M7 r1 8)]) (st := []) hC nc_RX5_65 (c_X3_takeFrom hlt h) hc8 rfl rfl ⟨⟨rfl, rfl⟩, ⟨by decide, by decide⟩, by decide, by decide⟩ (Nat.le_of_ble_eq_true rfl) dX5_takeFrom_136 (fun M9 h => ?_)
      exact jr_vret hC hZ (by decide) (by decide) dX5_takeFrom_139 ⟨rfl, rfl, h⟩
    · have h := hfhb1 hb1
      refine jr_aload_n (j := 0) hC dX5_takeFrom_75 rfl rfl ?_
      obtain ⟨hc10, h⟩ := h
      refine jr_get2 hC fl_RX5_25 hc10 dX5_takeFrom_76 ?_
      refine jr_iload_n (j := 2) hC dX5_takeFrom_79 rfl rfl ?_
      obtain ⟨hc11, h⟩ := h
      obtain ⟨hc12, h⟩ := h
      refine jr_aald (t := 15) hC (by decide) (by decide) hc11 hc12 dX5_takeFrom_80 ?_
      refine jr_aload_n (j := 1) hC dX5_takeFrom_81 rfl rfl ?_
      obtain ⟨hc13, h⟩ := h
      refine jr_get2 hC fl_RX5_25 hc13 dX5_takeFrom_82 ?_
      refine jr_iload_n (j := 2) hC dX5_takeFrom_85 rfl rfl ?_
      obtain ⟨hc14, h⟩ := h
      obtain ⟨hc15, h⟩ := h
      refine jr_aald (t := 15) hC (by decide) (by decide) hc14 hc15 dX5_takeFrom_86 ?_
      obtain ⟨hc16, h⟩ := h
      refine jr_callV_v (As := [.ref (mP M (mP M r1 3) (Int32.toNatClampNeg x2))]) (st := []) hC nc_RX5_56 (c_X6_takeFrom hlt h) hc16 rfl rfl ⟨⟨rfl, rfl⟩, ⟨by decide, by decide⟩, by decide, by decide⟩ (Nat.le_of_ble_eq_true rfl) dX5_takeFrom_87 (fun M17 h => ?_)
      obtain ⟨v18, ev18⟩ : ∃ y : Int32, y = (x2 + (1 : Int32)) := ⟨_, rfl⟩
      have h := h v18 ev18
      refine jr_iinc (j := 2) (v := v18) (L1 := [(2, .int v18), (0, .ref r0), (1, .ref r1)]) hC dX5_takeFrom_90 rfl (by rw [ev18]; rfl) hnL (by decide) rfl ?_
      refine jr_goto (tgt := 70) hC dX5_takeFrom_93 (by decide) ?_
      refine jr_sub [1, 2, 0] (L1 := [(0, .ref r0), (1, .ref r1), (2, .int v18)]) rfl ?_
      exact hrec M17 v18 h
  have B39 : ∀ (M : mw_M) (r0 : Nat) (r1 : Nat) (x2 : Int32) (h : w_X5_takeFrom_b39 n M r0 r1 x2 Q), mw_J Y 0 0 n M 39 [(0, .ref r0), (1, .ref r1), (2, .int x2)] [] := by
    intro M r0 r1 x2 h
    obtain ⟨Inv, mu, h0, hs⟩ := h
    refine mw_loop2 (fun (M : mw_M) (x2 : Int32) => mw_J Y 0 0 n M 39 [(0, .ref r0), (1, .ref r1), (2, .int x2)] []) Inv mu (fun M x2 hI hrec => ?_) M x2 h0
    have h := hs M x2 hI
    refine jr_iload_n (j := 2) hC dX5_takeFrom_39 rfl rfl ?_
    refine jr_aload_n (j := 0) hC dX5_takeFrom_40 rfl rfl ?_
    obtain ⟨hc19, h⟩ := h
    refine jr_get0 hC fl_RX5_50 hc19 dX5_takeFrom_41 ?_
    obtain ⟨hthb20, hfhb20⟩ := h
    refine jr_ic_ge (tgt := 68) hC dX5_takeFrom_44 (by decide) (fun hb20 => ?_) (fun hb20 => ?_)
    · have h := hthb20 hb20
      refine jr_iconst (v := (0 : Int32)) hC dX5_takeFrom_68 (by decide) ?_
      refine jr_istore_n (L1 := [(2, .int (0 : Int32)), (0, .ref r0), (1, .ref r1)]) hC dX5_takeFrom_69 rfl hnL (by decide) rfl ?_
      refine jr_sub [1, 2, 0] (L1 := [(0, .ref r0), (1, .ref r1), (2, .int (0 : Int32))]) rfl ?_
      exact B70 M r0 r1 (0 : Int32) h
    · have h := hfhb20 hb20
      refine jr_aload_n (j := 0) hC dX5_takeFrom_47 rfl rfl ?_
      refine jr_get2 hC fl_RX5_19 hc19 dX5_takeFrom_48 ?_
      refine jr_iload_n (j := 2) hC dX5_takeFrom_51 rfl rfl ?_
      obtain ⟨hc21, h⟩ := h
      obtain ⟨hc22, h⟩ := h
      refine jr_aald (t := 14) hC (by decide) (by decide) hc21 hc22 dX5_takeFrom_52 ?_
      refine jr_aload_n (j := 1) hC dX5_takeFrom_53 rfl rfl ?_
      obtain ⟨hc23, h⟩ := h
      refine jr_get2 hC fl_RX5_19 hc23 dX5_takeFrom_54 ?_
      refine jr_iload_n (j := 2) hC dX5_takeFrom_57 rfl rfl ?_
      obtain ⟨hc24, h⟩ := h
      obtain ⟨hc25, h⟩ := h
      refine jr_aald (t := 14) hC (by decide) (by decide) hc24 hc25 dX5_takeFrom_58 ?_
      obtain ⟨hc26, h⟩ := h
      refine jr_callV_v (As := [.ref (mP M (mP M r1 1) (Int32.toNatClampNeg x2))]) (st := []) hC nc_RX5_53 (c_X0_takeFrom hlt h) hc26 rfl rfl ⟨⟨rfl, rfl⟩, ⟨by decide, by decide⟩, by decide, by decide⟩ (Nat.le_of_ble_eq_true rfl) dX5_takeFrom_59 (fun M27 h => ?_)
      obtain ⟨v28, ev28⟩ : ∃ y : Int32, y = (x2 + (1 : Int32)) := ⟨_, rfl⟩
      have h := h v28 ev28
      refine jr_iinc (j := 2) (v := v28) (L1 := [(2, .int v28), (0, .ref r0), (1, .ref r1)]) hC dX5_takeFrom_62 rfl (by rw [ev28]; rfl) hnL (by decide) rfl ?_
      refine jr_goto (tgt := 39) hC dX5_takeFrom_65 (by decide) ?_
      refine jr_sub [1, 2, 0] (L1 := [(0, .ref r0), (1, .ref r1), (2, .int v28)]) rfl ?_
      exact hrec M27 v28 h
  have B2 : ∀ (M : mw_M) (r0 : Nat) (r1 : Nat) (x2 : Int32) (h : w_X5_takeFrom_b2 n M r0 r1 x2 Q), mw_J Y 0 0 n M 2 [(0, .ref r0), (1, .ref r1), (2, .int x2)] [] := by
    intro M r0 r1 x2 h
    obtain ⟨Inv, mu, h0, hs⟩ := h
    refine mw_loop2 (fun (M : mw_M) (x2 : Int32) => mw_J Y 0 0 n M 2 [(0, .ref r0), (1, .ref r1), (2, .int x2)] []) Inv mu (fun M x2 hI hrec => ?_) M x2 h0
    have h := hs M x2 hI
    refine jr_iload_n (j := 2) hC dX5_takeFrom_2 rfl rfl ?_
    refine jr_bipush (v := (6 : Int32)) hC dX5_takeFrom_3 (by decide) ?_
    obtain ⟨hthb29, hfhb29⟩ := h
    refine jr_ic_ge (tgt := 29) hC dX5_takeFrom_5 (by decide) (fun hb29 => ?_) (fun hb29 => ?_)
    · have h := hthb29 hb29
      refine jr_aload_n (j := 0) hC dX5_takeFrom_29 rfl rfl ?_
      refine jr_aload_n (j := 1) hC dX5_takeFrom_30 rfl rfl ?_
      obtain ⟨hc30, h⟩ := h
      refine jr_get0 hC fl_RX5_50 hc30 dX5_takeFrom_31 ?_
      obtain ⟨hc31, h⟩ := h
      obtain ⟨M32, eM32⟩ : ∃ y : mw_M, y = sI M r0 2 (mI M r1 2) := ⟨_, rfl⟩
      have h := h M32 eM32
      refine jr_putI hC fp_RX5_50 hc31 eM32 dX5_takeFrom_34 ?_
      refine jr_iconst (v := (0 : Int32)) hC dX5_takeFrom_37 (by decide) ?_
      refine jr_istore_n (L1 := [(2, .int (0 : Int32)), (0, .ref r0), (1, .ref r1)]) hC dX5_takeFrom_38 rfl hnL (by decide) rfl ?_
      refine jr_sub [1, 2, 0] (L1 := [(0, .ref r0), (1, .ref r1), (2, .int (0 : Int32))]) rfl ?_
      exact B39 M32 r0 r1 (0 : Int32) h
    · have h := hfhb29 hb29
      refine jr_aload_n (j := 0) hC dX5_takeFrom_8 rfl rfl ?_
      obtain ⟨hc33, h⟩ := h
      refine jr_get2 hC fl_RX5_11 hc33 dX5_takeFrom_9 ?_
      refine jr_iload_n (j := 2) hC dX5_takeFrom_12 rfl rfl ?_
      obtain ⟨hc34, h⟩ := h
      obtain ⟨hc35, h⟩ := h
      refine jr_aald (t := 13) hC (by decide) (by decide) hc34 hc35 dX5_takeFrom_13 ?_
      refine jr_aload_n (j := 1) hC dX5_takeFrom_14 rfl rfl ?_
      obtain ⟨hc36, h⟩ := h
      refine jr_get2 hC fl_RX5_11 hc36 dX5_takeFrom_15 ?_
      refine jr_iload_n (j := 2) hC dX5_takeFrom_18 rfl rfl ?_
      obtain ⟨hc37, h⟩ := h
      obtain ⟨hc38, h⟩ := h
      refine jr_aald (t := 13) hC (by decide) (by decide) hc37 hc38 dX5_takeFrom_19 ?_
      obtain ⟨hc39, h⟩ := h
      refine jr_callV_v (As := [.ref (mP M (mP M r1 0) (Int32.toNatClampNeg x2))]) (st := []) hC nc_RX5_46 (c_X4_takeFrom hlt h) hc39 rfl rfl ⟨⟨rfl, rfl⟩, ⟨by decide, by decide⟩, by decide, by decide⟩ (Nat.le_of_ble_eq_true rfl) dX5_takeFrom_20 (fun M40 h => ?_)
      obtain ⟨v41, ev41⟩ : ∃ y : Int32, y = (x2 + (1 : Int32)) := ⟨_, rfl⟩
      have h := h v41 ev41
      refine jr_iinc (j := 2) (v := v41) (L1 := [(2, .int v41), (0, .ref r0), (1, .ref r1)]) hC dX5_takeFrom_23 rfl (by rw [ev41]; rfl) hnL (by decide) rfl ?_
      refine jr_goto (tgt := 2) hC dX5_takeFrom_26 (by decide) ?_
      refine jr_sub [1, 2, 0] (L1 := [(0, .ref r0), (1, .ref r1), (2, .int v41)]) rfl ?_
      exact hrec M40 v41 h
  unfold w_X5_takeFrom at h
  refine jr_iconst (v := (0 : Int32)) hC dX5_takeFrom_0 (by decide) ?_
  refine jr_istore_n (L1 := [(2, .int (0 : Int32)), (0, .ref a0), (1, .ref a1)]) hC dX5_takeFrom_1 rfl hnL (by decide) rfl ?_
  refine jr_sub [1, 2, 0] (L1 := [(0, .ref a0), (1, .ref a1), (2, .int (0 : Int32))]) rfl ?_
  exact B2 M a0 a1 (0 : Int32) h
set_option maxHeartbeats 4000000 in
set_option maxRecDepth 100000 in
theorem c_X5_advance {G : mw_G} {l : Launch} (hlt : l.stackTraces = false) {n : Nat} {M : mw_M} {a0 : Nat} {Q : mw_M → Prop} (h : w_X5_advance n M a0 Q) : mw_Met G l yX5_advance (.code yX5_advance cX5_advance 1 none) { frames := 0, cells := 0, slots := 0, locals := 0 } n M [.ref a0] (fun n1 M1 v => n1 = n ∧ mw_rV Q M1 v) (fun _ _ => False) := by
  refine mw_enter (L0 := [(0, .ref a0)]) hlt rfl rfl (plainFor_of_name (by decide)) (Nat.le_of_ble_eq_true rfl) rfl ?_
  intro Y hC0 hZ hnL hini0 hn00
  have hC : mw_C G l _ Y cX5_advance RX5 := hC0
  have B39 : ∀ (M : mw_M) (h : w_X5_advance_b39 n M Q), mw_J Y 0 0 n M 39 [] [] := by
    intro M h
    unfold w_X5_advance_b39 at h
    exact jr_vret hC hZ (by decide) (by decide) dX5_advance_39 ⟨rfl, rfl, h⟩
  have B31 : ∀ (M : mw_M) (r0 : Nat) (h : w_X5_advance_b31 n M r0 Q), mw_J Y 0 0 n M 31 [(0, .ref r0)] [] := by
    intro M r0 h
    unfold w_X5_advance_b31 at h
    refine jr_aload_n (j := 0) hC dX5_advance_31 rfl rfl ?_
    refine jr_aload_n (j := 0) hC dX5_advance_32 rfl rfl ?_
    obtain ⟨hc1, h⟩ := h
    refine jr_get0 hC fl_RX5_62 hc1 dX5_advance_33 ?_
    obtain ⟨M2, eM2⟩ : ∃ y : mw_M, y = sI M r0 5 (mI M r0 6) := ⟨_, rfl⟩
    have h := h M2 eM2
    refine jr_putI hC fp_RX5_59 hc1 eM2 dX5_advance_36 ?_
    refine jr_sub [] (L1 := []) rfl ?_
    exact B39 M2 h
  unfold w_X5_advance at h
  refine jr_aload_n (j := 0) hC dX5_advance_0 rfl rfl ?_
  refine jr_dup hC dX5_advance_1 rfl ?_
  obtain ⟨hc3, h⟩ := h
  refine jr_get0 hC fl_RX5_59 hc3 dX5_advance_2 ?_
  refine jr_iconst (v := (1 : Int32)) hC dX5_advance_5 (by decide) ?_
  refine jr_iadd hC dX5_advance_6 ?_
  obtain ⟨M4, eM4⟩ : ∃ y : mw_M, y = sI M a0 5 ((mI M a0 5) + (1 : Int32)) := ⟨_, rfl⟩
  have h := h M4 eM4
  refine jr_putI hC fp_RX5_59 hc3 eM4 dX5_advance_7 ?_
  refine jr_aload_n (j := 0) hC dX5_advance_10 rfl rfl ?_
  refine jr_get0 hC fl_RX5_59 hc3 dX5_advance_11 ?_
  refine jr_aload_n (j := 0) hC dX5_advance_14 rfl rfl ?_
  refine jr_get0 hC fl_RX5_33 hc3 dX5_advance_15 ?_
  obtain ⟨hthb5, hfhb5⟩ := h
  refine jr_ic_eq (tgt := 31) hC dX5_advance_18 (by decide) (fun hb5 => ?_) (fun hb5 => ?_)
  · have h := hthb5 hb5
    exact B31 M4 a0 h
  · have h := hfhb5 hb5
    refine jr_aload_n (j := 0) hC dX5_advance_21 rfl rfl ?_
    refine jr_get0 hC fl_RX5_59 hc3 dX5_advance_22 ?_
    refine jr_sipush (v := (4000 : Int32)) hC dX5_advance_25 (by decide) ?_
    obtain ⟨hthb6, hfhb6⟩ := h
    refine jr_ic_lt (tgt := 39) hC dX5_advance_28 (by decide) (fun hb6 => ?_) (fun hb6 => ?_)
    · have h := hthb6 hb6
      refine jr_sub [] (L1 := []) rfl ?_
      exact B39 M4 h
    · have h := hfhb6 hb6
      exact B31 M4 a0 h
set_option maxHeartbeats 4000000 in
set_option maxRecDepth 100000 in
theorem c_X5_hasSolo {G : mw_G} {l : Launch} (hlt : l.stackTraces = false) {n : Nat} {M : mw_M} {a0 : Nat} {Q : Int32 → Prop} (h : w_X5_hasSolo n M a0 Q) : mw_Met G l yX5_hasSolo (.code yX5_hasSolo cX5_hasSolo 5 (some .boolean)) { frames := 0, cells := 0, slots := 0, locals := 0 } n M [.ref a0] (fun n1 M1 v => n1 = n ∧ mw_pI M Q M1 v) (fun _ _ => False) := by
  refine mw_enter (L0 := [(0, .ref a0)]) hlt rfl rfl (plainFor_of_name (by decide)) (Nat.le_of_ble_eq_true rfl) rfl ?_
  intro Y hC0 hZ hnL hini0 hn00
  have hC : mw_C G l _ Y cX5_hasSolo RX5 := hC0
  have B10 : ∀ (r1 : Nat) (x2 : Int32) (x3 : Int32) (h : w_X5_hasSolo_b10 n M r1 x2 x3 Q), mw_J Y 0 0 n M 10 [(1, .ref r1), (2, .int x2), (3, .int x3)] [] := by
    intro r1 x2 x3 h
    obtain ⟨Inv, mu, h0, hs⟩ := h
    refine mw_loop1 (fun (x3 : Int32) => mw_J Y 0 0 n M 10 [(1, .ref r1), (2, .int x2), (3, .int x3)] []) Inv mu (fun x3 hI hrec => ?_) x3 h0
    have h := hs x3 hI
    refine jr_iload_n (j := 2) hC dX5_hasSolo_10 rfl rfl ?_
    refine jr_iload_n (j := 1) hC dX5_hasSolo_11 rfl rfl ?_
    obtain ⟨hthb1, hfhb1⟩ := h
    refine jr_ic_ge (tgt := 36) hC dX5_hasSolo_12 (by decide) (fun hb1 => ?_) (fun hb1 => ?_)
    · have h := hthb1 hb1
      refine jr_iconst (v := (0 : Int32)) hC dX5_hasSolo_36 (by decide) ?_
      exact jr_iretz hC hZ (by decide) (by decide) (Or.inl rfl) dX5_hasSolo_37 ⟨rfl, rfl, _, rfl, h⟩
    · have h := hfhb1 hb1
      refine jr_aload_n (j := 0) hC dX5_hasSolo_15 rfl rfl ?_
      refine jr_iload_n (j := 2) hC dX5_hasSolo_16 rfl rfl ?_
      obtain ⟨hc2, h⟩ := h
      obtain ⟨hc3, h⟩ := h
      refine jr_aald (t := 15) hC (by decide) (by decide) hc2 hc3 dX5_hasSolo_17 ?_
      refine jr_nmA (fun q4 eq4 => ?_)
      have h := h q4 eq4
      refine jr_astore (L1 := [(4, .ref q4), (1, .ref r1), (2, .int x2), (3, .int x3)]) hC dX5_hasSolo_18 hnL (by decide) rfl ?_
      refine jr_aload (j := 0) hC dX5_hasSolo_20 rfl ?_
      obtain ⟨hc5, h⟩ := h
      refine jr_get0 hC fl_RX5_68 hc5 dX5_hasSolo_22 ?_
      obtain ⟨hthb6, hfhb6⟩ := h
      refine jr_if_eq (tgt := 30) hC dX5_hasSolo_25 (by decide) (fun hb6 => ?_) (fun hb6 => ?_)
      · have h := hthb6 hb6
        obtain ⟨v7, ev7⟩ : ∃ y : Int32, y = (x3 + (1 : Int32)) := ⟨_, rfl⟩
        have h := h v7 ev7
        refine jr_iinc (j := 3) (v := v7) (L1 := [(3, .int v7), (4, .ref q4), (1, .ref r1), (2, .int x2)]) hC dX5_hasSolo_30 rfl (by rw [ev7]; rfl) hnL (by decide) rfl ?_
        refine jr_goto (tgt := 10) hC dX5_hasSolo_33 (by decide) ?_
        refine jr_sub [2, 3, 0] (L1 := [(1, .ref r1), (2, .int x2), (3, .int v7)]) rfl ?_
        exact hrec v7 h
      · have h := hfhb6 hb6
        refine jr_iconst (v := (1 : Int32)) hC dX5_hasSolo_28 (by decide) ?_
        exact jr_iretz hC hZ (by decide) (by decide) (Or.inr rfl) dX5_hasSolo_29 ⟨rfl, rfl, _, rfl, h⟩
  unfold w_X5_hasSolo at h
  refine jr_aload_n (j := 0) hC dX5_hasSolo_0 rfl rfl ?_
  obtain ⟨hc8, h⟩ := h
  refine jr_get2 hC fl_RX5_25 hc8 dX5_hasSolo_1 ?_
  refine jr_nmA (fun q9 eq9 => ?_)
  have h := h q9 eq9
  refine jr_astore_n (L1 := [(1, .ref q9), (0, .ref a0)]) hC dX5_hasSolo_4 rfl hnL (by decide) rfl ?_
  refine jr_aload_n (j := 0) hC dX5_hasSolo_5 rfl rfl ?_
  obtain ⟨hc10, h⟩ := h
  refine jr_alen (t := 15) hC (by decide) (by decide) hc10 dX5_hasSolo_6 ?_
  refine jr_nmI (fun v11 ev11 => ?_)
  have h := h v11 ev11
  refine jr_istore_n (L1 := [(2, .int v11), (1, .ref q9), (0, .ref a0)]) hC dX5_hasSolo_7 rfl hnL (by decide) rfl ?_
  refine jr_iconst (v := (0 : Int32)) hC dX5_hasSolo_8 (by decide) ?_
  refine jr_istore_n (L1 := [(3, .int (0 : Int32)), (2, .int v11), (1, .ref q9), (0, .ref a0)]) hC dX5_hasSolo_9 rfl hnL (by decide) rfl ?_
  refine jr_sub [2, 1, 0] (L1 := [(1, .ref q9), (2, .int v11), (3, .int (0 : Int32))]) rfl ?_
  exact B10 q9 v11 (0 : Int32) h
set_option maxHeartbeats 4000000 in
set_option maxRecDepth 100000 in
theorem c_X5_isKey {G : mw_G} {l : Launch} (hlt : l.stackTraces = false) {n : Nat} {M : mw_M} {a0 : Nat} {x1 : Int32} {Q : Int32 → Prop} (h : w_X5_isKey n M a0 x1 Q) : mw_Met G l yX5_isKey (.code yX5_isKey cX5_isKey 6 (some .boolean)) { frames := 0, cells := 0, slots := 0, locals := 0 } n M [.ref a0, .int x1] (fun n1 M1 v => n1 = n ∧ mw_pI M Q M1 v) (fun _ _ => False) := by
  refine mw_enter (L0 := [(0, .ref a0), (1, .int x1)]) hlt rfl rfl (plainFor_of_name (by decide)) (Nat.le_of_ble_eq_true rfl) rfl ?_
  intro Y hC0 hZ hnL hini0 hn00
  have hC : mw_C G l _ Y cX5_isKey RX5 := hC0
  have B11 : ∀ (x1 : Int32) (r2 : Nat) (x3 : Int32) (x4 : Int32) (h : w_X5_isKey_b11 n M x1 r2 x3 x4 Q), mw_J Y 0 0 n M 11 [(1, .int x1), (2, .ref r2), (3, .int x3), (4, .int x4)] [] := by
    intro x1 r2 x3 x4 h
    obtain ⟨Inv, mu, h0, hs⟩ := h
    refine mw_loop1 (fun (x4 : Int32) => mw_J Y 0 0 n M 11 [(1, .int x1), (2, .ref r2), (3, .int x3), (4, .int x4)] []) Inv mu (fun x4 hI hrec => ?_) x4 h0
    have h := hs x4 hI
    refine jr_iload (j := 3) hC dX5_isKey_11 rfl ?_
    refine jr_iload_n (j := 2) hC dX5_isKey_13 rfl rfl ?_
    obtain ⟨hthb1, hfhb1⟩ := h
    refine jr_ic_ge (tgt := 40) hC dX5_isKey_14 (by decide) (fun hb1 => ?_) (fun hb1 => ?_)
    · have h := hthb1 hb1
      refine jr_iconst (v := (0 : Int32)) hC dX5_isKey_40 (by decide) ?_
      exact jr_iretz hC hZ (by decide) (by decide) (Or.inl rfl) dX5_isKey_41 ⟨rfl, rfl, _, rfl, h⟩
    · have h := hfhb1 hb1
      refine jr_aload_n (j := 1) hC dX5_isKey_17 rfl rfl ?_
      refine jr_iload (j := 3) hC dX5_isKey_18 rfl ?_
      obtain ⟨hc2, h⟩ := h
      obtain ⟨hc3, h⟩ := h
      refine jr_aald (t := 15) hC (by decide) (by decide) hc2 hc3 dX5_isKey_20 ?_
      refine jr_nmA (fun q4 eq4 => ?_)
      have h := h q4 eq4
      refine jr_astore (L1 := [(5, .ref q4), (1, .int x1), (2, .ref r2), (3, .int x3), (4, .int x4)]) hC dX5_isKey_21 hnL (by decide) rfl ?_
      refine jr_aload (j := 0) hC dX5_isKey_23 rfl ?_
      obtain ⟨hc5, h⟩ := h
      refine jr_get0 hC fl_RX5_72 hc5 dX5_isKey_25 ?_
      refine jr_iload_n (j := 1) hC dX5_isKey_28 rfl rfl ?_
      obtain ⟨hthb6, hfhb6⟩ := h
      refine jr_ic_ne (tgt := 34) hC dX5_isKey_29 (by decide) (fun hb6 => ?_) (fun hb6 => ?_)
      · have h := hthb6 hb6
        obtain ⟨v7, ev7⟩ : ∃ y : Int32, y = (x4 + (1 : Int32)) := ⟨_, rfl⟩
        have h := h v7 ev7
        refine jr_iinc (j := 4) (v := v7) (L1 := [(4, .int v7), (5, .ref q4), (1, .int x1), (2, .ref r2), (3, .int x3)]) hC dX5_isKey_34 rfl (by rw [ev7]; rfl) hnL (by decide) rfl ?_
        refine jr_goto (tgt := 11) hC dX5_isKey_37 (by decide) ?_
        refine jr_sub [2, 3, 4, 0] (L1 := [(1, .int x1), (2, .ref r2), (3, .int x3), (4, .int v7)]) rfl ?_
        exact hrec v7 h
      · have h := hfhb6 hb6
        refine jr_iconst (v := (1 : Int32)) hC dX5_isKey_32 (by decide) ?_
        exact jr_iretz hC hZ (by decide) (by decide) (Or.inr rfl) dX5_isKey_33 ⟨rfl, rfl, _, rfl, h⟩
  unfold w_X5_isKey at h
  refine jr_aload_n (j := 0) hC dX5_isKey_0 rfl rfl ?_
  obtain ⟨hc8, h⟩ := h
  refine jr_get2 hC fl_RX5_25 hc8 dX5_isKey_1 ?_
  refine jr_nmA (fun q9 eq9 => ?_)
  have h := h q9 eq9
  refine jr_astore_n (L1 := [(2, .ref q9), (0, .ref a0), (1, .int x1)]) hC dX5_isKey_4 rfl hnL (by decide) rfl ?_
  refine jr_aload_n (j := 0) hC dX5_isKey_5 rfl rfl ?_
  obtain ⟨hc10, h⟩ := h
  refine jr_alen (t := 15) hC (by decide) (by decide) hc10 dX5_isKey_6 ?_
  refine jr_nmI (fun v11 ev11 => ?_)
  have h := h v11 ev11
  refine jr_istore_n (L1 := [(3, .int v11), (2, .ref q9), (0, .ref a0), (1, .int x1)]) hC dX5_isKey_7 rfl hnL (by decide) rfl ?_
  refine jr_iconst (v := (0 : Int32)) hC dX5_isKey_8 (by decide) ?_
  refine jr_istore (L1 := [(4, .int (0 : Int32)), (3, .int v11), (2, .ref q9), (0, .ref a0), (1, .int x1)]) hC dX5_isKey_9 hnL (by decide) rfl ?_
  refine jr_sub [4, 2, 1, 0] (L1 := [(1, .int x1), (2, .ref q9), (3, .int v11), (4, .int (0 : Int32))]) rfl ?_
  exact B11 x1 q9 v11 (0 : Int32) h
set_option maxHeartbeats 4000000 in
set_option maxRecDepth 100000 in
theorem c_X5_swap {G : mw_G} {l : Launch} (hlt : l.stackTraces = false) {n : Nat} {M : mw_M} {a0 : Nat} {x1 : Int32} {x2 : Int32} {Q : mw_M → Prop} (h : w_X5_swap n M a0 x1 x2 Q) : mw_Met G l yX5_swap (.code yX5_swap cX5_swap 4 none) { frames := 0, cells := 0, slots := 0, locals := 0 } n M [.ref a0, .int x1, .int x2] (fun n1 M1 v => n1 = n ∧ mw_rV Q M1 v) (fun _ _ => False) := by
  refine mw_enter (L0 := [(0, .ref a0), (1, .int x1), (2, .int x2)]) hlt rfl rfl (plainFor_of_name (by decide)) (Nat.le_of_ble_eq_true rfl) rfl ?_
  intro Y hC0 hZ hnL hini0 hn00
  have hC : mw_C G l _ Y cX5_swap RX5 := hC0
  unfold w_X5_swap at h
  refine jr_aload_n (j := 0) hC dX5_swap_0 rfl rfl ?_
  obtain ⟨hc1, h⟩ := h
  refine jr_get2 hC fl_RX5_19 hc1 dX5_swap_1 ?_
  refine jr_iload_n (j := 1) hC dX5_swap_4 rfl rfl ?_
  obtain ⟨hc2, h⟩ := h
  obtain ⟨hc3, h⟩ := h
  refine jr_aald (t := 14) hC (by decide) (by decide) hc2 hc3 dX5_swap_5 ?_
  refine jr_nmA (fun q4 eq4 => ?_)
  have h := h q4 eq4
  refine jr_astore_n (L1 := [(3, .ref q4), (0, .ref a0), (1, .int x1), (2, .int x2)]) hC dX5_swap_6 rfl hnL (by decide) rfl ?_
  refine jr_aload_n (j := 1) hC dX5_swap_7 rfl rfl ?_
  refine jr_get2 hC fl_RX5_19 hc1 dX5_swap_8 ?_
  refine jr_iload_n (j := 2) hC dX5_swap_11 rfl rfl ?_
  refine jr_aload_n (j := 1) hC dX5_swap_12 rfl rfl ?_
  refine jr_get2 hC fl_RX5_19 hc1 dX5_swap_13 ?_
  refine jr_iload_n (j := 3) hC dX5_swap_16 rfl rfl ?_
  obtain ⟨hc5, h⟩ := h
  refine jr_aald (t := 14) hC (by decide) (by decide) hc2 hc5 dX5_swap_17 ?_
  obtain ⟨hc6, h⟩ := h
  obtain ⟨M7, eM7⟩ : ∃ y : mw_M, y = sP M (mP M a0 1) (Int32.toNatClampNeg x1) (mP M (mP M a0 1) (Int32.toNatClampNeg x2)) := ⟨_, rfl⟩
  have h := h M7 eM7
  refine jr_aast (t := 14) (tc := 0) (C9 := RX0) (T9 := TX0) hC (by decide) (by decide) rfl rfl hc2 hc6 hc3 eM7 dX5_swap_18 ?_
  refine jr_aload_n (j := 1) hC dX5_swap_19 rfl rfl ?_
  refine jr_get2 hC fl_RX5_19 hc1 dX5_swap_20 ?_
  refine jr_iload_n (j := 3) hC dX5_swap_23 rfl rfl ?_
  refine jr_aload_n (j := 0) hC dX5_swap_24 rfl rfl ?_
  obtain ⟨hc8, h⟩ := h
  obtain ⟨hc9, h⟩ := h
  obtain ⟨hc10, h⟩ := h
  obtain ⟨M11, eM11⟩ : ∃ y : mw_M, y = sP M7 (mP M7 a0 1) (Int32.toNatClampNeg x2) q4 := ⟨_, rfl⟩
  have h := h M11 eM11
  refine jr_aast (t := 14) (tc := 0) (C9 := RX0) (T9 := TX0) hC (by decide) (by decide) rfl rfl hc8 hc9 hc10 eM11 dX5_swap_25 ?_
  exact jr_vret hC hZ (by decide) (by decide) dX5_swap_26 ⟨rfl, rfl, h⟩
set_option maxHeartbeats 4000000 in
set_option maxRecDepth 100000 in
theorem c_X5_settle {G : mw_G} {l : Launch} (hlt : l.stackTraces = false) {n : Nat} {M : mw_M} {a0 : Nat} {x1 : Int32} {Q : mw_M → Int32 → Prop} (h : w_X5_settle n M a0 x1 Q) : mw_Met G l yX5_settle (.code yX5_settle cX5_settle 3 (some .int)) { frames := 1, cells := 0, slots := 0, locals := 23 } n M [.ref a0, .int x1] (fun n1 M1 v => n1 = n ∧ mw_rI Q M1 v) (fun _ _ => False) := by
  refine mw_enter (L0 := [(0, .ref a0), (1, .int x1)]) hlt rfl rfl (plainFor_of_name (by decide)) (Nat.le_of_ble_eq_true rfl) rfl ?_
  intro Y hC0 hZ hnL hini0 hn00
  have hC : mw_C G l _ Y cX5_settle RX5 := hC0
  have B84 : ∀ (M : mw_M) (x2 : Int32) (h : w_X5_settle_b84 n M x2 Q), mw_J Y 0 0 n M 84 [(2, .int x2)] [] := by
    intro M x2 h
    unfold w_X5_settle_b84 at h
    refine jr_iload_n (j := 0) hC dX5_settle_84 rfl rfl ?_
    exact jr_ireti hC hZ (by decide) (by decide) dX5_settle_85 ⟨rfl, _, rfl, h⟩
  have B40 : ∀ (M : mw_M) (r0 : Nat) (x2 : Int32) (h : w_X5_settle_b40 n M r0 x2 Q), mw_J Y 0 0 n M 40 [(0, .ref r0), (2, .int x2)] [] := by
    intro M r0 x2 h
    obtain ⟨Inv, mu, h0, hs⟩ := h
    refine mw_loop2 (fun (M : mw_M) (x2 : Int32) => mw_J Y 0 0 n M 40 [(0, .ref r0), (2, .int x2)] []) Inv mu (fun M x2 hI hrec => ?_) M x2 h0
    have h := hs M x2 hI
    refine jr_iload_n (j := 1) hC dX5_settle_40 rfl rfl ?_
    refine jr_aload_n (j := 0) hC dX5_settle_41 rfl rfl ?_
    obtain ⟨hc1, h⟩ := h
    refine jr_get0 hC fl_RX5_50 hc1 dX5_settle_42 ?_
    refine jr_iconst (v := (1 : Int32)) hC dX5_settle_45 (by decide) ?_
    refine jr_isub hC dX5_settle_46 ?_
    obtain ⟨hthb2, hfhb2⟩ := h
    refine jr_ic_ge (tgt := 84) hC dX5_settle_47 (by decide) (fun hb2 => ?_) (fun hb2 => ?_)
    · have h := hthb2 hb2
      refine jr_sub [1] (L1 := [(2, .int x2)]) rfl ?_
      exact B84 M x2 h
    · have h := hfhb2 hb2
      refine jr_aload_n (j := 0) hC dX5_settle_50 rfl rfl ?_
      refine jr_get2 hC fl_RX5_19 hc1 dX5_settle_51 ?_
      refine jr_iload_n (j := 1) hC dX5_settle_54 rfl rfl ?_
      refine jr_iconst (v := (1 : Int32)) hC dX5_settle_55 (by decide) ?_
      refine jr_iadd hC dX5_settle_56 ?_
      obtain ⟨hc3, h⟩ := h
      obtain ⟨hc4, h⟩ := h
      refine jr_aald (t := 14) hC (by decide) (by decide) hc3 hc4 dX5_settle_57 ?_
      refine jr_aload_n (j := 0) hC dX5_settle_58 rfl rfl ?_
      refine jr_get2 hC fl_RX5_19 hc1 dX5_settle_59 ?_
      refine jr_iload_n (j := 1) hC dX5_settle_62 rfl rfl ?_
      obtain ⟨hc5, h⟩ := h
      refine jr_aald (t := 14) hC (by decide) (by decide) hc3 hc5 dX5_settle_63 ?_
      obtain ⟨hc6, h⟩ := h
      refine jr_callV_pi (As := [.ref (mP M (mP M r0 1) (Int32.toNatClampNeg x2))]) (st := []) hC nc_RX5_106 (c_X0_isBefore hlt h) hc6 rfl rfl ⟨⟨rfl, rfl⟩, ⟨by decide, by decide⟩, by decide, by decide⟩ (Nat.le_of_ble_eq_true rfl) dX5_settle_64 (fun v7 h => ?_)
      obtain ⟨hthb8, hfhb8⟩ := h
      refine jr_if_eq (tgt := 84) hC dX5_settle_67 (by decide) (fun hb8 => ?_) (fun hb8 => ?_)
      · have h := hthb8 hb8
        refine jr_sub [1] (L1 := [(2, .int x2)]) rfl ?_
        exact B84 M x2 h
      · have h := hfhb8 hb8
        refine jr_aload_n (j := 0) hC dX5_settle_70 rfl rfl ?_
        refine jr_iload_n (j := 1) hC dX5_settle_71 rfl rfl ?_
        refine jr_iload_n (j := 1) hC dX5_settle_72 rfl rfl ?_
        refine jr_iconst (v := (1 : Int32)) hC dX5_settle_73 (by decide) ?_
        refine jr_iadd hC dX5_settle_74 ?_
        refine jr_callV_v (As := [.int x2, .int (x2 + (1 : Int32))]) (st := []) hC nc_RX5_110 (c_X5_swap hlt h) hc1 rfl rfl ⟨⟨rfl, rfl⟩, ⟨by decide, by decide⟩, by decide, by decide⟩ (Nat.le_of_ble_eq_true rfl) dX5_settle_75 (fun M9 h => ?_)
        obtain ⟨v10, ev10⟩ : ∃ y : Int32, y = (x2 + (1 : Int32)) := ⟨_, rfl⟩
        have h := h v10 ev10
        refine jr_iinc (j := 1) (v := v10) (L1 := [(2, .int v10), (0, .ref r0)]) hC dX5_settle_78 rfl (by rw [ev10]; rfl) hnL (by decide) rfl ?_
        refine jr_goto (tgt := 40) hC dX5_settle_81 (by decide) ?_
        refine jr_sub [1, 0] (L1 := [(0, .ref r0), (2, .int v10)]) rfl ?_
        exact hrec M9 v10 h
  have B2 : ∀ (M : mw_M) (r0 : Nat) (x2 : Int32) (h : w_X5_settle_b2 n M r0 x2 Q), mw_J Y 0 0 n M 2 [(0, .ref r0), (2, .int x2)] [] := by
    intro M r0 x2 h
    obtain ⟨Inv, mu, h0, hs⟩ := h
    refine mw_loop2 (fun (M : mw_M) (x2 : Int32) => mw_J Y 0 0 n M 2 [(0, .ref r0), (2, .int x2)] []) Inv mu (fun M x2 hI hrec => ?_) M x2 h0
    have h := hs M x2 hI
    refine jr_iload_n (j := 1) hC dX5_settle_2 rfl rfl ?_
    obtain ⟨hthb11, hfhb11⟩ := h
    refine jr_if_le (tgt := 40) hC dX5_settle_3 (by decide) (fun hb11 => ?_) (fun hb11 => ?_)
    · have h := hthb11 hb11
      exact B40 M r0 x2 h
    · have h := hfhb11 hb11
      refine jr_aload_n (j := 0) hC dX5_settle_6 rfl rfl ?_
      obtain ⟨hc12, h⟩ := h
      refine jr_get2 hC fl_RX5_19 hc12 dX5_settle_7 ?_
      refine jr_iload_n (j := 1) hC dX5_settle_10 rfl rfl ?_
      obtain ⟨hc13, h⟩ := h
      obtain ⟨hc14, h⟩ := h
      refine jr_aald (t := 14) hC (by decide) (by decide) hc13 hc14 dX5_settle_11 ?_
      refine jr_aload_n (j := 0) hC dX5_settle_12 rfl rfl ?_
      refine jr_get2 hC fl_RX5_19 hc12 dX5_settle_13 ?_
      refine jr_iload_n (j := 1) hC dX5_settle_16 rfl rfl ?_
      refine jr_iconst (v := (1 : Int32)) hC dX5_settle_17 (by decide) ?_
      refine jr_isub hC dX5_settle_18 ?_
      obtain ⟨hc15, h⟩ := h
      refine jr_aald (t := 14) hC (by decide) (by decide) hc13 hc15 dX5_settle_19 ?_
      obtain ⟨hc16, h⟩ := h
      refine jr_callV_pi (As := [.ref (mP M (mP M r0 1) (Int32.toNatClampNeg (x2 - (1 : Int32))))]) (st := []) hC nc_RX5_106 (c_X0_isBefore hlt h) hc16 rfl rfl ⟨⟨rfl, rfl⟩, ⟨by decide, by decide⟩, by decide, by decide⟩ (Nat.le_of_ble_eq_true rfl) dX5_settle_20 (fun v17 h => ?_)
      obtain ⟨hthb18, hfhb18⟩ := h
      refine jr_if_eq (tgt := 40) hC dX5_settle_23 (by decide) (fun hb18 => ?_) (fun hb18 => ?_)
      · have h := hthb18 hb18
        exact B40 M r0 x2 h
      · have h := hfhb18 hb18
        refine jr_aload_n (j := 0) hC dX5_settle_26 rfl rfl ?_
        refine jr_iload_n (j := 1) hC dX5_settle_27 rfl rfl ?_
        refine jr_iload_n (j := 1) hC dX5_settle_28 rfl rfl ?_
        refine jr_iconst (v := (1 : Int32)) hC dX5_settle_29 (by decide) ?_
        refine jr_isub hC dX5_settle_30 ?_
        refine jr_callV_v (As := [.int x2, .int (x2 - (1 : Int32))]) (st := []) hC nc_RX5_110 (c_X5_swap hlt h) hc12 rfl rfl ⟨⟨rfl, rfl⟩, ⟨by decide, by decide⟩, by decide, by decide⟩ (Nat.le_of_ble_eq_true rfl) dX5_settle_31 (fun M19 h => ?_)
        obtain ⟨v20, ev20⟩ : ∃ y : Int32, y = (x2 + (-1 : Int32)) := ⟨_, rfl⟩
        have h := h v20 ev20
        refine jr_iinc (j := 1) (v := v20) (L1 := [(2, .int v20), (0, .ref r0)]) hC dX5_settle_34 rfl (by rw [ev20]; rfl) hnL (by decide) rfl ?_
        refine jr_goto (tgt := 2) hC dX5_settle_37 (by decide) ?_
        refine jr_sub [1, 0] (L1 := [(0, .ref r0), (2, .int v20)]) rfl ?_
        exact hrec M19 v20 h
  unfold w_X5_settle at h
  refine jr_iload_n (j := 1) hC dX5_settle_0 rfl rfl ?_
  refine jr_istore_n (L1 := [(2, .int x1), (0, .ref a0), (1, .int x1)]) hC dX5_settle_1 rfl hnL (by decide) rfl ?_
  refine jr_sub [1, 0] (L1 := [(0, .ref a0), (2, .int x1)]) rfl ?_
  exact B2 M a0 x1 h
set_option maxHeartbeats 4000000 in
set_option maxRecDepth 100000 in
theorem c_X5_insert {G : mw_G} {l : Launch} (hlt : l.stackTraces = false) {n : Nat} {M : mw_M} {a0 : Nat} {x1 : Int32} {x2 : Int32} {x3 : Int32} {x4 : Int32} {x5 : Int32} {x6 : Int32} {Q : mw_M → Int32 → Prop} (h : w_X5_insert n M a0 x1 x2 x3 x4 x5 x6 Q) : mw_Met G l yX5_insert (.code yX5_insert cX5_insert 8 (some .int)) { frames := 2, cells := 0, slots := 0, locals := 45 } n M [.ref a0, .int x1, .int x2, .int x3, .int x4, .int x5, .int x6] (fun n1 M1 v => n1 = n ∧ mw_rI Q M1 v) (fun _ _ => False) := by
  refine mw_enter (L0 := [(0, .ref a0), (1, .int x1), (2, .int x2), (3, .int x3), (4, .int x4), (5, .int x5), (6, .int x6)]) hlt rfl rfl (plainFor_of_name (by decide)) (Nat.le_of_ble_eq_true rfl) rfl ?_
  intro Y hC0 hZ hnL hini0 hn00
  have hC : mw_C G l _ Y cX5_insert RX5 := hC0
  unfold w_X5_insert at h
  refine jr_aload_n (j := 0) hC dX5_insert_0 rfl rfl ?_
  obtain ⟨hc1, h⟩ := h
  refine jr_get0 hC fl_RX5_50 hc1 dX5_insert_1 ?_
  refine jr_bipush (v := (12 : Int32)) hC dX5_insert_4 (by decide) ?_
  obtain ⟨hthb2, hfhb2⟩ := h
  refine jr_ic_lt (tgt := 11) hC dX5_insert_6 (by decide) (fun hb2 => ?_) (fun hb2 => ?_)
  · have h := hthb2 hb2
    refine jr_aload_n (j := 0) hC dX5_insert_11 rfl rfl ?_
    refine jr_get2 hC fl_RX5_19 hc1 dX5_insert_12 ?_
    refine jr_aload_n (j := 0) hC dX5_insert_15 rfl rfl ?_
    refine jr_get0 hC fl_RX5_50 hc1 dX5_insert_16 ?_
    obtain ⟨hc3, h⟩ := h
    obtain ⟨hc4, h⟩ := h
    refine jr_aald (t := 14) hC (by decide) (by decide) hc3 hc4 dX5_insert_19 ?_
    refine jr_nmA (fun q5 eq5 => ?_)
    have h := h q5 eq5
    refine jr_astore (L1 := [(7, .ref q5), (0, .ref a0), (1, .int x1), (2, .int x2), (3, .int x3), (4, .int x4), (5, .int x5), (6, .int x6)]) hC dX5_insert_20 hnL (by decide) rfl ?_
    refine jr_aload_n (j := 1) hC dX5_insert_22 rfl rfl ?_
    refine jr_dup hC dX5_insert_23 rfl ?_
    refine jr_get0 hC fl_RX5_50 hc1 dX5_insert_24 ?_
    refine jr_iconst (v := (1 : Int32)) hC dX5_insert_27 (by decide) ?_
    refine jr_iadd hC dX5_insert_28 ?_
    obtain ⟨M6, eM6⟩ : ∃ y : mw_M, y = sI M a0 2 ((mI M a0 2) + (1 : Int32)) := ⟨_, rfl⟩
    have h := h M6 eM6
    refine jr_putI hC fp_RX5_50 hc1 eM6 dX5_insert_29 ?_
    refine jr_aload (j := 0) hC dX5_insert_32 rfl ?_
    refine jr_iload_n (j := 2) hC dX5_insert_34 rfl rfl ?_
    refine jr_iload_n (j := 4) hC dX5_insert_35 rfl rfl ?_
    refine jr_iload (j := 6) hC dX5_insert_36 rfl ?_
    obtain ⟨hc7, h⟩ := h
    refine jr_callV_v (As := [.int x1, .int x3, .int x5]) (st := []) hC nc_RX5_75 (c_X0_place hlt h) hc7 rfl rfl ⟨⟨rfl, rfl⟩, ⟨by decide, by decide⟩, by decide, by decide⟩ (Nat.le_of_ble_eq_true rfl) dX5_insert_38 (fun M8 h => ?_)
    refine jr_aload (j := 0) hC dX5_insert_41 rfl ?_
    refine jr_iload_n (j := 3) hC dX5_insert_43 rfl rfl ?_
    refine jr_iload (j := 5) hC dX5_insert_44 rfl ?_
    refine jr_iload (j := 7) hC dX5_insert_46 rfl ?_
    refine jr_callV_v (As := [.int x2, .int x4, .int x6]) (st := []) hC nc_RX5_79 (c_X0_play hlt h) hc7 rfl rfl ⟨⟨rfl, rfl⟩, ⟨by decide, by decide⟩, by decide, by decide⟩ (Nat.le_of_ble_eq_true rfl) dX5_insert_48 (fun M9 h => ?_)
    refine jr_aload (j := 0) hC dX5_insert_51 rfl ?_
    refine jr_iconst (v := (0 : Int32)) hC dX5_insert_53 (by decide) ?_
    refine jr_iconst (v := (0 : Int32)) hC dX5_insert_54 (by decide) ?_
    refine jr_iconst (v := (0 : Int32)) hC dX5_insert_55 (by decide) ?_
    refine jr_callV_v (As := [.int (0 : Int32), .int (0 : Int32), .int (0 : Int32)]) (st := []) hC nc_RX5_82 (c_X0_fade hlt h) hc7 rfl rfl ⟨⟨rfl, rfl⟩, ⟨by decide, by decide⟩, by decide, by decide⟩ (Nat.le_of_ble_eq_true rfl) dX5_insert_56 (fun M10 h => ?_)
    refine jr_aload_n (j := 1) hC dX5_insert_59 rfl rfl ?_
    refine jr_aload_n (j := 1) hC dX5_insert_60 rfl rfl ?_
    refine jr_get0 hC fl_RX5_50 hc1 dX5_insert_61 ?_
    refine jr_iconst (v := (1 : Int32)) hC dX5_insert_64 (by decide) ?_
    refine jr_isub hC dX5_insert_65 ?_
    refine jr_callV_i (As := [.int ((mI M10 a0 2) - (1 : Int32))]) (st := []) hC nc_RX5_85 (c_X5_settle hlt h) hc1 rfl rfl ⟨⟨rfl, rfl⟩, ⟨by decide, by decide⟩, by decide, by decide⟩ (Nat.le_of_ble_eq_true rfl) dX5_insert_66 (fun M11 v12 h => ?_)
    exact jr_ireti hC hZ (by decide) (by decide) dX5_insert_69 ⟨rfl, _, rfl, h⟩
  · have h := hfhb2 hb2
    refine jr_iconst (v := (-1 : Int32)) hC dX5_insert_9 (by decide) ?_
    exact jr_ireti hC hZ (by decide) (by decide) dX5_insert_10 ⟨rfl, _, rfl, h⟩
