set_option maxHeartbeats 4000000 in
set_option maxRecDepth 100000 in
theorem c_X5_cutInTwo {G : mw_G} {l : Launch} (hlt : l.stackTraces = false) {n : Nat} {M : mw_M} {a0 : Nat} {x1 : Int32} {x2 : Int32} {Q : mw_M → Int32 → Prop} (h : w_X5_cutInTwo n M a0 x1 x2 Q) : mw_Met G l yX5_cutInTwo (.code yX5_cutInTwo cX5_cutInTwo 5 (some .int)) { frames := 2, cells := 0, slots := 0, locals := 45 } n M [.ref a0, .int x1, .int x2] (fun n1 M1 v => n1 = n ∧ mw_rI Q M1 v) (fun _ _ => False) := by
  refine mw_enter (L0 := [(0, .ref a0), (1, .int x1), (2, .int x2)]) hlt rfl rfl (plainFor_of_name (by decide)) (Nat.le_of_ble_eq_true rfl) rfl ?_
  intro Y hC0 hZ hnL hini0 hn00
  have hC : mw_C G l _ Y cX5_cutInTwo RX5 := hC0
  unfold w_X5_cutInTwo at h
  refine jr_aload_n (j := 0) hC dX5_cutInTwo_0 rfl rfl ?_
  obtain ⟨hc1, h⟩ := h
  refine jr_get0 hC fl_RX5_50 hc1 dX5_cutInTwo_1 ?_
  refine jr_bipush (v := (12 : Int32)) hC dX5_cutInTwo_4 (by decide) ?_
  obtain ⟨hthb2, hfhb2⟩ := h
  refine jr_ic_lt (tgt := 11) hC dX5_cutInTwo_6 (by decide) (fun hb2 => ?_) (fun hb2 => ?_)
  · have h := hthb2 hb2
    refine jr_aload_n (j := 0) hC dX5_cutInTwo_11 rfl rfl ?_
    refine jr_get2 hC fl_RX5_19 hc1 dX5_cutInTwo_12 ?_
    refine jr_iload_n (j := 1) hC dX5_cutInTwo_15 rfl rfl ?_
    obtain ⟨hc3, h⟩ := h
    obtain ⟨hc4, h⟩ := h
    refine jr_aald (t := 14) hC (by decide) (by decide) hc3 hc4 dX5_cutInTwo_16 ?_
    refine jr_nmA (fun q5 eq5 => ?_)
    have h := h q5 eq5
    refine jr_astore_n (L1 := [(3, .ref q5), (0, .ref a0), (1, .int x1), (2, .int x2)]) hC dX5_cutInTwo_17 rfl hnL (by decide) rfl ?_
    refine jr_aload_n (j := 1) hC dX5_cutInTwo_18 rfl rfl ?_
    refine jr_get2 hC fl_RX5_19 hc1 dX5_cutInTwo_19 ?_
    refine jr_aload_n (j := 1) hC dX5_cutInTwo_22 rfl rfl ?_
    refine jr_get0 hC fl_RX5_50 hc1 dX5_cutInTwo_23 ?_
    obtain ⟨hc6, h⟩ := h
    refine jr_aald (t := 14) hC (by decide) (by decide) hc3 hc6 dX5_cutInTwo_26 ?_
    refine jr_nmA (fun q7 eq7 => ?_)
    have h := h q7 eq7
    refine jr_astore (L1 := [(4, .ref q7), (3, .ref q5), (0, .ref a0), (1, .int x1), (2, .int x2)]) hC dX5_cutInTwo_27 hnL (by decide) rfl ?_
    refine jr_aload_n (j := 2) hC dX5_cutInTwo_29 rfl rfl ?_
    refine jr_dup hC dX5_cutInTwo_30 rfl ?_
    refine jr_get0 hC fl_RX5_50 hc1 dX5_cutInTwo_31 ?_
    refine jr_iconst (v := (1 : Int32)) hC dX5_cutInTwo_34 (by decide) ?_
    refine jr_iadd hC dX5_cutInTwo_35 ?_
    obtain ⟨M8, eM8⟩ : ∃ y : mw_M, y = sI M a0 2 ((mI M a0 2) + (1 : Int32)) := ⟨_, rfl⟩
    have h := h M8 eM8
    refine jr_putI hC fp_RX5_50 hc1 eM8 dX5_cutInTwo_36 ?_
    refine jr_aload (j := 0) hC dX5_cutInTwo_39 rfl ?_
    refine jr_aload_n (j := 1) hC dX5_cutInTwo_41 rfl rfl ?_
    obtain ⟨hc9, h⟩ := h
    refine jr_callV_v (As := [.ref q5]) (st := []) hC nc_RX5_53 (c_X0_takeFrom hlt h) hc9 rfl rfl ⟨⟨rfl, rfl⟩, ⟨by decide, by decide⟩, by decide, by decide⟩ (Nat.le_of_ble_eq_true rfl) dX5_cutInTwo_42 (fun M10 h => ?_)
    refine jr_aload (j := 0) hC dX5_cutInTwo_45 rfl ?_
    refine jr_iload_n (j := 4) hC dX5_cutInTwo_47 rfl rfl ?_
    refine jr_aload_n (j := 1) hC dX5_cutInTwo_48 rfl rfl ?_
    obtain ⟨hc11, h⟩ := h
    refine jr_get0 hC fl_RX5_89 hc11 dX5_cutInTwo_49 ?_
    refine jr_isub hC dX5_cutInTwo_52 ?_
    refine jr_iconst (v := (0 : Int32)) hC dX5_cutInTwo_53 (by decide) ?_
    refine jr_callV_v (As := [.int (x2 - (mI M10 q5 2)), .int (0 : Int32)]) (st := []) hC nc_RX5_92 (c_X0_trim hlt h) hc9 rfl rfl ⟨⟨rfl, rfl⟩, ⟨by decide, by decide⟩, by decide, by decide⟩ (Nat.le_of_ble_eq_true rfl) dX5_cutInTwo_54 (fun M12 h => ?_)
    refine jr_aload (j := 0) hC dX5_cutInTwo_57 rfl ?_
    refine jr_iconst (v := (0 : Int32)) hC dX5_cutInTwo_59 (by decide) ?_
    obtain ⟨M13, eM13⟩ : ∃ y : mw_M, y = sI M12 q7 6 (0 : Int32) := ⟨_, rfl⟩
    have h := h M13 eM13
    refine jr_putI hC fp_RX5_96 hc9 eM13 dX5_cutInTwo_60 ?_
    refine jr_aload_n (j := 1) hC dX5_cutInTwo_63 rfl rfl ?_
    refine jr_iconst (v := (0 : Int32)) hC dX5_cutInTwo_64 (by decide) ?_
    refine jr_aload_n (j := 1) hC dX5_cutInTwo_65 rfl rfl ?_
    refine jr_callV_pi (As := []) (st := [.int (0 : Int32), .ref q5]) hC nc_RX5_99 (c_X0_end hlt h) hc11 rfl rfl ⟨⟨rfl, rfl⟩, ⟨by decide, by decide⟩, by decide, by decide⟩ (Nat.le_of_ble_eq_true rfl) dX5_cutInTwo_66 (fun v14 h => ?_)
    refine jr_iload_n (j := 4) hC dX5_cutInTwo_69 rfl rfl ?_
    refine jr_isub hC dX5_cutInTwo_70 ?_
    refine jr_callV_v (As := [.int (0 : Int32), .int (v14 - x2)]) (st := []) hC nc_RX5_92 (c_X0_trim hlt h) hc11 rfl rfl ⟨⟨rfl, rfl⟩, ⟨by decide, by decide⟩, by decide, by decide⟩ (Nat.le_of_ble_eq_true rfl) dX5_cutInTwo_71 (fun M15 h => ?_)
    refine jr_aload_n (j := 1) hC dX5_cutInTwo_74 rfl rfl ?_
    refine jr_iconst (v := (0 : Int32)) hC dX5_cutInTwo_75 (by decide) ?_
    obtain ⟨M16, eM16⟩ : ∃ y : mw_M, y = sI M15 q5 7 (0 : Int32) := ⟨_, rfl⟩
    have h := h M16 eM16
    refine jr_putI hC fp_RX5_103 hc11 eM16 dX5_cutInTwo_76 ?_
    refine jr_aload_n (j := 2) hC dX5_cutInTwo_79 rfl rfl ?_
    refine jr_aload_n (j := 2) hC dX5_cutInTwo_80 rfl rfl ?_
    refine jr_get0 hC fl_RX5_50 hc1 dX5_cutInTwo_81 ?_
    refine jr_iconst (v := (1 : Int32)) hC dX5_cutInTwo_84 (by decide) ?_
    refine jr_isub hC dX5_cutInTwo_85 ?_
    refine jr_callV_i (As := [.int ((mI M16 a0 2) - (1 : Int32))]) (st := []) hC nc_RX5_85 (c_X5_settle hlt h) hc1 rfl rfl ⟨⟨rfl, rfl⟩, ⟨by decide, by decide⟩, by decide, by decide⟩ (Nat.le_of_ble_eq_true rfl) dX5_cutInTwo_86 (fun M17 v18 h => ?_)
    exact jr_ireti hC hZ (by decide) (by decide) dX5_cutInTwo_89 ⟨rfl, _, rfl, h⟩
  · have h := hfhb2 hb2
    refine jr_iconst (v := (-1 : Int32)) hC dX5_cutInTwo_9 (by decide) ?_
    exact jr_ireti hC hZ (by decide) (by decide) dX5_cutInTwo_10 ⟨rfl, _, rfl, h⟩
set_option maxHeartbeats 4000000 in
set_option maxRecDepth 100000 in
theorem c_X5_drop {G : mw_G} {l : Launch} (hlt : l.stackTraces = false) {n : Nat} {M : mw_M} {a0 : Nat} {x1 : Int32} {Q : mw_M → Prop} (h : w_X5_drop n M a0 x1 Q) : mw_Met G l yX5_drop (.code yX5_drop cX5_drop 3 none) { frames := 1, cells := 0, slots := 0, locals := 23 } n M [.ref a0, .int x1] (fun n1 M1 v => n1 = n ∧ mw_rV Q M1 v) (fun _ _ => False) := by
  refine mw_enter (L0 := [(0, .ref a0), (1, .int x1)]) hlt rfl rfl (plainFor_of_name (by decide)) (Nat.le_of_ble_eq_true rfl) rfl ?_
  intro Y hC0 hZ hnL hini0 hn00
  have hC : mw_C G l _ Y cX5_drop RX5 := hC0
  have B2 : ∀ (M : mw_M) (r0 : Nat) (x2 : Int32) (h : w_X5_drop_b2 n M r0 x2 Q), mw_J Y 0 0 n M 2 [(0, .ref r0), (2, .int x2)] [] := by
    intro M r0 x2 h
    obtain ⟨Inv, mu, h0, hs⟩ := h
    refine mw_loop2 (fun (M : mw_M) (x2 : Int32) => mw_J Y 0 0 n M 2 [(0, .ref r0), (2, .int x2)] []) Inv mu (fun M x2 hI hrec => ?_) M x2 h0
    have h := hs M x2 hI
    refine jr_iload_n (j := 1) hC dX5_drop_2 rfl rfl ?_
    refine jr_aload_n (j := 0) hC dX5_drop_3 rfl rfl ?_
    obtain ⟨hc1, h⟩ := h
    refine jr_get0 hC fl_RX5_50 hc1 dX5_drop_4 ?_
    refine jr_iconst (v := (1 : Int32)) hC dX5_drop_7 (by decide) ?_
    refine jr_isub hC dX5_drop_8 ?_
    obtain ⟨hthb2, hfhb2⟩ := h
    refine jr_ic_ge (tgt := 26) hC dX5_drop_9 (by decide) (fun hb2 => ?_) (fun hb2 => ?_)
    · have h := hthb2 hb2
      refine jr_aload_n (j := 0) hC dX5_drop_26 rfl rfl ?_
      refine jr_dup hC dX5_drop_27 rfl ?_
      refine jr_get0 hC fl_RX5_50 hc1 dX5_drop_28 ?_
      refine jr_iconst (v := (1 : Int32)) hC dX5_drop_31 (by decide) ?_
      refine jr_isub hC dX5_drop_32 ?_
      obtain ⟨M3, eM3⟩ : ∃ y : mw_M, y = sI M r0 2 ((mI M r0 2) - (1 : Int32)) := ⟨_, rfl⟩
      have h := h M3 eM3
      refine jr_putI hC fp_RX5_50 hc1 eM3 dX5_drop_33 ?_
      exact jr_vret hC hZ (by decide) (by decide) dX5_drop_36 ⟨rfl, rfl, h⟩
    · have h := hfhb2 hb2
      refine jr_aload_n (j := 0) hC dX5_drop_12 rfl rfl ?_
      refine jr_iload_n (j := 1) hC dX5_drop_13 rfl rfl ?_
      refine jr_iload_n (j := 1) hC dX5_drop_14 rfl rfl ?_
      refine jr_iconst (v := (1 : Int32)) hC dX5_drop_15 (by decide) ?_
      refine jr_iadd hC dX5_drop_16 ?_
      refine jr_callV_v (As := [.int x2, .int (x2 + (1 : Int32))]) (st := []) hC nc_RX5_110 (c_X5_swap hlt h) hc1 rfl rfl ⟨⟨rfl, rfl⟩, ⟨by decide, by decide⟩, by decide, by decide⟩ (Nat.le_of_ble_eq_true rfl) dX5_drop_17 (fun M4 h => ?_)
      obtain ⟨v5, ev5⟩ : ∃ y : Int32, y = (x2 + (1 : Int32)) := ⟨_, rfl⟩
      have h := h v5 ev5
      refine jr_iinc (j := 1) (v := v5) (L1 := [(2, .int v5), (0, .ref r0)]) hC dX5_drop_20 rfl (by rw [ev5]; rfl) hnL (by decide) rfl ?_
      refine jr_goto (tgt := 2) hC dX5_drop_23 (by decide) ?_
      refine jr_sub [1, 0] (L1 := [(0, .ref r0), (2, .int v5)]) rfl ?_
      exact hrec M4 v5 h
  unfold w_X5_drop at h
  refine jr_iload_n (j := 1) hC dX5_drop_0 rfl rfl ?_
  refine jr_istore_n (L1 := [(2, .int x1), (0, .ref a0), (1, .int x1)]) hC dX5_drop_1 rfl hnL (by decide) rfl ?_
  refine jr_sub [1, 0] (L1 := [(0, .ref a0), (2, .int x1)]) rfl ?_
  exact B2 M a0 x1 h
set_option maxHeartbeats 4000000 in
set_option maxRecDepth 100000 in
theorem c_X5_cutOut {G : mw_G} {l : Launch} (hlt : l.stackTraces = false) {n : Nat} {M : mw_M} {a0 : Nat} {x1 : Int32} {x2 : Int32} {x3 : Int32} {Q : mw_M → Int32 → Prop} (h : w_X5_cutOut n M a0 x1 x2 x3 Q) : mw_Met G l yX5_cutOut (.code yX5_cutOut cX5_cutOut 7 (some .int)) { frames := 3, cells := 0, slots := 0, locals := 65 } n M [.ref a0, .int x1, .int x2, .int x3] (fun n1 M1 v => n1 = n ∧ mw_rI Q M1 v) (fun _ _ => False) := by
  refine mw_enter (L0 := [(0, .ref a0), (1, .int x1), (2, .int x2), (3, .int x3)]) hlt rfl rfl (plainFor_of_name (by decide)) (Nat.le_of_ble_eq_true rfl) rfl ?_
  intro Y hC0 hZ hnL hini0 hn00
  have hC : mw_C G l _ Y cX5_cutOut RX5 := hC0
  have B71 : ∀ (M : mw_M) (r0 : Nat) (x1 : Int32) (x2 : Int32) (x3 : Int32) (x4 : Int32) (x5 : Int32) (K11 : mw_M → Int32 → Int32 → Prop) (hK11 : ∀ (M_ : mw_M) (x4_ : Int32) (x5_ : Int32), K11 M_ x4_ x5_ → mw_J Y 0 0 n M_ 11 [(0, .ref r0), (1, .int x1), (2, .int x2), (3, .int x3), (4, .int x4_), (5, .int x5_)] []) (h : w_X5_cutOut_b71 n M r0 x1 x2 x3 x4 x5 Q K11), mw_J Y 0 0 n M 71 [(0, .ref r0), (1, .int x1), (2, .int x2), (3, .int x3), (4, .int x4), (5, .int x5)] [] := by
    intro M r0 x1 x2 x3 x4 x5 K11 hK11 h
    unfold w_X5_cutOut_b71 at h
    obtain ⟨v1, ev1⟩ : ∃ y : Int32, y = (x5 + (-1 : Int32)) := ⟨_, rfl⟩
    have h := h v1 ev1
    refine jr_iinc (j := 5) (v := v1) (L1 := [(5, .int v1), (0, .ref r0), (1, .int x1), (2, .int x2), (3, .int x3), (4, .int x4)]) hC dX5_cutOut_71 rfl (by rw [ev1]; rfl) hnL (by decide) rfl ?_
    refine jr_goto (tgt := 11) hC dX5_cutOut_74 (by decide) ?_
    refine jr_sub [1, 2, 3, 4, 5, 0] (L1 := [(0, .ref r0), (1, .int x1), (2, .int x2), (3, .int x3), (4, .int x4), (5, .int v1)]) rfl ?_
    exact hK11 M x4 v1 h
  have B64 : ∀ (M : mw_M) (r0 : Nat) (x1 : Int32) (x2 : Int32) (x3 : Int32) (x4 : Int32) (x5 : Int32) (r6 : Nat) (K11 : mw_M → Int32 → Int32 → Prop) (hK11 : ∀ (M_ : mw_M) (x4_ : Int32) (x5_ : Int32), K11 M_ x4_ x5_ → mw_J Y 0 0 n M_ 11 [(0, .ref r0), (1, .int x1), (2, .int x2), (3, .int x3), (4, .int x4_), (5, .int x5_)] []) (h : w_X5_cutOut_b64 n M r0 x1 x2 x3 x4 x5 r6 Q K11), mw_J Y 0 0 n M 64 [(0, .ref r0), (1, .int x1), (2, .int x2), (3, .int x3), (4, .int x4), (5, .int x5), (6, .ref r6)] [] := by
    intro M r0 x1 x2 x3 x4 x5 r6 K11 hK11 h
    unfold w_X5_cutOut_b64 at h
    refine jr_aload (j := 6) hC dX5_cutOut_64 rfl ?_
    refine jr_iload_n (j := 2) hC dX5_cutOut_66 rfl rfl ?_
    refine jr_iload_n (j := 3) hC dX5_cutOut_67 rfl rfl ?_
    obtain ⟨hc2, h⟩ := h
    refine jr_callV_v (As := [.int x2, .int x3]) (st := []) hC nc_RX5_120 (c_X0_loseStretch hlt h) hc2 rfl rfl ⟨⟨rfl, rfl⟩, ⟨by decide, by decide⟩, by decide, by decide⟩ (Nat.le_of_ble_eq_true rfl) dX5_cutOut_68 (fun M3 h => ?_)
    refine jr_sub [0, 1, 2, 3, 4, 5] (L1 := [(0, .ref r0), (1, .int x1), (2, .int x2), (3, .int x3), (4, .int x4), (5, .int x5)]) rfl ?_
    exact B71 M3 r0 x1 x2 x3 x4 x5 K11 hK11 h
  have B11 : ∀ (M : mw_M) (r0 : Nat) (x1 : Int32) (x2 : Int32) (x3 : Int32) (x4 : Int32) (x5 : Int32) (h : w_X5_cutOut_b11 n M r0 x1 x2 x3 x4 x5 Q), mw_J Y 0 0 n M 11 [(0, .ref r0), (1, .int x1), (2, .int x2), (3, .int x3), (4, .int x4), (5, .int x5)] [] := by
    intro M r0 x1 x2 x3 x4 x5 h
    obtain ⟨Inv, mu, h0, hs⟩ := h
    refine mw_loop3 (fun (M : mw_M) (x4 : Int32) (x5 : Int32) => mw_J Y 0 0 n M 11 [(0, .ref r0), (1, .int x1), (2, .int x2), (3, .int x3), (4, .int x4), (5, .int x5)] []) Inv mu (fun M x4 x5 hI hrec => ?_) M x4 x5 h0
    have h := hs M x4 x5 hI
    refine jr_iload (j := 5) hC dX5_cutOut_11 rfl ?_
    obtain ⟨hthb4, hfhb4⟩ := h
    refine jr_if_lt (tgt := 77) hC dX5_cutOut_13 (by decide) (fun hb4 => ?_) (fun hb4 => ?_)
    · have h := hthb4 hb4
      refine jr_iload (j := 4) hC dX5_cutOut_77 rfl ?_
      exact jr_ireti hC hZ (by decide) (by decide) dX5_cutOut_79 ⟨rfl, _, rfl, h⟩
    · have h := hfhb4 hb4
      refine jr_aload_n (j := 0) hC dX5_cutOut_16 rfl rfl ?_
      obtain ⟨hc5, h⟩ := h
      refine jr_get2 hC fl_RX5_19 hc5 dX5_cutOut_17 ?_
      refine jr_iload (j := 5) hC dX5_cutOut_20 rfl ?_
      obtain ⟨hc6, h⟩ := h
      obtain ⟨hc7, h⟩ := h
      refine jr_aald (t := 14) hC (by decide) (by decide) hc6 hc7 dX5_cutOut_22 ?_
      refine jr_nmA (fun q8 eq8 => ?_)
      have h := h q8 eq8
      refine jr_astore (L1 := [(6, .ref q8), (0, .ref r0), (1, .int x1), (2, .int x2), (3, .int x3), (4, .int x4), (5, .int x5)]) hC dX5_cutOut_23 hnL (by decide) rfl ?_
      refine jr_aload (j := 0) hC dX5_cutOut_25 rfl ?_
      obtain ⟨hc9, h⟩ := h
      refine jr_get0 hC fl_RX5_113 hc9 dX5_cutOut_27 ?_
      refine jr_iload_n (j := 2) hC dX5_cutOut_30 rfl rfl ?_
      obtain ⟨hthb10, hfhb10⟩ := h
      refine jr_ic_ne (tgt := 71) hC dX5_cutOut_31 (by decide) (fun hb10 => ?_) (fun hb10 => ?_)
      · have h := hthb10 hb10
        refine jr_sub [1, 2, 3, 4, 5, 6] (L1 := [(0, .ref r0), (1, .int x1), (2, .int x2), (3, .int x3), (4, .int x4), (5, .int x5)]) rfl ?_
        exact B71 M r0 x1 x2 x3 x4 x5 (fun (M_ : mw_M) (x4_ : Int32) (x5_ : Int32) => Inv M_ x4_ x5_ ∧ mu M_ x4_ x5_ < mu M x4 x5) (fun M_ x4_ x5_ h9 => hrec M_ x4_ x5_ h9) h
      · have h := hfhb10 hb10
        refine jr_aload (j := 0) hC dX5_cutOut_34 rfl ?_
        refine jr_get0 hC fl_RX5_89 hc9 dX5_cutOut_36 ?_
        refine jr_iload_n (j := 3) hC dX5_cutOut_39 rfl rfl ?_
        obtain ⟨hthb11, hfhb11⟩ := h
        refine jr_ic_lt (tgt := 64) hC dX5_cutOut_40 (by decide) (fun hb11 => ?_) (fun hb11 => ?_)
        · have h := hthb11 hb11
          refine jr_sub [1, 2, 3, 4, 5, 6, 0] (L1 := [(0, .ref r0), (1, .int x1), (2, .int x2), (3, .int x3), (4, .int x4), (5, .int x5), (6, .ref q8)]) rfl ?_
          exact B64 M r0 x1 x2 x3 x4 x5 q8 (fun (M_ : mw_M) (x4_ : Int32) (x5_ : Int32) => Inv M_ x4_ x5_ ∧ mu M_ x4_ x5_ < mu M x4 x5) (fun M_ x4_ x5_ h9 => hrec M_ x4_ x5_ h9) h
        · have h := hfhb11 hb11
          refine jr_aload (j := 0) hC dX5_cutOut_43 rfl ?_
          refine jr_callV_pi (As := []) (st := []) hC nc_RX5_99 (c_X0_end hlt h) hc9 rfl rfl ⟨⟨rfl, rfl⟩, ⟨by decide, by decide⟩, by decide, by decide⟩ (Nat.le_of_ble_eq_true rfl) dX5_cutOut_45 (fun v12 h => ?_)
          refine jr_iload_n (j := 4) hC dX5_cutOut_48 rfl rfl ?_
          obtain ⟨hthb13, hfhb13⟩ := h
          refine jr_ic_gt (tgt := 64) hC dX5_cutOut_49 (by decide) (fun hb13 => ?_) (fun hb13 => ?_)
          · have h := hthb13 hb13
            refine jr_sub [1, 2, 3, 4, 5, 6, 0] (L1 := [(0, .ref r0), (1, .int x1), (2, .int x2), (3, .int x3), (4, .int x4), (5, .int x5), (6, .ref q8)]) rfl ?_
            exact B64 M r0 x1 x2 x3 x4 x5 q8 (fun (M_ : mw_M) (x4_ : Int32) (x5_ : Int32) => Inv M_ x4_ x5_ ∧ mu M_ x4_ x5_ < mu M x4 x5) (fun M_ x4_ x5_ h9 => hrec M_ x4_ x5_ h9) h
          · have h := hfhb13 hb13
            refine jr_aload_n (j := 1) hC dX5_cutOut_52 rfl rfl ?_
            refine jr_iload (j := 6) hC dX5_cutOut_53 rfl ?_
            refine jr_callV_v (As := [.int x5]) (st := []) hC nc_RX5_116 (c_X5_drop hlt h) hc5 rfl rfl ⟨⟨rfl, rfl⟩, ⟨by decide, by decide⟩, by decide, by decide⟩ (Nat.le_of_ble_eq_true rfl) dX5_cutOut_55 (fun M14 h => ?_)
            obtain ⟨v15, ev15⟩ : ∃ y : Int32, y = (x4 + (1 : Int32)) := ⟨_, rfl⟩
            have h := h v15 ev15
            refine jr_iinc (j := 5) (v := v15) (L1 := [(4, .int v15), (6, .ref q8), (0, .ref r0), (1, .int x1), (2, .int x2), (3, .int x3), (5, .int x5)]) hC dX5_cutOut_58 rfl (by rw [ev15]; rfl) hnL (by decide) rfl ?_
            refine jr_goto (tgt := 71) hC dX5_cutOut_61 (by decide) ?_
            refine jr_sub [2, 3, 4, 5, 0, 6] (L1 := [(0, .ref r0), (1, .int x1), (2, .int x2), (3, .int x3), (4, .int v15), (5, .int x5)]) rfl ?_
            exact B71 M14 r0 x1 x2 x3 v15 x5 (fun (M_ : mw_M) (x4_ : Int32) (x5_ : Int32) => Inv M_ x4_ x5_ ∧ mu M_ x4_ x5_ < mu M x4 x5) (fun M_ x4_ x5_ h9 => hrec M_ x4_ x5_ h9) h
  unfold w_X5_cutOut at h
  refine jr_iconst (v := (0 : Int32)) hC dX5_cutOut_0 (by decide) ?_
  refine jr_istore (L1 := [(4, .int (0 : Int32)), (0, .ref a0), (1, .int x1), (2, .int x2), (3, .int x3)]) hC dX5_cutOut_1 hnL (by decide) rfl ?_
  refine jr_aload_n (j := 1) hC dX5_cutOut_3 rfl rfl ?_
  obtain ⟨hc16, h⟩ := h
  refine jr_get0 hC fl_RX5_50 hc16 dX5_cutOut_4 ?_
  refine jr_iconst (v := (1 : Int32)) hC dX5_cutOut_7 (by decide) ?_
  refine jr_isub hC dX5_cutOut_8 ?_
  refine jr_nmI (fun v17 ev17 => ?_)
  have h := h v17 ev17
  refine jr_istore (L1 := [(5, .int v17), (4, .int (0 : Int32)), (0, .ref a0), (1, .int x1), (2, .int x2), (3, .int x3)]) hC dX5_cutOut_9 hnL (by decide) rfl ?_
  refine jr_sub [2, 3, 4, 5, 1, 0] (L1 := [(0, .ref a0), (1, .int x1), (2, .int x2), (3, .int x3), (4, .int (0 : Int32)), (5, .int v17)]) rfl ?_
  exact B11 M a0 x1 x2 x3 (0 : Int32) v17 h
set_option maxHeartbeats 4000000 in
set_option maxRecDepth 100000 in
theorem c_X5_offsetsFit {G : mw_G} {l : Launch} (hlt : l.stackTraces = false) {n : Nat} {M : mw_M} {a0 : Nat} {Q : Int32 → Prop} (h : w_X5_offsetsFit n M a0 Q) : mw_Met G l yX5_offsetsFit (.code yX5_offsetsFit cX5_offsetsFit 2 (some .boolean)) { frames := 0, cells := 0, slots := 0, locals := 0 } n M [.ref a0] (fun n1 M1 v => n1 = n ∧ mw_pI M Q M1 v) (fun _ _ => False) := by
  refine mw_enter (L0 := [(0, .ref a0)]) hlt rfl rfl (plainFor_of_name (by decide)) (Nat.le_of_ble_eq_true rfl) rfl ?_
  intro Y hC0 hZ hnL hini0 hn00
  have hC : mw_C G l _ Y cX5_offsetsFit RX5 := hC0
  have B2 : ∀ (r0 : Nat) (x1 : Int32) (h : w_X5_offsetsFit_b2 n M r0 x1 Q), mw_J Y 0 0 n M 2 [(0, .ref r0), (1, .int x1)] [] := by
    intro r0 x1 h
    obtain ⟨Inv, mu, h0, hs⟩ := h
    refine mw_loop1 (fun (x1 : Int32) => mw_J Y 0 0 n M 2 [(0, .ref r0), (1, .int x1)] []) Inv mu (fun x1 hI hrec => ?_) x1 h0
    have h := hs x1 hI
    refine jr_iload_n (j := 1) hC dX5_offsetsFit_2 rfl rfl ?_
    refine jr_aload_n (j := 0) hC dX5_offsetsFit_3 rfl rfl ?_
    obtain ⟨hc1, h⟩ := h
    refine jr_get0 hC fl_RX5_50 hc1 dX5_offsetsFit_4 ?_
    obtain ⟨hthb2, hfhb2⟩ := h
    refine jr_ic_ge (tgt := 33) hC dX5_offsetsFit_7 (by decide) (fun hb2 => ?_) (fun hb2 => ?_)
    · have h := hthb2 hb2
      refine jr_iconst (v := (1 : Int32)) hC dX5_offsetsFit_33 (by decide) ?_
      exact jr_iretz hC hZ (by decide) (by decide) (Or.inr rfl) dX5_offsetsFit_34 ⟨rfl, rfl, _, rfl, h⟩
    · have h := hfhb2 hb2
      refine jr_aload_n (j := 0) hC dX5_offsetsFit_10 rfl rfl ?_
      refine jr_get2 hC fl_RX5_19 hc1 dX5_offsetsFit_11 ?_
      refine jr_iload_n (j := 1) hC dX5_offsetsFit_14 rfl rfl ?_
      obtain ⟨hc3, h⟩ := h
      obtain ⟨hc4, h⟩ := h
      refine jr_aald (t := 14) hC (by decide) (by decide) hc3 hc4 dX5_offsetsFit_15 ?_
      obtain ⟨hc5, h⟩ := h
      refine jr_get0 hC fl_RX5_123 hc5 dX5_offsetsFit_16 ?_
      refine jr_sipush (v := (3999 : Int32)) hC dX5_offsetsFit_19 (by decide) ?_
      obtain ⟨hthb6, hfhb6⟩ := h
      refine jr_ic_le (tgt := 27) hC dX5_offsetsFit_22 (by decide) (fun hb6 => ?_) (fun hb6 => ?_)
      · have h := hthb6 hb6
        obtain ⟨v7, ev7⟩ : ∃ y : Int32, y = (x1 + (1 : Int32)) := ⟨_, rfl⟩
        have h := h v7 ev7
        refine jr_iinc (j := 1) (v := v7) (L1 := [(1, .int v7), (0, .ref r0)]) hC dX5_offsetsFit_27 rfl (by rw [ev7]; rfl) hnL (by decide) rfl ?_
        refine jr_goto (tgt := 2) hC dX5_offsetsFit_30 (by decide) ?_
        refine jr_sub [1, 0] (L1 := [(0, .ref r0), (1, .int v7)]) rfl ?_
        exact hrec v7 h
      · have h := hfhb6 hb6
        refine jr_iconst (v := (0 : Int32)) hC dX5_offsetsFit_25 (by decide) ?_
        exact jr_iretz hC hZ (by decide) (by decide) (Or.inl rfl) dX5_offsetsFit_26 ⟨rfl, rfl, _, rfl, h⟩
  unfold w_X5_offsetsFit at h
  refine jr_iconst (v := (0 : Int32)) hC dX5_offsetsFit_0 (by decide) ?_
  refine jr_istore_n (L1 := [(1, .int (0 : Int32)), (0, .ref a0)]) hC dX5_offsetsFit_1 rfl hnL (by decide) rfl ?_
  refine jr_sub [1, 0] (L1 := [(0, .ref a0), (1, .int (0 : Int32))]) rfl ?_
  exact B2 a0 (0 : Int32) h
set_option maxHeartbeats 4000000 in
set_option maxRecDepth 100000 in
theorem c_X5_isLawful {G : mw_G} {l : Launch} (hlt : l.stackTraces = false) {n : Nat} {M : mw_M} {a0 : Nat} {Q : Int32 → Prop} (h : w_X5_isLawful n M a0 Q) : mw_Met G l yX5_isLawful (.code yX5_isLawful cX5_isLawful 4 (some .boolean)) { frames := 1, cells := 0, slots := 0, locals := 20 } n M [.ref a0] (fun n1 M1 v => n1 = n ∧ mw_pI M Q M1 v) (fun _ _ => False) := by
  refine mw_enter (L0 := [(0, .ref a0)]) hlt rfl rfl (plainFor_of_name (by decide)) (Nat.le_of_ble_eq_true rfl) rfl ?_
  intro Y hC0 hZ hnL hini0 hn00
  have hC : mw_C G l _ Y cX5_isLawful RX5 := hC0
  have B117 : ∀ (r0 : Nat) (x1 : Int32) (K69 : Int32 → Prop) (hK69 : ∀ (x1_ : Int32), K69 x1_ → mw_J Y 0 0 n M 69 [(0, .ref r0), (1, .int x1_)] []) (h : w_X5_isLawful_b117 n M r0 x1 Q K69), mw_J Y 0 0 n M 117 [(0, .ref r0), (1, .int x1)] [] := by
    intro r0 x1 K69 hK69 h
    unfold w_X5_isLawful_b117 at h
    obtain ⟨v1, ev1⟩ : ∃ y : Int32, y = (x1 + (1 : Int32)) := ⟨_, rfl⟩
    have h := h v1 ev1
    refine jr_iinc (j := 1) (v := v1) (L1 := [(1, .int v1), (0, .ref r0)]) hC dX5_isLawful_117 rfl (by rw [ev1]; rfl) hnL (by decide) rfl ?_
    refine jr_goto (tgt := 69) hC dX5_isLawful_120 (by decide) ?_
    refine jr_sub [1, 0] (L1 := [(0, .ref r0), (1, .int v1)]) rfl ?_
    exact hK69 v1 h
  have B69 : ∀ (r0 : Nat) (x1 : Int32) (h : w_X5_isLawful_b69 n M r0 x1 Q), mw_J Y 0 0 n M 69 [(0, .ref r0), (1, .int x1)] [] := by
    intro r0 x1 h
    obtain ⟨Inv, mu, h0, hs⟩ := h
    refine mw_loop1 (fun (x1 : Int32) => mw_J Y 0 0 n M 69 [(0, .ref r0), (1, .int x1)] []) Inv mu (fun x1 hI hrec => ?_) x1 h0
    have h := hs x1 hI
    refine jr_iload_n (j := 1) hC dX5_isLawful_69 rfl rfl ?_
    refine jr_aload_n (j := 0) hC dX5_isLawful_70 rfl rfl ?_
    obtain ⟨hc2, h⟩ := h
    refine jr_get0 hC fl_RX5_50 hc2 dX5_isLawful_71 ?_
    obtain ⟨hthb3, hfhb3⟩ := h
    refine jr_ic_ge (tgt := 123) hC dX5_isLawful_74 (by decide) (fun hb3 => ?_) (fun hb3 => ?_)
    · have h := hthb3 hb3
      refine jr_iconst (v := (1 : Int32)) hC dX5_isLawful_123 (by decide) ?_
      exact jr_iretz hC hZ (by decide) (by decide) (Or.inr rfl) dX5_isLawful_124 ⟨rfl, rfl, _, rfl, h⟩
    · have h := hfhb3 hb3
      refine jr_aload_n (j := 0) hC dX5_isLawful_77 rfl rfl ?_
      refine jr_get2 hC fl_RX5_19 hc2 dX5_isLawful_78 ?_
      refine jr_iload_n (j := 1) hC dX5_isLawful_81 rfl rfl ?_
      refine jr_iconst (v := (2 : Int32)) hC dX5_isLawful_82 (by decide) ?_
      refine jr_isub hC dX5_isLawful_83 ?_
      obtain ⟨hc4, h⟩ := h
      obtain ⟨hc5, h⟩ := h
      refine jr_aald (t := 14) hC (by decide) (by decide) hc4 hc5 dX5_isLawful_84 ?_
      refine jr_nmA (fun q6 eq6 => ?_)
      have h := h q6 eq6
      refine jr_astore_n (L1 := [(2, .ref q6), (0, .ref r0), (1, .int x1)]) hC dX5_isLawful_85 rfl hnL (by decide) rfl ?_
      refine jr_aload_n (j := 1) hC dX5_isLawful_86 rfl rfl ?_
      refine jr_get2 hC fl_RX5_19 hc2 dX5_isLawful_87 ?_
      refine jr_iload_n (j := 2) hC dX5_isLawful_90 rfl rfl ?_
      obtain ⟨hc7, h⟩ := h
      refine jr_aald (t := 14) hC (by decide) (by decide) hc4 hc7 dX5_isLawful_91 ?_
      refine jr_nmA (fun q8 eq8 => ?_)
      have h := h q8 eq8
      refine jr_astore_n (L1 := [(3, .ref q8), (2, .ref q6), (0, .ref r0), (1, .int x1)]) hC dX5_isLawful_92 rfl hnL (by decide) rfl ?_
      refine jr_aload_n (j := 1) hC dX5_isLawful_93 rfl rfl ?_
      obtain ⟨hc9, h⟩ := h
      refine jr_get0 hC fl_RX5_113 hc9 dX5_isLawful_94 ?_
      refine jr_aload_n (j := 0) hC dX5_isLawful_97 rfl rfl ?_
      obtain ⟨hc10, h⟩ := h
      refine jr_get0 hC fl_RX5_113 hc10 dX5_isLawful_98 ?_
      obtain ⟨hthb11, hfhb11⟩ := h
      refine jr_ic_ne (tgt := 117) hC dX5_isLawful_101 (by decide) (fun hb11 => ?_) (fun hb11 => ?_)
      · have h := hthb11 hb11
        refine jr_sub [2, 3] (L1 := [(0, .ref r0), (1, .int x1)]) rfl ?_
        exact B117 r0 x1 (fun (x1_ : Int32) => Inv x1_ ∧ mu x1_ < mu x1) (fun x1_ h9 => hrec x1_ h9) h
      · have h := hfhb11 hb11
        refine jr_aload_n (j := 0) hC dX5_isLawful_104 rfl rfl ?_
        refine jr_get0 hC fl_RX5_89 hc10 dX5_isLawful_105 ?_
        refine jr_aload_n (j := 1) hC dX5_isLawful_108 rfl rfl ?_
        refine jr_callV_pi (As := []) (st := [.int (mI M q8 2)]) hC nc_RX5_99 (c_X0_end hlt h) hc9 rfl rfl ⟨⟨rfl, rfl⟩, ⟨by decide, by decide⟩, by decide, by decide⟩ (Nat.le_of_ble_eq_true rfl) dX5_isLawful_109 (fun v12 h => ?_)
        obtain ⟨hthb13, hfhb13⟩ := h
        refine jr_ic_ge (tgt := 117) hC dX5_isLawful_112 (by decide) (fun hb13 => ?_) (fun hb13 => ?_)
        · have h := hthb13 hb13
          refine jr_sub [2, 3] (L1 := [(0, .ref r0), (1, .int x1)]) rfl ?_
          exact B117 r0 x1 (fun (x1_ : Int32) => Inv x1_ ∧ mu x1_ < mu x1) (fun x1_ h9 => hrec x1_ h9) h
        · have h := hfhb13 hb13
          refine jr_iconst (v := (0 : Int32)) hC dX5_isLawful_115 (by decide) ?_
          exact jr_iretz hC hZ (by decide) (by decide) (Or.inl rfl) dX5_isLawful_116 ⟨rfl, rfl, _, rfl, h⟩
  have B61 : ∀ (r0 : Nat) (x1 : Int32) (K2 : Int32 → Prop) (hK2 : ∀ (x1_ : Int32), K2 x1_ → mw_J Y 0 0 n M 2 [(0, .ref r0), (1, .int x1_)] []) (h : w_X5_isLawful_b61 n M r0 x1 Q K2), mw_J Y 0 0 n M 61 [(0, .ref r0), (1, .int x1)] [] := by
    intro r0 x1 K2 hK2 h
    unfold w_X5_isLawful_b61 at h
    obtain ⟨v14, ev14⟩ : ∃ y : Int32, y = (x1 + (1 : Int32)) := ⟨_, rfl⟩
    have h := h v14 ev14
    refine jr_iinc (j := 1) (v := v14) (L1 := [(1, .int v14), (0, .ref r0)]) hC dX5_isLawful_61 rfl (by rw [ev14]; rfl) hnL (by decide) rfl ?_
    refine jr_goto (tgt := 2) hC dX5_isLawful_64 (by decide) ?_
    refine jr_sub [1, 0] (L1 := [(0, .ref r0), (1, .int v14)]) rfl ?_
    exact hK2 v14 h
  have B59 : (w_X5_isLawful_b59 n M Q) → mw_J Y 0 0 n M 59 [] [] := by
    intro  h
    unfold w_X5_isLawful_b59 at h
    refine jr_iconst (v := (0 : Int32)) hC dX5_isLawful_59 (by decide) ?_
    exact jr_iretz hC hZ (by decide) (by decide) (Or.inl rfl) dX5_isLawful_60 ⟨rfl, rfl, _, rfl, h⟩
  have B2 : ∀ (r0 : Nat) (x1 : Int32) (h : w_X5_isLawful_b2 n M r0 x1 Q), mw_J Y 0 0 n M 2 [(0, .ref r0), (1, .int x1)] [] := by
    intro r0 x1 h
    obtain ⟨Inv, mu, h0, hs⟩ := h
    refine mw_loop1 (fun (x1 : Int32) => mw_J Y 0 0 n M 2 [(0, .ref r0), (1, .int x1)] []) Inv mu (fun x1 hI hrec => ?_) x1 h0
    have h := hs x1 hI
    refine jr_iload_n (j := 1) hC dX5_isLawful_2 rfl rfl ?_
    refine jr_aload_n (j := 0) hC dX5_isLawful_3 rfl rfl ?_
    obtain ⟨hc15, h⟩ := h
    refine jr_get0 hC fl_RX5_50 hc15 dX5_isLawful_4 ?_
    obtain ⟨hthb16, hfhb16⟩ := h
    refine jr_ic_ge (tgt := 67) hC dX5_isLawful_7 (by decide) (fun hb16 => ?_) (fun hb16 => ?_)
    · have h := hthb16 hb16
      refine jr_iconst (v := (2 : Int32)) hC dX5_isLawful_67 (by decide) ?_
      refine jr_istore_n (L1 := [(1, .int (2 : Int32)), (0, .ref r0)]) hC dX5_isLawful_68 rfl hnL (by decide) rfl ?_
      refine jr_sub [1, 0] (L1 := [(0, .ref r0), (1, .int (2 : Int32))]) rfl ?_
      exact B69 r0 (2 : Int32) h
    · have h := hfhb16 hb16
      refine jr_aload_n (j := 0) hC dX5_isLawful_10 rfl rfl ?_
      refine jr_get2 hC fl_RX5_19 hc15 dX5_isLawful_11 ?_
      refine jr_iload_n (j := 1) hC dX5_isLawful_14 rfl rfl ?_
      refine jr_iconst (v := (1 : Int32)) hC dX5_isLawful_15 (by decide) ?_
      refine jr_isub hC dX5_isLawful_16 ?_
      obtain ⟨hc17, h⟩ := h
      obtain ⟨hc18, h⟩ := h
      refine jr_aald (t := 14) hC (by decide) (by decide) hc17 hc18 dX5_isLawful_17 ?_
      refine jr_nmA (fun q19 eq19 => ?_)
      have h := h q19 eq19
      refine jr_astore_n (L1 := [(2, .ref q19), (0, .ref r0), (1, .int x1)]) hC dX5_isLawful_18 rfl hnL (by decide) rfl ?_
      refine jr_aload_n (j := 1) hC dX5_isLawful_19 rfl rfl ?_
      refine jr_get2 hC fl_RX5_19 hc15 dX5_isLawful_20 ?_
      refine jr_iload_n (j := 2) hC dX5_isLawful_23 rfl rfl ?_
      obtain ⟨hc20, h⟩ := h
      refine jr_aald (t := 14) hC (by decide) (by decide) hc17 hc20 dX5_isLawful_24 ?_
      refine jr_nmA (fun q21 eq21 => ?_)
      have h := h q21 eq21
      refine jr_astore_n (L1 := [(3, .ref q21), (2, .ref q19), (0, .ref r0), (1, .int x1)]) hC dX5_isLawful_25 rfl hnL (by decide) rfl ?_
      refine jr_aload_n (j := 1) hC dX5_isLawful_26 rfl rfl ?_
      obtain ⟨hc22, h⟩ := h
      refine jr_get0 hC fl_RX5_113 hc22 dX5_isLawful_27 ?_
      refine jr_aload_n (j := 0) hC dX5_isLawful_30 rfl rfl ?_
      obtain ⟨hc23, h⟩ := h
      refine jr_get0 hC fl_RX5_113 hc23 dX5_isLawful_31 ?_
      obtain ⟨hthb24, hfhb24⟩ := h
      refine jr_ic_ne (tgt := 61) hC dX5_isLawful_34 (by decide) (fun hb24 => ?_) (fun hb24 => ?_)
      · have h := hthb24 hb24
        refine jr_sub [2, 3] (L1 := [(0, .ref r0), (1, .int x1)]) rfl ?_
        exact B61 r0 x1 (fun (x1_ : Int32) => Inv x1_ ∧ mu x1_ < mu x1) (fun x1_ h9 => hrec x1_ h9) h
      · have h := hfhb24 hb24
        refine jr_aload_n (j := 1) hC dX5_isLawful_37 rfl rfl ?_
        refine jr_get0 hC fl_RX5_89 hc22 dX5_isLawful_38 ?_
        refine jr_aload_n (j := 0) hC dX5_isLawful_41 rfl rfl ?_
        refine jr_get0 hC fl_RX5_89 hc23 dX5_isLawful_42 ?_
        obtain ⟨hthb25, hfhb25⟩ := h
        refine jr_ic_ge (tgt := 59) hC dX5_isLawful_45 (by decide) (fun hb25 => ?_) (fun hb25 => ?_)
        · have h := hthb25 hb25
          refine jr_sub [] (L1 := []) rfl ?_
          exact B59 h
        · have h := hfhb25 hb25
          refine jr_aload_n (j := 1) hC dX5_isLawful_48 rfl rfl ?_
          refine jr_callV_pi (As := []) (st := []) hC nc_RX5_99 (c_X0_end hlt h) hc22 rfl rfl ⟨⟨rfl, rfl⟩, ⟨by decide, by decide⟩, by decide, by decide⟩ (Nat.le_of_ble_eq_true rfl) dX5_isLawful_49 (fun v26 h => ?_)
          refine jr_aload_n (j := 0) hC dX5_isLawful_52 rfl rfl ?_
          refine jr_callV_pi (As := []) (st := [.int v26]) hC nc_RX5_99 (c_X0_end hlt h) hc23 rfl rfl ⟨⟨rfl, rfl⟩, ⟨by decide, by decide⟩, by decide, by decide⟩ (Nat.le_of_ble_eq_true rfl) dX5_isLawful_53 (fun v27 h => ?_)
          obtain ⟨hthb28, hfhb28⟩ := h
          refine jr_ic_lt (tgt := 61) hC dX5_isLawful_56 (by decide) (fun hb28 => ?_) (fun hb28 => ?_)
          · have h := hthb28 hb28
            refine jr_sub [2, 3] (L1 := [(0, .ref r0), (1, .int x1)]) rfl ?_
            exact B61 r0 x1 (fun (x1_ : Int32) => Inv x1_ ∧ mu x1_ < mu x1) (fun x1_ h9 => hrec x1_ h9) h
          · have h := hfhb28 hb28
            refine jr_sub [] (L1 := []) rfl ?_
            exact B59 h
  unfold w_X5_isLawful at h
  refine jr_iconst (v := (1 : Int32)) hC dX5_isLawful_0 (by decide) ?_
  refine jr_istore_n (L1 := [(1, .int (1 : Int32)), (0, .ref a0)]) hC dX5_isLawful_1 rfl hnL (by decide) rfl ?_
  refine jr_sub [1, 0] (L1 := [(0, .ref a0), (1, .int (1 : Int32))]) rfl ?_
  exact B2 a0 (1 : Int32) h
set_option maxHeartbeats 4000000 in
set_option maxRecDepth 100000 in
theorem c_X7_applied {G : mw_G} {l : Launch} (hlt : l.stackTraces = false) {n : Nat} {M : mw_M} {x0 : Int32} {x1 : Int32} {Q : Int32 → Prop} (h : w_X7_applied n M x0 x1 Q) : mw_Met G l yX7_applied (.code yX7_applied cX7_applied 2 (some .int)) { frames := 1, cells := 0, slots := 0, locals := 22 } n M [.int x0, .int x1] (fun n1 M1 v => n1 = n ∧ mw_pI M Q M1 v) (fun _ _ => False) := by
  refine mw_enter (L0 := [(0, .int x0), (1, .int x1)]) hlt rfl rfl (plainFor_of_name (by decide)) (Nat.le_of_ble_eq_true rfl) rfl ?_
  intro Y hC0 hZ hnL hini0 hn00
  have hC : mw_C G l _ Y cX7_applied RX7 := hC0
  unfold w_X7_applied at h
  refine jr_iload_n (j := 0) hC dX7_applied_0 rfl rfl ?_
  refine jr_iload_n (j := 1) hC dX7_applied_1 rfl rfl ?_
  refine jr_imul hC dX7_applied_2 ?_
  refine jr_sipush (v := (1000 : Int32)) hC dX7_applied_3 (by decide) ?_
  refine jr_callS_pi (As := [.int (x0 * x1), .int (1000 : Int32)]) (st := []) hC nc_RX7_374 (c_J9_floorDiv_7cf53 hlt h) rfl rfl ⟨⟨rfl, rfl⟩, ⟨by decide, by decide⟩, by decide, by decide⟩ (Nat.le_of_ble_eq_true rfl) dX7_applied_6 (fun v1 h => ?_)
  exact jr_ireti hC hZ (by decide) (by decide) dX7_applied_9 ⟨rfl, rfl, _, rfl, h⟩
set_option maxHeartbeats 4000000 in
set_option maxRecDepth 100000 in
theorem c_X5_rawValue {G : mw_G} {l : Launch} (hlt : l.stackTraces = false) {n : Nat} {M : mw_M} {a0 : Nat} {a1 : Nat} {x2 : Int32} {Q : Int32 → Prop} (h : w_X5_rawValue n M a0 a1 x2 Q) : mw_Met G l yX5_rawValue (.code yX5_rawValue cX5_rawValue 5 (some .int)) { frames := 2, cells := 0, slots := 0, locals := 46 } n M [.ref a0, .ref a1, .int x2] (fun n1 M1 v => n1 = n ∧ mw_pI M Q M1 v) (fun _ _ => False) := by
  refine mw_enter (L0 := [(0, .ref a0), (1, .ref a1), (2, .int x2)]) hlt rfl rfl (plainFor_of_name (by decide)) (Nat.le_of_ble_eq_true rfl) rfl ?_
  intro Y hC0 hZ hnL hini0 hn00
  have hC : mw_C G l _ Y cX5_rawValue RX5 := hC0
  have B41 : ∀ (r1 : Nat) (x3 : Int32) (s0 : Int32) (h : w_X5_rawValue_b41 n M r1 x3 s0 Q), mw_J Y 0 0 n M 41 [(1, .ref r1), (3, .int x3)] [.int s0] := by
    intro r1 x3 s0 h
    unfold w_X5_rawValue_b41 at h
    refine jr_istore (L1 := [(4, .int s0), (1, .ref r1), (3, .int x3)]) hC dX5_rawValue_41 hnL (by decide) rfl ?_
    refine jr_iload (j := 0) hC dX5_rawValue_43 rfl ?_
    refine jr_aload_n (j := 1) hC dX5_rawValue_45 rfl rfl ?_
    obtain ⟨hc1, h⟩ := h
    refine jr_get0 hC fl_RX5_132 hc1 dX5_rawValue_46 ?_
    refine jr_callSn_pi (As := [.int s0, .int (mI M r1 5)]) (st := []) hC nc_RX5_135 (c_X7_applied hlt h) rfl rfl ⟨⟨rfl, rfl⟩, ⟨by decide, by decide⟩, by decide, by decide⟩ (Nat.le_of_ble_eq_true rfl) dX5_rawValue_49 (fun v2 h => ?_)
    refine jr_istore (L1 := [(4, .int v2), (1, .ref r1), (3, .int x3)]) hC dX5_rawValue_52 hnL (by decide) rfl ?_
    refine jr_iload (j := 0) hC dX5_rawValue_54 rfl ?_
    refine jr_aload_n (j := 1) hC dX5_rawValue_56 rfl rfl ?_
    refine jr_iload_n (j := 2) hC dX5_rawValue_57 rfl rfl ?_
    refine jr_aload_n (j := 1) hC dX5_rawValue_58 rfl rfl ?_
    refine jr_get0 hC fl_RX5_96 hc1 dX5_rawValue_59 ?_
    refine jr_callV_pi (As := [.int x3, .int (mI M r1 6)]) (st := [.int v2]) hC nc_RX5_139 (c_X0_fadeGain hlt h) hc1 rfl rfl ⟨⟨rfl, rfl⟩, ⟨by decide, by decide⟩, by decide, by decide⟩ (Nat.le_of_ble_eq_true rfl) dX5_rawValue_62 (fun v3 h => ?_)
    refine jr_callSn_pi (As := [.int v2, .int v3]) (st := []) hC nc_RX5_135 (c_X7_applied hlt h) rfl rfl ⟨⟨rfl, rfl⟩, ⟨by decide, by decide⟩, by decide, by decide⟩ (Nat.le_of_ble_eq_true rfl) dX5_rawValue_65 (fun v4 h => ?_)
    refine jr_istore (L1 := [(4, .int v4), (1, .ref r1), (3, .int x3)]) hC dX5_rawValue_68 hnL (by decide) rfl ?_
    refine jr_iload (j := 0) hC dX5_rawValue_70 rfl ?_
    refine jr_aload_n (j := 1) hC dX5_rawValue_72 rfl rfl ?_
    refine jr_aload_n (j := 1) hC dX5_rawValue_73 rfl rfl ?_
    refine jr_get0 hC fl_RX5_142 hc1 dX5_rawValue_74 ?_
    refine jr_iconst (v := (1 : Int32)) hC dX5_rawValue_77 (by decide) ?_
    refine jr_isub hC dX5_rawValue_78 ?_
    refine jr_iload_n (j := 2) hC dX5_rawValue_79 rfl rfl ?_
    refine jr_isub hC dX5_rawValue_80 ?_
    refine jr_aload_n (j := 1) hC dX5_rawValue_81 rfl rfl ?_
    refine jr_get0 hC fl_RX5_103 hc1 dX5_rawValue_82 ?_
    refine jr_callV_pi (As := [.int (((mI M r1 4) - (1 : Int32)) - x3), .int (mI M r1 7)]) (st := [.int v4]) hC nc_RX5_139 (c_X0_fadeGain hlt h) hc1 rfl rfl ⟨⟨rfl, rfl⟩, ⟨by decide, by decide⟩, by decide, by decide⟩ (Nat.le_of_ble_eq_true rfl) dX5_rawValue_85 (fun v5 h => ?_)
    refine jr_callSn_pi (As := [.int v4, .int v5]) (st := []) hC nc_RX5_135 (c_X7_applied hlt h) rfl rfl ⟨⟨rfl, rfl⟩, ⟨by decide, by decide⟩, by decide, by decide⟩ (Nat.le_of_ble_eq_true rfl) dX5_rawValue_88 (fun v6 h => ?_)
    exact jr_ireti hC hZ (by decide) (by decide) dX5_rawValue_91 ⟨rfl, rfl, _, rfl, h⟩
  unfold w_X5_rawValue at h
  refine jr_iload_n (j := 2) hC dX5_rawValue_0 rfl rfl ?_
  refine jr_aload_n (j := 1) hC dX5_rawValue_1 rfl rfl ?_
  obtain ⟨hc7, h⟩ := h
  refine jr_get0 hC fl_RX5_89 hc7 dX5_rawValue_2 ?_
  refine jr_isub hC dX5_rawValue_5 ?_
  refine jr_nmI (fun v8 ev8 => ?_)
  have h := h v8 ev8
  refine jr_istore_n (L1 := [(3, .int v8), (0, .ref a0), (1, .ref a1), (2, .int x2)]) hC dX5_rawValue_6 rfl hnL (by decide) rfl ?_
  refine jr_aload_n (j := 2) hC dX5_rawValue_7 rfl rfl ?_
  refine jr_get0 hC fl_RX5_126 hc7 dX5_rawValue_8 ?_
  refine jr_aload_n (j := 1) hC dX5_rawValue_11 rfl rfl ?_
  obtain ⟨hc9, h⟩ := h
  refine jr_get2 hC fl_RX5_11 hc9 dX5_rawValue_12 ?_
  obtain ⟨hc10, h⟩ := h
  refine jr_alen (t := 13) hC (by decide) (by decide) hc10 dX5_rawValue_15 ?_
  obtain ⟨hthb11, hfhb11⟩ := h
  refine jr_ic_ge (tgt := 40) hC dX5_rawValue_16 (by decide) (fun hb11 => ?_) (fun hb11 => ?_)
  · have h := hthb11 hb11
    refine jr_iconst (v := (0 : Int32)) hC dX5_rawValue_40 (by decide) ?_
    refine jr_sub [2, 0] (L1 := [(1, .ref a1), (3, .int v8)]) rfl ?_
    exact B41 a1 v8 (0 : Int32) h
  · have h := hfhb11 hb11
    refine jr_aload_n (j := 1) hC dX5_rawValue_19 rfl rfl ?_
    refine jr_get2 hC fl_RX5_11 hc9 dX5_rawValue_20 ?_
    refine jr_aload_n (j := 2) hC dX5_rawValue_23 rfl rfl ?_
    refine jr_get0 hC fl_RX5_126 hc7 dX5_rawValue_24 ?_
    obtain ⟨hc12, h⟩ := h
    refine jr_aald (t := 13) hC (by decide) (by decide) hc10 hc12 dX5_rawValue_27 ?_
    refine jr_aload_n (j := 2) hC dX5_rawValue_28 rfl rfl ?_
    refine jr_get0 hC fl_RX5_123 hc7 dX5_rawValue_29 ?_
    refine jr_iload_n (j := 0) hC dX5_rawValue_32 rfl rfl ?_
    refine jr_iadd hC dX5_rawValue_33 ?_
    obtain ⟨hc13, h⟩ := h
    refine jr_callV_pi (As := [.int ((mI M a1 3) + v8)]) (st := []) hC nc_RX5_129 (c_X4_valueAt hlt h) hc13 rfl rfl ⟨⟨rfl, rfl⟩, ⟨by decide, by decide⟩, by decide, by decide⟩ (Nat.le_of_ble_eq_true rfl) dX5_rawValue_34 (fun v14 h => ?_)
    refine jr_goto (tgt := 41) hC dX5_rawValue_37 (by decide) ?_
    refine jr_sub [2, 0] (L1 := [(1, .ref a1), (3, .int v8)]) rfl ?_
    exact B41 a1 v8 v14 h
set_option maxHeartbeats 4000000 in
set_option maxRecDepth 100000 in
theorem c_X5_firstCovering {G : mw_G} {l : Launch} (hlt : l.stackTraces = false) {n : Nat} {M : mw_M} {a0 : Nat} {x1 : Int32} {x2 : Int32} {Q : Int32 → Prop} (h : w_X5_firstCovering n M a0 x1 x2 Q) : mw_Met G l yX5_firstCovering (.code yX5_firstCovering cX5_firstCovering 4 (some .int)) { frames := 1, cells := 0, slots := 0, locals := 21 } n M [.ref a0, .int x1, .int x2] (fun n1 M1 v => n1 = n ∧ mw_pI M Q M1 v) (fun _ _ => False) := by
  refine mw_enter (L0 := [(0, .ref a0), (1, .int x1), (2, .int x2)]) hlt rfl rfl (plainFor_of_name (by decide)) (Nat.le_of_ble_eq_true rfl) rfl ?_
  intro Y hC0 hZ hnL hini0 hn00
  have hC : mw_C G l _ Y cX5_firstCovering RX5 := hC0
  have B38 : ∀ (r0 : Nat) (x1 : Int32) (x2 : Int32) (x3 : Int32) (K2 : Int32 → Prop) (hK2 : ∀ (x3_ : Int32), K2 x3_ → mw_J Y 0 0 n M 2 [(0, .ref r0), (1, .int x1), (2, .int x2), (3, .int x3_)] []) (h : w_X5_firstCovering_b38 n M r0 x1 x2 x3 Q K2), mw_J Y 0 0 n M 38 [(0, .ref r0), (1, .int x1), (2, .int x2), (3, .int x3)] [] := by
    intro r0 x1 x2 x3 K2 hK2 h
    unfold w_X5_firstCovering_b38 at h
    obtain ⟨v1, ev1⟩ : ∃ y : Int32, y = (x3 + (1 : Int32)) := ⟨_, rfl⟩
    have h := h v1 ev1
    refine jr_iinc (j := 3) (v := v1) (L1 := [(3, .int v1), (0, .ref r0), (1, .int x1), (2, .int x2)]) hC dX5_firstCovering_38 rfl (by rw [ev1]; rfl) hnL (by decide) rfl ?_
    refine jr_goto (tgt := 2) hC dX5_firstCovering_41 (by decide) ?_
    refine jr_sub [1, 2, 3, 0] (L1 := [(0, .ref r0), (1, .int x1), (2, .int x2), (3, .int v1)]) rfl ?_
    exact hK2 v1 h
  have B2 : ∀ (r0 : Nat) (x1 : Int32) (x2 : Int32) (x3 : Int32) (h : w_X5_firstCovering_b2 n M r0 x1 x2 x3 Q), mw_J Y 0 0 n M 2 [(0, .ref r0), (1, .int x1), (2, .int x2), (3, .int x3)] [] := by
    intro r0 x1 x2 x3 h
    obtain ⟨Inv, mu, h0, hs⟩ := h
    refine mw_loop1 (fun (x3 : Int32) => mw_J Y 0 0 n M 2 [(0, .ref r0), (1, .int x1), (2, .int x2), (3, .int x3)] []) Inv mu (fun x3 hI hrec => ?_) x3 h0
    have h := hs x3 hI
    refine jr_iload_n (j := 3) hC dX5_firstCovering_2 rfl rfl ?_
    refine jr_aload_n (j := 0) hC dX5_firstCovering_3 rfl rfl ?_
    obtain ⟨hc2, h⟩ := h
    refine jr_get0 hC fl_RX5_50 hc2 dX5_firstCovering_4 ?_
    obtain ⟨hthb3, hfhb3⟩ := h
    refine jr_ic_ge (tgt := 44) hC dX5_firstCovering_7 (by decide) (fun hb3 => ?_) (fun hb3 => ?_)
    · have h := hthb3 hb3
      refine jr_iconst (v := (-1 : Int32)) hC dX5_firstCovering_44 (by decide) ?_
      exact jr_ireti hC hZ (by decide) (by decide) dX5_firstCovering_45 ⟨rfl, rfl, _, rfl, h⟩
    · have h := hfhb3 hb3
      refine jr_aload_n (j := 0) hC dX5_firstCovering_10 rfl rfl ?_
      refine jr_get2 hC fl_RX5_19 hc2 dX5_firstCovering_11 ?_
      refine jr_iload_n (j := 3) hC dX5_firstCovering_14 rfl rfl ?_
      obtain ⟨hc4, h⟩ := h
      obtain ⟨hc5, h⟩ := h
      refine jr_aald (t := 14) hC (by decide) (by decide) hc4 hc5 dX5_firstCovering_15 ?_
      obtain ⟨hc6, h⟩ := h
      refine jr_get0 hC fl_RX5_113 hc6 dX5_firstCovering_16 ?_
      refine jr_iload_n (j := 1) hC dX5_firstCovering_19 rfl rfl ?_
      obtain ⟨hthb7, hfhb7⟩ := h
      refine jr_ic_ne (tgt := 38) hC dX5_firstCovering_20 (by decide) (fun hb7 => ?_) (fun hb7 => ?_)
      · have h := hthb7 hb7
        exact B38 r0 x1 x2 x3 (fun (x3_ : Int32) => Inv x3_ ∧ mu x3_ < mu x3) (fun x3_ h9 => hrec x3_ h9) h
      · have h := hfhb7 hb7
        refine jr_aload_n (j := 0) hC dX5_firstCovering_23 rfl rfl ?_
        refine jr_get2 hC fl_RX5_19 hc2 dX5_firstCovering_24 ?_
        refine jr_iload_n (j := 3) hC dX5_firstCovering_27 rfl rfl ?_
        refine jr_aald (t := 14) hC (by decide) (by decide) hc4 hc5 dX5_firstCovering_28 ?_
        refine jr_iload_n (j := 2) hC dX5_firstCovering_29 rfl rfl ?_
        refine jr_callV_pi (As := [.int x2]) (st := []) hC nc_RX5_152 (c_X0_covers hlt h) hc6 rfl rfl ⟨⟨rfl, rfl⟩, ⟨by decide, by decide⟩, by decide, by decide⟩ (Nat.le_of_ble_eq_true rfl) dX5_firstCovering_30 (fun v8 h => ?_)
        obtain ⟨hthb9, hfhb9⟩ := h
        refine jr_if_eq (tgt := 38) hC dX5_firstCovering_33 (by decide) (fun hb9 => ?_) (fun hb9 => ?_)
        · have h := hthb9 hb9
          exact B38 r0 x1 x2 x3 (fun (x3_ : Int32) => Inv x3_ ∧ mu x3_ < mu x3) (fun x3_ h9 => hrec x3_ h9) h
        · have h := hfhb9 hb9
          refine jr_iload_n (j := 3) hC dX5_firstCovering_36 rfl rfl ?_
          exact jr_ireti hC hZ (by decide) (by decide) dX5_firstCovering_37 ⟨rfl, rfl, _, rfl, h⟩
  unfold w_X5_firstCovering at h
  refine jr_iconst (v := (0 : Int32)) hC dX5_firstCovering_0 (by decide) ?_
  refine jr_istore_n (L1 := [(3, .int (0 : Int32)), (0, .ref a0), (1, .int x1), (2, .int x2)]) hC dX5_firstCovering_1 rfl hnL (by decide) rfl ?_
  refine jr_sub [1, 2, 3, 0] (L1 := [(0, .ref a0), (1, .int x1), (2, .int x2), (3, .int (0 : Int32))]) rfl ?_
  exact B2 a0 x1 x2 (0 : Int32) h
set_option maxHeartbeats 4000000 in
set_option maxRecDepth 100000 in
theorem c_X6_lastPointUpTo {G : mw_G} {l : Launch} (hlt : l.stackTraces = false) {n : Nat} {M : mw_M} {a0 : Nat} {x1 : Int32} {Q : Int32 → Prop} (h : w_X6_lastPointUpTo n M a0 x1 Q) : mw_Met G l yX6_lastPointUpTo (.code yX6_lastPointUpTo cX6_lastPointUpTo 4 (some .int)) { frames := 0, cells := 0, slots := 0, locals := 0 } n M [.ref a0, .int x1] (fun n1 M1 v => n1 = n ∧ mw_pI M Q M1 v) (fun _ _ => False) := by
  refine mw_enter (L0 := [(0, .ref a0), (1, .int x1)]) hlt rfl rfl (plainFor_of_name (by decide)) (Nat.le_of_ble_eq_true rfl) rfl ?_
  intro Y hC0 hZ hnL hini0 hn00
  have hC : mw_C G l _ Y cX6_lastPointUpTo RX6 := hC0
  have B30 : ∀ (x2 : Int32) (h : w_X6_lastPointUpTo_b30 n M x2 Q), mw_J Y 0 0 n M 30 [(2, .int x2)] [] := by
    intro x2 h
    unfold w_X6_lastPointUpTo_b30 at h
    refine jr_iload_n (j := 0) hC dX6_lastPointUpTo_30 rfl rfl ?_
    exact jr_ireti hC hZ (by decide) (by decide) dX6_lastPointUpTo_31 ⟨rfl, rfl, _, rfl, h⟩
  have B4 : ∀ (r0 : Nat) (x1 : Int32) (x2 : Int32) (x3 : Int32) (h : w_X6_lastPointUpTo_b4 n M r0 x1 x2 x3 Q), mw_J Y 0 0 n M 4 [(0, .ref r0), (1, .int x1), (2, .int x2), (3, .int x3)] [] := by
    intro r0 x1 x2 x3 h
    obtain ⟨Inv, mu, h0, hs⟩ := h
    refine mw_loop2 (fun (x2 : Int32) (x3 : Int32) => mw_J Y 0 0 n M 4 [(0, .ref r0), (1, .int x1), (2, .int x2), (3, .int x3)] []) Inv mu (fun x2 x3 hI hrec => ?_) x2 x3 h0
    have h := hs x2 x3 hI
    refine jr_iload_n (j := 3) hC dX6_lastPointUpTo_4 rfl rfl ?_
    refine jr_aload_n (j := 0) hC dX6_lastPointUpTo_5 rfl rfl ?_
    obtain ⟨hc1, h⟩ := h
    refine jr_get0 hC fl_RX6_39 hc1 dX6_lastPointUpTo_6 ?_
    obtain ⟨hthb2, hfhb2⟩ := h
    refine jr_ic_ge (tgt := 30) hC dX6_lastPointUpTo_9 (by decide) (fun hb2 => ?_) (fun hb2 => ?_)
    · have h := hthb2 hb2
      refine jr_sub [2] (L1 := [(2, .int x2)]) rfl ?_
      exact B30 x2 h
    · have h := hfhb2 hb2
      refine jr_aload_n (j := 0) hC dX6_lastPointUpTo_12 rfl rfl ?_
      refine jr_get2 hC fl_RX6_15 hc1 dX6_lastPointUpTo_13 ?_
      refine jr_iload_n (j := 3) hC dX6_lastPointUpTo_16 rfl rfl ?_
      obtain ⟨hc3, h⟩ := h
      obtain ⟨hc4, h⟩ := h
      refine jr_iald hC hc3 hc4 dX6_lastPointUpTo_17 ?_
      refine jr_iload_n (j := 1) hC dX6_lastPointUpTo_18 rfl rfl ?_
      obtain ⟨hthb5, hfhb5⟩ := h
      refine jr_ic_gt (tgt := 30) hC dX6_lastPointUpTo_19 (by decide) (fun hb5 => ?_) (fun hb5 => ?_)
      · have h := hthb5 hb5
        refine jr_sub [2] (L1 := [(2, .int x2)]) rfl ?_
        exact B30 x2 h
      · have h := hfhb5 hb5
        refine jr_iload_n (j := 3) hC dX6_lastPointUpTo_22 rfl rfl ?_
        refine jr_istore_n (L1 := [(2, .int x3), (0, .ref r0), (1, .int x1), (3, .int x3)]) hC dX6_lastPointUpTo_23 rfl hnL (by decide) rfl ?_
        obtain ⟨v6, ev6⟩ : ∃ y : Int32, y = (x3 + (1 : Int32)) := ⟨_, rfl⟩
        have h := h v6 ev6
        refine jr_iinc (j := 3) (v := v6) (L1 := [(3, .int v6), (2, .int x3), (0, .ref r0), (1, .int x1)]) hC dX6_lastPointUpTo_24 rfl (by rw [ev6]; rfl) hnL (by decide) rfl ?_
        refine jr_goto (tgt := 4) hC dX6_lastPointUpTo_27 (by decide) ?_
        refine jr_sub [2, 3, 1, 0] (L1 := [(0, .ref r0), (1, .int x1), (2, .int x3), (3, .int v6)]) rfl ?_
        exact hrec x3 v6 h
  unfold w_X6_lastPointUpTo at h
  refine jr_iconst (v := (-1 : Int32)) hC dX6_lastPointUpTo_0 (by decide) ?_
  refine jr_istore_n (L1 := [(2, .int (-1 : Int32)), (0, .ref a0), (1, .int x1)]) hC dX6_lastPointUpTo_1 rfl hnL (by decide) rfl ?_
  refine jr_iconst (v := (0 : Int32)) hC dX6_lastPointUpTo_2 (by decide) ?_
  refine jr_istore_n (L1 := [(3, .int (0 : Int32)), (2, .int (-1 : Int32)), (0, .ref a0), (1, .int x1)]) hC dX6_lastPointUpTo_3 rfl hnL (by decide) rfl ?_
  refine jr_sub [2, 3, 1, 0] (L1 := [(0, .ref a0), (1, .int x1), (2, .int (-1 : Int32)), (3, .int (0 : Int32))]) rfl ?_
  exact B4 a0 x1 (-1 : Int32) (0 : Int32) h
set_option maxHeartbeats 4000000 in
set_option maxRecDepth 100000 in
theorem c_X6_laneGain {G : mw_G} {l : Launch} (hlt : l.stackTraces = false) {n : Nat} {M : mw_M} {a0 : Nat} {x1 : Int32} {Q : Int32 → Prop} (h : w_X6_laneGain n M a0 x1 Q) : mw_Met G l yX6_laneGain (.code yX6_laneGain cX6_laneGain 6 (some .int)) { frames := 1, cells := 0, slots := 0, locals := 23 } n M [.ref a0, .int x1] (fun n1 M1 v => n1 = n ∧ mw_pI M Q M1 v) (fun _ _ => False) := by
  refine mw_enter (L0 := [(0, .ref a0), (1, .int x1)]) hlt rfl rfl (plainFor_of_name (by decide)) (Nat.le_of_ble_eq_true rfl) rfl ?_
  intro Y hC0 hZ hnL hini0 hn00
  have hC : mw_C G l _ Y cX6_laneGain RX6 := hC0
  have B50 : ∀ (r0 : Nat) (x2 : Int32) (h : w_X6_laneGain_b50 n M r0 x2 Q), mw_J Y 0 0 n M 50 [(0, .ref r0), (2, .int x2)] [] := by
    intro r0 x2 h
    unfold w_X6_laneGain_b50 at h
    refine jr_aload_n (j := 0) hC dX6_laneGain_50 rfl rfl ?_
    obtain ⟨hc1, h⟩ := h
    refine jr_get2 hC fl_RX6_19 hc1 dX6_laneGain_51 ?_
    refine jr_iload_n (j := 1) hC dX6_laneGain_54 rfl rfl ?_
    obtain ⟨hc2, h⟩ := h
    obtain ⟨hc3, h⟩ := h
    refine jr_iald hC hc2 hc3 dX6_laneGain_55 ?_
    exact jr_ireti hC hZ (by decide) (by decide) dX6_laneGain_56 ⟨rfl, rfl, _, rfl, h⟩
  unfold w_X6_laneGain at h
  refine jr_aload_n (j := 0) hC dX6_laneGain_0 rfl rfl ?_
  obtain ⟨hc4, h⟩ := h
  refine jr_get0 hC fl_RX6_39 hc4 dX6_laneGain_1 ?_
  obtain ⟨hthb5, hfhb5⟩ := h
  refine jr_if_ne (tgt := 11) hC dX6_laneGain_4 (by decide) (fun hb5 => ?_) (fun hb5 => ?_)
  · have h := hthb5 hb5
    refine jr_aload_n (j := 0) hC dX6_laneGain_11 rfl rfl ?_
    refine jr_iload_n (j := 1) hC dX6_laneGain_12 rfl rfl ?_
    refine jr_callV_pi (As := [.int x1]) (st := []) hC nc_RX6_58 (c_X6_lastPointUpTo hlt h) hc4 rfl rfl ⟨⟨rfl, rfl⟩, ⟨by decide, by decide⟩, by decide, by decide⟩ (Nat.le_of_ble_eq_true rfl) dX6_laneGain_13 (fun v6 h => ?_)
    refine jr_istore_n (L1 := [(2, .int v6), (0, .ref a0), (1, .int x1)]) hC dX6_laneGain_16 rfl hnL (by decide) rfl ?_
    refine jr_iload_n (j := 0) hC dX6_laneGain_17 rfl rfl ?_
    refine jr_iconst (v := (-1 : Int32)) hC dX6_laneGain_18 (by decide) ?_
    obtain ⟨hthb7, hfhb7⟩ := h
    refine jr_ic_ne (tgt := 29) hC dX6_laneGain_19 (by decide) (fun hb7 => ?_) (fun hb7 => ?_)
    · have h := hthb7 hb7
      refine jr_iload_n (j := 0) hC dX6_laneGain_29 rfl rfl ?_
      refine jr_iconst (v := (1 : Int32)) hC dX6_laneGain_30 (by decide) ?_
      refine jr_iadd hC dX6_laneGain_31 ?_
      refine jr_nmI (fun v8 ev8 => ?_)
      have h := h v8 ev8
      refine jr_istore_n (L1 := [(3, .int v8), (2, .int v6), (0, .ref a0), (1, .int x1)]) hC dX6_laneGain_32 rfl hnL (by decide) rfl ?_
      refine jr_aload_n (j := 2) hC dX6_laneGain_33 rfl rfl ?_
      refine jr_get2 hC fl_RX6_22 hc4 dX6_laneGain_34 ?_
      refine jr_iload_n (j := 1) hC dX6_laneGain_37 rfl rfl ?_
      obtain ⟨hc9, h⟩ := h
      obtain ⟨hc10, h⟩ := h
      refine jr_zald hC hc9 hc10 dX6_laneGain_38 ?_
      obtain ⟨hthb11, hfhb11⟩ := h
      refine jr_if_ne (tgt := 50) hC dX6_laneGain_39 (by decide) (fun hb11 => ?_) (fun hb11 => ?_)
      · have h := hthb11 hb11
        refine jr_sub [2, 1] (L1 := [(0, .ref a0), (2, .int v6)]) rfl ?_
        exact B50 a0 v6 h
      · have h := hfhb11 hb11
        refine jr_iload_n (j := 0) hC dX6_laneGain_42 rfl rfl ?_
        refine jr_aload_n (j := 2) hC dX6_laneGain_43 rfl rfl ?_
        refine jr_get0 hC fl_RX6_39 hc4 dX6_laneGain_44 ?_
        obtain ⟨hthb12, hfhb12⟩ := h
        refine jr_ic_lt (tgt := 57) hC dX6_laneGain_47 (by decide) (fun hb12 => ?_) (fun hb12 => ?_)
        · have h := hthb12 hb12
          refine jr_aload_n (j := 2) hC dX6_laneGain_57 rfl rfl ?_
          refine jr_get2 hC fl_RX6_15 hc4 dX6_laneGain_58 ?_
          refine jr_iload_n (j := 0) hC dX6_laneGain_61 rfl rfl ?_
          obtain ⟨hc13, h⟩ := h
          obtain ⟨hc14, h⟩ := h
          refine jr_iald hC hc13 hc14 dX6_laneGain_62 ?_
          refine jr_aload_n (j := 2) hC dX6_laneGain_63 rfl rfl ?_
          refine jr_get2 hC fl_RX6_15 hc4 dX6_laneGain_64 ?_
          refine jr_iload_n (j := 1) hC dX6_laneGain_67 rfl rfl ?_
          obtain ⟨hc15, h⟩ := h
          refine jr_iald hC hc13 hc15 dX6_laneGain_68 ?_
          refine jr_isub hC dX6_laneGain_69 ?_
          refine jr_nmI (fun v16 ev16 => ?_)
          have h := h v16 ev16
          refine jr_istore (L1 := [(4, .int v16), (3, .int v8), (2, .int v6), (0, .ref a0), (1, .int x1)]) hC dX6_laneGain_70 hnL (by decide) rfl ?_
          refine jr_iload (j := 0) hC dX6_laneGain_72 rfl ?_
          refine jr_iconst (v := (1 : Int32)) hC dX6_laneGain_74 (by decide) ?_
          obtain ⟨hthb17, hfhb17⟩ := h
          refine jr_ic_ge (tgt := 85) hC dX6_laneGain_75 (by decide) (fun hb17 => ?_) (fun hb17 => ?_)
          · have h := hthb17 hb17
            refine jr_aload_n (j := 3) hC dX6_laneGain_85 rfl rfl ?_
            refine jr_get2 hC fl_RX6_19 hc4 dX6_laneGain_86 ?_
            refine jr_iload_n (j := 1) hC dX6_laneGain_89 rfl rfl ?_
            obtain ⟨hc18, h⟩ := h
            obtain ⟨hc19, h⟩ := h
            refine jr_iald hC hc18 hc19 dX6_laneGain_90 ?_
            refine jr_aload_n (j := 3) hC dX6_laneGain_91 rfl rfl ?_
            refine jr_get2 hC fl_RX6_19 hc4 dX6_laneGain_92 ?_
            refine jr_iload_n (j := 2) hC dX6_laneGain_95 rfl rfl ?_
            obtain ⟨hc20, h⟩ := h
            refine jr_iald hC hc18 hc20 dX6_laneGain_96 ?_
            refine jr_isub hC dX6_laneGain_97 ?_
            refine jr_nmI (fun v21 ev21 => ?_)
            have h := h v21 ev21
            refine jr_istore (L1 := [(5, .int v21), (4, .int v16), (3, .int v8), (2, .int v6), (0, .ref a0), (1, .int x1)]) hC dX6_laneGain_98 hnL (by decide) rfl ?_
            refine jr_aload_n (j := 4) hC dX6_laneGain_100 rfl rfl ?_
            refine jr_get2 hC fl_RX6_19 hc4 dX6_laneGain_101 ?_
            refine jr_iload_n (j := 3) hC dX6_laneGain_104 rfl rfl ?_
            refine jr_iald hC hc18 hc20 dX6_laneGain_105 ?_
            refine jr_iload (j := 0) hC dX6_laneGain_106 rfl ?_
            refine jr_iload_n (j := 5) hC dX6_laneGain_108 rfl rfl ?_
            refine jr_aload_n (j := 4) hC dX6_laneGain_109 rfl rfl ?_
            refine jr_get2 hC fl_RX6_15 hc4 dX6_laneGain_110 ?_
            refine jr_iload_n (j := 3) hC dX6_laneGain_113 rfl rfl ?_
            refine jr_iald hC hc13 hc15 dX6_laneGain_114 ?_
            refine jr_isub hC dX6_laneGain_115 ?_
            refine jr_imul hC dX6_laneGain_116 ?_
            refine jr_iload (j := 1) hC dX6_laneGain_117 rfl ?_
            refine jr_callS_pi (As := [.int (v21 * (x1 - (mI M (mP M a0 5) (Int32.toNatClampNeg v6)))), .int v16]) (st := [.int (mI M (mP M a0 6) (Int32.toNatClampNeg v6))]) hC nc_RX6_66 (c_J9_floorDiv_7cf53 hlt h) rfl rfl ⟨⟨rfl, rfl⟩, ⟨by decide, by decide⟩, by decide, by decide⟩ (Nat.le_of_ble_eq_true rfl) dX6_laneGain_119 (fun v22 h => ?_)
            refine jr_iadd hC dX6_laneGain_122 ?_
            exact jr_ireti hC hZ (by decide) (by decide) dX6_laneGain_123 ⟨rfl, rfl, _, rfl, h⟩
          · have h := hfhb17 hb17
            refine jr_aload_n (j := 3) hC dX6_laneGain_78 rfl rfl ?_
            refine jr_get2 hC fl_RX6_19 hc4 dX6_laneGain_79 ?_
            refine jr_iload_n (j := 2) hC dX6_laneGain_82 rfl rfl ?_
            obtain ⟨hc23, h⟩ := h
            obtain ⟨hc24, h⟩ := h
            refine jr_iald hC hc23 hc24 dX6_laneGain_83 ?_
            exact jr_ireti hC hZ (by decide) (by decide) dX6_laneGain_84 ⟨rfl, rfl, _, rfl, h⟩
        · have h := hfhb12 hb12
          refine jr_sub [2, 1] (L1 := [(0, .ref a0), (2, .int v6)]) rfl ?_
          exact B50 a0 v6 h
    · have h := hfhb7 hb7
      refine jr_aload_n (j := 1) hC dX6_laneGain_22 rfl rfl ?_
      refine jr_get2 hC fl_RX6_19 hc4 dX6_laneGain_23 ?_
      refine jr_iconst (v := (0 : Int32)) hC dX6_laneGain_26 (by decide) ?_
      obtain ⟨hc25, h⟩ := h
      obtain ⟨hc26, h⟩ := h
      refine jr_iald hC hc25 hc26 dX6_laneGain_27 ?_
      exact jr_ireti hC hZ (by decide) (by decide) dX6_laneGain_28 ⟨rfl, rfl, _, rfl, h⟩
  · have h := hfhb5 hb5
    refine jr_sipush (v := (1000 : Int32)) hC dX6_laneGain_7 (by decide) ?_
    exact jr_ireti hC hZ (by decide) (by decide) dX6_laneGain_10 ⟨rfl, rfl, _, rfl, h⟩
set_option maxHeartbeats 4000000 in
set_option maxRecDepth 100000 in
theorem c_X5_dryValue {G : mw_G} {l : Launch} (hlt : l.stackTraces = false) {n : Nat} {M : mw_M} {a0 : Nat} {x1 : Int32} {x2 : Int32} {Q : Int32 → Prop} (h : w_X5_dryValue n M a0 x1 x2 Q) : mw_Met G l yX5_dryValue (.code yX5_dryValue cX5_dryValue 9 (some .int)) { frames := 3, cells := 0, slots := 0, locals := 70 } n M [.ref a0, .int x1, .int x2] (fun n1 M1 v => n1 = n ∧ mw_pI M Q M1 v) (fun _ _ => False) := by
  refine mw_enter (L0 := [(0, .ref a0), (1, .int x1), (2, .int x2)]) hlt rfl rfl (plainFor_of_name (by decide)) (Nat.le_of_ble_eq_true rfl) rfl ?_
  intro Y hC0 hZ hnL hini0 hn00
  have hC : mw_C G l _ Y cX5_dryValue RX5 := hC0
  have B141 : ∀ (r0 : Nat) (x1 : Int32) (x2 : Int32) (x5 : Int32) (h : w_X5_dryValue_b141 n M r0 x1 x2 x5 Q), mw_J Y 0 0 n M 141 [(0, .ref r0), (1, .int x1), (2, .int x2), (5, .int x5)] [] := by
    intro r0 x1 x2 x5 h
    unfold w_X5_dryValue_b141 at h
    refine jr_iload (j := 3) hC dX5_dryValue_141 rfl ?_
    refine jr_aload_n (j := 0) hC dX5_dryValue_143 rfl rfl ?_
    obtain ⟨hc1, h⟩ := h
    refine jr_get2 hC fl_RX5_25 hc1 dX5_dryValue_144 ?_
    refine jr_iload_n (j := 1) hC dX5_dryValue_147 rfl rfl ?_
    obtain ⟨hc2, h⟩ := h
    obtain ⟨hc3, h⟩ := h
    refine jr_aald (t := 15) hC (by decide) (by decide) hc2 hc3 dX5_dryValue_148 ?_
    obtain ⟨hc4, h⟩ := h
    refine jr_get0 hC fl_RX5_156 hc4 dX5_dryValue_149 ?_
    refine jr_callSn_pi (As := [.int x5, .int (mI M (mP M (mP M r0 3) (Int32.toNatClampNeg x1)) 0)]) (st := []) hC nc_RX5_135 (c_X7_applied hlt h) rfl rfl ⟨⟨rfl, rfl⟩, ⟨by decide, by decide⟩, by decide, by decide⟩ (Nat.le_of_ble_eq_true rfl) dX5_dryValue_152 (fun v5 h => ?_)
    refine jr_aload_n (j := 0) hC dX5_dryValue_155 rfl rfl ?_
    refine jr_get2 hC fl_RX5_25 hc1 dX5_dryValue_156 ?_
    refine jr_iload_n (j := 1) hC dX5_dryValue_159 rfl rfl ?_
    refine jr_aald (t := 15) hC (by decide) (by decide) hc2 hc3 dX5_dryValue_160 ?_
    refine jr_iload_n (j := 2) hC dX5_dryValue_161 rfl rfl ?_
    refine jr_callV_pi (As := [.int x2]) (st := [.int v5]) hC nc_RX5_157 (c_X6_laneGain hlt h) hc4 rfl rfl ⟨⟨rfl, rfl⟩, ⟨by decide, by decide⟩, by decide, by decide⟩ (Nat.le_of_ble_eq_true rfl) dX5_dryValue_162 (fun v6 h => ?_)
    refine jr_callSn_pi (As := [.int v5, .int v6]) (st := []) hC nc_RX5_135 (c_X7_applied hlt h) rfl rfl ⟨⟨rfl, rfl⟩, ⟨by decide, by decide⟩, by decide, by decide⟩ (Nat.le_of_ble_eq_true rfl) dX5_dryValue_165 (fun v7 h => ?_)
    exact jr_ireti hC hZ (by decide) (by decide) dX5_dryValue_168 ⟨rfl, rfl, _, rfl, h⟩
  have B54 : ∀ (r0 : Nat) (x1 : Int32) (x2 : Int32) (r4 : Nat) (x5 : Int32) (s0r : Nat) (h : w_X5_dryValue_b54 n M r0 x1 x2 r4 x5 s0r Q), mw_J Y 0 0 n M 54 [(0, .ref r0), (1, .int x1), (2, .int x2), (4, .ref r4), (5, .int x5)] [.ref s0r] := by
    intro r0 x1 x2 r4 x5 s0r h
    unfold w_X5_dryValue_b54 at h
    refine jr_astore (L1 := [(6, .ref s0r), (0, .ref r0), (1, .int x1), (2, .int x2), (4, .ref r4), (5, .int x5)]) hC dX5_dryValue_54 hnL (by decide) rfl ?_
    refine jr_aload (j := 4) hC dX5_dryValue_56 rfl ?_
    obtain ⟨hc8, h⟩ := h
    refine jr_callV_pi (As := []) (st := []) hC nc_RX5_99 (c_X0_end hlt h) hc8 rfl rfl ⟨⟨rfl, rfl⟩, ⟨by decide, by decide⟩, by decide, by decide⟩ (Nat.le_of_ble_eq_true rfl) dX5_dryValue_58 (fun v9 h => ?_)
    refine jr_aload (j := 0) hC dX5_dryValue_61 rfl ?_
    obtain ⟨hc10, h⟩ := h
    refine jr_get0 hC fl_RX5_89 hc10 dX5_dryValue_63 ?_
    refine jr_isub hC dX5_dryValue_66 ?_
    refine jr_nmI (fun v11 ev11 => ?_)
    have h := h v11 ev11
    refine jr_istore (L1 := [(7, .int v11), (6, .ref s0r), (0, .ref r0), (1, .int x1), (2, .int x2), (4, .ref r4), (5, .int x5)]) hC dX5_dryValue_67 hnL (by decide) rfl ?_
    refine jr_aload (j := 1) hC dX5_dryValue_69 rfl ?_
    refine jr_aload (j := 5) hC dX5_dryValue_71 rfl ?_
    obtain ⟨hc12, h⟩ := h
    obtain ⟨hc13, h⟩ := h
    obtain ⟨hthb14, hfhb14⟩ := h
    refine jr_ac_eq (tgt := 141) hC hc12 hc13 dX5_dryValue_73 (by decide) (fun hb14 => ?_) (fun hb14 => ?_)
    · have h := hthb14 hb14
      refine jr_sub [2, 3, 4, 6] (L1 := [(0, .ref r0), (1, .int x1), (2, .int x2), (5, .int x5)]) rfl ?_
      exact B141 r0 x1 x2 x5 h
    · have h := hfhb14 hb14
      refine jr_aload (j := 1) hC dX5_dryValue_76 rfl ?_
      refine jr_get0 hC fl_RX5_113 hc10 dX5_dryValue_78 ?_
      refine jr_iload_n (j := 3) hC dX5_dryValue_81 rfl rfl ?_
      obtain ⟨hthb15, hfhb15⟩ := h
      refine jr_ic_ne (tgt := 141) hC dX5_dryValue_82 (by decide) (fun hb15 => ?_) (fun hb15 => ?_)
      · have h := hthb15 hb15
        refine jr_sub [2, 3, 4, 6] (L1 := [(0, .ref r0), (1, .int x1), (2, .int x2), (5, .int x5)]) rfl ?_
        exact B141 r0 x1 x2 x5 h
      · have h := hfhb15 hb15
        refine jr_aload (j := 1) hC dX5_dryValue_85 rfl ?_
        refine jr_iload_n (j := 4) hC dX5_dryValue_87 rfl rfl ?_
        refine jr_callV_pi (As := [.int x2]) (st := []) hC nc_RX5_152 (c_X0_covers hlt h) hc10 rfl rfl ⟨⟨rfl, rfl⟩, ⟨by decide, by decide⟩, by decide, by decide⟩ (Nat.le_of_ble_eq_true rfl) dX5_dryValue_88 (fun v16 h => ?_)
        obtain ⟨hthb17, hfhb17⟩ := h
        refine jr_if_eq (tgt := 141) hC dX5_dryValue_91 (by decide) (fun hb17 => ?_) (fun hb17 => ?_)
        · have h := hthb17 hb17
          refine jr_sub [2, 3, 4, 6] (L1 := [(0, .ref r0), (1, .int x1), (2, .int x2), (5, .int x5)]) rfl ?_
          exact B141 r0 x1 x2 x5 h
        · have h := hfhb17 hb17
          refine jr_iload (j := 0) hC dX5_dryValue_94 rfl ?_
          obtain ⟨hthb18, hfhb18⟩ := h
          refine jr_if_le (tgt := 141) hC dX5_dryValue_96 (by decide) (fun hb18 => ?_) (fun hb18 => ?_)
          · have h := hthb18 hb18
            refine jr_sub [2, 3, 4, 6] (L1 := [(0, .ref r0), (1, .int x1), (2, .int x2), (5, .int x5)]) rfl ?_
            exact B141 r0 x1 x2 x5 h
          · have h := hfhb18 hb18
            refine jr_sipush (v := (1000 : Int32)) hC dX5_dryValue_99 (by decide) ?_
            refine jr_iload_n (j := 4) hC dX5_dryValue_102 rfl rfl ?_
            refine jr_aload (j := 1) hC dX5_dryValue_103 rfl ?_
            refine jr_get0 hC fl_RX5_89 hc10 dX5_dryValue_105 ?_
            refine jr_isub hC dX5_dryValue_108 ?_
            refine jr_imul hC dX5_dryValue_109 ?_
            refine jr_iload (j := 0) hC dX5_dryValue_110 rfl ?_
            obtain ⟨hc19, h⟩ := h
            refine jr_idiv hC dX5_dryValue_112 hc19 ?_
            refine jr_nmI (fun v20 ev20 => ?_)
            have h := h v20 ev20
            refine jr_istore (L1 := [(8, .int v20), (7, .int v11), (6, .ref s0r), (0, .ref r0), (1, .int x1), (2, .int x2), (4, .ref r4), (5, .int x5)]) hC dX5_dryValue_113 hnL (by decide) rfl ?_
            refine jr_iload (j := 7) hC dX5_dryValue_115 rfl ?_
            refine jr_sipush (v := (1000 : Int32)) hC dX5_dryValue_117 (by decide) ?_
            refine jr_iload (j := 0) hC dX5_dryValue_120 rfl ?_
            refine jr_isub hC dX5_dryValue_122 ?_
            refine jr_callSn_pi (As := [.int x5, .int ((1000 : Int32) - v20)]) (st := []) hC nc_RX5_135 (c_X7_applied hlt h) rfl rfl ⟨⟨rfl, rfl⟩, ⟨by decide, by decide⟩, by decide, by decide⟩ (Nat.le_of_ble_eq_true rfl) dX5_dryValue_123 (fun v21 h => ?_)
            refine jr_aload_n (j := 3) hC dX5_dryValue_126 rfl rfl ?_
            refine jr_aload (j := 2) hC dX5_dryValue_127 rfl ?_
            refine jr_iload_n (j := 5) hC dX5_dryValue_129 rfl rfl ?_
            obtain ⟨hc22, h⟩ := h
            refine jr_callV_pi (As := [.ref s0r, .int x2]) (st := [.int v21]) hC nc_RX5_148 (c_X5_rawValue hlt h) hc22 rfl rfl ⟨⟨rfl, rfl⟩, ⟨by decide, by decide⟩, by decide, by decide⟩ (Nat.le_of_ble_eq_true rfl) dX5_dryValue_130 (fun v23 h => ?_)
            refine jr_iload (j := 0) hC dX5_dryValue_133 rfl ?_
            refine jr_callSn_pi (As := [.int v23, .int v20]) (st := [.int v21]) hC nc_RX5_135 (c_X7_applied hlt h) rfl rfl ⟨⟨rfl, rfl⟩, ⟨by decide, by decide⟩, by decide, by decide⟩ (Nat.le_of_ble_eq_true rfl) dX5_dryValue_135 (fun v24 h => ?_)
            refine jr_iadd hC dX5_dryValue_138 ?_
            refine jr_nmI (fun v25 ev25 => ?_)
            have h := h v25 ev25
            refine jr_istore (L1 := [(5, .int v25), (8, .int v20), (7, .int v11), (6, .ref s0r), (0, .ref r0), (1, .int x1), (2, .int x2), (4, .ref r4)]) hC dX5_dryValue_139 hnL (by decide) rfl ?_
            refine jr_sub [4, 5, 6, 0] (L1 := [(0, .ref r0), (1, .int x1), (2, .int x2), (5, .int v25)]) rfl ?_
            exact B141 r0 x1 x2 v25 h
  unfold w_X5_dryValue at h
  refine jr_aload_n (j := 0) hC dX5_dryValue_0 rfl rfl ?_
  refine jr_iload_n (j := 1) hC dX5_dryValue_1 rfl rfl ?_
  refine jr_iload_n (j := 2) hC dX5_dryValue_2 rfl rfl ?_
  obtain ⟨hc26, h⟩ := h
  refine jr_callV_pi (As := [.int x1, .int x2]) (st := []) hC nc_RX5_145 (c_X5_firstCovering hlt h) hc26 rfl rfl ⟨⟨rfl, rfl⟩, ⟨by decide, by decide⟩, by decide, by decide⟩ (Nat.le_of_ble_eq_true rfl) dX5_dryValue_3 (fun v27 h => ?_)
  refine jr_istore_n (L1 := [(3, .int v27), (0, .ref a0), (1, .int x1), (2, .int x2)]) hC dX5_dryValue_6 rfl hnL (by decide) rfl ?_
  refine jr_iload_n (j := 0) hC dX5_dryValue_7 rfl rfl ?_
  refine jr_iconst (v := (-1 : Int32)) hC dX5_dryValue_8 (by decide) ?_
  obtain ⟨hthb28, hfhb28⟩ := h
  refine jr_ic_ne (tgt := 14) hC dX5_dryValue_9 (by decide) (fun hb28 => ?_) (fun hb28 => ?_)
  · have h := hthb28 hb28
    refine jr_aload_n (j := 1) hC dX5_dryValue_14 rfl rfl ?_
    refine jr_get2 hC fl_RX5_19 hc26 dX5_dryValue_15 ?_
    refine jr_iload_n (j := 0) hC dX5_dryValue_18 rfl rfl ?_
    obtain ⟨hc29, h⟩ := h
    obtain ⟨hc30, h⟩ := h
    refine jr_aald (t := 14) hC (by decide) (by decide) hc29 hc30 dX5_dryValue_19 ?_
    refine jr_nmA (fun q31 eq31 => ?_)
    have h := h q31 eq31
    refine jr_astore (L1 := [(4, .ref q31), (3, .int v27), (0, .ref a0), (1, .int x1), (2, .int x2)]) hC dX5_dryValue_20 hnL (by decide) rfl ?_
    refine jr_aload_n (j := 2) hC dX5_dryValue_22 rfl rfl ?_
    refine jr_aload (j := 0) hC dX5_dryValue_23 rfl ?_
    refine jr_iload_n (j := 4) hC dX5_dryValue_25 rfl rfl ?_
    refine jr_callV_pi (As := [.ref q31, .int x2]) (st := []) hC nc_RX5_148 (c_X5_rawValue hlt h) hc26 rfl rfl ⟨⟨rfl, rfl⟩, ⟨by decide, by decide⟩, by decide, by decide⟩ (Nat.le_of_ble_eq_true rfl) dX5_dryValue_26 (fun v32 h => ?_)
    refine jr_istore (L1 := [(5, .int v32), (4, .ref q31), (3, .int v27), (0, .ref a0), (1, .int x1), (2, .int x2)]) hC dX5_dryValue_29 hnL (by decide) rfl ?_
    refine jr_iload_n (j := 2) hC dX5_dryValue_31 rfl rfl ?_
    refine jr_iconst (v := (1 : Int32)) hC dX5_dryValue_32 (by decide) ?_
    refine jr_iadd hC dX5_dryValue_33 ?_
    refine jr_aload_n (j := 3) hC dX5_dryValue_34 rfl rfl ?_
    refine jr_get0 hC fl_RX5_50 hc26 dX5_dryValue_35 ?_
    obtain ⟨hthb33, hfhb33⟩ := h
    refine jr_ic_ge (tgt := 52) hC dX5_dryValue_38 (by decide) (fun hb33 => ?_) (fun hb33 => ?_)
    · have h := hthb33 hb33
      refine jr_aload (j := 1) hC dX5_dryValue_52 rfl ?_
      refine jr_sub [3, 4, 5, 1, 0] (L1 := [(0, .ref a0), (1, .int x1), (2, .int x2), (4, .ref q31), (5, .int v32)]) rfl ?_
      exact B54 a0 x1 x2 q31 v32 q31 h
    · have h := hfhb33 hb33
      refine jr_aload_n (j := 3) hC dX5_dryValue_41 rfl rfl ?_
      refine jr_get2 hC fl_RX5_19 hc26 dX5_dryValue_42 ?_
      refine jr_iload_n (j := 2) hC dX5_dryValue_45 rfl rfl ?_
      refine jr_iconst (v := (1 : Int32)) hC dX5_dryValue_46 (by decide) ?_
      refine jr_iadd hC dX5_dryValue_47 ?_
      obtain ⟨hc34, h⟩ := h
      refine jr_aald (t := 14) hC (by decide) (by decide) hc29 hc34 dX5_dryValue_48 ?_
      refine jr_goto (tgt := 54) hC dX5_dryValue_49 (by decide) ?_
      refine jr_sub [3, 4, 5, 1, 0] (L1 := [(0, .ref a0), (1, .int x1), (2, .int x2), (4, .ref q31), (5, .int v32)]) rfl ?_
      exact B54 a0 x1 x2 q31 v32 (mP M (mP M a0 1) (Int32.toNatClampNeg (v27 + (1 : Int32)))) h
  · have h := hfhb28 hb28
    refine jr_iconst (v := (0 : Int32)) hC dX5_dryValue_12 (by decide) ?_
    exact jr_ireti hC hZ (by decide) (by decide) dX5_dryValue_13 ⟨rfl, rfl, _, rfl, h⟩
set_option maxHeartbeats 4000000 in
set_option maxRecDepth 100000 in
theorem c_X5_hasClipWithin {G : mw_G} {l : Launch} (hlt : l.stackTraces = false) {n : Nat} {M : mw_M} {a0 : Nat} {x1 : Int32} {x2 : Int32} {x3 : Int32} {Q : Int32 → Prop} (h : w_X5_hasClipWithin n M a0 x1 x2 x3 Q) : mw_Met G l yX5_hasClipWithin (.code yX5_hasClipWithin cX5_hasClipWithin 6 (some .boolean)) { frames := 1, cells := 0, slots := 0, locals := 20 } n M [.ref a0, .int x1, .int x2, .int x3] (fun n1 M1 v => n1 = n ∧ mw_pI M Q M1 v) (fun _ _ => False) := by
  refine mw_enter (L0 := [(0, .ref a0), (1, .int x1), (2, .int x2), (3, .int x3)]) hlt rfl rfl (plainFor_of_name (by decide)) (Nat.le_of_ble_eq_true rfl) rfl ?_
  intro Y hC0 hZ hnL hini0 hn00
  have hC : mw_C G l _ Y cX5_hasClipWithin RX5 := hC0
  have B50 : ∀ (r0 : Nat) (x1 : Int32) (x2 : Int32) (x3 : Int32) (x4 : Int32) (K3 : Int32 → Prop) (hK3 : ∀ (x4_ : Int32), K3 x4_ → mw_J Y 0 0 n M 3 [(0, .ref r0), (1, .int x1), (2, .int x2), (3, .int x3), (4, .int x4_)] []) (h : w_X5_hasClipWithin_b50 n M r0 x1 x2 x3 x4 Q K3), mw_J Y 0 0 n M 50 [(0, .ref r0), (1, .int x1), (2, .int x2), (3, .int x3), (4, .int x4)] [] := by
    intro r0 x1 x2 x3 x4 K3 hK3 h
    unfold w_X5_hasClipWithin_b50 at h
    obtain ⟨v1, ev1⟩ : ∃ y : Int32, y = (x4 + (1 : Int32)) := ⟨_, rfl⟩
    have h := h v1 ev1
    refine jr_iinc (j := 4) (v := v1) (L1 := [(4, .int v1), (0, .ref r0), (1, .int x1), (2, .int x2), (3, .int x3)]) hC dX5_hasClipWithin_50 rfl (by rw [ev1]; rfl) hnL (by decide) rfl ?_
    refine jr_goto (tgt := 3) hC dX5_hasClipWithin_53 (by decide) ?_
    refine jr_sub [1, 2, 3, 4, 0] (L1 := [(0, .ref r0), (1, .int x1), (2, .int x2), (3, .int x3), (4, .int v1)]) rfl ?_
    exact hK3 v1 h
  have B3 : ∀ (r0 : Nat) (x1 : Int32) (x2 : Int32) (x3 : Int32) (x4 : Int32) (h : w_X5_hasClipWithin_b3 n M r0 x1 x2 x3 x4 Q), mw_J Y 0 0 n M 3 [(0, .ref r0), (1, .int x1), (2, .int x2), (3, .int x3), (4, .int x4)] [] := by
    intro r0 x1 x2 x3 x4 h
    obtain ⟨Inv, mu, h0, hs⟩ := h
    refine mw_loop1 (fun (x4 : Int32) => mw_J Y 0 0 n M 3 [(0, .ref r0), (1, .int x1), (2, .int x2), (3, .int x3), (4, .int x4)] []) Inv mu (fun x4 hI hrec => ?_) x4 h0
    have h := hs x4 hI
    refine jr_iload (j := 4) hC dX5_hasClipWithin_3 rfl ?_
    refine jr_aload_n (j := 0) hC dX5_hasClipWithin_5 rfl rfl ?_
    obtain ⟨hc2, h⟩ := h
    refine jr_get0 hC fl_RX5_50 hc2 dX5_hasClipWithin_6 ?_
    obtain ⟨hthb3, hfhb3⟩ := h
    refine jr_ic_ge (tgt := 56) hC dX5_hasClipWithin_9 (by decide) (fun hb3 => ?_) (fun hb3 => ?_)
    · have h := hthb3 hb3
      refine jr_iconst (v := (0 : Int32)) hC dX5_hasClipWithin_56 (by decide) ?_
      exact jr_iretz hC hZ (by decide) (by decide) (Or.inl rfl) dX5_hasClipWithin_57 ⟨rfl, rfl, _, rfl, h⟩
    · have h := hfhb3 hb3
      refine jr_aload_n (j := 0) hC dX5_hasClipWithin_12 rfl rfl ?_
      refine jr_get2 hC fl_RX5_19 hc2 dX5_hasClipWithin_13 ?_
      refine jr_iload (j := 4) hC dX5_hasClipWithin_16 rfl ?_
      obtain ⟨hc4, h⟩ := h
      obtain ⟨hc5, h⟩ := h
      refine jr_aald (t := 14) hC (by decide) (by decide) hc4 hc5 dX5_hasClipWithin_18 ?_
      refine jr_nmA (fun q6 eq6 => ?_)
      have h := h q6 eq6
      refine jr_astore (L1 := [(5, .ref q6), (0, .ref r0), (1, .int x1), (2, .int x2), (3, .int x3), (4, .int x4)]) hC dX5_hasClipWithin_19 hnL (by decide) rfl ?_
      refine jr_aload (j := 0) hC dX5_hasClipWithin_21 rfl ?_
      obtain ⟨hc7, h⟩ := h
      refine jr_get0 hC fl_RX5_113 hc7 dX5_hasClipWithin_23 ?_
      refine jr_iload_n (j := 2) hC dX5_hasClipWithin_26 rfl rfl ?_
      obtain ⟨hthb8, hfhb8⟩ := h
      refine jr_ic_ne (tgt := 50) hC dX5_hasClipWithin_27 (by decide) (fun hb8 => ?_) (fun hb8 => ?_)
      · have h := hthb8 hb8
        refine jr_sub [1, 2, 3, 4, 5] (L1 := [(0, .ref r0), (1, .int x1), (2, .int x2), (3, .int x3), (4, .int x4)]) rfl ?_
        exact B50 r0 x1 x2 x3 x4 (fun (x4_ : Int32) => Inv x4_ ∧ mu x4_ < mu x4) (fun x4_ h9 => hrec x4_ h9) h
      · have h := hfhb8 hb8
        refine jr_aload (j := 0) hC dX5_hasClipWithin_30 rfl ?_
        refine jr_get0 hC fl_RX5_89 hc7 dX5_hasClipWithin_32 ?_
        refine jr_iload_n (j := 4) hC dX5_hasClipWithin_35 rfl rfl ?_
        obtain ⟨hthb9, hfhb9⟩ := h
        refine jr_ic_ge (tgt := 50) hC dX5_hasClipWithin_36 (by decide) (fun hb9 => ?_) (fun hb9 => ?_)
        · have h := hthb9 hb9
          refine jr_sub [1, 2, 3, 4, 5] (L1 := [(0, .ref r0), (1, .int x1), (2, .int x2), (3, .int x3), (4, .int x4)]) rfl ?_
          exact B50 r0 x1 x2 x3 x4 (fun (x4_ : Int32) => Inv x4_ ∧ mu x4_ < mu x4) (fun x4_ h9 => hrec x4_ h9) h
        · have h := hfhb9 hb9
          refine jr_aload (j := 0) hC dX5_hasClipWithin_39 rfl ?_
          refine jr_callV_pi (As := []) (st := []) hC nc_RX5_99 (c_X0_end hlt h) hc7 rfl rfl ⟨⟨rfl, rfl⟩, ⟨by decide, by decide⟩, by decide, by decide⟩ (Nat.le_of_ble_eq_true rfl) dX5_hasClipWithin_41 (fun v10 h => ?_)
          refine jr_iload_n (j := 3) hC dX5_hasClipWithin_44 rfl rfl ?_
          obtain ⟨hthb11, hfhb11⟩ := h
          refine jr_ic_le (tgt := 50) hC dX5_hasClipWithin_45 (by decide) (fun hb11 => ?_) (fun hb11 => ?_)
          · have h := hthb11 hb11
            refine jr_sub [1, 2, 3, 4, 5] (L1 := [(0, .ref r0), (1, .int x1), (2, .int x2), (3, .int x3), (4, .int x4)]) rfl ?_
            exact B50 r0 x1 x2 x3 x4 (fun (x4_ : Int32) => Inv x4_ ∧ mu x4_ < mu x4) (fun x4_ h9 => hrec x4_ h9) h
          · have h := hfhb11 hb11
            refine jr_iconst (v := (1 : Int32)) hC dX5_hasClipWithin_48 (by decide) ?_
            exact jr_iretz hC hZ (by decide) (by decide) (Or.inr rfl) dX5_hasClipWithin_49 ⟨rfl, rfl, _, rfl, h⟩
  unfold w_X5_hasClipWithin at h
  refine jr_iconst (v := (0 : Int32)) hC dX5_hasClipWithin_0 (by decide) ?_
  refine jr_istore (L1 := [(4, .int (0 : Int32)), (0, .ref a0), (1, .int x1), (2, .int x2), (3, .int x3)]) hC dX5_hasClipWithin_1 hnL (by decide) rfl ?_
  refine jr_sub [1, 2, 3, 4, 0] (L1 := [(0, .ref a0), (1, .int x1), (2, .int x2), (3, .int x3), (4, .int (0 : Int32))]) rfl ?_
  exact B3 a0 x1 x2 x3 (0 : Int32) h
set_option maxHeartbeats 4000000 in
set_option maxRecDepth 100000 in
theorem c_X5_reaches {G : mw_G} {l : Launch} (hlt : l.stackTraces = false) {n : Nat} {M : mw_M} {a0 : Nat} {x1 : Int32} {x2 : Int32} {x3 : Int32} {Q : Int32 → Prop} (h : w_X5_reaches n M a0 x1 x2 x3 Q) : mw_Met G l yX5_reaches (.code yX5_reaches cX5_reaches 6 (some .boolean)) { frames := 4, cells := 0, slots := 0, locals := 98 } n M [.ref a0, .int x1, .int x2, .int x3] (fun n1 M1 v => n1 = n ∧ mw_pI M Q M1 v) (fun _ _ => False) := by
  refine mw_enter (L0 := [(0, .ref a0), (1, .int x1), (2, .int x2), (3, .int x3)]) hlt rfl rfl (plainFor_of_name (by decide)) (Nat.le_of_ble_eq_true rfl) rfl ?_
  intro Y hC0 hZ hnL hini0 hn00
  have hC : mw_C G l _ Y cX5_reaches RX5 := hC0
  have B33 : ∀ (r0 : Nat) (x1 : Int32) (x3 : Int32) (x4 : Int32) (x5 : Int32) (h : w_X5_reaches_b33 n M r0 x1 x3 x4 x5 Q), mw_J Y 0 0 n M 33 [(0, .ref r0), (1, .int x1), (3, .int x3), (4, .int x4), (5, .int x5)] [] := by
    intro r0 x1 x3 x4 x5 h
    obtain ⟨Inv, mu, h0, hs⟩ := h
    refine mw_loop1 (fun (x5 : Int32) => mw_J Y 0 0 n M 33 [(0, .ref r0), (1, .int x1), (3, .int x3), (4, .int x4), (5, .int x5)] []) Inv mu (fun x5 hI hrec => ?_) x5 h0
    have h := hs x5 hI
    refine jr_iload (j := 4) hC dX5_reaches_33 rfl ?_
    refine jr_iload (j := 3) hC dX5_reaches_35 rfl ?_
    refine jr_bipush (v := (40 : Int32)) hC dX5_reaches_37 (by decide) ?_
    refine jr_iadd hC dX5_reaches_39 ?_
    obtain ⟨hthb1, hfhb1⟩ := h
    refine jr_ic_ge (tgt := 65) hC dX5_reaches_40 (by decide) (fun hb1 => ?_) (fun hb1 => ?_)
    · have h := hthb1 hb1
      refine jr_iconst (v := (0 : Int32)) hC dX5_reaches_65 (by decide) ?_
      exact jr_iretz hC hZ (by decide) (by decide) (Or.inl rfl) dX5_reaches_66 ⟨rfl, rfl, _, rfl, h⟩
    · have h := hfhb1 hb1
      refine jr_aload_n (j := 0) hC dX5_reaches_43 rfl rfl ?_
      refine jr_iload_n (j := 1) hC dX5_reaches_44 rfl rfl ?_
      refine jr_iload (j := 4) hC dX5_reaches_45 rfl ?_
      obtain ⟨hc2, h⟩ := h
      refine jr_callV_pi (As := [.int x1, .int x5]) (st := []) hC nc_RX5_164 (c_X5_dryValue hlt h) hc2 rfl rfl ⟨⟨rfl, rfl⟩, ⟨by decide, by decide⟩, by decide, by decide⟩ (Nat.le_of_ble_eq_true rfl) dX5_reaches_47 (fun v3 h => ?_)
      refine jr_mabs hC tw_524 tw_525 tw_74 tw_526 (by decide) (by decide) (Nat.le_of_ble_eq_true rfl) (by decide) (by decide) dX5_reaches_50 ?_
      refine jr_nmI (fun v4 ev4 => ?_)
      have h := h v4 ev4
      refine jr_iload_n (j := 2) hC dX5_reaches_53 rfl rfl ?_
      obtain ⟨hthb5, hfhb5⟩ := h
      refine jr_ic_lt (tgt := 59) hC dX5_reaches_54 (by decide) (fun hb5 => ?_) (fun hb5 => ?_)
      · have h := hthb5 hb5
        obtain ⟨v6, ev6⟩ : ∃ y : Int32, y = (x5 + (1 : Int32)) := ⟨_, rfl⟩
        have h := h v6 ev6
        refine jr_iinc (j := 4) (v := v6) (L1 := [(5, .int v6), (0, .ref r0), (1, .int x1), (3, .int x3), (4, .int x4)]) hC dX5_reaches_59 rfl (by rw [ev6]; rfl) hnL (by decide) rfl ?_
        refine jr_goto (tgt := 33) hC dX5_reaches_62 (by decide) ?_
        refine jr_sub [1, 2, 3, 4, 0] (L1 := [(0, .ref r0), (1, .int x1), (3, .int x3), (4, .int x4), (5, .int v6)]) rfl ?_
        exact hrec v6 h
      · have h := hfhb5 hb5
        refine jr_iconst (v := (1 : Int32)) hC dX5_reaches_57 (by decide) ?_
        exact jr_iretz hC hZ (by decide) (by decide) (Or.inr rfl) dX5_reaches_58 ⟨rfl, rfl, _, rfl, h⟩
  unfold w_X5_reaches at h
  refine jr_iload_n (j := 3) hC dX5_reaches_0 rfl rfl ?_
  obtain ⟨hthb7, hfhb7⟩ := h
  refine jr_if_gt (tgt := 6) hC dX5_reaches_1 (by decide) (fun hb7 => ?_) (fun hb7 => ?_)
  · have h := hthb7 hb7
    refine jr_iload_n (j := 2) hC dX5_reaches_6 rfl rfl ?_
    refine jr_bipush (v := (40 : Int32)) hC dX5_reaches_7 (by decide) ?_
    refine jr_imul hC dX5_reaches_9 ?_
    refine jr_nmI (fun v8 ev8 => ?_)
    have h := h v8 ev8
    refine jr_istore (L1 := [(4, .int v8), (0, .ref a0), (1, .int x1), (2, .int x2), (3, .int x3)]) hC dX5_reaches_10 hnL (by decide) rfl ?_
    refine jr_aload_n (j := 1) hC dX5_reaches_12 rfl rfl ?_
    refine jr_iload_n (j := 2) hC dX5_reaches_13 rfl rfl ?_
    refine jr_iload (j := 0) hC dX5_reaches_14 rfl ?_
    refine jr_iload (j := 0) hC dX5_reaches_16 rfl ?_
    refine jr_bipush (v := (40 : Int32)) hC dX5_reaches_18 (by decide) ?_
    refine jr_iadd hC dX5_reaches_20 ?_
    obtain ⟨hc9, h⟩ := h
    refine jr_callV_pi (As := [.int x1, .int v8, .int (v8 + (40 : Int32))]) (st := []) hC nc_RX5_160 (c_X5_hasClipWithin hlt h) hc9 rfl rfl ⟨⟨rfl, rfl⟩, ⟨by decide, by decide⟩, by decide, by decide⟩ (Nat.le_of_ble_eq_true rfl) dX5_reaches_21 (fun v10 h => ?_)
    obtain ⟨hthb11, hfhb11⟩ := h
    refine jr_if_ne (tgt := 29) hC dX5_reaches_24 (by decide) (fun hb11 => ?_) (fun hb11 => ?_)
    · have h := hthb11 hb11
      refine jr_iload (j := 0) hC dX5_reaches_29 rfl ?_
      refine jr_istore (L1 := [(5, .int v8), (4, .int v8), (0, .ref a0), (1, .int x1), (2, .int x2), (3, .int x3)]) hC dX5_reaches_31 hnL (by decide) rfl ?_
      refine jr_sub [2, 3, 5, 1, 0] (L1 := [(0, .ref a0), (1, .int x1), (3, .int x3), (4, .int v8), (5, .int v8)]) rfl ?_
      exact B33 a0 x1 x3 v8 v8 h
    · have h := hfhb11 hb11
      refine jr_iconst (v := (0 : Int32)) hC dX5_reaches_27 (by decide) ?_
      exact jr_iretz hC hZ (by decide) (by decide) (Or.inl rfl) dX5_reaches_28 ⟨rfl, rfl, _, rfl, h⟩
  · have h := hfhb7 hb7
    refine jr_iconst (v := (1 : Int32)) hC dX5_reaches_4 (by decide) ?_
    exact jr_iretz hC hZ (by decide) (by decide) (Or.inr rfl) dX5_reaches_5 ⟨rfl, rfl, _, rfl, h⟩
set_option maxHeartbeats 4000000 in
set_option maxRecDepth 100000 in
theorem c_X5_hashTransport {G : mw_G} {l : Launch} (hlt : l.stackTraces = false) {n : Nat} {M : mw_M} {a0 : Nat} {l1 : Int64} {Q : Int64 → Prop} (h : w_X5_hashTransport n M a0 l1 Q) : mw_Met G l yX5_hashTransport (.code yX5_hashTransport cX5_hashTransport 6 (some .long)) { frames := 1, cells := 0, slots := 0, locals := 23 } n M [.ref a0, .long l1] (fun n1 M1 v => n1 = n ∧ mw_pJ M Q M1 v) (fun _ _ => False) := by
  refine mw_enter (L0 := [(0, .ref a0), (1, .long l1)]) hlt rfl rfl (plainFor_of_name (by decide)) (Nat.le_of_ble_eq_true rfl) rfl ?_
  intro Y hC0 hZ hnL hini0 hn00
  have hC : mw_C G l _ Y cX5_hashTransport RX5 := hC0
  have B41 : ∀ (r0 : Nat) (l3 : Int64) (x5 : Int32) (h : w_X5_hashTransport_b41 n M r0 l3 x5 Q), mw_J Y 0 0 n M 41 [(0, .ref r0), (3, .long l3), (5, .int x5)] [] := by
    intro r0 l3 x5 h
    obtain ⟨Inv, mu, h0, hs⟩ := h
    refine mw_loop2 (fun (l3 : Int64) (x5 : Int32) => mw_J Y 0 0 n M 41 [(0, .ref r0), (3, .long l3), (5, .int x5)] []) Inv mu (fun l3 x5 hI hrec => ?_) l3 x5 h0
    have h := hs l3 x5 hI
    refine jr_iload (j := 2) hC dX5_hashTransport_41 rfl ?_
    refine jr_iconst (v := (4 : Int32)) hC dX5_hashTransport_43 (by decide) ?_
    obtain ⟨hthb1, hfhb1⟩ := h
    refine jr_ic_gt (tgt := 67) hC dX5_hashTransport_44 (by decide) (fun hb1 => ?_) (fun hb1 => ?_)
    · have h := hthb1 hb1
      refine jr_lload_n (j := 1) hC dX5_hashTransport_67 rfl rfl ?_
      exact jr_lret hC hZ (by decide) (by decide) dX5_hashTransport_68 ⟨rfl, rfl, _, rfl, h⟩
    · have h := hfhb1 hb1
      refine jr_lload_n (j := 1) hC dX5_hashTransport_47 rfl rfl ?_
      refine jr_aload_n (j := 0) hC dX5_hashTransport_48 rfl rfl ?_
      obtain ⟨hc2, h⟩ := h
      refine jr_get2 hC fl_RX5_39 hc2 dX5_hashTransport_49 ?_
      refine jr_iload (j := 2) hC dX5_hashTransport_52 rfl ?_
      obtain ⟨hc3, h⟩ := h
      refine jr_callV_pj (As := [.int x5]) (st := [.long l3]) hC nc_RX5_176 (c_X3_reading hlt h) hc3 rfl rfl ⟨⟨rfl, rfl⟩, ⟨by decide, by decide⟩, by decide, by decide⟩ (Nat.le_of_ble_eq_true rfl) dX5_hashTransport_54 (fun w4 h => ?_)
      refine jr_callSn_pj (As := [.long l3, .long w4]) (st := []) hC nc_RX5_172 (c_X7_hashed hlt h) rfl rfl ⟨⟨rfl, rfl⟩, ⟨by decide, by decide⟩, by decide, by decide⟩ (Nat.le_of_ble_eq_true rfl) dX5_hashTransport_57 (fun w5 h => ?_)
      refine jr_lstore_n (L1 := [(3, .long w5), (0, .ref r0), (5, .int x5)]) hC dX5_hashTransport_60 rfl hnL (by decide) rfl ?_
      obtain ⟨v6, ev6⟩ : ∃ y : Int32, y = (x5 + (1 : Int32)) := ⟨_, rfl⟩
      have h := h v6 ev6
      refine jr_iinc (j := 2) (v := v6) (L1 := [(5, .int v6), (3, .long w5), (0, .ref r0)]) hC dX5_hashTransport_61 rfl (by rw [ev6]; rfl) hnL (by decide) rfl ?_
      refine jr_goto (tgt := 41) hC dX5_hashTransport_64 (by decide) ?_
      refine jr_sub [2, 1, 0] (L1 := [(0, .ref r0), (3, .long w5), (5, .int v6)]) rfl ?_
      exact hrec w5 v6 h
  unfold w_X5_hashTransport at h
  refine jr_lload_n (j := 1) hC dX5_hashTransport_0 rfl rfl ?_
  refine jr_aload_n (j := 0) hC dX5_hashTransport_1 rfl rfl ?_
  obtain ⟨hc7, h⟩ := h
  refine jr_get0 hC fl_RX5_59 hc7 dX5_hashTransport_2 ?_
  refine jr_i2l hC dX5_hashTransport_5 ?_
  refine jr_callSn_pj (As := [.long l1, .long (Int32.toInt64 (mI M a0 5))]) (st := []) hC nc_RX5_172 (c_X7_hashed hlt h) rfl rfl ⟨⟨rfl, rfl⟩, ⟨by decide, by decide⟩, by decide, by decide⟩ (Nat.le_of_ble_eq_true rfl) dX5_hashTransport_6 (fun w8 h => ?_)
  refine jr_lstore_n (L1 := [(3, .long w8), (0, .ref a0), (1, .long l1)]) hC dX5_hashTransport_9 rfl hnL (by decide) rfl ?_
  refine jr_lload_n (j := 0) hC dX5_hashTransport_10 rfl rfl ?_
  refine jr_aload_n (j := 1) hC dX5_hashTransport_11 rfl rfl ?_
  refine jr_get0 hC fl_RX5_62 hc7 dX5_hashTransport_12 ?_
  refine jr_i2l hC dX5_hashTransport_15 ?_
  refine jr_callSn_pj (As := [.long w8, .long (Int32.toInt64 (mI M a0 6))]) (st := []) hC nc_RX5_172 (c_X7_hashed hlt h) rfl rfl ⟨⟨rfl, rfl⟩, ⟨by decide, by decide⟩, by decide, by decide⟩ (Nat.le_of_ble_eq_true rfl) dX5_hashTransport_16 (fun w9 h => ?_)
  refine jr_aload_n (j := 1) hC dX5_hashTransport_19 rfl rfl ?_
  refine jr_get0 hC fl_RX5_33 hc7 dX5_hashTransport_20 ?_
  refine jr_i2l hC dX5_hashTransport_23 ?_
  refine jr_callSn_pj (As := [.long w9, .long (Int32.toInt64 (mI M a0 7))]) (st := []) hC nc_RX5_172 (c_X7_hashed hlt h) rfl rfl ⟨⟨rfl, rfl⟩, ⟨by decide, by decide⟩, by decide, by decide⟩ (Nat.le_of_ble_eq_true rfl) dX5_hashTransport_24 (fun w10 h => ?_)
  refine jr_lstore_n (L1 := [(3, .long w10), (0, .ref a0), (1, .long l1)]) hC dX5_hashTransport_27 rfl hnL (by decide) rfl ?_
  refine jr_lload_n (j := 0) hC dX5_hashTransport_28 rfl rfl ?_
  refine jr_aload_n (j := 1) hC dX5_hashTransport_29 rfl rfl ?_
  refine jr_get0 hC fl_RX5_29 hc7 dX5_hashTransport_30 ?_
  refine jr_i2l hC dX5_hashTransport_33 ?_
  refine jr_callSn_pj (As := [.long w10, .long (Int32.toInt64 (mI M a0 4))]) (st := []) hC nc_RX5_172 (c_X7_hashed hlt h) rfl rfl ⟨⟨rfl, rfl⟩, ⟨by decide, by decide⟩, by decide, by decide⟩ (Nat.le_of_ble_eq_true rfl) dX5_hashTransport_34 (fun w11 h => ?_)
  refine jr_lstore_n (L1 := [(3, .long w11), (0, .ref a0), (1, .long l1)]) hC dX5_hashTransport_37 rfl hnL (by decide) rfl ?_
  refine jr_iconst (v := (0 : Int32)) hC dX5_hashTransport_38 (by decide) ?_
  refine jr_istore (L1 := [(5, .int (0 : Int32)), (3, .long w11), (0, .ref a0), (1, .long l1)]) hC dX5_hashTransport_39 hnL (by decide) rfl ?_
  refine jr_sub [2, 1, 0] (L1 := [(0, .ref a0), (3, .long w11), (5, .int (0 : Int32))]) rfl ?_
  exact B41 a0 w11 (0 : Int32) h
set_option maxHeartbeats 4000000 in
set_option maxRecDepth 100000 in
theorem c_X5_hashSources {G : mw_G} {l : Launch} (hlt : l.stackTraces = false) {n : Nat} {M : mw_M} {a0 : Nat} {l1 : Int64} {Q : Int64 → Prop} (h : w_X5_hashSources n M a0 l1 Q) : mw_Met G l yX5_hashSources (.code yX5_hashSources cX5_hashSources 9 (some .long)) { frames := 1, cells := 0, slots := 0, locals := 23 } n M [.ref a0, .long l1] (fun n1 M1 v => n1 = n ∧ mw_pJ M Q M1 v) (fun _ _ => False) := by
  refine mw_enter (L0 := [(0, .ref a0), (1, .long l1)]) hlt rfl rfl (plainFor_of_name (by decide)) (Nat.le_of_ble_eq_true rfl) rfl ?_
  intro Y hC0 hZ hnL hini0 hn00
  have hC : mw_C G l _ Y cX5_hashSources RX5 := hC0
  have B16 : ∀ (l3 : Int64) (r5 : Nat) (x6 : Int32) (x7 : Int32) (h : w_X5_hashSources_b16 n M l3 r5 x6 x7 Q), mw_J Y 0 0 n M 16 [(3, .long l3), (5, .ref r5), (6, .int x6), (7, .int x7)] [] := by
    intro l3 r5 x6 x7 h
    obtain ⟨Inv, mu, h0, hs⟩ := h
    refine mw_loop2 (fun (l3 : Int64) (x7 : Int32) => mw_J Y 0 0 n M 16 [(3, .long l3), (5, .ref r5), (6, .int x6), (7, .int x7)] []) Inv mu (fun l3 x7 hI hrec => ?_) l3 x7 h0
    have h := hs l3 x7 hI
    refine jr_iload (j := 3) hC dX5_hashSources_16 rfl ?_
    refine jr_iload (j := 2) hC dX5_hashSources_18 rfl ?_
    obtain ⟨hthb1, hfhb1⟩ := h
    refine jr_ic_ge (tgt := 76) hC dX5_hashSources_20 (by decide) (fun hb1 => ?_) (fun hb1 => ?_)
    · have h := hthb1 hb1
      refine jr_lload_n (j := 0) hC dX5_hashSources_76 rfl rfl ?_
      exact jr_lret hC hZ (by decide) (by decide) dX5_hashSources_77 ⟨rfl, rfl, _, rfl, h⟩
    · have h := hfhb1 hb1
      refine jr_aload (j := 1) hC dX5_hashSources_23 rfl ?_
      refine jr_iload (j := 3) hC dX5_hashSources_25 rfl ?_
      obtain ⟨hc2, h⟩ := h
      obtain ⟨hc3, h⟩ := h
      refine jr_aald (t := 13) hC (by decide) (by decide) hc2 hc3 dX5_hashSources_27 ?_
      refine jr_nmA (fun q4 eq4 => ?_)
      have h := h q4 eq4
      refine jr_astore (L1 := [(8, .ref q4), (3, .long l3), (5, .ref r5), (6, .int x6), (7, .int x7)]) hC dX5_hashSources_28 hnL (by decide) rfl ?_
      refine jr_lload_n (j := 1) hC dX5_hashSources_30 rfl rfl ?_
      refine jr_aload (j := 0) hC dX5_hashSources_31 rfl ?_
      obtain ⟨hc5, h⟩ := h
      refine jr_get0 hC fl_RX5_180 hc5 dX5_hashSources_33 ?_
      refine jr_i2l hC dX5_hashSources_36 ?_
      refine jr_callSn_pj (As := [.long l3, .long (Int32.toInt64 (mI M q4 0))]) (st := []) hC nc_RX5_172 (c_X7_hashed hlt h) rfl rfl ⟨⟨rfl, rfl⟩, ⟨by decide, by decide⟩, by decide, by decide⟩ (Nat.le_of_ble_eq_true rfl) dX5_hashSources_37 (fun w6 h => ?_)
      refine jr_aload (j := 0) hC dX5_hashSources_40 rfl ?_
      refine jr_get0 hC fl_RX5_183 hc5 dX5_hashSources_42 ?_
      refine jr_i2l hC dX5_hashSources_45 ?_
      refine jr_callSn_pj (As := [.long w6, .long (Int32.toInt64 (mI M q4 1))]) (st := []) hC nc_RX5_172 (c_X7_hashed hlt h) rfl rfl ⟨⟨rfl, rfl⟩, ⟨by decide, by decide⟩, by decide, by decide⟩ (Nat.le_of_ble_eq_true rfl) dX5_hashSources_46 (fun w7 h => ?_)
      refine jr_lstore_n (L1 := [(3, .long w7), (8, .ref q4), (5, .ref r5), (6, .int x6), (7, .int x7)]) hC dX5_hashSources_49 rfl hnL (by decide) rfl ?_
      refine jr_lload_n (j := 0) hC dX5_hashSources_50 rfl rfl ?_
      refine jr_aload (j := 1) hC dX5_hashSources_51 rfl ?_
      refine jr_get0 hC fl_RX5_186 hc5 dX5_hashSources_53 ?_
      refine jr_i2l hC dX5_hashSources_56 ?_
      refine jr_callSn_pj (As := [.long w7, .long (Int32.toInt64 (mI M q4 2))]) (st := []) hC nc_RX5_172 (c_X7_hashed hlt h) rfl rfl ⟨⟨rfl, rfl⟩, ⟨by decide, by decide⟩, by decide, by decide⟩ (Nat.le_of_ble_eq_true rfl) dX5_hashSources_57 (fun w8 h => ?_)
      refine jr_aload (j := 1) hC dX5_hashSources_60 rfl ?_
      refine jr_get0 hC fl_RX5_189 hc5 dX5_hashSources_62 ?_
      refine jr_i2l hC dX5_hashSources_65 ?_
      refine jr_callSn_pj (As := [.long w8, .long (Int32.toInt64 (mI M q4 3))]) (st := []) hC nc_RX5_172 (c_X7_hashed hlt h) rfl rfl ⟨⟨rfl, rfl⟩, ⟨by decide, by decide⟩, by decide, by decide⟩ (Nat.le_of_ble_eq_true rfl) dX5_hashSources_66 (fun w9 h => ?_)
      refine jr_lstore_n (L1 := [(3, .long w9), (8, .ref q4), (5, .ref r5), (6, .int x6), (7, .int x7)]) hC dX5_hashSources_69 rfl hnL (by decide) rfl ?_
      obtain ⟨v10, ev10⟩ : ∃ y : Int32, y = (x7 + (1 : Int32)) := ⟨_, rfl⟩
      have h := h v10 ev10
      refine jr_iinc (j := 4) (v := v10) (L1 := [(7, .int v10), (3, .long w9), (8, .ref q4), (5, .ref r5), (6, .int x6)]) hC dX5_hashSources_70 rfl (by rw [ev10]; rfl) hnL (by decide) rfl ?_
      refine jr_goto (tgt := 16) hC dX5_hashSources_73 (by decide) ?_
      refine jr_sub [1, 3, 4, 0] (L1 := [(3, .long w9), (5, .ref r5), (6, .int x6), (7, .int v10)]) rfl ?_
      exact hrec w9 v10 h
  unfold w_X5_hashSources at h
  refine jr_lload_n (j := 1) hC dX5_hashSources_0 rfl rfl ?_
  refine jr_lstore_n (L1 := [(3, .long l1), (0, .ref a0), (1, .long l1)]) hC dX5_hashSources_1 rfl hnL (by decide) rfl ?_
  refine jr_aload_n (j := 1) hC dX5_hashSources_2 rfl rfl ?_
  obtain ⟨hc11, h⟩ := h
  refine jr_get2 hC fl_RX5_11 hc11 dX5_hashSources_3 ?_
  refine jr_nmA (fun q12 eq12 => ?_)
  have h := h q12 eq12
  refine jr_astore (L1 := [(5, .ref q12), (3, .long l1), (0, .ref a0), (1, .long l1)]) hC dX5_hashSources_6 hnL (by decide) rfl ?_
  refine jr_aload (j := 0) hC dX5_hashSources_8 rfl ?_
  obtain ⟨hc13, h⟩ := h
  refine jr_alen (t := 13) hC (by decide) (by decide) hc13 dX5_hashSources_10 ?_
  refine jr_nmI (fun v14 ev14 => ?_)
  have h := h v14 ev14
  refine jr_istore (L1 := [(6, .int v14), (5, .ref q12), (3, .long l1), (0, .ref a0), (1, .long l1)]) hC dX5_hashSources_11 hnL (by decide) rfl ?_
  refine jr_iconst (v := (0 : Int32)) hC dX5_hashSources_13 (by decide) ?_
  refine jr_istore (L1 := [(7, .int (0 : Int32)), (6, .int v14), (5, .ref q12), (3, .long l1), (0, .ref a0), (1, .long l1)]) hC dX5_hashSources_14 hnL (by decide) rfl ?_
  refine jr_sub [3, 2, 1, 0] (L1 := [(3, .long l1), (5, .ref q12), (6, .int v14), (7, .int (0 : Int32))]) rfl ?_
  exact B16 l1 q12 v14 (0 : Int32) h
set_option maxHeartbeats 4000000 in
set_option maxRecDepth 100000 in
theorem c_X5_hashClips {G : mw_G} {l : Launch} (hlt : l.stackTraces = false) {n : Nat} {M : mw_M} {a0 : Nat} {l1 : Int64} {Q : Int64 → Prop} (h : w_X5_hashClips n M a0 l1 Q) : mw_Met G l yX5_hashClips (.code yX5_hashClips cX5_hashClips 7 (some .long)) { frames := 1, cells := 0, slots := 0, locals := 23 } n M [.ref a0, .long l1] (fun n1 M1 v => n1 = n ∧ mw_pJ M Q M1 v) (fun _ _ => False) := by
  refine mw_enter (L0 := [(0, .ref a0), (1, .long l1)]) hlt rfl rfl (plainFor_of_name (by decide)) (Nat.le_of_ble_eq_true rfl) rfl ?_
  intro Y hC0 hZ hnL hini0 hn00
  have hC : mw_C G l _ Y cX5_hashClips RX5 := hC0
  have B25 : ∀ (r0 : Nat) (l3 : Int64) (x5 : Int32) (x6 : Int32) (K13 : Int64 → Int32 → Prop) (hK13 : ∀ (l3_ : Int64) (x5_ : Int32), K13 l3_ x5_ → mw_J Y 0 0 n M 13 [(0, .ref r0), (3, .long l3_), (5, .int x5_)] []) (h : w_X5_hashClips_b25 n M r0 l3 x5 x6 Q K13), mw_J Y 0 0 n M 25 [(0, .ref r0), (3, .long l3), (5, .int x5), (6, .int x6)] [] := by
    intro r0 l3 x5 x6 K13 hK13 h
    obtain ⟨Inv, mu, h0, hs⟩ := h
    refine mw_loop2 (fun (l3 : Int64) (x6 : Int32) => mw_J Y 0 0 n M 25 [(0, .ref r0), (3, .long l3), (5, .int x5), (6, .int x6)] []) Inv mu (fun l3 x6 hI hrec => ?_) l3 x6 h0
    have h := hs l3 x6 hI
    refine jr_iload (j := 3) hC dX5_hashClips_25 rfl ?_
    refine jr_bipush (v := (8 : Int32)) hC dX5_hashClips_27 (by decide) ?_
    obtain ⟨hthb1, hfhb1⟩ := h
    refine jr_ic_gt (tgt := 56) hC dX5_hashClips_29 (by decide) (fun hb1 => ?_) (fun hb1 => ?_)
    · have h := hthb1 hb1
      obtain ⟨v2, ev2⟩ : ∃ y : Int32, y = (x5 + (1 : Int32)) := ⟨_, rfl⟩
      have h := h v2 ev2
      refine jr_iinc (j := 2) (v := v2) (L1 := [(5, .int v2), (0, .ref r0), (3, .long l3), (6, .int x6)]) hC dX5_hashClips_56 rfl (by rw [ev2]; rfl) hnL (by decide) rfl ?_
      refine jr_goto (tgt := 13) hC dX5_hashClips_59 (by decide) ?_
      refine jr_sub [1, 2, 0] (L1 := [(0, .ref r0), (3, .long l3), (5, .int v2)]) rfl ?_
      exact hK13 l3 v2 h
    · have h := hfhb1 hb1
      refine jr_lload_n (j := 1) hC dX5_hashClips_32 rfl rfl ?_
      refine jr_aload_n (j := 0) hC dX5_hashClips_33 rfl rfl ?_
      obtain ⟨hc3, h⟩ := h
      refine jr_get2 hC fl_RX5_19 hc3 dX5_hashClips_34 ?_
      refine jr_iload (j := 2) hC dX5_hashClips_37 rfl ?_
      obtain ⟨hc4, h⟩ := h
      obtain ⟨hc5, h⟩ := h
      refine jr_aald (t := 14) hC (by decide) (by decide) hc4 hc5 dX5_hashClips_39 ?_
      refine jr_iload (j := 3) hC dX5_hashClips_40 rfl ?_
      obtain ⟨hc6, h⟩ := h
      refine jr_callV_pi (As := [.int x6]) (st := [.long l3]) hC nc_RX5_190 (c_X0_property hlt h) hc6 rfl rfl ⟨⟨rfl, rfl⟩, ⟨by decide, by decide⟩, by decide, by decide⟩ (Nat.le_of_ble_eq_true rfl) dX5_hashClips_42 (fun v7 h => ?_)
      refine jr_i2l hC dX5_hashClips_45 ?_
      refine jr_callSn_pj (As := [.long l3, .long (Int32.toInt64 v7)]) (st := []) hC nc_RX5_172 (c_X7_hashed hlt h) rfl rfl ⟨⟨rfl, rfl⟩, ⟨by decide, by decide⟩, by decide, by decide⟩ (Nat.le_of_ble_eq_true rfl) dX5_hashClips_46 (fun w8 h => ?_)
      refine jr_lstore_n (L1 := [(3, .long w8), (0, .ref r0), (5, .int x5), (6, .int x6)]) hC dX5_hashClips_49 rfl hnL (by decide) rfl ?_
      obtain ⟨v9, ev9⟩ : ∃ y : Int32, y = (x6 + (1 : Int32)) := ⟨_, rfl⟩
      have h := h v9 ev9
      refine jr_iinc (j := 3) (v := v9) (L1 := [(6, .int v9), (3, .long w8), (0, .ref r0), (5, .int x5)]) hC dX5_hashClips_50 rfl (by rw [ev9]; rfl) hnL (by decide) rfl ?_
      refine jr_goto (tgt := 25) hC dX5_hashClips_53 (by decide) ?_
      refine jr_sub [2, 1, 3, 0] (L1 := [(0, .ref r0), (3, .long w8), (5, .int x5), (6, .int v9)]) rfl ?_
      exact hrec w8 v9 h
  have B13 : ∀ (r0 : Nat) (l3 : Int64) (x5 : Int32) (h : w_X5_hashClips_b13 n M r0 l3 x5 Q), mw_J Y 0 0 n M 13 [(0, .ref r0), (3, .long l3), (5, .int x5)] [] := by
    intro r0 l3 x5 h
    obtain ⟨Inv, mu, h0, hs⟩ := h
    refine mw_loop2 (fun (l3 : Int64) (x5 : Int32) => mw_J Y 0 0 n M 13 [(0, .ref r0), (3, .long l3), (5, .int x5)] []) Inv mu (fun l3 x5 hI hrec => ?_) l3 x5 h0
    have h := hs l3 x5 hI
    refine jr_iload (j := 2) hC dX5_hashClips_13 rfl ?_
    refine jr_aload_n (j := 0) hC dX5_hashClips_15 rfl rfl ?_
    obtain ⟨hc10, h⟩ := h
    refine jr_get0 hC fl_RX5_50 hc10 dX5_hashClips_16 ?_
    obtain ⟨hthb11, hfhb11⟩ := h
    refine jr_ic_ge (tgt := 62) hC dX5_hashClips_19 (by decide) (fun hb11 => ?_) (fun hb11 => ?_)
    · have h := hthb11 hb11
      refine jr_lload_n (j := 1) hC dX5_hashClips_62 rfl rfl ?_
      exact jr_lret hC hZ (by decide) (by decide) dX5_hashClips_63 ⟨rfl, rfl, _, rfl, h⟩
    · have h := hfhb11 hb11
      refine jr_iconst (v := (0 : Int32)) hC dX5_hashClips_22 (by decide) ?_
      refine jr_istore (L1 := [(6, .int (0 : Int32)), (0, .ref r0), (3, .long l3), (5, .int x5)]) hC dX5_hashClips_23 hnL (by decide) rfl ?_
      refine jr_sub [1, 2, 3, 0] (L1 := [(0, .ref r0), (3, .long l3), (5, .int x5), (6, .int (0 : Int32))]) rfl ?_
      exact B25 r0 l3 x5 (0 : Int32) (fun (l3_ : Int64) (x5_ : Int32) => Inv l3_ x5_ ∧ mu l3_ x5_ < mu l3 x5) (fun l3_ x5_ h9 => hrec l3_ x5_ h9) h
  unfold w_X5_hashClips at h
  refine jr_lload_n (j := 1) hC dX5_hashClips_0 rfl rfl ?_
  refine jr_aload_n (j := 0) hC dX5_hashClips_1 rfl rfl ?_
  obtain ⟨hc12, h⟩ := h
  refine jr_get0 hC fl_RX5_50 hc12 dX5_hashClips_2 ?_
  refine jr_i2l hC dX5_hashClips_5 ?_
  refine jr_callSn_pj (As := [.long l1, .long (Int32.toInt64 (mI M a0 2))]) (st := []) hC nc_RX5_172 (c_X7_hashed hlt h) rfl rfl ⟨⟨rfl, rfl⟩, ⟨by decide, by decide⟩, by decide, by decide⟩ (Nat.le_of_ble_eq_true rfl) dX5_hashClips_6 (fun w13 h => ?_)
  refine jr_lstore_n (L1 := [(3, .long w13), (0, .ref a0), (1, .long l1)]) hC dX5_hashClips_9 rfl hnL (by decide) rfl ?_
  refine jr_iconst (v := (0 : Int32)) hC dX5_hashClips_10 (by decide) ?_
  refine jr_istore (L1 := [(5, .int (0 : Int32)), (3, .long w13), (0, .ref a0), (1, .long l1)]) hC dX5_hashClips_11 hnL (by decide) rfl ?_
  refine jr_sub [2, 1, 0] (L1 := [(0, .ref a0), (3, .long w13), (5, .int (0 : Int32))]) rfl ?_
  exact B13 a0 w13 (0 : Int32) h
set_option maxHeartbeats 4000000 in
set_option maxRecDepth 100000 in
theorem c_X6_isHeard {G : mw_G} {l : Launch} (hlt : l.stackTraces = false) {n : Nat} {M : mw_M} {a0 : Nat} {x1 : Int32} {Q : Int32 → Prop} (h : w_X6_isHeard n M a0 x1 Q) : mw_Met G l yX6_isHeard (.code yX6_isHeard cX6_isHeard 2 (some .boolean)) { frames := 0, cells := 0, slots := 0, locals := 0 } n M [.ref a0, .int x1] (fun n1 M1 v => n1 = n ∧ mw_pI M Q M1 v) (fun _ _ => False) := by
  refine mw_enter (L0 := [(0, .ref a0), (1, .int x1)]) hlt rfl rfl (plainFor_of_name (by decide)) (Nat.le_of_ble_eq_true rfl) rfl ?_
  intro Y hC0 hZ hnL hini0 hn00
  have hC : mw_C G l _ Y cX6_isHeard RX6 := hC0
  have B23 : ∀ (s0 : Int32) (h : w_X6_isHeard_b23 n M s0 Q), mw_J Y 0 0 n M 23 [] [.int s0] := by
    intro s0 h
    unfold w_X6_isHeard_b23 at h
    obtain ⟨hc1, h⟩ := h
    exact jr_iretz hC hZ (by decide) (by decide) hc1 dX6_isHeard_23 ⟨rfl, rfl, _, rfl, h⟩
  have B22 : (w_X6_isHeard_b22 n M Q) → mw_J Y 0 0 n M 22 [] [] := by
    intro  h
    unfold w_X6_isHeard_b22 at h
    refine jr_iconst (v := (0 : Int32)) hC dX6_isHeard_22 (by decide) ?_
    exact B23 (0 : Int32) h
  have B18 : (w_X6_isHeard_b18 n M Q) → mw_J Y 0 0 n M 18 [] [] := by
    intro  h
    unfold w_X6_isHeard_b18 at h
    refine jr_iconst (v := (1 : Int32)) hC dX6_isHeard_18 (by decide) ?_
    refine jr_goto (tgt := 23) hC dX6_isHeard_19 (by decide) ?_
    exact B23 (1 : Int32) h
  unfold w_X6_isHeard at h
  refine jr_aload_n (j := 0) hC dX6_isHeard_0 rfl rfl ?_
  obtain ⟨hc2, h⟩ := h
  refine jr_get0 hC fl_RX6_32 hc2 dX6_isHeard_1 ?_
  obtain ⟨hthb3, hfhb3⟩ := h
  refine jr_if_ne (tgt := 22) hC dX6_isHeard_4 (by decide) (fun hb3 => ?_) (fun hb3 => ?_)
  · have h := hthb3 hb3
    refine jr_sub [] (L1 := []) rfl ?_
    exact B22 h
  · have h := hfhb3 hb3
    refine jr_iload_n (j := 1) hC dX6_isHeard_7 rfl rfl ?_
    obtain ⟨hthb4, hfhb4⟩ := h
    refine jr_if_eq (tgt := 18) hC dX6_isHeard_8 (by decide) (fun hb4 => ?_) (fun hb4 => ?_)
    · have h := hthb4 hb4
      refine jr_sub [] (L1 := []) rfl ?_
      exact B18 h
    · have h := hfhb4 hb4
      refine jr_aload_n (j := 0) hC dX6_isHeard_11 rfl rfl ?_
      refine jr_get0 hC fl_RX6_36 hc2 dX6_isHeard_12 ?_
      obtain ⟨hthb5, hfhb5⟩ := h
      refine jr_if_eq (tgt := 22) hC dX6_isHeard_15 (by decide) (fun hb5 => ?_) (fun hb5 => ?_)
      · have h := hthb5 hb5
        refine jr_sub [] (L1 := []) rfl ?_
        exact B22 h
      · have h := hfhb5 hb5
        refine jr_sub [] (L1 := []) rfl ?_
        exact B18 h
set_option maxHeartbeats 4000000 in
set_option maxRecDepth 100000 in
theorem c_X6_copyPlace {G : mw_G} {l : Launch} (hlt : l.stackTraces = false) {n : Nat} {M : mw_M} {a0 : Nat} {x1 : Int32} {x2 : Int32} {Q : mw_M → Prop} (h : w_X6_copyPlace n M a0 x1 x2 Q) : mw_Met G l yX6_copyPlace (.code yX6_copyPlace cX6_copyPlace 3 none) { frames := 1, cells := 0, slots := 0, locals := 24 } n M [.ref a0, .int x1, .int x2] (fun n1 M1 v => n1 = n ∧ mw_rV Q M1 v) (fun _ _ => False) := by
  refine mw_enter (L0 := [(0, .ref a0), (1, .int x1), (2, .int x2)]) hlt rfl rfl (plainFor_of_name (by decide)) (Nat.le_of_ble_eq_true rfl) rfl ?_
  intro Y hC0 hZ hnL hini0 hn00
  have hC : mw_C G l _ Y cX6_copyPlace RX6 := hC0
  unfold w_X6_copyPlace at h
  refine jr_aload_n (j := 0) hC dX6_copyPlace_0 rfl rfl ?_
  refine jr_iload_n (j := 1) hC dX6_copyPlace_1 rfl rfl ?_
  refine jr_aload_n (j := 0) hC dX6_copyPlace_2 rfl rfl ?_
  obtain ⟨hc1, h⟩ := h
  refine jr_get2 hC fl_RX6_15 hc1 dX6_copyPlace_3 ?_
  refine jr_iload_n (j := 2) hC dX6_copyPlace_6 rfl rfl ?_
  obtain ⟨hc2, h⟩ := h
  obtain ⟨hc3, h⟩ := h
  refine jr_iald hC hc2 hc3 dX6_copyPlace_7 ?_
  refine jr_aload_n (j := 0) hC dX6_copyPlace_8 rfl rfl ?_
  refine jr_get2 hC fl_RX6_19 hc1 dX6_copyPlace_9 ?_
  refine jr_iload_n (j := 2) hC dX6_copyPlace_12 rfl rfl ?_
  obtain ⟨hc4, h⟩ := h
  obtain ⟨hc5, h⟩ := h
  refine jr_iald hC hc4 hc5 dX6_copyPlace_13 ?_
  refine jr_aload_n (j := 0) hC dX6_copyPlace_14 rfl rfl ?_
  refine jr_get2 hC fl_RX6_22 hc1 dX6_copyPlace_15 ?_
  refine jr_iload_n (j := 2) hC dX6_copyPlace_18 rfl rfl ?_
  obtain ⟨hc6, h⟩ := h
  obtain ⟨hc7, h⟩ := h
  refine jr_zald hC hc6 hc7 dX6_copyPlace_19 ?_
  refine jr_callV_v (As := [.int x1, .int (mI M (mP M a0 5) (Int32.toNatClampNeg x2)), .int (mI M (mP M a0 6) (Int32.toNatClampNeg x2)), .int (mI M (mP M a0 7) (Int32.toNatClampNeg x2))]) (st := []) hC nc_RX6_42 (c_X6_setPlace hlt h) hc1 rfl rfl ⟨⟨rfl, rfl⟩, ⟨by decide, by decide⟩, by decide, by decide⟩ (Nat.le_of_ble_eq_true rfl) dX6_copyPlace_20 (fun M8 h => ?_)
  exact jr_vret hC hZ (by decide) (by decide) dX6_copyPlace_23 ⟨rfl, rfl, h⟩
set_option maxHeartbeats 4000000 in
set_option maxRecDepth 100000 in
theorem c_X6_pointAt {G : mw_G} {l : Launch} (hlt : l.stackTraces = false) {n : Nat} {M : mw_M} {a0 : Nat} {x1 : Int32} {Q : Int32 → Prop} (h : w_X6_pointAt n M a0 x1 Q) : mw_Met G l yX6_pointAt (.code yX6_pointAt cX6_pointAt 3 (some .int)) { frames := 1, cells := 0, slots := 0, locals := 23 } n M [.ref a0, .int x1] (fun n1 M1 v => n1 = n ∧ mw_pI M Q M1 v) (fun _ _ => False) := by
  refine mw_enter (L0 := [(0, .ref a0), (1, .int x1)]) hlt rfl rfl (plainFor_of_name (by decide)) (Nat.le_of_ble_eq_true rfl) rfl ?_
  intro Y hC0 hZ hnL hini0 hn00
  have hC : mw_C G l _ Y cX6_pointAt RX6 := hC0
  have B26 : ∀ (s0 : Int32) (h : w_X6_pointAt_b26 n M s0 Q), mw_J Y 0 0 n M 26 [] [.int s0] := by
    intro s0 h
    unfold w_X6_pointAt_b26 at h
    exact jr_ireti hC hZ (by decide) (by decide) dX6_pointAt_26 ⟨rfl, rfl, _, rfl, h⟩
  have B25 : (w_X6_pointAt_b25 n M Q) → mw_J Y 0 0 n M 25 [] [] := by
    intro  h
    unfold w_X6_pointAt_b25 at h
    refine jr_iconst (v := (-1 : Int32)) hC dX6_pointAt_25 (by decide) ?_
    exact B26 (-1 : Int32) h
  unfold w_X6_pointAt at h
  refine jr_aload_n (j := 0) hC dX6_pointAt_0 rfl rfl ?_
  refine jr_iload_n (j := 1) hC dX6_pointAt_1 rfl rfl ?_
  obtain ⟨hc1, h⟩ := h
  refine jr_callV_pi (As := [.int x1]) (st := []) hC nc_RX6_58 (c_X6_lastPointUpTo hlt h) hc1 rfl rfl ⟨⟨rfl, rfl⟩, ⟨by decide, by decide⟩, by decide, by decide⟩ (Nat.le_of_ble_eq_true rfl) dX6_pointAt_2 (fun v2 h => ?_)
  refine jr_istore_n (L1 := [(2, .int v2), (0, .ref a0), (1, .int x1)]) hC dX6_pointAt_5 rfl hnL (by decide) rfl ?_
  refine jr_iload_n (j := 0) hC dX6_pointAt_6 rfl rfl ?_
  refine jr_iconst (v := (-1 : Int32)) hC dX6_pointAt_7 (by decide) ?_
  obtain ⟨hthb3, hfhb3⟩ := h
  refine jr_ic_eq (tgt := 25) hC dX6_pointAt_8 (by decide) (fun hb3 => ?_) (fun hb3 => ?_)
  · have h := hthb3 hb3
    refine jr_sub [] (L1 := []) rfl ?_
    exact B25 h
  · have h := hfhb3 hb3
    refine jr_aload_n (j := 1) hC dX6_pointAt_11 rfl rfl ?_
    refine jr_get2 hC fl_RX6_15 hc1 dX6_pointAt_12 ?_
    refine jr_iload_n (j := 0) hC dX6_pointAt_15 rfl rfl ?_
    obtain ⟨hc4, h⟩ := h
    obtain ⟨hc5, h⟩ := h
    refine jr_iald hC hc4 hc5 dX6_pointAt_16 ?_
    refine jr_iload_n (j := 2) hC dX6_pointAt_17 rfl rfl ?_
    obtain ⟨hthb6, hfhb6⟩ := h
    refine jr_ic_ne (tgt := 25) hC dX6_pointAt_18 (by decide) (fun hb6 => ?_) (fun hb6 => ?_)
    · have h := hthb6 hb6
      refine jr_sub [] (L1 := []) rfl ?_
      exact B25 h
    · have h := hfhb6 hb6
      refine jr_iload_n (j := 0) hC dX6_pointAt_21 rfl rfl ?_
      refine jr_goto (tgt := 26) hC dX6_pointAt_22 (by decide) ?_
      refine jr_sub [] (L1 := []) rfl ?_
      exact B26 v2 h
set_option maxHeartbeats 4000000 in
set_option maxRecDepth 100000 in
theorem c_X6_putPoint {G : mw_G} {l : Launch} (hlt : l.stackTraces = false) {n : Nat} {M : mw_M} {a0 : Nat} {x1 : Int32} {x2 : Int32} {x3 : Int32} {Q : mw_M → Prop} (h : w_X6_putPoint n M a0 x1 x2 x3 Q) : mw_Met G l yX6_putPoint (.code yX6_putPoint cX6_putPoint 6 none) { frames := 2, cells := 0, slots := 0, locals := 46 } n M [.ref a0, .int x1, .int x2, .int x3] (fun n1 M1 v => n1 = n ∧ mw_rV Q M1 v) (fun _ _ => False) := by
  refine mw_enter (L0 := [(0, .ref a0), (1, .int x1), (2, .int x2), (3, .int x3)]) hlt rfl rfl (plainFor_of_name (by decide)) (Nat.le_of_ble_eq_true rfl) rfl ?_
  intro Y hC0 hZ hnL hini0 hn00
  have hC : mw_C G l _ Y cX6_putPoint RX6 := hC0
  have B76 : ∀ (M : mw_M) (r0 : Nat) (x1 : Int32) (x2 : Int32) (x3 : Int32) (x4 : Int32) (h : w_X6_putPoint_b76 n M r0 x1 x2 x3 x4 Q), mw_J Y 0 0 n M 76 [(0, .ref r0), (1, .int x1), (2, .int x2), (3, .int x3), (4, .int x4)] [] := by
    intro M r0 x1 x2 x3 x4 h
    unfold w_X6_putPoint_b76 at h
    refine jr_aload_n (j := 0) hC dX6_putPoint_76 rfl rfl ?_
    refine jr_iload (j := 4) hC dX6_putPoint_77 rfl ?_
    refine jr_iload_n (j := 1) hC dX6_putPoint_79 rfl rfl ?_
    refine jr_iload_n (j := 2) hC dX6_putPoint_80 rfl rfl ?_
    refine jr_iload_n (j := 3) hC dX6_putPoint_81 rfl rfl ?_
    obtain ⟨hc1, h⟩ := h
    refine jr_callV_v (As := [.int x4, .int x1, .int x2, .int x3]) (st := []) hC nc_RX6_42 (c_X6_setPlace hlt h) hc1 rfl rfl ⟨⟨rfl, rfl⟩, ⟨by decide, by decide⟩, by decide, by decide⟩ (Nat.le_of_ble_eq_true rfl) dX6_putPoint_82 (fun M2 h => ?_)
    exact jr_vret hC hZ (by decide) (by decide) dX6_putPoint_85 ⟨rfl, rfl, h⟩
  have B43 : ∀ (M : mw_M) (r0 : Nat) (x1 : Int32) (x2 : Int32) (x3 : Int32) (x4 : Int32) (x5 : Int32) (h : w_X6_putPoint_b43 n M r0 x1 x2 x3 x4 x5 Q), mw_J Y 0 0 n M 43 [(0, .ref r0), (1, .int x1), (2, .int x2), (3, .int x3), (4, .int x4), (5, .int x5)] [] := by
    intro M r0 x1 x2 x3 x4 x5 h
    obtain ⟨Inv, mu, h0, hs⟩ := h
    refine mw_loop2 (fun (M : mw_M) (x5 : Int32) => mw_J Y 0 0 n M 43 [(0, .ref r0), (1, .int x1), (2, .int x2), (3, .int x3), (4, .int x4), (5, .int x5)] []) Inv mu (fun M x5 hI hrec => ?_) M x5 h0
    have h := hs M x5 hI
    refine jr_iload (j := 5) hC dX6_putPoint_43 rfl ?_
    refine jr_iload (j := 4) hC dX6_putPoint_45 rfl ?_
    obtain ⟨hthb3, hfhb3⟩ := h
    refine jr_ic_le (tgt := 66) hC dX6_putPoint_47 (by decide) (fun hb3 => ?_) (fun hb3 => ?_)
    · have h := hthb3 hb3
      refine jr_aload_n (j := 0) hC dX6_putPoint_66 rfl rfl ?_
      refine jr_dup hC dX6_putPoint_67 rfl ?_
      obtain ⟨hc4, h⟩ := h
      refine jr_get0 hC fl_RX6_39 hc4 dX6_putPoint_68 ?_
      refine jr_iconst (v := (1 : Int32)) hC dX6_putPoint_71 (by decide) ?_
      refine jr_iadd hC dX6_putPoint_72 ?_
      obtain ⟨M5, eM5⟩ : ∃ y : mw_M, y = sI M r0 4 ((mI M r0 4) + (1 : Int32)) := ⟨_, rfl⟩
      have h := h M5 eM5
      refine jr_putI hC fp_RX6_39 hc4 eM5 dX6_putPoint_73 ?_
      refine jr_sub [0, 1, 2, 3, 4] (L1 := [(0, .ref r0), (1, .int x1), (2, .int x2), (3, .int x3), (4, .int x4)]) rfl ?_
      exact B76 M5 r0 x1 x2 x3 x4 h
    · have h := hfhb3 hb3
      refine jr_aload_n (j := 0) hC dX6_putPoint_50 rfl rfl ?_
      refine jr_iload (j := 5) hC dX6_putPoint_51 rfl ?_
      refine jr_iload (j := 5) hC dX6_putPoint_53 rfl ?_
      refine jr_iconst (v := (1 : Int32)) hC dX6_putPoint_55 (by decide) ?_
      refine jr_isub hC dX6_putPoint_56 ?_
      obtain ⟨hc6, h⟩ := h
      refine jr_callV_v (As := [.int x5, .int (x5 - (1 : Int32))]) (st := []) hC nc_RX6_62 (c_X6_copyPlace hlt h) hc6 rfl rfl ⟨⟨rfl, rfl⟩, ⟨by decide, by decide⟩, by decide, by decide⟩ (Nat.le_of_ble_eq_true rfl) dX6_putPoint_57 (fun M7 h => ?_)
      obtain ⟨v8, ev8⟩ : ∃ y : Int32, y = (x5 + (-1 : Int32)) := ⟨_, rfl⟩
      have h := h v8 ev8
      refine jr_iinc (j := 5) (v := v8) (L1 := [(5, .int v8), (0, .ref r0), (1, .int x1), (2, .int x2), (3, .int x3), (4, .int x4)]) hC dX6_putPoint_60 rfl (by rw [ev8]; rfl) hnL (by decide) rfl ?_
      refine jr_goto (tgt := 43) hC dX6_putPoint_63 (by decide) ?_
      refine jr_sub [1, 2, 3, 4, 5, 0] (L1 := [(0, .ref r0), (1, .int x1), (2, .int x2), (3, .int x3), (4, .int x4), (5, .int v8)]) rfl ?_
      exact hrec M7 v8 h
  have B24 : ∀ (M : mw_M) (r0 : Nat) (x1 : Int32) (x2 : Int32) (x3 : Int32) (x4 : Int32) (h : w_X6_putPoint_b24 n M r0 x1 x2 x3 x4 Q), mw_J Y 0 0 n M 24 [(0, .ref r0), (1, .int x1), (2, .int x2), (3, .int x3), (4, .int x4)] [] := by
    intro M r0 x1 x2 x3 x4 h
    unfold w_X6_putPoint_b24 at h
    refine jr_aload_n (j := 0) hC dX6_putPoint_24 rfl rfl ?_
    obtain ⟨hc9, h⟩ := h
    refine jr_get0 hC fl_RX6_39 hc9 dX6_putPoint_25 ?_
    refine jr_bipush (v := (8 : Int32)) hC dX6_putPoint_28 (by decide) ?_
    obtain ⟨hthb10, hfhb10⟩ := h
    refine jr_ic_lt (tgt := 34) hC dX6_putPoint_30 (by decide) (fun hb10 => ?_) (fun hb10 => ?_)
    · have h := hthb10 hb10
      obtain ⟨v11, ev11⟩ : ∃ y : Int32, y = (x4 + (1 : Int32)) := ⟨_, rfl⟩
      have h := h v11 ev11
      refine jr_iinc (j := 4) (v := v11) (L1 := [(4, .int v11), (0, .ref r0), (1, .int x1), (2, .int x2), (3, .int x3)]) hC dX6_putPoint_34 rfl (by rw [ev11]; rfl) hnL (by decide) rfl ?_
      refine jr_aload_n (j := 1) hC dX6_putPoint_37 rfl rfl ?_
      refine jr_get0 hC fl_RX6_39 hc9 dX6_putPoint_38 ?_
      refine jr_nmI (fun v12 ev12 => ?_)
      have h := h v12 ev12
      refine jr_istore (L1 := [(5, .int v12), (4, .int v11), (0, .ref r0), (1, .int x1), (2, .int x2), (3, .int x3)]) hC dX6_putPoint_41 hnL (by decide) rfl ?_
      refine jr_sub [2, 3, 4, 5, 1, 0] (L1 := [(0, .ref r0), (1, .int x1), (2, .int x2), (3, .int x3), (4, .int v11), (5, .int v12)]) rfl ?_
      exact B43 M r0 x1 x2 x3 v11 v12 h
    · have h := hfhb10 hb10
      exact jr_vret hC hZ (by decide) (by decide) dX6_putPoint_33 ⟨rfl, rfl, h⟩
  unfold w_X6_putPoint at h
  refine jr_aload_n (j := 0) hC dX6_putPoint_0 rfl rfl ?_
  refine jr_iload_n (j := 1) hC dX6_putPoint_1 rfl rfl ?_
  obtain ⟨hc13, h⟩ := h
  refine jr_callV_pi (As := [.int x1]) (st := []) hC nc_RX6_58 (c_X6_lastPointUpTo hlt h) hc13 rfl rfl ⟨⟨rfl, rfl⟩, ⟨by decide, by decide⟩, by decide, by decide⟩ (Nat.le_of_ble_eq_true rfl) dX6_putPoint_2 (fun v14 h => ?_)
  refine jr_istore (L1 := [(4, .int v14), (0, .ref a0), (1, .int x1), (2, .int x2), (3, .int x3)]) hC dX6_putPoint_5 hnL (by decide) rfl ?_
  refine jr_iload (j := 0) hC dX6_putPoint_7 rfl ?_
  refine jr_iconst (v := (-1 : Int32)) hC dX6_putPoint_9 (by decide) ?_
  obtain ⟨hthb15, hfhb15⟩ := h
  refine jr_ic_eq (tgt := 24) hC dX6_putPoint_10 (by decide) (fun hb15 => ?_) (fun hb15 => ?_)
  · have h := hthb15 hb15
    refine jr_sub [1, 2, 3, 4, 0] (L1 := [(0, .ref a0), (1, .int x1), (2, .int x2), (3, .int x3), (4, .int v14)]) rfl ?_
    exact B24 M a0 x1 x2 x3 v14 h
  · have h := hfhb15 hb15
    refine jr_aload_n (j := 1) hC dX6_putPoint_13 rfl rfl ?_
    refine jr_get2 hC fl_RX6_15 hc13 dX6_putPoint_14 ?_
    refine jr_iload (j := 0) hC dX6_putPoint_17 rfl ?_
    obtain ⟨hc16, h⟩ := h
    obtain ⟨hc17, h⟩ := h
    refine jr_iald hC hc16 hc17 dX6_putPoint_19 ?_
    refine jr_iload_n (j := 2) hC dX6_putPoint_20 rfl rfl ?_
    obtain ⟨hthb18, hfhb18⟩ := h
    refine jr_ic_eq (tgt := 76) hC dX6_putPoint_21 (by decide) (fun hb18 => ?_) (fun hb18 => ?_)
    · have h := hthb18 hb18
      refine jr_sub [1, 2, 3, 4, 0] (L1 := [(0, .ref a0), (1, .int x1), (2, .int x2), (3, .int x3), (4, .int v14)]) rfl ?_
      exact B76 M a0 x1 x2 x3 v14 h
    · have h := hfhb18 hb18
      refine jr_sub [1, 2, 3, 4, 0] (L1 := [(0, .ref a0), (1, .int x1), (2, .int x2), (3, .int x3), (4, .int v14)]) rfl ?_
      exact B24 M a0 x1 x2 x3 v14 h
set_option maxHeartbeats 4000000 in
set_option maxRecDepth 100000 in
theorem c_X6_dropPoint {G : mw_G} {l : Launch} (hlt : l.stackTraces = false) {n : Nat} {M : mw_M} {a0 : Nat} {x1 : Int32} {Q : mw_M → Prop} (h : w_X6_dropPoint n M a0 x1 Q) : mw_Met G l yX6_dropPoint (.code yX6_dropPoint cX6_dropPoint 3 none) { frames := 2, cells := 0, slots := 0, locals := 46 } n M [.ref a0, .int x1] (fun n1 M1 v => n1 = n ∧ mw_rV Q M1 v) (fun _ _ => False) := by
  refine mw_enter (L0 := [(0, .ref a0), (1, .int x1)]) hlt rfl rfl (plainFor_of_name (by decide)) (Nat.le_of_ble_eq_true rfl) rfl ?_
  intro Y hC0 hZ hnL hini0 hn00
  have hC : mw_C G l _ Y cX6_dropPoint RX6 := hC0
  have B4 : ∀ (M : mw_M) (r0 : Nat) (x2 : Int32) (h : w_X6_dropPoint_b4 n M r0 x2 Q), mw_J Y 0 0 n M 4 [(0, .ref r0), (2, .int x2)] [] := by
    intro M r0 x2 h
    obtain ⟨Inv, mu, h0, hs⟩ := h
    refine mw_loop2 (fun (M : mw_M) (x2 : Int32) => mw_J Y 0 0 n M 4 [(0, .ref r0), (2, .int x2)] []) Inv mu (fun M x2 hI hrec => ?_) M x2 h0
    have h := hs M x2 hI
    refine jr_iload_n (j := 1) hC dX6_dropPoint_4 rfl rfl ?_
    refine jr_aload_n (j := 0) hC dX6_dropPoint_5 rfl rfl ?_
    obtain ⟨hc1, h⟩ := h
    refine jr_get0 hC fl_RX6_39 hc1 dX6_dropPoint_6 ?_
    obtain ⟨hthb2, hfhb2⟩ := h
    refine jr_ic_ge (tgt := 26) hC dX6_dropPoint_9 (by decide) (fun hb2 => ?_) (fun hb2 => ?_)
    · have h := hthb2 hb2
      refine jr_aload_n (j := 0) hC dX6_dropPoint_26 rfl rfl ?_
      refine jr_dup hC dX6_dropPoint_27 rfl ?_
      refine jr_get0 hC fl_RX6_39 hc1 dX6_dropPoint_28 ?_
      refine jr_iconst (v := (1 : Int32)) hC dX6_dropPoint_31 (by decide) ?_
      refine jr_isub hC dX6_dropPoint_32 ?_
      obtain ⟨M3, eM3⟩ : ∃ y : mw_M, y = sI M r0 4 ((mI M r0 4) - (1 : Int32)) := ⟨_, rfl⟩
      have h := h M3 eM3
      refine jr_putI hC fp_RX6_39 hc1 eM3 dX6_dropPoint_33 ?_
      exact jr_vret hC hZ (by decide) (by decide) dX6_dropPoint_36 ⟨rfl, rfl, h⟩
    · have h := hfhb2 hb2
      refine jr_aload_n (j := 0) hC dX6_dropPoint_12 rfl rfl ?_
      refine jr_iload_n (j := 1) hC dX6_dropPoint_13 rfl rfl ?_
      refine jr_iconst (v := (1 : Int32)) hC dX6_dropPoint_14 (by decide) ?_
      refine jr_isub hC dX6_dropPoint_15 ?_
      refine jr_iload_n (j := 1) hC dX6_dropPoint_16 rfl rfl ?_
      refine jr_callV_v (As := [.int (x2 - (1 : Int32)), .int x2]) (st := []) hC nc_RX6_62 (c_X6_copyPlace hlt h) hc1 rfl rfl ⟨⟨rfl, rfl⟩, ⟨by decide, by decide⟩, by decide, by decide⟩ (Nat.le_of_ble_eq_true rfl) dX6_dropPoint_17 (fun M4 h => ?_)
      obtain ⟨v5, ev5⟩ : ∃ y : Int32, y = (x2 + (1 : Int32)) := ⟨_, rfl⟩
      have h := h v5 ev5
      refine jr_iinc (j := 1) (v := v5) (L1 := [(2, .int v5), (0, .ref r0)]) hC dX6_dropPoint_20 rfl (by rw [ev5]; rfl) hnL (by decide) rfl ?_
      refine jr_goto (tgt := 4) hC dX6_dropPoint_23 (by decide) ?_
      refine jr_sub [1, 0] (L1 := [(0, .ref r0), (2, .int v5)]) rfl ?_
      exact hrec M4 v5 h
  unfold w_X6_dropPoint at h
  refine jr_iload_n (j := 1) hC dX6_dropPoint_0 rfl rfl ?_
  refine jr_iconst (v := (1 : Int32)) hC dX6_dropPoint_1 (by decide) ?_
  refine jr_iadd hC dX6_dropPoint_2 ?_
  refine jr_nmI (fun v6 ev6 => ?_)
  have h := h v6 ev6
  refine jr_istore_n (L1 := [(2, .int v6), (0, .ref a0), (1, .int x1)]) hC dX6_dropPoint_3 rfl hnL (by decide) rfl ?_
  refine jr_sub [1, 0] (L1 := [(0, .ref a0), (2, .int v6)]) rfl ?_
  exact B4 M a0 v6 h
set_option maxHeartbeats 4000000 in
set_option maxRecDepth 100000 in
theorem c_X6_hashTrack {G : mw_G} {l : Launch} (hlt : l.stackTraces = false) {n : Nat} {M : mw_M} {a0 : Nat} {l1 : Int64} {Q : Int64 → Prop} (h : w_X6_hashTrack n M a0 l1 Q) : mw_Met G l yX6_hashTrack (.code yX6_hashTrack cX6_hashTrack 6 (some .long)) { frames := 1, cells := 0, slots := 0, locals := 23 } n M [.ref a0, .long l1] (fun n1 M1 v => n1 = n ∧ mw_pJ M Q M1 v) (fun _ _ => False) := by
  refine mw_enter (L0 := [(0, .ref a0), (1, .long l1)]) hlt rfl rfl (plainFor_of_name (by decide)) (Nat.le_of_ble_eq_true rfl) rfl ?_
  intro Y hC0 hZ hnL hini0 hn00
  have hC : mw_C G l _ Y cX6_hashTrack RX6 := hC0
  have B176 : ∀ (l3 : Int64) (h : w_X6_hashTrack_b176 n M l3 Q), mw_J Y 0 0 n M 176 [(3, .long l3)] [] := by
    intro l3 h
    unfold w_X6_hashTrack_b176 at h
    refine jr_lload_n (j := 0) hC dX6_hashTrack_176 rfl rfl ?_
    exact jr_lret hC hZ (by decide) (by decide) dX6_hashTrack_177 ⟨rfl, rfl, _, rfl, h⟩
  have B112 : ∀ (r0 : Nat) (x5 : Int32) (s0l : Int64) (s1l : Int64) (K63 : Int64 → Int32 → Prop) (hK63 : ∀ (l3_ : Int64) (x5_ : Int32), K63 l3_ x5_ → mw_J Y 0 0 n M 63 [(0, .ref r0), (3, .long l3_), (5, .int x5_)] []) (h : w_X6_hashTrack_b112 n M r0 x5 s0l s1l Q K63), mw_J Y 0 0 n M 112 [(0, .ref r0), (5, .int x5)] [.long s0l, .long s1l] := by
    intro r0 x5 s0l s1l K63 hK63 h
    unfold w_X6_hashTrack_b112 at h
    refine jr_callSn_pj (As := [.long s1l, .long s0l]) (st := []) hC nc_RX6_72 (c_X7_hashed hlt h) rfl rfl ⟨⟨rfl, rfl⟩, ⟨by decide, by decide⟩, by decide, by decide⟩ (Nat.le_of_ble_eq_true rfl) dX6_hashTrack_112 (fun w1 h => ?_)
    refine jr_lstore_n (L1 := [(3, .long w1), (0, .ref r0), (5, .int x5)]) hC dX6_hashTrack_115 rfl hnL (by decide) rfl ?_
    obtain ⟨v2, ev2⟩ : ∃ y : Int32, y = (x5 + (1 : Int32)) := ⟨_, rfl⟩
    have h := h v2 ev2
    refine jr_iinc (j := 2) (v := v2) (L1 := [(5, .int v2), (3, .long w1), (0, .ref r0)]) hC dX6_hashTrack_116 rfl (by rw [ev2]; rfl) hnL (by decide) rfl ?_
    refine jr_goto (tgt := 63) hC dX6_hashTrack_119 (by decide) ?_
    refine jr_sub [2, 1, 0] (L1 := [(0, .ref r0), (3, .long w1), (5, .int v2)]) rfl ?_
    exact hK63 w1 v2 h
  have B63 : ∀ (r0 : Nat) (l3 : Int64) (x5 : Int32) (h : w_X6_hashTrack_b63 n M r0 l3 x5 Q), mw_J Y 0 0 n M 63 [(0, .ref r0), (3, .long l3), (5, .int x5)] [] := by
    intro r0 l3 x5 h
    obtain ⟨Inv, mu, h0, hs⟩ := h
    refine mw_loop2 (fun (l3 : Int64) (x5 : Int32) => mw_J Y 0 0 n M 63 [(0, .ref r0), (3, .long l3), (5, .int x5)] []) Inv mu (fun l3 x5 hI hrec => ?_) l3 x5 h0
    have h := hs l3 x5 hI
    refine jr_iload (j := 2) hC dX6_hashTrack_63 rfl ?_
    refine jr_aload_n (j := 0) hC dX6_hashTrack_65 rfl rfl ?_
    obtain ⟨hc3, h⟩ := h
    refine jr_get0 hC fl_RX6_39 hc3 dX6_hashTrack_66 ?_
    obtain ⟨hthb4, hfhb4⟩ := h
    refine jr_ic_ge (tgt := 122) hC dX6_hashTrack_69 (by decide) (fun hb4 => ?_) (fun hb4 => ?_)
    · have h := hthb4 hb4
      refine jr_lload_n (j := 1) hC dX6_hashTrack_122 rfl rfl ?_
      refine jr_aload_n (j := 0) hC dX6_hashTrack_123 rfl rfl ?_
      refine jr_get0 hC fl_RX6_26 hc3 dX6_hashTrack_124 ?_
      refine jr_i2l hC dX6_hashTrack_127 ?_
      refine jr_callSn_pj (As := [.long l3, .long (Int32.toInt64 (mI M r0 8))]) (st := []) hC nc_RX6_72 (c_X7_hashed hlt h) rfl rfl ⟨⟨rfl, rfl⟩, ⟨by decide, by decide⟩, by decide, by decide⟩ (Nat.le_of_ble_eq_true rfl) dX6_hashTrack_128 (fun w5 h => ?_)
      refine jr_lstore_n (L1 := [(3, .long w5), (0, .ref r0), (5, .int x5)]) hC dX6_hashTrack_131 rfl hnL (by decide) rfl ?_
      refine jr_aload_n (j := 1) hC dX6_hashTrack_132 rfl rfl ?_
      refine jr_get0 hC fl_RX6_26 hc3 dX6_hashTrack_133 ?_
      refine jr_iconst (v := (-1 : Int32)) hC dX6_hashTrack_136 (by decide) ?_
      obtain ⟨hthb6, hfhb6⟩ := h
      refine jr_ic_eq (tgt := 176) hC dX6_hashTrack_137 (by decide) (fun hb6 => ?_) (fun hb6 => ?_)
      · have h := hthb6 hb6
        refine jr_sub [0] (L1 := [(3, .long w5)]) rfl ?_
        exact B176 w5 h
      · have h := hfhb6 hb6
        refine jr_lload_n (j := 0) hC dX6_hashTrack_140 rfl rfl ?_
        refine jr_aload_n (j := 1) hC dX6_hashTrack_141 rfl rfl ?_
        refine jr_get0 hC fl_RX6_46 hc3 dX6_hashTrack_142 ?_
        refine jr_i2l hC dX6_hashTrack_145 ?_
        refine jr_callSn_pj (As := [.long w5, .long (Int32.toInt64 (mI M r0 9))]) (st := []) hC nc_RX6_72 (c_X7_hashed hlt h) rfl rfl ⟨⟨rfl, rfl⟩, ⟨by decide, by decide⟩, by decide, by decide⟩ (Nat.le_of_ble_eq_true rfl) dX6_hashTrack_146 (fun w7 h => ?_)
        refine jr_aload_n (j := 1) hC dX6_hashTrack_149 rfl rfl ?_
        refine jr_get0 hC fl_RX6_49 hc3 dX6_hashTrack_150 ?_
        refine jr_i2l hC dX6_hashTrack_153 ?_
        refine jr_callSn_pj (As := [.long w7, .long (Int32.toInt64 (mI M r0 10))]) (st := []) hC nc_RX6_72 (c_X7_hashed hlt h) rfl rfl ⟨⟨rfl, rfl⟩, ⟨by decide, by decide⟩, by decide, by decide⟩ (Nat.le_of_ble_eq_true rfl) dX6_hashTrack_154 (fun w8 h => ?_)
        refine jr_lstore_n (L1 := [(3, .long w8), (0, .ref r0), (5, .int x5)]) hC dX6_hashTrack_157 rfl hnL (by decide) rfl ?_
        refine jr_lload_n (j := 0) hC dX6_hashTrack_158 rfl rfl ?_
        refine jr_aload_n (j := 1) hC dX6_hashTrack_159 rfl rfl ?_
        refine jr_get0 hC fl_RX6_52 hc3 dX6_hashTrack_160 ?_
        refine jr_i2l hC dX6_hashTrack_163 ?_
        refine jr_callSn_pj (As := [.long w8, .long (Int32.toInt64 (mI M r0 11))]) (st := []) hC nc_RX6_72 (c_X7_hashed hlt h) rfl rfl ⟨⟨rfl, rfl⟩, ⟨by decide, by decide⟩, by decide, by decide⟩ (Nat.le_of_ble_eq_true rfl) dX6_hashTrack_164 (fun w9 h => ?_)
        refine jr_aload_n (j := 1) hC dX6_hashTrack_167 rfl rfl ?_
        refine jr_get0 hC fl_RX6_55 hc3 dX6_hashTrack_168 ?_
        refine jr_i2l hC dX6_hashTrack_171 ?_
        refine jr_callSn_pj (As := [.long w9, .long (Int32.toInt64 (mI M r0 12))]) (st := []) hC nc_RX6_72 (c_X7_hashed hlt h) rfl rfl ⟨⟨rfl, rfl⟩, ⟨by decide, by decide⟩, by decide, by decide⟩ (Nat.le_of_ble_eq_true rfl) dX6_hashTrack_172 (fun w10 h => ?_)
        refine jr_lstore_n (L1 := [(3, .long w10), (0, .ref r0), (5, .int x5)]) hC dX6_hashTrack_175 rfl hnL (by decide) rfl ?_
        refine jr_sub [0] (L1 := [(3, .long w10)]) rfl ?_
        exact B176 w10 h
    · have h := hfhb4 hb4
      refine jr_lload_n (j := 1) hC dX6_hashTrack_72 rfl rfl ?_
      refine jr_aload_n (j := 0) hC dX6_hashTrack_73 rfl rfl ?_
      refine jr_get2 hC fl_RX6_15 hc3 dX6_hashTrack_74 ?_
      refine jr_iload (j := 2) hC dX6_hashTrack_77 rfl ?_
      obtain ⟨hc11, h⟩ := h
      obtain ⟨hc12, h⟩ := h
      refine jr_iald hC hc11 hc12 dX6_hashTrack_79 ?_
      refine jr_i2l hC dX6_hashTrack_80 ?_
      refine jr_callSn_pj (As := [.long l3, .long (Int32.toInt64 (mI M (mP M r0 5) (Int32.toNatClampNeg x5)))]) (st := []) hC nc_RX6_72 (c_X7_hashed hlt h) rfl rfl ⟨⟨rfl, rfl⟩, ⟨by decide, by decide⟩, by decide, by decide⟩ (Nat.le_of_ble_eq_true rfl) dX6_hashTrack_81 (fun w13 h => ?_)
      refine jr_aload_n (j := 0) hC dX6_hashTrack_84 rfl rfl ?_
      refine jr_get2 hC fl_RX6_19 hc3 dX6_hashTrack_85 ?_
      refine jr_iload (j := 2) hC dX6_hashTrack_88 rfl ?_
      obtain ⟨hc14, h⟩ := h
      obtain ⟨hc15, h⟩ := h
      refine jr_iald hC hc14 hc15 dX6_hashTrack_90 ?_
      refine jr_i2l hC dX6_hashTrack_91 ?_
      refine jr_callSn_pj (As := [.long w13, .long (Int32.toInt64 (mI M (mP M r0 6) (Int32.toNatClampNeg x5)))]) (st := []) hC nc_RX6_72 (c_X7_hashed hlt h) rfl rfl ⟨⟨rfl, rfl⟩, ⟨by decide, by decide⟩, by decide, by decide⟩ (Nat.le_of_ble_eq_true rfl) dX6_hashTrack_92 (fun w16 h => ?_)
      refine jr_lstore_n (L1 := [(3, .long w16), (0, .ref r0), (5, .int x5)]) hC dX6_hashTrack_95 rfl hnL (by decide) rfl ?_
      refine jr_lload_n (j := 0) hC dX6_hashTrack_96 rfl rfl ?_
      refine jr_aload_n (j := 1) hC dX6_hashTrack_97 rfl rfl ?_
      refine jr_get2 hC fl_RX6_22 hc3 dX6_hashTrack_98 ?_
      refine jr_iload (j := 2) hC dX6_hashTrack_101 rfl ?_
      obtain ⟨hc17, h⟩ := h
      obtain ⟨hc18, h⟩ := h
      refine jr_zald hC hc17 hc18 dX6_hashTrack_103 ?_
      obtain ⟨hthb19, hfhb19⟩ := h
      refine jr_if_eq (tgt := 111) hC dX6_hashTrack_104 (by decide) (fun hb19 => ?_) (fun hb19 => ?_)
      · have h := hthb19 hb19
        refine jr_lconst (v := (0 : Int64)) hC dX6_hashTrack_111 (by decide) ?_
        refine jr_sub [1, 2] (L1 := [(0, .ref r0), (5, .int x5)]) rfl ?_
        exact B112 r0 x5 (0 : Int64) w16 (fun (l3_ : Int64) (x5_ : Int32) => Inv l3_ x5_ ∧ mu l3_ x5_ < mu l3 x5) (fun l3_ x5_ h9 => hrec l3_ x5_ h9) h
      · have h := hfhb19 hb19
        refine jr_lconst (v := (1 : Int64)) hC dX6_hashTrack_107 (by decide) ?_
        refine jr_goto (tgt := 112) hC dX6_hashTrack_108 (by decide) ?_
        refine jr_sub [1, 2] (L1 := [(0, .ref r0), (5, .int x5)]) rfl ?_
        exact B112 r0 x5 (1 : Int64) w16 (fun (l3_ : Int64) (x5_ : Int32) => Inv l3_ x5_ ∧ mu l3_ x5_ < mu l3 x5) (fun l3_ x5_ h9 => hrec l3_ x5_ h9) h
  have B46 : ∀ (r0 : Nat) (s0l : Int64) (s1l : Int64) (h : w_X6_hashTrack_b46 n M r0 s0l s1l Q), mw_J Y 0 0 n M 46 [(0, .ref r0)] [.long s0l, .long s1l] := by
    intro r0 s0l s1l h
    unfold w_X6_hashTrack_b46 at h
    refine jr_callSn_pj (As := [.long s1l, .long s0l]) (st := []) hC nc_RX6_72 (c_X7_hashed hlt h) rfl rfl ⟨⟨rfl, rfl⟩, ⟨by decide, by decide⟩, by decide, by decide⟩ (Nat.le_of_ble_eq_true rfl) dX6_hashTrack_46 (fun w20 h => ?_)
    refine jr_lstore_n (L1 := [(3, .long w20), (0, .ref r0)]) hC dX6_hashTrack_49 rfl hnL (by decide) rfl ?_
    refine jr_lload_n (j := 0) hC dX6_hashTrack_50 rfl rfl ?_
    refine jr_aload_n (j := 1) hC dX6_hashTrack_51 rfl rfl ?_
    obtain ⟨hc21, h⟩ := h
    refine jr_get0 hC fl_RX6_39 hc21 dX6_hashTrack_52 ?_
    refine jr_i2l hC dX6_hashTrack_55 ?_
    refine jr_callSn_pj (As := [.long w20, .long (Int32.toInt64 (mI M r0 4))]) (st := []) hC nc_RX6_72 (c_X7_hashed hlt h) rfl rfl ⟨⟨rfl, rfl⟩, ⟨by decide, by decide⟩, by decide, by decide⟩ (Nat.le_of_ble_eq_true rfl) dX6_hashTrack_56 (fun w22 h => ?_)
    refine jr_lstore_n (L1 := [(3, .long w22), (0, .ref r0)]) hC dX6_hashTrack_59 rfl hnL (by decide) rfl ?_
    refine jr_iconst (v := (0 : Int32)) hC dX6_hashTrack_60 (by decide) ?_
    refine jr_istore (L1 := [(5, .int (0 : Int32)), (3, .long w22), (0, .ref r0)]) hC dX6_hashTrack_61 hnL (by decide) rfl ?_
    refine jr_sub [2, 1, 0] (L1 := [(0, .ref r0), (3, .long w22), (5, .int (0 : Int32))]) rfl ?_
    exact B63 r0 w22 (0 : Int32) h
  have B31 : ∀ (r0 : Nat) (s0l : Int64) (s1l : Int64) (h : w_X6_hashTrack_b31 n M r0 s0l s1l Q), mw_J Y 0 0 n M 31 [(0, .ref r0)] [.long s0l, .long s1l] := by
    intro r0 s0l s1l h
    unfold w_X6_hashTrack_b31 at h
    refine jr_callSn_pj (As := [.long s1l, .long s0l]) (st := []) hC nc_RX6_72 (c_X7_hashed hlt h) rfl rfl ⟨⟨rfl, rfl⟩, ⟨by decide, by decide⟩, by decide, by decide⟩ (Nat.le_of_ble_eq_true rfl) dX6_hashTrack_31 (fun w23 h => ?_)
    refine jr_aload_n (j := 0) hC dX6_hashTrack_34 rfl rfl ?_
    obtain ⟨hc24, h⟩ := h
    refine jr_get0 hC fl_RX6_36 hc24 dX6_hashTrack_35 ?_
    obtain ⟨hthb25, hfhb25⟩ := h
    refine jr_if_eq (tgt := 45) hC dX6_hashTrack_38 (by decide) (fun hb25 => ?_) (fun hb25 => ?_)
    · have h := hthb25 hb25
      refine jr_lconst (v := (0 : Int64)) hC dX6_hashTrack_45 (by decide) ?_
      exact B46 r0 (0 : Int64) w23 h
    · have h := hfhb25 hb25
      refine jr_lconst (v := (1 : Int64)) hC dX6_hashTrack_41 (by decide) ?_
      refine jr_goto (tgt := 46) hC dX6_hashTrack_42 (by decide) ?_
      exact B46 r0 (1 : Int64) w23 h
  unfold w_X6_hashTrack at h
  refine jr_lload_n (j := 1) hC dX6_hashTrack_0 rfl rfl ?_
  refine jr_aload_n (j := 0) hC dX6_hashTrack_1 rfl rfl ?_
  obtain ⟨hc26, h⟩ := h
  refine jr_get0 hC fl_RX6_9 hc26 dX6_hashTrack_2 ?_
  refine jr_i2l hC dX6_hashTrack_5 ?_
  refine jr_callSn_pj (As := [.long l1, .long (Int32.toInt64 (mI M a0 0))]) (st := []) hC nc_RX6_72 (c_X7_hashed hlt h) rfl rfl ⟨⟨rfl, rfl⟩, ⟨by decide, by decide⟩, by decide, by decide⟩ (Nat.le_of_ble_eq_true rfl) dX6_hashTrack_6 (fun w27 h => ?_)
  refine jr_aload_n (j := 0) hC dX6_hashTrack_9 rfl rfl ?_
  refine jr_get0 hC fl_RX6_29 hc26 dX6_hashTrack_10 ?_
  refine jr_i2l hC dX6_hashTrack_13 ?_
  refine jr_callSn_pj (As := [.long w27, .long (Int32.toInt64 (mI M a0 1))]) (st := []) hC nc_RX6_72 (c_X7_hashed hlt h) rfl rfl ⟨⟨rfl, rfl⟩, ⟨by decide, by decide⟩, by decide, by decide⟩ (Nat.le_of_ble_eq_true rfl) dX6_hashTrack_14 (fun w28 h => ?_)
  refine jr_lstore_n (L1 := [(3, .long w28), (0, .ref a0), (1, .long l1)]) hC dX6_hashTrack_17 rfl hnL (by decide) rfl ?_
  refine jr_lload_n (j := 0) hC dX6_hashTrack_18 rfl rfl ?_
  refine jr_aload_n (j := 1) hC dX6_hashTrack_19 rfl rfl ?_
  refine jr_get0 hC fl_RX6_32 hc26 dX6_hashTrack_20 ?_
  obtain ⟨hthb29, hfhb29⟩ := h
  refine jr_if_eq (tgt := 30) hC dX6_hashTrack_23 (by decide) (fun hb29 => ?_) (fun hb29 => ?_)
  · have h := hthb29 hb29
    refine jr_lconst (v := (0 : Int64)) hC dX6_hashTrack_30 (by decide) ?_
    refine jr_sub [1] (L1 := [(0, .ref a0)]) rfl ?_
    exact B31 a0 (0 : Int64) w28 h
  · have h := hfhb29 hb29
    refine jr_lconst (v := (1 : Int64)) hC dX6_hashTrack_26 (by decide) ?_
    refine jr_goto (tgt := 31) hC dX6_hashTrack_27 (by decide) ?_
    refine jr_sub [1] (L1 := [(0, .ref a0)]) rfl ?_
    exact B31 a0 (1 : Int64) w28 h
set_option maxHeartbeats 4000000 in
set_option maxRecDepth 100000 in
theorem c_X7_init {G : mw_G} {l : Launch} (hlt : l.stackTraces = false) {n : Nat} {M : mw_M} {a0 : Nat} {Q : Nat → mw_M → Prop} (h : w_X7_init n M a0 Q) : mw_Met G l yX7_init (.code yX7_init cX7_init 2 none) { frames := 3, cells := 245, slots := 2319, locals := 53 } n M [.ref a0] (mw_rN Q) (fun _ _ => False) := by
  refine mw_enter (L0 := [(0, .ref a0)]) hlt rfl rfl (plainFor_of_name (by decide)) (Nat.le_of_ble_eq_true rfl) rfl ?_
  intro Y hC0 hZ hnL hini0 hn00
  have hC : mw_C G l _ Y cX7_init RX7 := hC0
  have hini : mw_init Y := hini0 rfl
  have B85 : ∀ (k : Nat) (sl : Nat) (n : Nat) (M : mw_M) (r0 : Nat) (x1 : Int32) (h : w_X7_init_b85 k sl n M r0 x1 Q), mw_J Y k sl n M 85 [(0, .ref r0), (1, .int x1)] [] := by
    intro k sl n M r0 x1 h
    obtain ⟨Inv, mu, h0, hs⟩ := h
    refine mw_loop5 (fun (k : Nat) (sl : Nat) (n : Nat) (M : mw_M) (x1 : Int32) => mw_J Y k sl n M 85 [(0, .ref r0), (1, .int x1)] []) Inv mu (fun k sl n M x1 hI hrec => ?_) k sl n M x1 h0
    have h := hs k sl n M x1 hI
    refine jr_iload_n (j := 1) hC dX7_init_85 rfl rfl ?_
    refine jr_aload_n (j := 0) hC dX7_init_86 rfl rfl ?_
    obtain ⟨hc1, h⟩ := h
    refine jr_get2 hC fl_RX7_25 hc1 dX7_init_87 ?_
    obtain ⟨hc2, h⟩ := h
    refine jr_alen (t := 17) hC (by decide) (by decide) hc2 dX7_init_90 ?_
    obtain ⟨hthb3, hfhb3⟩ := h
    refine jr_ic_ge (tgt := 113) hC dX7_init_91 (by decide) (fun hb3 => ?_) (fun hb3 => ?_)
    · have h := hthb3 hb3
      obtain ⟨hc4, h⟩ := h
      obtain ⟨hc5, h⟩ := h
      exact jr_vret hC hZ hc4 hc5 dX7_init_113 ⟨rfl, h⟩
    · have h := hfhb3 hb3
      refine jr_aload_n (j := 0) hC dX7_init_94 rfl rfl ?_
      refine jr_get2 hC fl_RX7_25 hc1 dX7_init_95 ?_
      refine jr_iload_n (j := 1) hC dX7_init_98 rfl rfl ?_
      obtain ⟨hc6, h⟩ := h
      obtain ⟨hc7, h⟩ := h
      obtain ⟨hc8, h⟩ := h
      obtain ⟨hc9, h⟩ := h
      obtain ⟨hc10, h⟩ := h
      refine jr_new hC mw_Cl1 tyX1 tyX1_ok mw_df1 tw_290 tw_313 tw_67 hc6 (mw_okl_c hc9 (mw_okl_c trivial mw_okl_n)) (mw_oks_c trivial (mw_oks_c hc10 mw_oks_n)) hc7 hc8 dX7_init_99 ?_
      refine jr_dup hC dX7_init_102 rfl ?_
      obtain ⟨hc11, h⟩ := h
      obtain ⟨hc14, h⟩ := h
      obtain ⟨hc15, h⟩ := h
      obtain ⟨hc16, h⟩ := h
      obtain ⟨hc17, h⟩ := h
      obtain ⟨hc18, h⟩ := h
      refine jr_callIa_v (As := []) (st := [.ref n, .int x1, .ref (mP M r0 4)]) hC nc_RX7_36 (c_X1_init hlt h) hc11 (mw_okl_c hc16 (mw_okl_c trivial mw_okl_n)) (mw_oks_c hc18 (mw_oks_c trivial (mw_oks_c hc17 mw_oks_n))) rfl rfl ⟨⟨rfl, rfl⟩, ⟨by decide, by decide⟩, hc14, hc15⟩ (Nat.le_of_ble_eq_true rfl) dX7_init_103 (fun n13 M12 h => ?_)
      obtain ⟨hc20, h⟩ := h
      obtain ⟨hc21, h⟩ := h
      obtain ⟨hc22, h⟩ := h
      obtain ⟨M23, eM23⟩ : ∃ y : mw_M, y = sP M12 (mP M r0 4) (Int32.toNatClampNeg x1) n := ⟨_, rfl⟩
      have h := h M23 eM23
      refine jr_aast (t := 17) (tc := 1) (C9 := RX1) (T9 := TX1) hC (by decide) (by decide) rfl rfl hc20 hc21 hc22 eM23 dX7_init_106 ?_
      obtain ⟨v24, ev24⟩ : ∃ y : Int32, y = (x1 + (1 : Int32)) := ⟨_, rfl⟩
      have h := h v24 ev24
      refine jr_iinc (j := 1) (v := v24) (L1 := [(1, .int v24), (0, .ref r0)]) hC dX7_init_107 rfl (by rw [ev24]; rfl) hnL (by decide) rfl ?_
      refine jr_goto (tgt := 85) hC dX7_init_110 (by decide) ?_
      refine jr_sub [1, 0] (L1 := [(0, .ref r0), (1, .int v24)]) rfl ?_
      exact hrec ((k + 1) + 1) ((sl + 2) + 101) n13 M23 v24 h
  have B55 : ∀ (k : Nat) (sl : Nat) (n : Nat) (M : mw_M) (r0 : Nat) (x1 : Int32) (h : w_X7_init_b55 k sl n M r0 x1 Q), mw_J Y k sl n M 55 [(0, .ref r0), (1, .int x1)] [] := by
    intro k sl n M r0 x1 h
    obtain ⟨Inv, mu, h0, hs⟩ := h
    refine mw_loop5 (fun (k : Nat) (sl : Nat) (n : Nat) (M : mw_M) (x1 : Int32) => mw_J Y k sl n M 55 [(0, .ref r0), (1, .int x1)] []) Inv mu (fun k sl n M x1 hI hrec => ?_) k sl n M x1 h0
    have h := hs k sl n M x1 hI
    refine jr_iload_n (j := 1) hC dX7_init_55 rfl rfl ?_
    refine jr_aload_n (j := 0) hC dX7_init_56 rfl rfl ?_
    obtain ⟨hc25, h⟩ := h
    refine jr_get2 hC fl_RX7_19 hc25 dX7_init_57 ?_
    obtain ⟨hc26, h⟩ := h
    refine jr_alen (t := 16) hC (by decide) (by decide) hc26 dX7_init_60 ?_
    obtain ⟨hthb27, hfhb27⟩ := h
    refine jr_ic_ge (tgt := 83) hC dX7_init_61 (by decide) (fun hb27 => ?_) (fun hb27 => ?_)
    · have h := hthb27 hb27
      refine jr_iconst (v := (0 : Int32)) hC dX7_init_83 (by decide) ?_
      refine jr_istore_n (L1 := [(1, .int (0 : Int32)), (0, .ref r0)]) hC dX7_init_84 rfl hnL (by decide) rfl ?_
      refine jr_sub [1, 0] (L1 := [(0, .ref r0), (1, .int (0 : Int32))]) rfl ?_
      exact B85 k sl n M r0 (0 : Int32) h
    · have h := hfhb27 hb27
      refine jr_aload_n (j := 0) hC dX7_init_64 rfl rfl ?_
      refine jr_get2 hC fl_RX7_19 hc25 dX7_init_65 ?_
      refine jr_iload_n (j := 1) hC dX7_init_68 rfl rfl ?_
      obtain ⟨hc28, h⟩ := h
      obtain ⟨hc29, h⟩ := h
      obtain ⟨hc30, h⟩ := h
      obtain ⟨hc31, h⟩ := h
      obtain ⟨hc32, h⟩ := h
      refine jr_new hC mw_Cl5 tyX5 tyX5_ok mw_df5 tw_85 tw_86 tw_61 hc28 (mw_okl_c hc31 (mw_okl_c trivial mw_okl_n)) (mw_oks_c trivial (mw_oks_c hc32 mw_oks_n)) hc29 hc30 dX7_init_69 ?_
      refine jr_dup hC dX7_init_72 rfl ?_
      obtain ⟨hc33, h⟩ := h
      obtain ⟨hc36, h⟩ := h
      obtain ⟨hc37, h⟩ := h
      obtain ⟨hc38, h⟩ := h
      obtain ⟨hc39, h⟩ := h
      obtain ⟨hc40, h⟩ := h
      refine jr_callIa_v (As := []) (st := [.ref n, .int x1, .ref (mP M r0 2)]) hC nc_RX7_11 (c_X5_init hlt h) hc33 (mw_okl_c hc38 (mw_okl_c trivial mw_okl_n)) (mw_oks_c hc40 (mw_oks_c trivial (mw_oks_c hc39 mw_oks_n))) rfl rfl ⟨⟨rfl, rfl⟩, ⟨by decide, by decide⟩, hc36, hc37⟩ (Nat.le_of_ble_eq_true rfl) dX7_init_73 (fun n35 M34 h => ?_)
      obtain ⟨hc42, h⟩ := h
      obtain ⟨hc43, h⟩ := h
      obtain ⟨hc44, h⟩ := h
      obtain ⟨M45, eM45⟩ : ∃ y : mw_M, y = sP M34 (mP M r0 2) (Int32.toNatClampNeg x1) n := ⟨_, rfl⟩
      have h := h M45 eM45
      refine jr_aast (t := 16) (tc := 5) (C9 := RX5) (T9 := TX5) hC (by decide) (by decide) rfl rfl hc42 hc43 hc44 eM45 dX7_init_76 ?_
      obtain ⟨v46, ev46⟩ : ∃ y : Int32, y = (x1 + (1 : Int32)) := ⟨_, rfl⟩
      have h := h v46 ev46
      refine jr_iinc (j := 1) (v := v46) (L1 := [(1, .int v46), (0, .ref r0)]) hC dX7_init_77 rfl (by rw [ev46]; rfl) hnL (by decide) rfl ?_
      refine jr_goto (tgt := 55) hC dX7_init_80 (by decide) ?_
      refine jr_sub [1, 0] (L1 := [(0, .ref r0), (1, .int v46)]) rfl ?_
      exact hrec ((k + 1) + 38) ((sl + 9) + 307) n35 M45 v46 h
  unfold w_X7_init at h
  refine jr_aload_n (j := 0) hC dX7_init_0 rfl rfl ?_
  obtain ⟨hc47, h⟩ := h
  refine jr_objinit hC hc47 tw_82 tw_83 tw_84 (by decide) (by decide) dX7_init_1 ?_
  refine jr_aload_n (j := 0) hC dX7_init_4 rfl rfl ?_
  obtain ⟨hc48, h⟩ := h
  obtain ⟨hc49, h⟩ := h
  obtain ⟨hc50, h⟩ := h
  obtain ⟨hc51, h⟩ := h
  refine jr_new hC mw_Cl5 tyX5 tyX5_ok mw_df5 tw_85 tw_86 tw_61 hc48 (mw_okl_c hc51 mw_okl_n) (mw_oks_c hc51 mw_oks_n) hc49 hc50 dX7_init_5 ?_
  refine jr_dup hC dX7_init_8 rfl ?_
  obtain ⟨hc52, h⟩ := h
  obtain ⟨hc55, h⟩ := h
  obtain ⟨hc56, h⟩ := h
  obtain ⟨hc57, h⟩ := h
  obtain ⟨hc58, h⟩ := h
  refine jr_callIa_v (As := []) (st := [.ref n, .ref a0]) hC nc_RX7_11 (c_X5_init hlt h) hc52 (mw_okl_c hc57 mw_okl_n) (mw_oks_c hc58 (mw_oks_c hc57 mw_oks_n)) rfl rfl ⟨⟨rfl, rfl⟩, ⟨by decide, by decide⟩, hc55, hc56⟩ (Nat.le_of_ble_eq_true rfl) dX7_init_9 (fun n54 M53 h => ?_)
  obtain ⟨hc60, h⟩ := h
  obtain ⟨M61, eM61⟩ : ∃ y : mw_M, y = sP M53 a0 0 n := ⟨_, rfl⟩
  have h := h M61 eM61
  refine jr_putO hC fp_RX7_12 hc60 eM61 dX7_init_12 ?_
  refine jr_aload_n (j := 0) hC dX7_init_15 rfl rfl ?_
  obtain ⟨hc62, h⟩ := h
  obtain ⟨hc63, h⟩ := h
  obtain ⟨hc64, h⟩ := h
  obtain ⟨hc65, h⟩ := h
  refine jr_new hC mw_Cl5 tyX5 tyX5_ok mw_df5 tw_85 tw_86 tw_61 hc62 (mw_okl_c hc65 mw_okl_n) (mw_oks_c hc65 mw_oks_n) hc63 hc64 dX7_init_16 ?_
  refine jr_dup hC dX7_init_19 rfl ?_
  obtain ⟨hc66, h⟩ := h
  obtain ⟨hc69, h⟩ := h
  obtain ⟨hc70, h⟩ := h
  obtain ⟨hc71, h⟩ := h
  obtain ⟨hc72, h⟩ := h
  refine jr_callIa_v (As := []) (st := [.ref n54, .ref a0]) hC nc_RX7_11 (c_X5_init hlt h) hc66 (mw_okl_c hc71 mw_okl_n) (mw_oks_c hc72 (mw_oks_c hc71 mw_oks_n)) rfl rfl ⟨⟨rfl, rfl⟩, ⟨by decide, by decide⟩, hc69, hc70⟩ (Nat.le_of_ble_eq_true rfl) dX7_init_20 (fun n68 M67 h => ?_)
  obtain ⟨hc74, h⟩ := h
  obtain ⟨M75, eM75⟩ : ∃ y : mw_M, y = sP M67 a0 1 n54 := ⟨_, rfl⟩
  have h := h M75 eM75
  refine jr_putO hC fp_RX7_16 hc74 eM75 dX7_init_23 ?_
  refine jr_aload_n (j := 0) hC dX7_init_26 rfl rfl ?_
  refine jr_iconst (v := (4 : Int32)) hC dX7_init_27 (by decide) ?_
  obtain ⟨hc76, h⟩ := h
  obtain ⟨hc77, h⟩ := h
  obtain ⟨hc78, h⟩ := h
  obtain ⟨hc79, h⟩ := h
  obtain ⟨hc80, h⟩ := h
  refine jr_newq (N := 4) (t := 16) (C := RX5) hC (by decide) (by decide) rfl tw_85 (by decide +kernel) hc76 hc77 (by decide) (by decide) (mw_okl_c hc80 mw_okl_n) (mw_oks_c hc80 mw_oks_n) hc78 hc79 dX7_init_28 ?_
  obtain ⟨hc81, h⟩ := h
  obtain ⟨M82, eM82⟩ : ∃ y : mw_M, y = sP M75 a0 2 n68 := ⟨_, rfl⟩
  have h := h M82 eM82
  refine jr_putAF hC fp_RX7_19 hc81 hini (by intro C T N h9; cases h9; rfl) eM82 dX7_init_31 ?_
  refine jr_aload_n (j := 0) hC dX7_init_34 rfl rfl ?_
  refine jr_iconst (v := (4 : Int32)) hC dX7_init_35 (by decide) ?_
  obtain ⟨hc83, h⟩ := h
  obtain ⟨hc84, h⟩ := h
  obtain ⟨hc85, h⟩ := h
  obtain ⟨hc86, h⟩ := h
  obtain ⟨hc87, h⟩ := h
  refine jr_newq (N := 4) (t := 17) (C := RX1) hC (by decide) (by decide) rfl tw_290 (by decide +kernel) hc83 hc84 (by decide) (by decide) (mw_okl_c hc87 mw_okl_n) (mw_oks_c hc87 mw_oks_n) hc85 hc86 dX7_init_36 ?_
  obtain ⟨hc88, h⟩ := h
  obtain ⟨M89, eM89⟩ : ∃ y : mw_M, y = sP M82 a0 4 (n68 + 1) := ⟨_, rfl⟩
  have h := h M89 eM89
  refine jr_putAF hC fp_RX7_25 hc88 hini (by intro C T N h9; cases h9; rfl) eM89 dX7_init_39 ?_
  refine jr_aload_n (j := 0) hC dX7_init_42 rfl rfl ?_
  obtain ⟨hc90, h⟩ := h
  obtain ⟨hc91, h⟩ := h
  obtain ⟨hc92, h⟩ := h
  obtain ⟨hc93, h⟩ := h
  refine jr_new hC mw_Cl2 tyX2 tyX2_ok mw_df2 tw_292 tw_293 tw_66 hc90 (mw_okl_c hc93 mw_okl_n) (mw_oks_c hc93 mw_oks_n) hc91 hc92 dX7_init_43 ?_
  refine jr_nmA (fun q94 eq94 => ?_)
  have h := h q94 eq94
  refine jr_dup hC dX7_init_46 rfl ?_
  obtain ⟨hc95, h⟩ := h
  obtain ⟨hc97, h⟩ := h
  obtain ⟨hc98, h⟩ := h
  refine jr_callIn_v (As := []) (st := [.ref q94, .ref a0]) hC nc_RX7_31 (c_X2_init hlt h) hc95 rfl rfl ⟨⟨rfl, rfl⟩, ⟨by decide, by decide⟩, hc97, hc98⟩ (Nat.le_of_ble_eq_true rfl) dX7_init_47 (fun M96 h => ?_)
  obtain ⟨hc99, h⟩ := h
  obtain ⟨M100, eM100⟩ : ∃ y : mw_M, y = sP M96 a0 5 q94 := ⟨_, rfl⟩
  have h := h M100 eM100
  refine jr_putOF hC fp_RX7_32 hc99 hini (by intro C T N h9; cases h9; rfl) eM100 dX7_init_50 ?_
  refine jr_iconst (v := (0 : Int32)) hC dX7_init_53 (by decide) ?_
  refine jr_istore_n (L1 := [(1, .int (0 : Int32)), (0, .ref a0)]) hC dX7_init_54 rfl hnL (by decide) rfl ?_
  refine jr_sub [1, 0] (L1 := [(0, .ref a0), (1, .int (0 : Int32))]) rfl ?_
  exact B55 (((((((0 + 1) + 38) + 1) + 38) + 1) + 1) + 1) (((((((0 + 9) + 307) + 9) + 307) + 4) + 4) + 3) (((n68 + 1) + 1) + 1) M100 a0 (0 : Int32) h
set_option maxHeartbeats 4000000 in
set_option maxRecDepth 100000 in
theorem c_X7_isOutside {G : mw_G} {l : Launch} (hlt : l.stackTraces = false) {n : Nat} {M : mw_M} {x0 : Int32} {x1 : Int32} {x2 : Int32} {Q : Int32 → Prop} (h : w_X7_isOutside n M x0 x1 x2 Q) : mw_Met G l yX7_isOutside (.code yX7_isOutside cX7_isOutside 3 (some .boolean)) { frames := 0, cells := 0, slots := 0, locals := 0 } n M [.int x0, .int x1, .int x2] (fun n1 M1 v => n1 = n ∧ mw_pI M Q M1 v) (fun _ _ => False) := by
  refine mw_enter (L0 := [(0, .int x0), (1, .int x1), (2, .int x2)]) hlt rfl rfl (plainFor_of_name (by decide)) (Nat.le_of_ble_eq_true rfl) rfl ?_
  intro Y hC0 hZ hnL hini0 hn00
  have hC : mw_C G l _ Y cX7_isOutside RX7 := hC0
  have B15 : ∀ (s0 : Int32) (h : w_X7_isOutside_b15 n M s0 Q), mw_J Y 0 0 n M 15 [] [.int s0] := by
    intro s0 h
    unfold w_X7_isOutside_b15 at h
    obtain ⟨hc1, h⟩ := h
    exact jr_iretz hC hZ (by decide) (by decide) hc1 dX7_isOutside_15 ⟨rfl, rfl, _, rfl, h⟩
  have B10 : (w_X7_isOutside_b10 n M Q) → mw_J Y 0 0 n M 10 [] [] := by
    intro  h
    unfold w_X7_isOutside_b10 at h
    refine jr_iconst (v := (1 : Int32)) hC dX7_isOutside_10 (by decide) ?_
    refine jr_goto (tgt := 15) hC dX7_isOutside_11 (by decide) ?_
    exact B15 (1 : Int32) h
  unfold w_X7_isOutside at h
  refine jr_iload_n (j := 0) hC dX7_isOutside_0 rfl rfl ?_
  refine jr_iload_n (j := 1) hC dX7_isOutside_1 rfl rfl ?_
  obtain ⟨hthb2, hfhb2⟩ := h
  refine jr_ic_lt (tgt := 10) hC dX7_isOutside_2 (by decide) (fun hb2 => ?_) (fun hb2 => ?_)
  · have h := hthb2 hb2
    refine jr_sub [] (L1 := []) rfl ?_
    exact B10 h
  · have h := hfhb2 hb2
    refine jr_iload_n (j := 0) hC dX7_isOutside_5 rfl rfl ?_
    refine jr_iload_n (j := 2) hC dX7_isOutside_6 rfl rfl ?_
    obtain ⟨hthb3, hfhb3⟩ := h
    refine jr_ic_le (tgt := 14) hC dX7_isOutside_7 (by decide) (fun hb3 => ?_) (fun hb3 => ?_)
    · have h := hthb3 hb3
      refine jr_iconst (v := (0 : Int32)) hC dX7_isOutside_14 (by decide) ?_
      refine jr_sub [] (L1 := []) rfl ?_
      exact B15 (0 : Int32) h
    · have h := hfhb3 hb3
      refine jr_sub [] (L1 := []) rfl ?_
      exact B10 h
set_option maxHeartbeats 4000000 in
set_option maxRecDepth 100000 in
theorem c_X7_checkSource {G : mw_G} {l : Launch} (hlt : l.stackTraces = false) {n : Nat} {M : mw_M} {x0 : Int32} {Q : Prop} {X : mw_M → String → Prop} (h : w_X7_checkSource n M x0 Q X) : mw_Met G l yX7_checkSource (.code yX7_checkSource cX7_checkSource 1 none) { frames := 6, cells := 1, slots := 6, locals := 82 } n M [.int x0] (fun n1 M1 v => n1 = n ∧ mw_pV M Q M1 v) X := by
  refine mw_enter (L0 := [(0, .int x0)]) hlt rfl rfl (plainFor_of_name (by decide)) (Nat.le_of_ble_eq_true rfl) rfl ?_
  intro Y hC0 hZ hnL hini0 hn00
  have hC : mw_C G l _ Y cX7_checkSource RX7 := hC0
  unfold w_X7_checkSource at h
  refine jr_iload_n (j := 0) hC dX7_checkSource_0 rfl rfl ?_
  refine jr_iconst (v := (0 : Int32)) hC dX7_checkSource_1 (by decide) ?_
  refine jr_iconst (v := (5 : Int32)) hC dX7_checkSource_2 (by decide) ?_
  refine jr_callS_pi (As := [.int x0, .int (0 : Int32), .int (5 : Int32)]) (st := []) hC nc_RX7_41 (c_X7_isOutside hlt h) rfl rfl ⟨⟨rfl, rfl⟩, ⟨by decide, by decide⟩, by decide, by decide⟩ (Nat.le_of_ble_eq_true rfl) dX7_checkSource_3 (fun v1 h => ?_)
  obtain ⟨hthb2, hfhb2⟩ := h
  refine jr_if_eq (tgt := 20) hC dX7_checkSource_6 (by decide) (fun hb2 => ?_) (fun hb2 => ?_)
  · have h := hthb2 hb2
    exact jr_vret hC hZ (by decide) (by decide) dX7_checkSource_20 ⟨rfl, rfl, rfl, h⟩
  · have h := hfhb2 hb2
    exact jr_throwSW (names := ["java/lang/RuntimeException", "java/lang/Exception"]) hC hZ hn00 (by decide +kernel) (by decide +kernel) tw_572 tw_72 sx_RX7_350 at_RX7_77 dX7_checkSource_9 dX7_checkSource_12 dX7_checkSource_13 dX7_checkSource_16 dX7_checkSource_19 (by decide) (by decide) (by decide) (by decide) (by decide) (by decide) h
set_option maxHeartbeats 4000000 in
set_option maxRecDepth 100000 in
theorem c_X7_draft {G : mw_G} {l : Launch} (hlt : l.stackTraces = false) {n : Nat} {M : mw_M} {a0 : Nat} {Q : mw_M → Nat → Prop} (h : w_X7_draft n M a0 Q) : mw_Met G l yX7_draft (.code yX7_draft cX7_draft 1 (some (.object "ClipMixer$State"))) { frames := 3, cells := 0, slots := 0, locals := 68 } n M [.ref a0] (fun n1 M1 v => n1 = n ∧ mw_rA Q M1 v) (fun _ _ => False) := by
  refine mw_enter (L0 := [(0, .ref a0)]) hlt rfl rfl (plainFor_of_name (by decide)) (Nat.le_of_ble_eq_true rfl) rfl ?_
  intro Y hC0 hZ hnL hini0 hn00
  have hC : mw_C G l _ Y cX7_draft RX7 := hC0
  unfold w_X7_draft at h
  refine jr_aload_n (j := 0) hC dX7_draft_0 rfl rfl ?_
  obtain ⟨hc1, h⟩ := h
  refine jr_get2 hC fl_RX7_16 hc1 dX7_draft_1 ?_
  refine jr_aload_n (j := 0) hC dX7_draft_4 rfl rfl ?_
  refine jr_get2 hC fl_RX7_12 hc1 dX7_draft_5 ?_
  obtain ⟨hc2, h⟩ := h
  refine jr_callV_v (As := [.ref (mP M a0 0)]) (st := []) hC nc_RX7_368 (c_X5_takeFrom hlt h) hc2 rfl rfl ⟨⟨rfl, rfl⟩, ⟨by decide, by decide⟩, by decide, by decide⟩ (Nat.le_of_ble_eq_true rfl) dX7_draft_8 (fun M3 h => ?_)
  refine jr_aload_n (j := 0) hC dX7_draft_11 rfl rfl ?_
  refine jr_get2 hC fl_RX7_16 hc1 dX7_draft_12 ?_
  exact jr_aret hC hZ (by decide) (by decide) dX7_draft_15 ⟨rfl, _, rfl, h⟩
set_option maxHeartbeats 4000000 in
set_option maxRecDepth 100000 in
theorem c_X7_dropOldest {G : mw_G} {l : Launch} (hlt : l.stackTraces = false) {n : Nat} {M : mw_M} {a0 : Nat} {Q : mw_M → Prop} (h : w_X7_dropOldest n M a0 Q) : mw_Met G l yX7_dropOldest (.code yX7_dropOldest cX7_dropOldest 3 none) { frames := 0, cells := 0, slots := 0, locals := 0 } n M [.ref a0] (fun n1 M1 v => n1 = n ∧ mw_rV Q M1 v) (fun _ _ => False) := by
  refine mw_enter (L0 := [(0, .ref a0)]) hlt rfl rfl (plainFor_of_name (by decide)) (Nat.le_of_ble_eq_true rfl) rfl ?_
  intro Y hC0 hZ hnL hini0 hn00
  have hC : mw_C G l _ Y cX7_dropOldest RX7 := hC0
  have B9 : ∀ (M : mw_M) (r0 : Nat) (r1 : Nat) (x2 : Int32) (h : w_X7_dropOldest_b9 n M r0 r1 x2 Q), mw_J Y 0 0 n M 9 [(0, .ref r0), (1, .ref r1), (2, .int x2)] [] := by
    intro M r0 r1 x2 h
    obtain ⟨Inv, mu, h0, hs⟩ := h
    refine mw_loop2 (fun (M : mw_M) (x2 : Int32) => mw_J Y 0 0 n M 9 [(0, .ref r0), (1, .ref r1), (2, .int x2)] []) Inv mu (fun M x2 hI hrec => ?_) M x2 h0
    have h := hs M x2 hI
    refine jr_iload_n (j := 2) hC dX7_dropOldest_9 rfl rfl ?_
    refine jr_aload_n (j := 0) hC dX7_dropOldest_10 rfl rfl ?_
    obtain ⟨hc1, h⟩ := h
    refine jr_get2 hC fl_RX7_19 hc1 dX7_dropOldest_11 ?_
    obtain ⟨hc2, h⟩ := h
    refine jr_alen (t := 16) hC (by decide) (by decide) hc2 dX7_dropOldest_14 ?_
    obtain ⟨hthb3, hfhb3⟩ := h
    refine jr_ic_ge (tgt := 38) hC dX7_dropOldest_15 (by decide) (fun hb3 => ?_) (fun hb3 => ?_)
    · have h := hthb3 hb3
      refine jr_aload_n (j := 0) hC dX7_dropOldest_38 rfl rfl ?_
      refine jr_get2 hC fl_RX7_19 hc1 dX7_dropOldest_39 ?_
      refine jr_iconst (v := (3 : Int32)) hC dX7_dropOldest_42 (by decide) ?_
      refine jr_aload_n (j := 1) hC dX7_dropOldest_43 rfl rfl ?_
      obtain ⟨hc4, h⟩ := h
      obtain ⟨hc5, h⟩ := h
      obtain ⟨M6, eM6⟩ : ∃ y : mw_M, y = sP M (mP M r0 2) (Int32.toNatClampNeg (3 : Int32)) r1 := ⟨_, rfl⟩
      have h := h M6 eM6
      refine jr_aast (t := 16) (tc := 5) (C9 := RX5) (T9 := TX5) hC (by decide) (by decide) rfl rfl hc2 hc4 hc5 eM6 dX7_dropOldest_44 ?_
      refine jr_aload_n (j := 0) hC dX7_dropOldest_45 rfl rfl ?_
      refine jr_iconst (v := (3 : Int32)) hC dX7_dropOldest_46 (by decide) ?_
      obtain ⟨M7, eM7⟩ : ∃ y : mw_M, y = sI M6 r0 3 (3 : Int32) := ⟨_, rfl⟩
      have h := h M7 eM7
      refine jr_putI hC fp_RX7_323 hc1 eM7 dX7_dropOldest_47 ?_
      exact jr_vret hC hZ (by decide) (by decide) dX7_dropOldest_50 ⟨rfl, rfl, h⟩
    · have h := hfhb3 hb3
      refine jr_aload_n (j := 0) hC dX7_dropOldest_18 rfl rfl ?_
      refine jr_get2 hC fl_RX7_19 hc1 dX7_dropOldest_19 ?_
      refine jr_iload_n (j := 2) hC dX7_dropOldest_22 rfl rfl ?_
      refine jr_iconst (v := (1 : Int32)) hC dX7_dropOldest_23 (by decide) ?_
      refine jr_isub hC dX7_dropOldest_24 ?_
      refine jr_aload_n (j := 0) hC dX7_dropOldest_25 rfl rfl ?_
      refine jr_get2 hC fl_RX7_19 hc1 dX7_dropOldest_26 ?_
      refine jr_iload_n (j := 2) hC dX7_dropOldest_29 rfl rfl ?_
      obtain ⟨hc8, h⟩ := h
      refine jr_aald (t := 16) hC (by decide) (by decide) hc2 hc8 dX7_dropOldest_30 ?_
      obtain ⟨hc9, h⟩ := h
      obtain ⟨hc10, h⟩ := h
      obtain ⟨M11, eM11⟩ : ∃ y : mw_M, y = sP M (mP M r0 2) (Int32.toNatClampNeg (x2 - (1 : Int32))) (mP M (mP M r0 2) (Int32.toNatClampNeg x2)) := ⟨_, rfl⟩
      have h := h M11 eM11
      refine jr_aast (t := 16) (tc := 5) (C9 := RX5) (T9 := TX5) hC (by decide) (by decide) rfl rfl hc2 hc9 hc10 eM11 dX7_dropOldest_31 ?_
      obtain ⟨v12, ev12⟩ : ∃ y : Int32, y = (x2 + (1 : Int32)) := ⟨_, rfl⟩
      have h := h v12 ev12
      refine jr_iinc (j := 2) (v := v12) (L1 := [(2, .int v12), (0, .ref r0), (1, .ref r1)]) hC dX7_dropOldest_32 rfl (by rw [ev12]; rfl) hnL (by decide) rfl ?_
      refine jr_goto (tgt := 9) hC dX7_dropOldest_35 (by decide) ?_
      refine jr_sub [1, 2, 0] (L1 := [(0, .ref r0), (1, .ref r1), (2, .int v12)]) rfl ?_
      exact hrec M11 v12 h
  unfold w_X7_dropOldest at h
  refine jr_aload_n (j := 0) hC dX7_dropOldest_0 rfl rfl ?_
  obtain ⟨hc13, h⟩ := h
  refine jr_get2 hC fl_RX7_19 hc13 dX7_dropOldest_1 ?_
  refine jr_iconst (v := (0 : Int32)) hC dX7_dropOldest_4 (by decide) ?_
  obtain ⟨hc14, h⟩ := h
  obtain ⟨hc15, h⟩ := h
  refine jr_aald (t := 16) hC (by decide) (by decide) hc14 hc15 dX7_dropOldest_5 ?_
  refine jr_nmA (fun q16 eq16 => ?_)
  have h := h q16 eq16
  refine jr_astore_n (L1 := [(1, .ref q16), (0, .ref a0)]) hC dX7_dropOldest_6 rfl hnL (by decide) rfl ?_
  refine jr_iconst (v := (1 : Int32)) hC dX7_dropOldest_7 (by decide) ?_
  refine jr_istore_n (L1 := [(2, .int (1 : Int32)), (1, .ref q16), (0, .ref a0)]) hC dX7_dropOldest_8 rfl hnL (by decide) rfl ?_
  refine jr_sub [2, 1, 0] (L1 := [(0, .ref a0), (1, .ref q16), (2, .int (1 : Int32))]) rfl ?_
  exact B9 M a0 q16 (1 : Int32) h
set_option maxHeartbeats 4000000 in
set_option maxRecDepth 100000 in
theorem c_X7_keepDraft {G : mw_G} {l : Launch} (hlt : l.stackTraces = false) {n : Nat} {M : mw_M} {a0 : Nat} {Q : mw_M → Prop} (h : w_X7_keepDraft n M a0 Q) : mw_Met G l yX7_keepDraft (.code yX7_keepDraft cX7_keepDraft 2 none) { frames := 1, cells := 0, slots := 0, locals := 22 } n M [.ref a0] (fun n1 M1 v => n1 = n ∧ mw_rV Q M1 v) (fun _ _ => False) := by
  refine mw_enter (L0 := [(0, .ref a0)]) hlt rfl rfl (plainFor_of_name (by decide)) (Nat.le_of_ble_eq_true rfl) rfl ?_
  intro Y hC0 hZ hnL hini0 hn00
  have hC : mw_C G l _ Y cX7_keepDraft RX7 := hC0
  have B12 : ∀ (M : mw_M) (r0 : Nat) (h : w_X7_keepDraft_b12 n M r0 Q), mw_J Y 0 0 n M 12 [(0, .ref r0)] [] := by
    intro M r0 h
    unfold w_X7_keepDraft_b12 at h
    refine jr_aload_n (j := 0) hC dX7_keepDraft_12 rfl rfl ?_
    obtain ⟨hc1, h⟩ := h
    refine jr_get2 hC fl_RX7_19 hc1 dX7_keepDraft_13 ?_
    refine jr_aload_n (j := 0) hC dX7_keepDraft_16 rfl rfl ?_
    refine jr_get0 hC fl_RX7_323 hc1 dX7_keepDraft_17 ?_
    obtain ⟨hc2, h⟩ := h
    obtain ⟨hc3, h⟩ := h
    refine jr_aald (t := 16) hC (by decide) (by decide) hc2 hc3 dX7_keepDraft_20 ?_
    refine jr_nmA (fun q4 eq4 => ?_)
    have h := h q4 eq4
    refine jr_astore_n (L1 := [(1, .ref q4), (0, .ref r0)]) hC dX7_keepDraft_21 rfl hnL (by decide) rfl ?_
    refine jr_aload_n (j := 1) hC dX7_keepDraft_22 rfl rfl ?_
    refine jr_get2 hC fl_RX7_19 hc1 dX7_keepDraft_23 ?_
    refine jr_aload_n (j := 1) hC dX7_keepDraft_26 rfl rfl ?_
    refine jr_get0 hC fl_RX7_323 hc1 dX7_keepDraft_27 ?_
    refine jr_aload_n (j := 1) hC dX7_keepDraft_30 rfl rfl ?_
    refine jr_get2 hC fl_RX7_12 hc1 dX7_keepDraft_31 ?_
    obtain ⟨hc5, h⟩ := h
    obtain ⟨M6, eM6⟩ : ∃ y : mw_M, y = sP M (mP M r0 2) (Int32.toNatClampNeg (mI M r0 3)) (mP M r0 0) := ⟨_, rfl⟩
    have h := h M6 eM6
    refine jr_aast (t := 16) (tc := 5) (C9 := RX5) (T9 := TX5) hC (by decide) (by decide) rfl rfl hc2 hc5 hc3 eM6 dX7_keepDraft_34 ?_
    refine jr_aload_n (j := 1) hC dX7_keepDraft_35 rfl rfl ?_
    refine jr_dup hC dX7_keepDraft_36 rfl ?_
    refine jr_get0 hC fl_RX7_323 hc1 dX7_keepDraft_37 ?_
    refine jr_iconst (v := (1 : Int32)) hC dX7_keepDraft_40 (by decide) ?_
    refine jr_iadd hC dX7_keepDraft_41 ?_
    obtain ⟨M7, eM7⟩ : ∃ y : mw_M, y = sI M6 r0 3 ((mI M6 r0 3) + (1 : Int32)) := ⟨_, rfl⟩
    have h := h M7 eM7
    refine jr_putI hC fp_RX7_323 hc1 eM7 dX7_keepDraft_42 ?_
    refine jr_aload_n (j := 1) hC dX7_keepDraft_45 rfl rfl ?_
    refine jr_aload_n (j := 1) hC dX7_keepDraft_46 rfl rfl ?_
    refine jr_get2 hC fl_RX7_16 hc1 dX7_keepDraft_47 ?_
    obtain ⟨M8, eM8⟩ : ∃ y : mw_M, y = sP M7 r0 0 (mP M7 r0 1) := ⟨_, rfl⟩
    have h := h M8 eM8
    refine jr_putO hC fp_RX7_12 hc1 eM8 dX7_keepDraft_50 ?_
    refine jr_aload_n (j := 1) hC dX7_keepDraft_53 rfl rfl ?_
    refine jr_aload_n (j := 0) hC dX7_keepDraft_54 rfl rfl ?_
    obtain ⟨M9, eM9⟩ : ∃ y : mw_M, y = sP M8 r0 1 q4 := ⟨_, rfl⟩
    have h := h M9 eM9
    refine jr_putO hC fp_RX7_16 hc1 eM9 dX7_keepDraft_55 ?_
    exact jr_vret hC hZ (by decide) (by decide) dX7_keepDraft_58 ⟨rfl, rfl, h⟩
  unfold w_X7_keepDraft at h
  refine jr_aload_n (j := 0) hC dX7_keepDraft_0 rfl rfl ?_
  obtain ⟨hc10, h⟩ := h
  refine jr_get0 hC fl_RX7_323 hc10 dX7_keepDraft_1 ?_
  refine jr_iconst (v := (4 : Int32)) hC dX7_keepDraft_4 (by decide) ?_
  obtain ⟨hthb11, hfhb11⟩ := h
  refine jr_ic_lt (tgt := 12) hC dX7_keepDraft_5 (by decide) (fun hb11 => ?_) (fun hb11 => ?_)
  · have h := hthb11 hb11
    exact B12 M a0 h
  · have h := hfhb11 hb11
    refine jr_aload_n (j := 0) hC dX7_keepDraft_8 rfl rfl ?_
    refine jr_callV_v (As := []) (st := []) hC nc_RX7_371 (c_X7_dropOldest hlt h) hc10 rfl rfl ⟨⟨rfl, rfl⟩, ⟨by decide, by decide⟩, by decide, by decide⟩ (Nat.le_of_ble_eq_true rfl) dX7_keepDraft_9 (fun M12 h => ?_)
    exact B12 M12 a0 h
set_option maxHeartbeats 4000000 in
set_option maxRecDepth 100000 in
theorem c_X7_forgetDucking {G : mw_G} {l : Launch} (hlt : l.stackTraces = false) {n : Nat} {M : mw_M} {a0 : Nat} {Q : mw_M → Prop} (h : w_X7_forgetDucking n M a0 Q) : mw_Met G l yX7_forgetDucking (.code yX7_forgetDucking cX7_forgetDucking 2 none) { frames := 1, cells := 0, slots := 0, locals := 20 } n M [.ref a0] (fun n1 M1 v => n1 = n ∧ mw_rV Q M1 v) (fun _ _ => False) := by
  refine mw_enter (L0 := [(0, .ref a0)]) hlt rfl rfl (plainFor_of_name (by decide)) (Nat.le_of_ble_eq_true rfl) rfl ?_
  intro Y hC0 hZ hnL hini0 hn00
  have hC : mw_C G l _ Y cX7_forgetDucking RX7 := hC0
  have B2 : ∀ (M : mw_M) (r0 : Nat) (x1 : Int32) (h : w_X7_forgetDucking_b2 n M r0 x1 Q), mw_J Y 0 0 n M 2 [(0, .ref r0), (1, .int x1)] [] := by
    intro M r0 x1 h
    obtain ⟨Inv, mu, h0, hs⟩ := h
    refine mw_loop2 (fun (M : mw_M) (x1 : Int32) => mw_J Y 0 0 n M 2 [(0, .ref r0), (1, .int x1)] []) Inv mu (fun M x1 hI hrec => ?_) M x1 h0
    have h := hs M x1 hI
    refine jr_iload_n (j := 1) hC dX7_forgetDucking_2 rfl rfl ?_
    refine jr_iconst (v := (4 : Int32)) hC dX7_forgetDucking_3 (by decide) ?_
    obtain ⟨hthb1, hfhb1⟩ := h
    refine jr_ic_ge (tgt := 22) hC dX7_forgetDucking_4 (by decide) (fun hb1 => ?_) (fun hb1 => ?_)
    · have h := hthb1 hb1
      exact jr_vret hC hZ (by decide) (by decide) dX7_forgetDucking_22 ⟨rfl, rfl, h⟩
    · have h := hfhb1 hb1
      refine jr_aload_n (j := 0) hC dX7_forgetDucking_7 rfl rfl ?_
      obtain ⟨hc2, h⟩ := h
      refine jr_get2 hC fl_RX7_25 hc2 dX7_forgetDucking_8 ?_
      refine jr_iload_n (j := 1) hC dX7_forgetDucking_11 rfl rfl ?_
      obtain ⟨hc3, h⟩ := h
      obtain ⟨hc4, h⟩ := h
      refine jr_aald (t := 17) hC (by decide) (by decide) hc3 hc4 dX7_forgetDucking_12 ?_
      obtain ⟨hc5, h⟩ := h
      refine jr_callV_v (As := []) (st := []) hC nc_RX7_379 (c_X1_forget hlt h) hc5 rfl rfl ⟨⟨rfl, rfl⟩, ⟨by decide, by decide⟩, by decide, by decide⟩ (Nat.le_of_ble_eq_true rfl) dX7_forgetDucking_13 (fun M6 h => ?_)
      obtain ⟨v7, ev7⟩ : ∃ y : Int32, y = (x1 + (1 : Int32)) := ⟨_, rfl⟩
      have h := h v7 ev7
      refine jr_iinc (j := 1) (v := v7) (L1 := [(1, .int v7), (0, .ref r0)]) hC dX7_forgetDucking_16 rfl (by rw [ev7]; rfl) hnL (by decide) rfl ?_
      refine jr_goto (tgt := 2) hC dX7_forgetDucking_19 (by decide) ?_
      refine jr_sub [1, 0] (L1 := [(0, .ref r0), (1, .int v7)]) rfl ?_
      exact hrec M6 v7 h
  unfold w_X7_forgetDucking at h
  refine jr_iconst (v := (0 : Int32)) hC dX7_forgetDucking_0 (by decide) ?_
  refine jr_istore_n (L1 := [(1, .int (0 : Int32)), (0, .ref a0)]) hC dX7_forgetDucking_1 rfl hnL (by decide) rfl ?_
  refine jr_sub [1, 0] (L1 := [(0, .ref a0), (1, .int (0 : Int32))]) rfl ?_
  exact B2 M a0 (0 : Int32) h
set_option maxHeartbeats 4000000 in
set_option maxRecDepth 100000 in
theorem c_X7_keepSound {G : mw_G} {l : Launch} (hlt : l.stackTraces = false) {n : Nat} {M : mw_M} {a0 : Nat} {Q : mw_M → Prop} (h : w_X7_keepSound n M a0 Q) : mw_Met G l yX7_keepSound (.code yX7_keepSound cX7_keepSound 1 none) { frames := 2, cells := 0, slots := 0, locals := 43 } n M [.ref a0] (fun n1 M1 v => n1 = n ∧ mw_rV Q M1 v) (fun _ _ => False) := by
  refine mw_enter (L0 := [(0, .ref a0)]) hlt rfl rfl (plainFor_of_name (by decide)) (Nat.le_of_ble_eq_true rfl) rfl ?_
  intro Y hC0 hZ hnL hini0 hn00
  have hC : mw_C G l _ Y cX7_keepSound RX7 := hC0
  unfold w_X7_keepSound at h
  refine jr_aload_n (j := 0) hC dX7_keepSound_0 rfl rfl ?_
  obtain ⟨hc1, h⟩ := h
  refine jr_callV_v (As := []) (st := []) hC nc_RX7_268 (c_X7_keepDraft hlt h) hc1 rfl rfl ⟨⟨rfl, rfl⟩, ⟨by decide, by decide⟩, by decide, by decide⟩ (Nat.le_of_ble_eq_true rfl) dX7_keepSound_1 (fun M2 h => ?_)
  refine jr_aload_n (j := 0) hC dX7_keepSound_4 rfl rfl ?_
  refine jr_callV_v (As := []) (st := []) hC nc_RX7_328 (c_X7_forgetDucking hlt h) hc1 rfl rfl ⟨⟨rfl, rfl⟩, ⟨by decide, by decide⟩, by decide, by decide⟩ (Nat.le_of_ble_eq_true rfl) dX7_keepSound_5 (fun M3 h => ?_)
  exact jr_vret hC hZ (by decide) (by decide) dX7_keepSound_8 ⟨rfl, rfl, h⟩
