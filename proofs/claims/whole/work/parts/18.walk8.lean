set_option maxHeartbeats 4000000 in
set_option maxRecDepth 100000 in
theorem c_X8_length {G : mw_G} {l : Launch} (hlt : l.stackTraces = false) {n : Nat} {M : mw_M} {a0 : Nat} {Q : mw_M → Int32 → Prop} (h : w_X8_length n M a0 Q) : mw_Met G l yX8_length (.code yX8_length cX8_length 3 (some .int)) { frames := 2, cells := 0, slots := 0, locals := 43 } n M [.ref a0] (fun n1 M1 v => n1 = n ∧ mw_rI Q M1 v) (fun _ _ => False) := by
  refine mw_enter (L0 := [(0, .ref a0)]) hlt rfl rfl (plainFor_of_name (by decide)) (Nat.le_of_ble_eq_true rfl) rfl ?_
  intro Y hC0 hZ hnL hini0 hn00
  have hC : mw_C G l _ Y cX8_length RX8 := hC0
  have B38 : ∀ (M : mw_M) (r0 : Nat) (x2 : Int32) (s0 : Int32) (K9 : mw_M → Int32 → Int32 → Prop) (hK9 : ∀ (M_ : mw_M) (x1_ : Int32) (x2_ : Int32), K9 M_ x1_ x2_ → mw_J Y 0 0 n M_ 9 [(0, .ref r0), (1, .int x1_), (2, .int x2_)] []) (h : w_X8_length_b38 n M r0 x2 s0 Q K9), mw_J Y 0 0 n M 38 [(0, .ref r0), (2, .int x2)] [.int s0] := by
    intro M r0 x2 s0 K9 hK9 h
    unfold w_X8_length_b38 at h
    refine jr_istore_n (L1 := [(1, .int s0), (0, .ref r0), (2, .int x2)]) hC dX8_length_38 rfl hnL (by decide) rfl ?_
    obtain ⟨v1, ev1⟩ : ∃ y : Int32, y = (x2 + (1 : Int32)) := ⟨_, rfl⟩
    have h := h v1 ev1
    refine jr_iinc (j := 2) (v := v1) (L1 := [(2, .int v1), (1, .int s0), (0, .ref r0)]) hC dX8_length_39 rfl (by rw [ev1]; rfl) hnL (by decide) rfl ?_
    refine jr_goto (tgt := 9) hC dX8_length_42 (by decide) ?_
    refine jr_sub [2, 1, 0] (L1 := [(0, .ref r0), (1, .int s0), (2, .int v1)]) rfl ?_
    exact hK9 M s0 v1 h
  have B9 : ∀ (M : mw_M) (r0 : Nat) (x1 : Int32) (x2 : Int32) (h : w_X8_length_b9 n M r0 x1 x2 Q), mw_J Y 0 0 n M 9 [(0, .ref r0), (1, .int x1), (2, .int x2)] [] := by
    intro M r0 x1 x2 h
    obtain ⟨Inv, mu, h0, hs⟩ := h
    refine mw_loop3 (fun (M : mw_M) (x1 : Int32) (x2 : Int32) => mw_J Y 0 0 n M 9 [(0, .ref r0), (1, .int x1), (2, .int x2)] []) Inv mu (fun M x1 x2 hI hrec => ?_) M x1 x2 h0
    have h := hs M x1 x2 hI
    refine jr_iload_n (j := 2) hC dX8_length_9 rfl rfl ?_
    refine jr_aload_n (j := 0) hC dX8_length_10 rfl rfl ?_
    obtain ⟨hc2, h⟩ := h
    refine jr_get2 hC fl_RX8_7 hc2 dX8_length_11 ?_
    refine jr_bipush (v := (8 : Int32)) hC dX8_length_14 (by decide) ?_
    obtain ⟨hc3, h⟩ := h
    obtain ⟨hc4, h⟩ := h
    refine jr_iald hC hc3 hc4 dX8_length_16 ?_
    obtain ⟨hthb5, hfhb5⟩ := h
    refine jr_ic_ge (tgt := 45) hC dX8_length_17 (by decide) (fun hb5 => ?_) (fun hb5 => ?_)
    · have h := hthb5 hb5
      refine jr_iload_n (j := 1) hC dX8_length_45 rfl rfl ?_
      exact jr_ireti hC hZ (by decide) (by decide) dX8_length_46 ⟨rfl, _, rfl, h⟩
    · have h := hfhb5 hb5
      refine jr_aload_n (j := 0) hC dX8_length_20 rfl rfl ?_
      refine jr_iload_n (j := 2) hC dX8_length_21 rfl rfl ?_
      refine jr_callV_pi (As := [.int x2]) (st := []) hC nc_RX8_161 (c_X8_clipEnd hlt h) hc2 rfl rfl ⟨⟨rfl, rfl⟩, ⟨by decide, by decide⟩, by decide, by decide⟩ (Nat.le_of_ble_eq_true rfl) dX8_length_22 (fun v6 h => ?_)
      refine jr_iload_n (j := 1) hC dX8_length_25 rfl rfl ?_
      obtain ⟨hthb7, hfhb7⟩ := h
      refine jr_ic_le (tgt := 37) hC dX8_length_26 (by decide) (fun hb7 => ?_) (fun hb7 => ?_)
      · have h := hthb7 hb7
        refine jr_iload_n (j := 1) hC dX8_length_37 rfl rfl ?_
        refine jr_sub [0, 2] (L1 := [(0, .ref r0), (2, .int x2)]) rfl ?_
        exact B38 M r0 x2 x1 (fun (M_ : mw_M) (x1_ : Int32) (x2_ : Int32) => Inv M_ x1_ x2_ ∧ mu M_ x1_ x2_ < mu M x1 x2) (fun M_ x1_ x2_ h9 => hrec M_ x1_ x2_ h9) h
      · have h := hfhb7 hb7
        refine jr_aload_n (j := 0) hC dX8_length_29 rfl rfl ?_
        refine jr_iload_n (j := 2) hC dX8_length_30 rfl rfl ?_
        refine jr_callV_pi (As := [.int x2]) (st := []) hC nc_RX8_161 (c_X8_clipEnd hlt h) hc2 rfl rfl ⟨⟨rfl, rfl⟩, ⟨by decide, by decide⟩, by decide, by decide⟩ (Nat.le_of_ble_eq_true rfl) dX8_length_31 (fun v8 h => ?_)
        refine jr_goto (tgt := 38) hC dX8_length_34 (by decide) ?_
        refine jr_sub [0, 2] (L1 := [(0, .ref r0), (2, .int x2)]) rfl ?_
        exact B38 M r0 x2 v8 (fun (M_ : mw_M) (x1_ : Int32) (x2_ : Int32) => Inv M_ x1_ x2_ ∧ mu M_ x1_ x2_ < mu M x1 x2) (fun M_ x1_ x2_ h9 => hrec M_ x1_ x2_ h9) h
  unfold w_X8_length at h
  refine jr_aload_n (j := 0) hC dX8_length_0 rfl rfl ?_
  refine jr_iconst (v := (0 : Int32)) hC dX8_length_1 (by decide) ?_
  obtain ⟨hc9, h⟩ := h
  obtain ⟨M10, eM10⟩ : ∃ y : mw_M, y = sI M a0 5 (0 : Int32) := ⟨_, rfl⟩
  have h := h M10 eM10
  refine jr_putI hC fp_RX8_39 hc9 eM10 dX8_length_2 ?_
  refine jr_iconst (v := (0 : Int32)) hC dX8_length_5 (by decide) ?_
  refine jr_istore_n (L1 := [(1, .int (0 : Int32)), (0, .ref a0)]) hC dX8_length_6 rfl hnL (by decide) rfl ?_
  refine jr_iconst (v := (0 : Int32)) hC dX8_length_7 (by decide) ?_
  refine jr_istore_n (L1 := [(2, .int (0 : Int32)), (1, .int (0 : Int32)), (0, .ref a0)]) hC dX8_length_8 rfl hnL (by decide) rfl ?_
  refine jr_sub [2, 1, 0] (L1 := [(0, .ref a0), (1, .int (0 : Int32)), (2, .int (0 : Int32))]) rfl ?_
  exact B9 M10 a0 (0 : Int32) (0 : Int32) h
set_option maxHeartbeats 4000000 in
set_option maxRecDepth 100000 in
theorem c_X8_undo {G : mw_G} {l : Launch} (hlt : l.stackTraces = false) {n : Nat} {M : mw_M} {a0 : Nat} {Q : mw_M → Int32 → Prop} (h : w_X8_undo n M a0 Q) : mw_Met G l yX8_undo (.code yX8_undo cX8_undo 2 (some .int)) { frames := 1, cells := 0, slots := 0, locals := 21 } n M [.ref a0] (fun n1 M1 v => n1 = n ∧ mw_rI Q M1 v) (fun _ _ => False) := by
  refine mw_enter (L0 := [(0, .ref a0)]) hlt rfl rfl (plainFor_of_name (by decide)) (Nat.le_of_ble_eq_true rfl) rfl ?_
  intro Y hC0 hZ hnL hini0 hn00
  have hC : mw_C G l _ Y cX8_undo RX8 := hC0
  have B33 : ∀ (M : mw_M) (r0 : Nat) (x1 : Int32) (h : w_X8_undo_b33 n M r0 x1 Q), mw_J Y 0 0 n M 33 [(0, .ref r0), (1, .int x1)] [] := by
    intro M r0 x1 h
    obtain ⟨Inv, mu, h0, hs⟩ := h
    refine mw_loop2 (fun (M : mw_M) (x1 : Int32) => mw_J Y 0 0 n M 33 [(0, .ref r0), (1, .int x1)] []) Inv mu (fun M x1 hI hrec => ?_) M x1 h0
    have h := hs M x1 hI
    refine jr_iload_n (j := 1) hC dX8_undo_33 rfl rfl ?_
    refine jr_sipush (v := (277 : Int32)) hC dX8_undo_34 (by decide) ?_
    obtain ⟨hthb1, hfhb1⟩ := h
    refine jr_ic_ge (tgt := 67) hC dX8_undo_37 (by decide) (fun hb1 => ?_) (fun hb1 => ?_)
    · have h := hthb1 hb1
      refine jr_aload_n (j := 0) hC dX8_undo_67 rfl rfl ?_
      refine jr_aload_n (j := 0) hC dX8_undo_68 rfl rfl ?_
      obtain ⟨hc2, h⟩ := h
      refine jr_get2 hC fl_RX8_22 hc2 dX8_undo_69 ?_
      refine jr_aload_n (j := 0) hC dX8_undo_72 rfl rfl ?_
      refine jr_get0 hC fl_RX8_55 hc2 dX8_undo_73 ?_
      obtain ⟨hc3, h⟩ := h
      obtain ⟨hc4, h⟩ := h
      refine jr_lald hC hc3 hc4 dX8_undo_76 ?_
      obtain ⟨M5, eM5⟩ : ∃ y : mw_M, y = sL M r0 1 (mL M (mP M r0 3) (Int32.toNatClampNeg (mI M r0 4))) := ⟨_, rfl⟩
      have h := h M5 eM5
      refine jr_putL hC fp_RX8_15 hc2 eM5 dX8_undo_77 ?_
      refine jr_aload_n (j := 0) hC dX8_undo_80 rfl rfl ?_
      refine jr_get0 hC fl_RX8_55 hc2 dX8_undo_81 ?_
      exact jr_ireti hC hZ (by decide) (by decide) dX8_undo_84 ⟨rfl, _, rfl, h⟩
    · have h := hfhb1 hb1
      refine jr_aload_n (j := 0) hC dX8_undo_40 rfl rfl ?_
      obtain ⟨hc6, h⟩ := h
      refine jr_get2 hC fl_RX8_7 hc6 dX8_undo_41 ?_
      refine jr_iload_n (j := 1) hC dX8_undo_44 rfl rfl ?_
      refine jr_aload_n (j := 0) hC dX8_undo_45 rfl rfl ?_
      refine jr_get2 hC fl_RX8_19 hc6 dX8_undo_46 ?_
      refine jr_sipush (v := (277 : Int32)) hC dX8_undo_49 (by decide) ?_
      refine jr_aload_n (j := 0) hC dX8_undo_52 rfl rfl ?_
      refine jr_get0 hC fl_RX8_55 hc6 dX8_undo_53 ?_
      refine jr_imul hC dX8_undo_56 ?_
      refine jr_iload_n (j := 1) hC dX8_undo_57 rfl rfl ?_
      refine jr_iadd hC dX8_undo_58 ?_
      obtain ⟨hc7, h⟩ := h
      obtain ⟨hc8, h⟩ := h
      refine jr_iald hC hc7 hc8 dX8_undo_59 ?_
      obtain ⟨hc9, h⟩ := h
      obtain ⟨hc10, h⟩ := h
      obtain ⟨M11, eM11⟩ : ∃ y : mw_M, y = sI M (mP M r0 0) (Int32.toNatClampNeg x1) (mI M (mP M r0 2) (Int32.toNatClampNeg (((277 : Int32) * (mI M r0 4)) + x1))) := ⟨_, rfl⟩
      have h := h M11 eM11
      refine jr_iast hC hc9 hc10 eM11 dX8_undo_60 ?_
      obtain ⟨v12, ev12⟩ : ∃ y : Int32, y = (x1 + (1 : Int32)) := ⟨_, rfl⟩
      have h := h v12 ev12
      refine jr_iinc (j := 1) (v := v12) (L1 := [(1, .int v12), (0, .ref r0)]) hC dX8_undo_61 rfl (by rw [ev12]; rfl) hnL (by decide) rfl ?_
      refine jr_goto (tgt := 33) hC dX8_undo_64 (by decide) ?_
      refine jr_sub [1, 0] (L1 := [(0, .ref r0), (1, .int v12)]) rfl ?_
      exact hrec M11 v12 h
  have B13 : ∀ (M : mw_M) (r0 : Nat) (s0 : Int32) (s1r : Nat) (h : w_X8_undo_b13 n M r0 s0 s1r Q), mw_J Y 0 0 n M 13 [(0, .ref r0)] [.int s0, .ref s1r] := by
    intro M r0 s0 s1r h
    unfold w_X8_undo_b13 at h
    obtain ⟨hc13, h⟩ := h
    refine jr_callV_i (As := [.int s0]) (st := []) hC nc_RX8_51 (c_X8_refuses hlt h) hc13 rfl rfl ⟨⟨rfl, rfl⟩, ⟨by decide, by decide⟩, by decide, by decide⟩ (Nat.le_of_ble_eq_true rfl) dX8_undo_13 (fun M14 v15 h => ?_)
    obtain ⟨hthb16, hfhb16⟩ := h
    refine jr_if_eq (tgt := 21) hC dX8_undo_16 (by decide) (fun hb16 => ?_) (fun hb16 => ?_)
    · have h := hthb16 hb16
      refine jr_aload_n (j := 0) hC dX8_undo_21 rfl rfl ?_
      refine jr_dup hC dX8_undo_22 rfl ?_
      obtain ⟨hc17, h⟩ := h
      refine jr_get0 hC fl_RX8_55 hc17 dX8_undo_23 ?_
      refine jr_iconst (v := (1 : Int32)) hC dX8_undo_26 (by decide) ?_
      refine jr_isub hC dX8_undo_27 ?_
      obtain ⟨M18, eM18⟩ : ∃ y : mw_M, y = sI M14 r0 4 ((mI M14 r0 4) - (1 : Int32)) := ⟨_, rfl⟩
      have h := h M18 eM18
      refine jr_putI hC fp_RX8_55 hc17 eM18 dX8_undo_28 ?_
      refine jr_iconst (v := (0 : Int32)) hC dX8_undo_31 (by decide) ?_
      refine jr_istore_n (L1 := [(1, .int (0 : Int32)), (0, .ref r0)]) hC dX8_undo_32 rfl hnL (by decide) rfl ?_
      refine jr_sub [1, 0] (L1 := [(0, .ref r0), (1, .int (0 : Int32))]) rfl ?_
      exact B33 M18 r0 (0 : Int32) h
    · have h := hfhb16 hb16
      refine jr_iconst (v := (0 : Int32)) hC dX8_undo_19 (by decide) ?_
      exact jr_ireti hC hZ (by decide) (by decide) dX8_undo_20 ⟨rfl, _, rfl, h⟩
  unfold w_X8_undo at h
  refine jr_aload_n (j := 0) hC dX8_undo_0 rfl rfl ?_
  refine jr_aload_n (j := 0) hC dX8_undo_1 rfl rfl ?_
  obtain ⟨hc19, h⟩ := h
  refine jr_get0 hC fl_RX8_55 hc19 dX8_undo_2 ?_
  obtain ⟨hthb20, hfhb20⟩ := h
  refine jr_if_le (tgt := 12) hC dX8_undo_5 (by decide) (fun hb20 => ?_) (fun hb20 => ?_)
  · have h := hthb20 hb20
    refine jr_iconst (v := (1 : Int32)) hC dX8_undo_12 (by decide) ?_
    exact B13 M a0 (1 : Int32) a0 h
  · have h := hfhb20 hb20
    refine jr_iconst (v := (0 : Int32)) hC dX8_undo_8 (by decide) ?_
    refine jr_goto (tgt := 13) hC dX8_undo_9 (by decide) ?_
    exact B13 M a0 (0 : Int32) a0 h
set_option maxHeartbeats 4000000 in
set_option maxRecDepth 100000 in
theorem c_X8_hashes {G : mw_G} {l : Launch} (hlt : l.stackTraces = false) {n : Nat} {M : mw_M} {a0 : Nat} {l1 : Int64} {Q : mw_M → Prop} (h : w_X8_hashes n M a0 l1 Q) : mw_Met G l yX8_hashes (.code yX8_hashes cX8_hashes 3 none) { frames := 0, cells := 0, slots := 0, locals := 0 } n M [.ref a0, .long l1] (fun n1 M1 v => n1 = n ∧ mw_rV Q M1 v) (fun _ _ => False) := by
  refine mw_enter (L0 := [(0, .ref a0), (1, .long l1)]) hlt rfl rfl (plainFor_of_name (by decide)) (Nat.le_of_ble_eq_true rfl) rfl ?_
  intro Y hC0 hZ hnL hini0 hn00
  have hC : mw_C G l _ Y cX8_hashes RX8 := hC0
  unfold w_X8_hashes at h
  refine jr_aload_n (j := 0) hC dX8_hashes_0 rfl rfl ?_
  refine jr_ldc2 (v := (31 : Int64)) hC tw_1370 dX8_hashes_1 ?_
  refine jr_aload_n (j := 0) hC dX8_hashes_4 rfl rfl ?_
  obtain ⟨hc1, h⟩ := h
  refine jr_get1 hC fl_RX8_245 hc1 dX8_hashes_5 ?_
  refine jr_lmul hC dX8_hashes_8 ?_
  refine jr_lload_n (j := 1) hC dX8_hashes_9 rfl rfl ?_
  refine jr_ladd hC dX8_hashes_10 ?_
  obtain ⟨M2, eM2⟩ : ∃ y : mw_M, y = sL M a0 13 (((31 : Int64) * (mL M a0 13)) + l1) := ⟨_, rfl⟩
  have h := h M2 eM2
  refine jr_putL hC fp_RX8_245 hc1 eM2 dX8_hashes_11 ?_
  exact jr_vret hC hZ (by decide) (by decide) dX8_hashes_14 ⟨rfl, rfl, h⟩
set_option maxHeartbeats 4000000 in
set_option maxRecDepth 100000 in
theorem c_X8_hashesRow {G : mw_G} {l : Launch} (hlt : l.stackTraces = false) {n : Nat} {M : mw_M} {a0 : Nat} {x1 : Int32} {x2 : Int32} {Q : mw_M → Prop} (h : w_X8_hashesRow n M a0 x1 x2 Q) : mw_Met G l yX8_hashesRow (.code yX8_hashesRow cX8_hashesRow 4 none) { frames := 1, cells := 0, slots := 0, locals := 22 } n M [.ref a0, .int x1, .int x2] (fun n1 M1 v => n1 = n ∧ mw_rV Q M1 v) (fun _ _ => False) := by
  refine mw_enter (L0 := [(0, .ref a0), (1, .int x1), (2, .int x2)]) hlt rfl rfl (plainFor_of_name (by decide)) (Nat.le_of_ble_eq_true rfl) rfl ?_
  intro Y hC0 hZ hnL hini0 hn00
  have hC : mw_C G l _ Y cX8_hashesRow RX8 := hC0
  have B2 : ∀ (M : mw_M) (r0 : Nat) (x1 : Int32) (x2 : Int32) (x3 : Int32) (h : w_X8_hashesRow_b2 n M r0 x1 x2 x3 Q), mw_J Y 0 0 n M 2 [(0, .ref r0), (1, .int x1), (2, .int x2), (3, .int x3)] [] := by
    intro M r0 x1 x2 x3 h
    obtain ⟨Inv, mu, h0, hs⟩ := h
    refine mw_loop2 (fun (M : mw_M) (x3 : Int32) => mw_J Y 0 0 n M 2 [(0, .ref r0), (1, .int x1), (2, .int x2), (3, .int x3)] []) Inv mu (fun M x3 hI hrec => ?_) M x3 h0
    have h := hs M x3 hI
    refine jr_iload_n (j := 3) hC dX8_hashesRow_2 rfl rfl ?_
    refine jr_iload_n (j := 2) hC dX8_hashesRow_3 rfl rfl ?_
    obtain ⟨hthb1, hfhb1⟩ := h
    refine jr_ic_ge (tgt := 26) hC dX8_hashesRow_4 (by decide) (fun hb1 => ?_) (fun hb1 => ?_)
    · have h := hthb1 hb1
      exact jr_vret hC hZ (by decide) (by decide) dX8_hashesRow_26 ⟨rfl, rfl, h⟩
    · have h := hfhb1 hb1
      refine jr_aload_n (j := 0) hC dX8_hashesRow_7 rfl rfl ?_
      refine jr_aload_n (j := 0) hC dX8_hashesRow_8 rfl rfl ?_
      obtain ⟨hc2, h⟩ := h
      refine jr_get2 hC fl_RX8_7 hc2 dX8_hashesRow_9 ?_
      refine jr_iload_n (j := 1) hC dX8_hashesRow_12 rfl rfl ?_
      refine jr_iload_n (j := 3) hC dX8_hashesRow_13 rfl rfl ?_
      refine jr_iadd hC dX8_hashesRow_14 ?_
      obtain ⟨hc3, h⟩ := h
      obtain ⟨hc4, h⟩ := h
      refine jr_iald hC hc3 hc4 dX8_hashesRow_15 ?_
      refine jr_i2l hC dX8_hashesRow_16 ?_
      refine jr_callV_v (As := [.long (Int32.toInt64 (mI M (mP M r0 0) (Int32.toNatClampNeg (x1 + x3))))]) (st := []) hC nc_RX8_248 (c_X8_hashes hlt h) hc2 rfl rfl ⟨⟨rfl, rfl⟩, ⟨by decide, by decide⟩, by decide, by decide⟩ (Nat.le_of_ble_eq_true rfl) dX8_hashesRow_17 (fun M5 h => ?_)
      obtain ⟨v6, ev6⟩ : ∃ y : Int32, y = (x3 + (1 : Int32)) := ⟨_, rfl⟩
      have h := h v6 ev6
      refine jr_iinc (j := 3) (v := v6) (L1 := [(3, .int v6), (0, .ref r0), (1, .int x1), (2, .int x2)]) hC dX8_hashesRow_20 rfl (by rw [ev6]; rfl) hnL (by decide) rfl ?_
      refine jr_goto (tgt := 2) hC dX8_hashesRow_23 (by decide) ?_
      refine jr_sub [1, 2, 3, 0] (L1 := [(0, .ref r0), (1, .int x1), (2, .int x2), (3, .int v6)]) rfl ?_
      exact hrec M5 v6 h
  unfold w_X8_hashesRow at h
  refine jr_iconst (v := (0 : Int32)) hC dX8_hashesRow_0 (by decide) ?_
  refine jr_istore_n (L1 := [(3, .int (0 : Int32)), (0, .ref a0), (1, .int x1), (2, .int x2)]) hC dX8_hashesRow_1 rfl hnL (by decide) rfl ?_
  refine jr_sub [1, 2, 3, 0] (L1 := [(0, .ref a0), (1, .int x1), (2, .int x2), (3, .int (0 : Int32))]) rfl ?_
  exact B2 M a0 x1 x2 (0 : Int32) h
set_option maxHeartbeats 4000000 in
set_option maxRecDepth 100000 in
theorem c_X8_digest {G : mw_G} {l : Launch} (hlt : l.stackTraces = false) {n : Nat} {M : mw_M} {a0 : Nat} {Q : mw_M → Int64 → Prop} (h : w_X8_digest n M a0 Q) : mw_Met G l yX8_digest (.code yX8_digest cX8_digest 2 (some .long)) { frames := 8, cells := 0, slots := 0, locals := 200 } n M [.ref a0] (fun n1 M1 v => n1 = n ∧ mw_rJ Q M1 v) (fun _ _ => False) := by
  refine mw_enter (L0 := [(0, .ref a0)]) hlt rfl rfl (plainFor_of_name (by decide)) (Nat.le_of_ble_eq_true rfl) rfl ?_
  intro Y hC0 hZ hnL hini0 hn00
  have hC : mw_C G l _ Y cX8_digest RX8 := hC0
  have B143 : ∀ (M : mw_M) (r0 : Nat) (x1 : Int32) (h : w_X8_digest_b143 n M r0 x1 Q), mw_J Y 0 0 n M 143 [(0, .ref r0), (1, .int x1)] [] := by
    intro M r0 x1 h
    obtain ⟨Inv, mu, h0, hs⟩ := h
    refine mw_loop2 (fun (M : mw_M) (x1 : Int32) => mw_J Y 0 0 n M 143 [(0, .ref r0), (1, .int x1)] []) Inv mu (fun M x1 hI hrec => ?_) M x1 h0
    have h := hs M x1 hI
    refine jr_iload_n (j := 1) hC dX8_digest_143 rfl rfl ?_
    refine jr_sipush (v := (4000 : Int32)) hC dX8_digest_144 (by decide) ?_
    obtain ⟨hthb1, hfhb1⟩ := h
    refine jr_ic_ge (tgt := 179) hC dX8_digest_147 (by decide) (fun hb1 => ?_) (fun hb1 => ?_)
    · have h := hthb1 hb1
      refine jr_aload_n (j := 0) hC dX8_digest_179 rfl rfl ?_
      obtain ⟨hc2, h⟩ := h
      refine jr_get1 hC fl_RX8_245 hc2 dX8_digest_180 ?_
      exact jr_lret hC hZ (by decide) (by decide) dX8_digest_183 ⟨rfl, _, rfl, h⟩
    · have h := hfhb1 hb1
      refine jr_aload_n (j := 0) hC dX8_digest_150 rfl rfl ?_
      refine jr_iload_n (j := 1) hC dX8_digest_151 rfl rfl ?_
      obtain ⟨hc3, h⟩ := h
      refine jr_callV_v (As := [.int x1]) (st := []) hC nc_RX8_231 (c_X8_mixes hlt h) hc3 rfl rfl ⟨⟨rfl, rfl⟩, ⟨by decide, by decide⟩, by decide, by decide⟩ (Nat.le_of_ble_eq_true rfl) dX8_digest_152 (fun M4 h => ?_)
      refine jr_aload_n (j := 0) hC dX8_digest_155 rfl rfl ?_
      refine jr_aload_n (j := 0) hC dX8_digest_156 rfl rfl ?_
      refine jr_get0 hC fl_RX8_222 hc3 dX8_digest_157 ?_
      refine jr_i2l hC dX8_digest_160 ?_
      refine jr_callV_v (As := [.long (Int32.toInt64 (mI M4 r0 10))]) (st := []) hC nc_RX8_248 (c_X8_hashes hlt h) hc3 rfl rfl ⟨⟨rfl, rfl⟩, ⟨by decide, by decide⟩, by decide, by decide⟩ (Nat.le_of_ble_eq_true rfl) dX8_digest_161 (fun M5 h => ?_)
      refine jr_aload_n (j := 0) hC dX8_digest_164 rfl rfl ?_
      refine jr_aload_n (j := 0) hC dX8_digest_165 rfl rfl ?_
      refine jr_get0 hC fl_RX8_225 hc3 dX8_digest_166 ?_
      refine jr_i2l hC dX8_digest_169 ?_
      refine jr_callV_v (As := [.long (Int32.toInt64 (mI M5 r0 11))]) (st := []) hC nc_RX8_248 (c_X8_hashes hlt h) hc3 rfl rfl ⟨⟨rfl, rfl⟩, ⟨by decide, by decide⟩, by decide, by decide⟩ (Nat.le_of_ble_eq_true rfl) dX8_digest_170 (fun M6 h => ?_)
      obtain ⟨v7, ev7⟩ : ∃ y : Int32, y = (x1 + (50 : Int32)) := ⟨_, rfl⟩
      have h := h v7 ev7
      refine jr_iinc (j := 1) (v := v7) (L1 := [(1, .int v7), (0, .ref r0)]) hC dX8_digest_173 rfl (by rw [ev7]; rfl) hnL (by decide) rfl ?_
      refine jr_goto (tgt := 143) hC dX8_digest_176 (by decide) ?_
      refine jr_sub [1, 0] (L1 := [(0, .ref r0), (1, .int v7)]) rfl ?_
      exact hrec M6 v7 h
  have B126 : ∀ (M : mw_M) (r0 : Nat) (x1 : Int32) (s0 : Int32) (s1 : Int32) (s2r : Nat) (K69 : mw_M → Int32 → Prop) (hK69 : ∀ (M_ : mw_M) (x1_ : Int32), K69 M_ x1_ → mw_J Y 0 0 n M_ 69 [(0, .ref r0), (1, .int x1_)] []) (h : w_X8_digest_b126 n M r0 x1 s0 s1 s2r Q K69), mw_J Y 0 0 n M 126 [(0, .ref r0), (1, .int x1)] [.int s0, .int s1, .ref s2r] := by
    intro M r0 x1 s0 s1 s2r K69 hK69 h
    unfold w_X8_digest_b126 at h
    obtain ⟨hc8, h⟩ := h
    refine jr_callV_v (As := [.int s1, .int s0]) (st := []) hC nc_RX8_254 (c_X8_hashesRow hlt h) hc8 rfl rfl ⟨⟨rfl, rfl⟩, ⟨by decide, by decide⟩, by decide, by decide⟩ (Nat.le_of_ble_eq_true rfl) dX8_digest_126 (fun M9 h => ?_)
    obtain ⟨v10, ev10⟩ : ∃ y : Int32, y = (x1 + (1 : Int32)) := ⟨_, rfl⟩
    have h := h v10 ev10
    refine jr_iinc (j := 1) (v := v10) (L1 := [(1, .int v10), (0, .ref r0)]) hC dX8_digest_129 rfl (by rw [ev10]; rfl) hnL (by decide) rfl ?_
    refine jr_goto (tgt := 69) hC dX8_digest_132 (by decide) ?_
    refine jr_sub [1, 0] (L1 := [(0, .ref r0), (1, .int v10)]) rfl ?_
    exact hK69 M9 v10 h
  have B69 : ∀ (M : mw_M) (r0 : Nat) (x1 : Int32) (h : w_X8_digest_b69 n M r0 x1 Q), mw_J Y 0 0 n M 69 [(0, .ref r0), (1, .int x1)] [] := by
    intro M r0 x1 h
    obtain ⟨Inv, mu, h0, hs⟩ := h
    refine mw_loop2 (fun (M : mw_M) (x1 : Int32) => mw_J Y 0 0 n M 69 [(0, .ref r0), (1, .int x1)] []) Inv mu (fun M x1 hI hrec => ?_) M x1 h0
    have h := hs M x1 hI
    refine jr_iload_n (j := 1) hC dX8_digest_69 rfl rfl ?_
    refine jr_iconst (v := (4 : Int32)) hC dX8_digest_70 (by decide) ?_
    obtain ⟨hthb11, hfhb11⟩ := h
    refine jr_ic_ge (tgt := 135) hC dX8_digest_71 (by decide) (fun hb11 => ?_) (fun hb11 => ?_)
    · have h := hthb11 hb11
      refine jr_aload_n (j := 0) hC dX8_digest_135 rfl rfl ?_
      refine jr_bipush (v := (99 : Int32)) hC dX8_digest_136 (by decide) ?_
      obtain ⟨hc12, h⟩ := h
      refine jr_callV_v (As := [.int (99 : Int32)]) (st := []) hC nc_RX8_228 (c_X8_laysDucks hlt h) hc12 rfl rfl ⟨⟨rfl, rfl⟩, ⟨by decide, by decide⟩, by decide, by decide⟩ (Nat.le_of_ble_eq_true rfl) dX8_digest_138 (fun M13 h => ?_)
      refine jr_iconst (v := (0 : Int32)) hC dX8_digest_141 (by decide) ?_
      refine jr_istore_n (L1 := [(1, .int (0 : Int32)), (0, .ref r0)]) hC dX8_digest_142 rfl hnL (by decide) rfl ?_
      refine jr_sub [1, 0] (L1 := [(0, .ref r0), (1, .int (0 : Int32))]) rfl ?_
      exact B143 M13 r0 (0 : Int32) h
    · have h := hfhb11 hb11
      refine jr_aload_n (j := 0) hC dX8_digest_74 rfl rfl ?_
      refine jr_iload_n (j := 1) hC dX8_digest_75 rfl rfl ?_
      refine jr_callS_pi (As := [.int x1]) (st := [.ref r0]) hC nc_RX8_35 (c_X8_trackAt hlt h) rfl rfl ⟨⟨rfl, rfl⟩, ⟨by decide, by decide⟩, by decide, by decide⟩ (Nat.le_of_ble_eq_true rfl) dX8_digest_76 (fun v14 h => ?_)
      refine jr_iconst (v := (5 : Int32)) hC dX8_digest_79 (by decide) ?_
      refine jr_iconst (v := (3 : Int32)) hC dX8_digest_80 (by decide) ?_
      refine jr_aload_n (j := 0) hC dX8_digest_81 rfl rfl ?_
      obtain ⟨hc15, h⟩ := h
      refine jr_get2 hC fl_RX8_7 hc15 dX8_digest_82 ?_
      refine jr_iload_n (j := 1) hC dX8_digest_85 rfl rfl ?_
      refine jr_callS_pi (As := [.int x1]) (st := [.ref (mP M r0 0), .int (3 : Int32), .int (5 : Int32), .int v14, .ref r0]) hC nc_RX8_35 (c_X8_trackAt hlt h) rfl rfl ⟨⟨rfl, rfl⟩, ⟨by decide, by decide⟩, by decide, by decide⟩ (Nat.le_of_ble_eq_true rfl) dX8_digest_86 (fun v16 h => ?_)
      refine jr_iconst (v := (4 : Int32)) hC dX8_digest_89 (by decide) ?_
      refine jr_iadd hC dX8_digest_90 ?_
      obtain ⟨hc17, h⟩ := h
      obtain ⟨hc18, h⟩ := h
      refine jr_iald hC hc17 hc18 dX8_digest_91 ?_
      refine jr_imul hC dX8_digest_92 ?_
      refine jr_iadd hC dX8_digest_93 ?_
      refine jr_callV_v (As := [.int v14, .int ((5 : Int32) + ((3 : Int32) * (mI M (mP M r0 0) (Int32.toNatClampNeg (v16 + (4 : Int32))))))]) (st := []) hC nc_RX8_254 (c_X8_hashesRow hlt h) hc15 rfl rfl ⟨⟨rfl, rfl⟩, ⟨by decide, by decide⟩, by decide, by decide⟩ (Nat.le_of_ble_eq_true rfl) dX8_digest_94 (fun M19 h => ?_)
      refine jr_aload_n (j := 0) hC dX8_digest_97 rfl rfl ?_
      refine jr_iload_n (j := 1) hC dX8_digest_98 rfl rfl ?_
      refine jr_callS_pi (As := [.int x1]) (st := [.ref r0]) hC nc_RX8_35 (c_X8_trackAt hlt h) rfl rfl ⟨⟨rfl, rfl⟩, ⟨by decide, by decide⟩, by decide, by decide⟩ (Nat.le_of_ble_eq_true rfl) dX8_digest_99 (fun v20 h => ?_)
      refine jr_bipush (v := (29 : Int32)) hC dX8_digest_102 (by decide) ?_
      refine jr_iadd hC dX8_digest_104 ?_
      refine jr_aload_n (j := 0) hC dX8_digest_105 rfl rfl ?_
      refine jr_get2 hC fl_RX8_7 hc15 dX8_digest_106 ?_
      refine jr_iload_n (j := 1) hC dX8_digest_109 rfl rfl ?_
      refine jr_callS_pi (As := [.int x1]) (st := [.ref (mP M19 r0 0), .int (v20 + (29 : Int32)), .ref r0]) hC nc_RX8_35 (c_X8_trackAt hlt h) rfl rfl ⟨⟨rfl, rfl⟩, ⟨by decide, by decide⟩, by decide, by decide⟩ (Nat.le_of_ble_eq_true rfl) dX8_digest_110 (fun v21 h => ?_)
      refine jr_bipush (v := (29 : Int32)) hC dX8_digest_113 (by decide) ?_
      refine jr_iadd hC dX8_digest_115 ?_
      obtain ⟨hc22, h⟩ := h
      obtain ⟨hc23, h⟩ := h
      refine jr_iald hC hc22 hc23 dX8_digest_116 ?_
      refine jr_iconst (v := (-1 : Int32)) hC dX8_digest_117 (by decide) ?_
      obtain ⟨hthb24, hfhb24⟩ := h
      refine jr_ic_ne (tgt := 125) hC dX8_digest_118 (by decide) (fun hb24 => ?_) (fun hb24 => ?_)
      · have h := hthb24 hb24
        refine jr_iconst (v := (5 : Int32)) hC dX8_digest_125 (by decide) ?_
        exact B126 M19 r0 x1 (5 : Int32) (v20 + (29 : Int32)) r0 (fun (M_ : mw_M) (x1_ : Int32) => Inv M_ x1_ ∧ mu M_ x1_ < mu M x1) (fun M_ x1_ h9 => hrec M_ x1_ h9) h
      · have h := hfhb24 hb24
        refine jr_iconst (v := (1 : Int32)) hC dX8_digest_121 (by decide) ?_
        refine jr_goto (tgt := 126) hC dX8_digest_122 (by decide) ?_
        exact B126 M19 r0 x1 (1 : Int32) (v20 + (29 : Int32)) r0 (fun (M_ : mw_M) (x1_ : Int32) => Inv M_ x1_ ∧ mu M_ x1_ < mu M x1) (fun M_ x1_ h9 => hrec M_ x1_ h9) h
  unfold w_X8_digest at h
  refine jr_aload_n (j := 0) hC dX8_digest_0 rfl rfl ?_
  refine jr_iconst (v := (0 : Int32)) hC dX8_digest_1 (by decide) ?_
  obtain ⟨hc25, h⟩ := h
  obtain ⟨M26, eM26⟩ : ∃ y : mw_M, y = sI M a0 5 (0 : Int32) := ⟨_, rfl⟩
  have h := h M26 eM26
  refine jr_putI hC fp_RX8_39 hc25 eM26 dX8_digest_2 ?_
  refine jr_aload_n (j := 0) hC dX8_digest_5 rfl rfl ?_
  refine jr_ldc2 (v := (18363 : Int64)) hC tw_1396 dX8_digest_6 ?_
  obtain ⟨M27, eM27⟩ : ∃ y : mw_M, y = sL M26 a0 13 (18363 : Int64) := ⟨_, rfl⟩
  have h := h M27 eM27
  refine jr_putL hC fp_RX8_245 hc25 eM27 dX8_digest_9 ?_
  refine jr_aload_n (j := 0) hC dX8_digest_12 rfl rfl ?_
  refine jr_aload_n (j := 0) hC dX8_digest_13 rfl rfl ?_
  refine jr_get0 hC fl_RX8_55 hc25 dX8_digest_14 ?_
  refine jr_i2l hC dX8_digest_17 ?_
  refine jr_callV_v (As := [.long (Int32.toInt64 (mI M27 a0 4))]) (st := []) hC nc_RX8_248 (c_X8_hashes hlt h) hc25 rfl rfl ⟨⟨rfl, rfl⟩, ⟨by decide, by decide⟩, by decide, by decide⟩ (Nat.le_of_ble_eq_true rfl) dX8_digest_18 (fun M28 h => ?_)
  refine jr_aload_n (j := 0) hC dX8_digest_21 rfl rfl ?_
  refine jr_iconst (v := (0 : Int32)) hC dX8_digest_22 (by decide) ?_
  refine jr_bipush (v := (8 : Int32)) hC dX8_digest_23 (by decide) ?_
  refine jr_callV_v (As := [.int (0 : Int32), .int (8 : Int32)]) (st := []) hC nc_RX8_254 (c_X8_hashesRow hlt h) hc25 rfl rfl ⟨⟨rfl, rfl⟩, ⟨by decide, by decide⟩, by decide, by decide⟩ (Nat.le_of_ble_eq_true rfl) dX8_digest_25 (fun M29 h => ?_)
  refine jr_aload_n (j := 0) hC dX8_digest_28 rfl rfl ?_
  refine jr_aload_n (j := 0) hC dX8_digest_29 rfl rfl ?_
  refine jr_get1 hC fl_RX8_15 hc25 dX8_digest_30 ?_
  refine jr_callV_v (As := [.long (mL M29 a0 1)]) (st := []) hC nc_RX8_248 (c_X8_hashes hlt h) hc25 rfl rfl ⟨⟨rfl, rfl⟩, ⟨by decide, by decide⟩, by decide, by decide⟩ (Nat.le_of_ble_eq_true rfl) dX8_digest_33 (fun M30 h => ?_)
  refine jr_aload_n (j := 0) hC dX8_digest_36 rfl rfl ?_
  refine jr_bipush (v := (9 : Int32)) hC dX8_digest_37 (by decide) ?_
  refine jr_bipush (v := (24 : Int32)) hC dX8_digest_39 (by decide) ?_
  refine jr_callV_v (As := [.int (9 : Int32), .int (24 : Int32)]) (st := []) hC nc_RX8_254 (c_X8_hashesRow hlt h) hc25 rfl rfl ⟨⟨rfl, rfl⟩, ⟨by decide, by decide⟩, by decide, by decide⟩ (Nat.le_of_ble_eq_true rfl) dX8_digest_41 (fun M31 h => ?_)
  refine jr_aload_n (j := 0) hC dX8_digest_44 rfl rfl ?_
  refine jr_bipush (v := (8 : Int32)) hC dX8_digest_45 (by decide) ?_
  refine jr_iconst (v := (1 : Int32)) hC dX8_digest_47 (by decide) ?_
  refine jr_callV_v (As := [.int (8 : Int32), .int (1 : Int32)]) (st := []) hC nc_RX8_254 (c_X8_hashesRow hlt h) hc25 rfl rfl ⟨⟨rfl, rfl⟩, ⟨by decide, by decide⟩, by decide, by decide⟩ (Nat.le_of_ble_eq_true rfl) dX8_digest_48 (fun M32 h => ?_)
  refine jr_aload_n (j := 0) hC dX8_digest_51 rfl rfl ?_
  refine jr_bipush (v := (33 : Int32)) hC dX8_digest_52 (by decide) ?_
  refine jr_bipush (v := (9 : Int32)) hC dX8_digest_54 (by decide) ?_
  refine jr_aload_n (j := 0) hC dX8_digest_56 rfl rfl ?_
  refine jr_get2 hC fl_RX8_7 hc25 dX8_digest_57 ?_
  refine jr_bipush (v := (8 : Int32)) hC dX8_digest_60 (by decide) ?_
  obtain ⟨hc33, h⟩ := h
  obtain ⟨hc34, h⟩ := h
  refine jr_iald hC hc33 hc34 dX8_digest_62 ?_
  refine jr_imul hC dX8_digest_63 ?_
  refine jr_callV_v (As := [.int (33 : Int32), .int ((9 : Int32) * (mI M32 (mP M32 a0 0) (Int32.toNatClampNeg (8 : Int32))))]) (st := []) hC nc_RX8_254 (c_X8_hashesRow hlt h) hc25 rfl rfl ⟨⟨rfl, rfl⟩, ⟨by decide, by decide⟩, by decide, by decide⟩ (Nat.le_of_ble_eq_true rfl) dX8_digest_64 (fun M35 h => ?_)
  refine jr_iconst (v := (0 : Int32)) hC dX8_digest_67 (by decide) ?_
  refine jr_istore_n (L1 := [(1, .int (0 : Int32)), (0, .ref a0)]) hC dX8_digest_68 rfl hnL (by decide) rfl ?_
  refine jr_sub [1, 0] (L1 := [(0, .ref a0), (1, .int (0 : Int32))]) rfl ?_
  exact B69 M35 a0 (0 : Int32) h
