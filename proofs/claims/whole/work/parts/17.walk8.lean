set_option maxHeartbeats 4000000 in
set_option maxRecDepth 100000 in
theorem c_X8_automation {G : mw_G} {l : Launch} (hlt : l.stackTraces = false) {n : Nat} {M : mw_M} {a0 : Nat} {x1 : Int32} {x2 : Int32} {Q : mw_M → Int32 → Prop} (h : w_X8_automation n M a0 x1 x2 Q) : mw_Met G l yX8_automation (.code yX8_automation cX8_automation 3 (some .int)) { frames := 3, cells := 0, slots := 0, locals := 72 } n M [.ref a0, .int x1, .int x2] (fun n1 M1 v => n1 = n ∧ mw_rI Q M1 v) (fun _ _ => False) := by
  refine mw_enter (L0 := [(0, .ref a0), (1, .int x1), (2, .int x2)]) hlt rfl rfl (plainFor_of_name (by decide)) (Nat.le_of_ble_eq_true rfl) rfl ?_
  intro Y hC0 hZ hnL hini0 hn00
  have hC : mw_C G l _ Y cX8_automation RX8 := hC0
  have B40 : ∀ (M : mw_M) (s0 : Int32) (h : w_X8_automation_b40 n M s0 Q), mw_J Y 0 0 n M 40 [] [.int s0] := by
    intro M s0 h
    unfold w_X8_automation_b40 at h
    exact jr_ireti hC hZ (by decide) (by decide) dX8_automation_40 ⟨rfl, _, rfl, h⟩
  have B24 : ∀ (M : mw_M) (r0 : Nat) (x1 : Int32) (x2 : Int32) (s0 : Int32) (s1r : Nat) (h : w_X8_automation_b24 n M r0 x1 x2 s0 s1r Q), mw_J Y 0 0 n M 24 [(0, .ref r0), (1, .int x1), (2, .int x2)] [.int s0, .ref s1r] := by
    intro M r0 x1 x2 s0 s1r h
    unfold w_X8_automation_b24 at h
    obtain ⟨hc1, h⟩ := h
    refine jr_callV_i (As := [.int s0]) (st := []) hC nc_RX8_51 (c_X8_refuses hlt h) hc1 rfl rfl ⟨⟨rfl, rfl⟩, ⟨by decide, by decide⟩, by decide, by decide⟩ (Nat.le_of_ble_eq_true rfl) dX8_automation_24 (fun M2 v3 h => ?_)
    obtain ⟨hthb4, hfhb4⟩ := h
    refine jr_if_eq (tgt := 34) hC dX8_automation_27 (by decide) (fun hb4 => ?_) (fun hb4 => ?_)
    · have h := hthb4 hb4
      refine jr_aload_n (j := 0) hC dX8_automation_34 rfl rfl ?_
      refine jr_iload_n (j := 1) hC dX8_automation_35 rfl rfl ?_
      refine jr_iload_n (j := 2) hC dX8_automation_36 rfl rfl ?_
      obtain ⟨hc5, h⟩ := h
      refine jr_callV_pi (As := [.int x1, .int x2]) (st := []) hC nc_RX8_188 (c_X8_laneAt hlt h) hc5 rfl rfl ⟨⟨rfl, rfl⟩, ⟨by decide, by decide⟩, by decide, by decide⟩ (Nat.le_of_ble_eq_true rfl) dX8_automation_37 (fun v6 h => ?_)
      refine jr_sub [] (L1 := []) rfl ?_
      exact B40 M2 v6 h
    · have h := hfhb4 hb4
      refine jr_iconst (v := (0 : Int32)) hC dX8_automation_30 (by decide) ?_
      refine jr_goto (tgt := 40) hC dX8_automation_31 (by decide) ?_
      refine jr_sub [] (L1 := []) rfl ?_
      exact B40 M2 (0 : Int32) h
  unfold w_X8_automation at h
  refine jr_aload_n (j := 0) hC dX8_automation_0 rfl rfl ?_
  refine jr_iload_n (j := 1) hC dX8_automation_1 rfl rfl ?_
  refine jr_callS_pi (As := [.int x1]) (st := [.ref a0]) hC nc_RX8_111 (c_X8_isTrack hlt h) rfl rfl ⟨⟨rfl, rfl⟩, ⟨by decide, by decide⟩, by decide, by decide⟩ (Nat.le_of_ble_eq_true rfl) dX8_automation_2 (fun v7 h => ?_)
  obtain ⟨hthb8, hfhb8⟩ := h
  refine jr_if_ne (tgt := 12) hC dX8_automation_5 (by decide) (fun hb8 => ?_) (fun hb8 => ?_)
  · have h := hthb8 hb8
    refine jr_iload_n (j := 2) hC dX8_automation_12 rfl rfl ?_
    refine jr_callS_pi (As := [.int x2]) (st := [.ref a0]) hC nc_RX8_114 (c_X8_isPlace hlt h) rfl rfl ⟨⟨rfl, rfl⟩, ⟨by decide, by decide⟩, by decide, by decide⟩ (Nat.le_of_ble_eq_true rfl) dX8_automation_13 (fun v9 h => ?_)
    obtain ⟨hthb10, hfhb10⟩ := h
    refine jr_if_eq (tgt := 23) hC dX8_automation_16 (by decide) (fun hb10 => ?_) (fun hb10 => ?_)
    · have h := hthb10 hb10
      refine jr_iconst (v := (2 : Int32)) hC dX8_automation_23 (by decide) ?_
      exact B24 M a0 x1 x2 (2 : Int32) a0 h
    · have h := hfhb10 hb10
      refine jr_iconst (v := (0 : Int32)) hC dX8_automation_19 (by decide) ?_
      refine jr_goto (tgt := 24) hC dX8_automation_20 (by decide) ?_
      exact B24 M a0 x1 x2 (0 : Int32) a0 h
  · have h := hfhb8 hb8
    refine jr_iconst (v := (1 : Int32)) hC dX8_automation_8 (by decide) ?_
    refine jr_goto (tgt := 24) hC dX8_automation_9 (by decide) ?_
    exact B24 M a0 x1 x2 (1 : Int32) a0 h
set_option maxHeartbeats 4000000 in
set_option maxRecDepth 100000 in
theorem c_X8_isKey {G : mw_G} {l : Launch} (hlt : l.stackTraces = false) {n : Nat} {M : mw_M} {a0 : Nat} {x1 : Int32} {Q : Int32 → Prop} (h : w_X8_isKey n M a0 x1 Q) : mw_Met G l yX8_isKey (.code yX8_isKey cX8_isKey 4 (some .boolean)) { frames := 1, cells := 0, slots := 0, locals := 20 } n M [.ref a0, .int x1] (fun n1 M1 v => n1 = n ∧ mw_pI M Q M1 v) (fun _ _ => False) := by
  refine mw_enter (L0 := [(0, .ref a0), (1, .int x1)]) hlt rfl rfl (plainFor_of_name (by decide)) (Nat.le_of_ble_eq_true rfl) rfl ?_
  intro Y hC0 hZ hnL hini0 hn00
  have hC : mw_C G l _ Y cX8_isKey RX8 := hC0
  have B34 : ∀ (r0 : Nat) (x1 : Int32) (x3 : Int32) (s0 : Int32) (K4 : Int32 → Int32 → Prop) (hK4 : ∀ (x2_ : Int32) (x3_ : Int32), K4 x2_ x3_ → mw_J Y 0 0 n M 4 [(0, .ref r0), (1, .int x1), (2, .int x2_), (3, .int x3_)] []) (h : w_X8_isKey_b34 n M r0 x1 x3 s0 Q K4), mw_J Y 0 0 n M 34 [(0, .ref r0), (1, .int x1), (3, .int x3)] [.int s0] := by
    intro r0 x1 x3 s0 K4 hK4 h
    unfold w_X8_isKey_b34 at h
    refine jr_istore_n (L1 := [(2, .int s0), (0, .ref r0), (1, .int x1), (3, .int x3)]) hC dX8_isKey_34 rfl hnL (by decide) rfl ?_
    obtain ⟨v1, ev1⟩ : ∃ y : Int32, y = (x3 + (1 : Int32)) := ⟨_, rfl⟩
    have h := h v1 ev1
    refine jr_iinc (j := 3) (v := v1) (L1 := [(3, .int v1), (2, .int s0), (0, .ref r0), (1, .int x1)]) hC dX8_isKey_35 rfl (by rw [ev1]; rfl) hnL (by decide) rfl ?_
    refine jr_goto (tgt := 4) hC dX8_isKey_38 (by decide) ?_
    refine jr_sub [2, 3, 1, 0] (L1 := [(0, .ref r0), (1, .int x1), (2, .int s0), (3, .int v1)]) rfl ?_
    exact hK4 s0 v1 h
  have B29 : ∀ (r0 : Nat) (x1 : Int32) (x3 : Int32) (K4 : Int32 → Int32 → Prop) (hK4 : ∀ (x2_ : Int32) (x3_ : Int32), K4 x2_ x3_ → mw_J Y 0 0 n M 4 [(0, .ref r0), (1, .int x1), (2, .int x2_), (3, .int x3_)] []) (h : w_X8_isKey_b29 n M r0 x1 x3 Q K4), mw_J Y 0 0 n M 29 [(0, .ref r0), (1, .int x1), (3, .int x3)] [] := by
    intro r0 x1 x3 K4 hK4 h
    unfold w_X8_isKey_b29 at h
    refine jr_iconst (v := (1 : Int32)) hC dX8_isKey_29 (by decide) ?_
    refine jr_goto (tgt := 34) hC dX8_isKey_30 (by decide) ?_
    exact B34 r0 x1 x3 (1 : Int32) K4 hK4 h
  have B4 : ∀ (r0 : Nat) (x1 : Int32) (x2 : Int32) (x3 : Int32) (h : w_X8_isKey_b4 n M r0 x1 x2 x3 Q), mw_J Y 0 0 n M 4 [(0, .ref r0), (1, .int x1), (2, .int x2), (3, .int x3)] [] := by
    intro r0 x1 x2 x3 h
    obtain ⟨Inv, mu, h0, hs⟩ := h
    refine mw_loop2 (fun (x2 : Int32) (x3 : Int32) => mw_J Y 0 0 n M 4 [(0, .ref r0), (1, .int x1), (2, .int x2), (3, .int x3)] []) Inv mu (fun x2 x3 hI hrec => ?_) x2 x3 h0
    have h := hs x2 x3 hI
    refine jr_iload_n (j := 3) hC dX8_isKey_4 rfl rfl ?_
    refine jr_iconst (v := (4 : Int32)) hC dX8_isKey_5 (by decide) ?_
    obtain ⟨hthb2, hfhb2⟩ := h
    refine jr_ic_ge (tgt := 41) hC dX8_isKey_6 (by decide) (fun hb2 => ?_) (fun hb2 => ?_)
    · have h := hthb2 hb2
      refine jr_iload_n (j := 2) hC dX8_isKey_41 rfl rfl ?_
      obtain ⟨hc3, h⟩ := h
      exact jr_iretz hC hZ (by decide) (by decide) hc3 dX8_isKey_42 ⟨rfl, rfl, _, rfl, h⟩
    · have h := hfhb2 hb2
      refine jr_iload_n (j := 2) hC dX8_isKey_9 rfl rfl ?_
      obtain ⟨hthb4, hfhb4⟩ := h
      refine jr_if_ne (tgt := 29) hC dX8_isKey_10 (by decide) (fun hb4 => ?_) (fun hb4 => ?_)
      · have h := hthb4 hb4
        refine jr_sub [0, 1, 3] (L1 := [(0, .ref r0), (1, .int x1), (3, .int x3)]) rfl ?_
        exact B29 r0 x1 x3 (fun (x2_ : Int32) (x3_ : Int32) => Inv x2_ x3_ ∧ mu x2_ x3_ < mu x2 x3) (fun x2_ x3_ h9 => hrec x2_ x3_ h9) h
      · have h := hfhb4 hb4
        refine jr_aload_n (j := 0) hC dX8_isKey_13 rfl rfl ?_
        obtain ⟨hc5, h⟩ := h
        refine jr_get2 hC fl_RX8_7 hc5 dX8_isKey_14 ?_
        refine jr_iload_n (j := 3) hC dX8_isKey_17 rfl rfl ?_
        refine jr_callS_pi (As := [.int x3]) (st := [.ref (mP M r0 0)]) hC nc_RX8_35 (c_X8_trackAt hlt h) rfl rfl ⟨⟨rfl, rfl⟩, ⟨by decide, by decide⟩, by decide, by decide⟩ (Nat.le_of_ble_eq_true rfl) dX8_isKey_18 (fun v6 h => ?_)
        refine jr_bipush (v := (29 : Int32)) hC dX8_isKey_21 (by decide) ?_
        refine jr_iadd hC dX8_isKey_23 ?_
        obtain ⟨hc7, h⟩ := h
        obtain ⟨hc8, h⟩ := h
        refine jr_iald hC hc7 hc8 dX8_isKey_24 ?_
        refine jr_iload_n (j := 1) hC dX8_isKey_25 rfl rfl ?_
        obtain ⟨hthb9, hfhb9⟩ := h
        refine jr_ic_ne (tgt := 33) hC dX8_isKey_26 (by decide) (fun hb9 => ?_) (fun hb9 => ?_)
        · have h := hthb9 hb9
          refine jr_iconst (v := (0 : Int32)) hC dX8_isKey_33 (by decide) ?_
          refine jr_sub [0, 1, 3] (L1 := [(0, .ref r0), (1, .int x1), (3, .int x3)]) rfl ?_
          exact B34 r0 x1 x3 (0 : Int32) (fun (x2_ : Int32) (x3_ : Int32) => Inv x2_ x3_ ∧ mu x2_ x3_ < mu x2 x3) (fun x2_ x3_ h9 => hrec x2_ x3_ h9) h
        · have h := hfhb9 hb9
          refine jr_sub [0, 1, 3] (L1 := [(0, .ref r0), (1, .int x1), (3, .int x3)]) rfl ?_
          exact B29 r0 x1 x3 (fun (x2_ : Int32) (x3_ : Int32) => Inv x2_ x3_ ∧ mu x2_ x3_ < mu x2 x3) (fun x2_ x3_ h9 => hrec x2_ x3_ h9) h
  unfold w_X8_isKey at h
  refine jr_iconst (v := (0 : Int32)) hC dX8_isKey_0 (by decide) ?_
  refine jr_istore_n (L1 := [(2, .int (0 : Int32)), (0, .ref a0), (1, .int x1)]) hC dX8_isKey_1 rfl hnL (by decide) rfl ?_
  refine jr_iconst (v := (0 : Int32)) hC dX8_isKey_2 (by decide) ?_
  refine jr_istore_n (L1 := [(3, .int (0 : Int32)), (2, .int (0 : Int32)), (0, .ref a0), (1, .int x1)]) hC dX8_isKey_3 rfl hnL (by decide) rfl ?_
  refine jr_sub [2, 3, 1, 0] (L1 := [(0, .ref a0), (1, .int x1), (2, .int (0 : Int32)), (3, .int (0 : Int32))]) rfl ?_
  exact B4 a0 x1 (0 : Int32) (0 : Int32) h
set_option maxHeartbeats 4000000 in
set_option maxRecDepth 100000 in
theorem c_X8_duck {G : mw_G} {l : Launch} (hlt : l.stackTraces = false) {n : Nat} {M : mw_M} {a0 : Nat} {x1 : Int32} {x2 : Int32} {x3 : Int32} {x4 : Int32} {x5 : Int32} {x6 : Int32} {Q : mw_M → Int32 → Prop} (h : w_X8_duck n M a0 x1 x2 x3 x4 x5 x6 Q) : mw_Met G l yX8_duck (.code yX8_duck cX8_duck 11 (some .int)) { frames := 2, cells := 0, slots := 0, locals := 45 } n M [.ref a0, .int x1, .int x2, .int x3, .int x4, .int x5, .int x6] (fun n1 M1 v => n1 = n ∧ mw_rI Q M1 v) (fun _ _ => False) := by
  refine mw_enter (L0 := [(0, .ref a0), (1, .int x1), (2, .int x2), (3, .int x3), (4, .int x4), (5, .int x5), (6, .int x6)]) hlt rfl rfl (plainFor_of_name (by decide)) (Nat.le_of_ble_eq_true rfl) rfl ?_
  intro Y hC0 hZ hnL hini0 hn00
  have hC : mw_C G l _ Y cX8_duck RX8 := hC0
  have B146 : ∀ (M : mw_M) (r0 : Nat) (x1 : Int32) (x2 : Int32) (x3 : Int32) (x4 : Int32) (x5 : Int32) (x6 : Int32) (s0 : Int32) (s1r : Nat) (h : w_X8_duck_b146 n M r0 x1 x2 x3 x4 x5 x6 s0 s1r Q), mw_J Y 0 0 n M 146 [(0, .ref r0), (1, .int x1), (2, .int x2), (3, .int x3), (4, .int x4), (5, .int x5), (6, .int x6)] [.int s0, .ref s1r] := by
    intro M r0 x1 x2 x3 x4 x5 x6 s0 s1r h
    unfold w_X8_duck_b146 at h
    obtain ⟨hc1, h⟩ := h
    refine jr_callV_i (As := [.int s0]) (st := []) hC nc_RX8_73 (c_X8_refusesChange hlt h) hc1 rfl rfl ⟨⟨rfl, rfl⟩, ⟨by decide, by decide⟩, by decide, by decide⟩ (Nat.le_of_ble_eq_true rfl) dX8_duck_146 (fun M2 v3 h => ?_)
    obtain ⟨hthb4, hfhb4⟩ := h
    refine jr_if_eq (tgt := 154) hC dX8_duck_149 (by decide) (fun hb4 => ?_) (fun hb4 => ?_)
    · have h := hthb4 hb4
      refine jr_iload_n (j := 1) hC dX8_duck_154 rfl rfl ?_
      refine jr_callS_pi (As := [.int x1]) (st := []) hC nc_RX8_35 (c_X8_trackAt hlt h) rfl rfl ⟨⟨rfl, rfl⟩, ⟨by decide, by decide⟩, by decide, by decide⟩ (Nat.le_of_ble_eq_true rfl) dX8_duck_155 (fun v5 h => ?_)
      refine jr_istore (L1 := [(10, .int v5), (0, .ref r0), (1, .int x1), (2, .int x2), (3, .int x3), (4, .int x4), (5, .int x5), (6, .int x6)]) hC dX8_duck_158 hnL (by decide) rfl ?_
      refine jr_aload_n (j := 1) hC dX8_duck_160 rfl rfl ?_
      obtain ⟨hc6, h⟩ := h
      refine jr_get2 hC fl_RX8_7 hc6 dX8_duck_161 ?_
      refine jr_iload (j := 0) hC dX8_duck_164 rfl ?_
      refine jr_bipush (v := (30 : Int32)) hC dX8_duck_166 (by decide) ?_
      refine jr_iadd hC dX8_duck_168 ?_
      refine jr_iload_n (j := 4) hC dX8_duck_169 rfl rfl ?_
      obtain ⟨hc7, h⟩ := h
      obtain ⟨hc8, h⟩ := h
      obtain ⟨M9, eM9⟩ : ∃ y : mw_M, y = sI M2 (mP M2 r0 0) (Int32.toNatClampNeg (v5 + (30 : Int32))) x3 := ⟨_, rfl⟩
      have h := h M9 eM9
      refine jr_iast hC hc7 hc8 eM9 dX8_duck_170 ?_
      refine jr_aload_n (j := 1) hC dX8_duck_171 rfl rfl ?_
      refine jr_get2 hC fl_RX8_7 hc6 dX8_duck_172 ?_
      refine jr_iload (j := 0) hC dX8_duck_175 rfl ?_
      refine jr_bipush (v := (31 : Int32)) hC dX8_duck_177 (by decide) ?_
      refine jr_iadd hC dX8_duck_179 ?_
      refine jr_iload (j := 5) hC dX8_duck_180 rfl ?_
      obtain ⟨hc10, h⟩ := h
      obtain ⟨hc11, h⟩ := h
      obtain ⟨M12, eM12⟩ : ∃ y : mw_M, y = sI M9 (mP M9 r0 0) (Int32.toNatClampNeg (v5 + (31 : Int32))) x4 := ⟨_, rfl⟩
      have h := h M12 eM12
      refine jr_iast hC hc10 hc11 eM12 dX8_duck_182 ?_
      refine jr_aload_n (j := 1) hC dX8_duck_183 rfl rfl ?_
      refine jr_get2 hC fl_RX8_7 hc6 dX8_duck_184 ?_
      refine jr_iload (j := 0) hC dX8_duck_187 rfl ?_
      refine jr_bipush (v := (32 : Int32)) hC dX8_duck_189 (by decide) ?_
      refine jr_iadd hC dX8_duck_191 ?_
      refine jr_iload (j := 6) hC dX8_duck_192 rfl ?_
      obtain ⟨hc13, h⟩ := h
      obtain ⟨hc14, h⟩ := h
      obtain ⟨M15, eM15⟩ : ∃ y : mw_M, y = sI M12 (mP M12 r0 0) (Int32.toNatClampNeg (v5 + (32 : Int32))) x5 := ⟨_, rfl⟩
      have h := h M15 eM15
      refine jr_iast hC hc13 hc14 eM15 dX8_duck_194 ?_
      refine jr_aload_n (j := 1) hC dX8_duck_195 rfl rfl ?_
      refine jr_get2 hC fl_RX8_7 hc6 dX8_duck_196 ?_
      refine jr_iload (j := 0) hC dX8_duck_199 rfl ?_
      refine jr_bipush (v := (33 : Int32)) hC dX8_duck_201 (by decide) ?_
      refine jr_iadd hC dX8_duck_203 ?_
      refine jr_iload (j := 7) hC dX8_duck_204 rfl ?_
      obtain ⟨hc16, h⟩ := h
      obtain ⟨hc17, h⟩ := h
      obtain ⟨M18, eM18⟩ : ∃ y : mw_M, y = sI M15 (mP M15 r0 0) (Int32.toNatClampNeg (v5 + (33 : Int32))) x6 := ⟨_, rfl⟩
      have h := h M18 eM18
      refine jr_iast hC hc16 hc17 eM18 dX8_duck_206 ?_
      refine jr_aload_n (j := 1) hC dX8_duck_207 rfl rfl ?_
      refine jr_iload (j := 0) hC dX8_duck_208 rfl ?_
      refine jr_bipush (v := (29 : Int32)) hC dX8_duck_210 (by decide) ?_
      refine jr_iadd hC dX8_duck_212 ?_
      refine jr_iload_n (j := 3) hC dX8_duck_213 rfl rfl ?_
      refine jr_callV_i (As := [.int (v5 + (29 : Int32)), .int x2]) (st := []) hC nc_RX8_76 (c_X8_becomes hlt h) hc6 rfl rfl ⟨⟨rfl, rfl⟩, ⟨by decide, by decide⟩, by decide, by decide⟩ (Nat.le_of_ble_eq_true rfl) dX8_duck_214 (fun M19 v20 h => ?_)
      exact jr_ireti hC hZ (by decide) (by decide) dX8_duck_217 ⟨rfl, _, rfl, h⟩
    · have h := hfhb4 hb4
      refine jr_iconst (v := (0 : Int32)) hC dX8_duck_152 (by decide) ?_
      exact jr_ireti hC hZ (by decide) (by decide) dX8_duck_153 ⟨rfl, _, rfl, h⟩
  have B115 : ∀ (M : mw_M) (r0 : Nat) (x1 : Int32) (x2 : Int32) (x3 : Int32) (x4 : Int32) (x5 : Int32) (x6 : Int32) (x7 : Int32) (x8 : Int32) (s0 : Int32) (h : w_X8_duck_b115 n M r0 x1 x2 x3 x4 x5 x6 x7 x8 s0 Q), mw_J Y 0 0 n M 115 [(0, .ref r0), (1, .int x1), (2, .int x2), (3, .int x3), (4, .int x4), (5, .int x5), (6, .int x6), (7, .int x7), (8, .int x8)] [.int s0] := by
    intro M r0 x1 x2 x3 x4 x5 x6 x7 x8 s0 h
    unfold w_X8_duck_b115 at h
    refine jr_istore (L1 := [(9, .int s0), (0, .ref r0), (1, .int x1), (2, .int x2), (3, .int x3), (4, .int x4), (5, .int x5), (6, .int x6), (7, .int x7), (8, .int x8)]) hC dX8_duck_115 hnL (by decide) rfl ?_
    refine jr_aload_n (j := 1) hC dX8_duck_117 rfl rfl ?_
    refine jr_iload (j := 8) hC dX8_duck_118 rfl ?_
    obtain ⟨hthb21, hfhb21⟩ := h
    refine jr_if_ne (tgt := 127) hC dX8_duck_120 (by decide) (fun hb21 => ?_) (fun hb21 => ?_)
    · have h := hthb21 hb21
      refine jr_iload (j := 9) hC dX8_duck_127 rfl ?_
      obtain ⟨hthb22, hfhb22⟩ := h
      refine jr_if_ne (tgt := 136) hC dX8_duck_129 (by decide) (fun hb22 => ?_) (fun hb22 => ?_)
      · have h := hthb22 hb22
        refine jr_iload (j := 0) hC dX8_duck_136 rfl ?_
        obtain ⟨hthb23, hfhb23⟩ := h
        refine jr_if_eq (tgt := 145) hC dX8_duck_138 (by decide) (fun hb23 => ?_) (fun hb23 => ?_)
        · have h := hthb23 hb23
          refine jr_iconst (v := (3 : Int32)) hC dX8_duck_145 (by decide) ?_
          refine jr_sub [1, 2, 3, 4, 5, 6, 7] (L1 := [(0, .ref r0), (1, .int x1), (2, .int x2), (3, .int x3), (4, .int x4), (5, .int x5), (6, .int x6)]) rfl ?_
          exact B146 M r0 x1 x2 x3 x4 x5 x6 (3 : Int32) r0 h
        · have h := hfhb23 hb23
          refine jr_iconst (v := (0 : Int32)) hC dX8_duck_141 (by decide) ?_
          refine jr_goto (tgt := 146) hC dX8_duck_142 (by decide) ?_
          refine jr_sub [1, 2, 3, 4, 5, 6, 7] (L1 := [(0, .ref r0), (1, .int x1), (2, .int x2), (3, .int x3), (4, .int x4), (5, .int x5), (6, .int x6)]) rfl ?_
          exact B146 M r0 x1 x2 x3 x4 x5 x6 (0 : Int32) r0 h
      · have h := hfhb22 hb22
        refine jr_iconst (v := (2 : Int32)) hC dX8_duck_132 (by decide) ?_
        refine jr_goto (tgt := 146) hC dX8_duck_133 (by decide) ?_
        refine jr_sub [1, 2, 3, 4, 5, 6, 7] (L1 := [(0, .ref r0), (1, .int x1), (2, .int x2), (3, .int x3), (4, .int x4), (5, .int x5), (6, .int x6)]) rfl ?_
        exact B146 M r0 x1 x2 x3 x4 x5 x6 (2 : Int32) r0 h
    · have h := hfhb21 hb21
      refine jr_iconst (v := (1 : Int32)) hC dX8_duck_123 (by decide) ?_
      refine jr_goto (tgt := 146) hC dX8_duck_124 (by decide) ?_
      refine jr_sub [1, 2, 3, 4, 5, 6, 7] (L1 := [(0, .ref r0), (1, .int x1), (2, .int x2), (3, .int x3), (4, .int x4), (5, .int x5), (6, .int x6)]) rfl ?_
      exact B146 M r0 x1 x2 x3 x4 x5 x6 (1 : Int32) r0 h
  have B114 : ∀ (M : mw_M) (r0 : Nat) (x1 : Int32) (x2 : Int32) (x3 : Int32) (x4 : Int32) (x5 : Int32) (x6 : Int32) (x7 : Int32) (x8 : Int32) (h : w_X8_duck_b114 n M r0 x1 x2 x3 x4 x5 x6 x7 x8 Q), mw_J Y 0 0 n M 114 [(0, .ref r0), (1, .int x1), (2, .int x2), (3, .int x3), (4, .int x4), (5, .int x5), (6, .int x6), (7, .int x7), (8, .int x8)] [] := by
    intro M r0 x1 x2 x3 x4 x5 x6 x7 x8 h
    unfold w_X8_duck_b114 at h
    refine jr_iconst (v := (0 : Int32)) hC dX8_duck_114 (by decide) ?_
    exact B115 M r0 x1 x2 x3 x4 x5 x6 x7 x8 (0 : Int32) h
  have B69 : ∀ (M : mw_M) (r0 : Nat) (x1 : Int32) (x2 : Int32) (x3 : Int32) (x4 : Int32) (x5 : Int32) (x6 : Int32) (x7 : Int32) (s0 : Int32) (h : w_X8_duck_b69 n M r0 x1 x2 x3 x4 x5 x6 x7 s0 Q), mw_J Y 0 0 n M 69 [(0, .ref r0), (1, .int x1), (2, .int x2), (3, .int x3), (4, .int x4), (5, .int x5), (6, .int x6), (7, .int x7)] [.int s0] := by
    intro M r0 x1 x2 x3 x4 x5 x6 x7 s0 h
    unfold w_X8_duck_b69 at h
    refine jr_istore (L1 := [(8, .int s0), (0, .ref r0), (1, .int x1), (2, .int x2), (3, .int x3), (4, .int x4), (5, .int x5), (6, .int x6), (7, .int x7)]) hC dX8_duck_69 hnL (by decide) rfl ?_
    refine jr_iload (j := 8) hC dX8_duck_71 rfl ?_
    obtain ⟨hthb24, hfhb24⟩ := h
    refine jr_if_eq (tgt := 114) hC dX8_duck_73 (by decide) (fun hb24 => ?_) (fun hb24 => ?_)
    · have h := hthb24 hb24
      refine jr_sub [1, 2, 3, 4, 5, 6, 7, 8, 0] (L1 := [(0, .ref r0), (1, .int x1), (2, .int x2), (3, .int x3), (4, .int x4), (5, .int x5), (6, .int x6), (7, .int x7), (8, .int s0)]) rfl ?_
      exact B114 M r0 x1 x2 x3 x4 x5 x6 x7 s0 h
    · have h := hfhb24 hb24
      refine jr_iload (j := 0) hC dX8_duck_76 rfl ?_
      obtain ⟨hthb25, hfhb25⟩ := h
      refine jr_if_eq (tgt := 114) hC dX8_duck_78 (by decide) (fun hb25 => ?_) (fun hb25 => ?_)
      · have h := hthb25 hb25
        refine jr_sub [1, 2, 3, 4, 5, 6, 7, 8, 0] (L1 := [(0, .ref r0), (1, .int x1), (2, .int x2), (3, .int x3), (4, .int x4), (5, .int x5), (6, .int x6), (7, .int x7), (8, .int s0)]) rfl ?_
        exact B114 M r0 x1 x2 x3 x4 x5 x6 x7 s0 h
      · have h := hfhb25 hb25
        refine jr_iload_n (j := 3) hC dX8_duck_81 rfl rfl ?_
        refine jr_iload_n (j := 2) hC dX8_duck_82 rfl rfl ?_
        obtain ⟨hthb26, hfhb26⟩ := h
        refine jr_ic_eq (tgt := 114) hC dX8_duck_83 (by decide) (fun hb26 => ?_) (fun hb26 => ?_)
        · have h := hthb26 hb26
          refine jr_sub [1, 2, 3, 4, 5, 6, 7, 8, 0] (L1 := [(0, .ref r0), (1, .int x1), (2, .int x2), (3, .int x3), (4, .int x4), (5, .int x5), (6, .int x6), (7, .int x7), (8, .int s0)]) rfl ?_
          exact B114 M r0 x1 x2 x3 x4 x5 x6 x7 s0 h
        · have h := hfhb26 hb26
          refine jr_aload_n (j := 1) hC dX8_duck_86 rfl rfl ?_
          obtain ⟨hc27, h⟩ := h
          refine jr_get2 hC fl_RX8_7 hc27 dX8_duck_87 ?_
          refine jr_iload_n (j := 3) hC dX8_duck_90 rfl rfl ?_
          refine jr_callS_pi (As := [.int x2]) (st := [.ref (mP M r0 0)]) hC nc_RX8_35 (c_X8_trackAt hlt h) rfl rfl ⟨⟨rfl, rfl⟩, ⟨by decide, by decide⟩, by decide, by decide⟩ (Nat.le_of_ble_eq_true rfl) dX8_duck_91 (fun v28 h => ?_)
          refine jr_bipush (v := (29 : Int32)) hC dX8_duck_94 (by decide) ?_
          refine jr_iadd hC dX8_duck_96 ?_
          obtain ⟨hc29, h⟩ := h
          obtain ⟨hc30, h⟩ := h
          refine jr_iald hC hc29 hc30 dX8_duck_97 ?_
          refine jr_iconst (v := (-1 : Int32)) hC dX8_duck_98 (by decide) ?_
          obtain ⟨hthb31, hfhb31⟩ := h
          refine jr_ic_ne (tgt := 114) hC dX8_duck_99 (by decide) (fun hb31 => ?_) (fun hb31 => ?_)
          · have h := hthb31 hb31
            refine jr_sub [1, 2, 3, 4, 5, 6, 7, 8, 0] (L1 := [(0, .ref r0), (1, .int x1), (2, .int x2), (3, .int x3), (4, .int x4), (5, .int x5), (6, .int x6), (7, .int x7), (8, .int s0)]) rfl ?_
            exact B114 M r0 x1 x2 x3 x4 x5 x6 x7 s0 h
          · have h := hfhb31 hb31
            refine jr_aload_n (j := 1) hC dX8_duck_102 rfl rfl ?_
            refine jr_iload_n (j := 2) hC dX8_duck_103 rfl rfl ?_
            refine jr_callV_pi (As := [.int x1]) (st := []) hC nc_RX8_193 (c_X8_isKey hlt h) hc27 rfl rfl ⟨⟨rfl, rfl⟩, ⟨by decide, by decide⟩, by decide, by decide⟩ (Nat.le_of_ble_eq_true rfl) dX8_duck_104 (fun v32 h => ?_)
            obtain ⟨hthb33, hfhb33⟩ := h
            refine jr_if_ne (tgt := 114) hC dX8_duck_107 (by decide) (fun hb33 => ?_) (fun hb33 => ?_)
            · have h := hthb33 hb33
              refine jr_sub [1, 2, 3, 4, 5, 6, 7, 8, 0] (L1 := [(0, .ref r0), (1, .int x1), (2, .int x2), (3, .int x3), (4, .int x4), (5, .int x5), (6, .int x6), (7, .int x7), (8, .int s0)]) rfl ?_
              exact B114 M r0 x1 x2 x3 x4 x5 x6 x7 s0 h
            · have h := hfhb33 hb33
              refine jr_iconst (v := (1 : Int32)) hC dX8_duck_110 (by decide) ?_
              refine jr_goto (tgt := 115) hC dX8_duck_111 (by decide) ?_
              refine jr_sub [1, 2, 3, 4, 5, 6, 7, 8, 0] (L1 := [(0, .ref r0), (1, .int x1), (2, .int x2), (3, .int x3), (4, .int x4), (5, .int x5), (6, .int x6), (7, .int x7), (8, .int s0)]) rfl ?_
              exact B115 M r0 x1 x2 x3 x4 x5 x6 x7 s0 (1 : Int32) h
  have B68 : ∀ (M : mw_M) (r0 : Nat) (x1 : Int32) (x2 : Int32) (x3 : Int32) (x4 : Int32) (x5 : Int32) (x6 : Int32) (x7 : Int32) (h : w_X8_duck_b68 n M r0 x1 x2 x3 x4 x5 x6 x7 Q), mw_J Y 0 0 n M 68 [(0, .ref r0), (1, .int x1), (2, .int x2), (3, .int x3), (4, .int x4), (5, .int x5), (6, .int x6), (7, .int x7)] [] := by
    intro M r0 x1 x2 x3 x4 x5 x6 x7 h
    unfold w_X8_duck_b68 at h
    refine jr_iconst (v := (0 : Int32)) hC dX8_duck_68 (by decide) ?_
    exact B69 M r0 x1 x2 x3 x4 x5 x6 x7 (0 : Int32) h
  unfold w_X8_duck at h
  refine jr_iload_n (j := 1) hC dX8_duck_0 rfl rfl ?_
  refine jr_callS_pi (As := [.int x1]) (st := []) hC nc_RX8_111 (c_X8_isTrack hlt h) rfl rfl ⟨⟨rfl, rfl⟩, ⟨by decide, by decide⟩, by decide, by decide⟩ (Nat.le_of_ble_eq_true rfl) dX8_duck_1 (fun v34 h => ?_)
  refine jr_istore (L1 := [(7, .int v34), (0, .ref a0), (1, .int x1), (2, .int x2), (3, .int x3), (4, .int x4), (5, .int x5), (6, .int x6)]) hC dX8_duck_4 hnL (by decide) rfl ?_
  refine jr_iload_n (j := 3) hC dX8_duck_6 rfl rfl ?_
  refine jr_callS_pi (As := [.int x2]) (st := []) hC nc_RX8_111 (c_X8_isTrack hlt h) rfl rfl ⟨⟨rfl, rfl⟩, ⟨by decide, by decide⟩, by decide, by decide⟩ (Nat.le_of_ble_eq_true rfl) dX8_duck_7 (fun v35 h => ?_)
  obtain ⟨hthb36, hfhb36⟩ := h
  refine jr_if_eq (tgt := 68) hC dX8_duck_10 (by decide) (fun hb36 => ?_) (fun hb36 => ?_)
  · have h := hthb36 hb36
    refine jr_sub [1, 2, 3, 4, 5, 6, 7, 0] (L1 := [(0, .ref a0), (1, .int x1), (2, .int x2), (3, .int x3), (4, .int x4), (5, .int x5), (6, .int x6), (7, .int v34)]) rfl ?_
    exact B68 M a0 x1 x2 x3 x4 x5 x6 v34 h
  · have h := hfhb36 hb36
    refine jr_iload_n (j := 4) hC dX8_duck_13 rfl rfl ?_
    refine jr_i2l hC dX8_duck_14 ?_
    refine jr_lconst (v := (0 : Int64)) hC dX8_duck_15 (by decide) ?_
    refine jr_ldc2 (v := (100000 : Int64)) hC tw_1288 dX8_duck_16 ?_
    refine jr_callS_pi (As := [.long (Int32.toInt64 x3), .long (0 : Int64), .long (100000 : Int64)]) (st := []) hC nc_RX8_45 (c_X8_in hlt h) rfl rfl ⟨⟨rfl, rfl⟩, ⟨by decide, by decide⟩, by decide, by decide⟩ (Nat.le_of_ble_eq_true rfl) dX8_duck_19 (fun v37 h => ?_)
    obtain ⟨hthb38, hfhb38⟩ := h
    refine jr_if_eq (tgt := 68) hC dX8_duck_22 (by decide) (fun hb38 => ?_) (fun hb38 => ?_)
    · have h := hthb38 hb38
      refine jr_sub [1, 2, 3, 4, 5, 6, 7, 0] (L1 := [(0, .ref a0), (1, .int x1), (2, .int x2), (3, .int x3), (4, .int x4), (5, .int x5), (6, .int x6), (7, .int v34)]) rfl ?_
      exact B68 M a0 x1 x2 x3 x4 x5 x6 v34 h
    · have h := hfhb38 hb38
      refine jr_iload (j := 5) hC dX8_duck_25 rfl ?_
      refine jr_i2l hC dX8_duck_27 ?_
      refine jr_lconst (v := (0 : Int64)) hC dX8_duck_28 (by decide) ?_
      refine jr_ldc2 (v := (1000 : Int64)) hC tw_1086 dX8_duck_29 ?_
      refine jr_callS_pi (As := [.long (Int32.toInt64 x4), .long (0 : Int64), .long (1000 : Int64)]) (st := []) hC nc_RX8_45 (c_X8_in hlt h) rfl rfl ⟨⟨rfl, rfl⟩, ⟨by decide, by decide⟩, by decide, by decide⟩ (Nat.le_of_ble_eq_true rfl) dX8_duck_32 (fun v39 h => ?_)
      obtain ⟨hthb40, hfhb40⟩ := h
      refine jr_if_eq (tgt := 68) hC dX8_duck_35 (by decide) (fun hb40 => ?_) (fun hb40 => ?_)
      · have h := hthb40 hb40
        refine jr_sub [1, 2, 3, 4, 5, 6, 7, 0] (L1 := [(0, .ref a0), (1, .int x1), (2, .int x2), (3, .int x3), (4, .int x4), (5, .int x5), (6, .int x6), (7, .int v34)]) rfl ?_
        exact B68 M a0 x1 x2 x3 x4 x5 x6 v34 h
      · have h := hfhb40 hb40
        refine jr_iload (j := 6) hC dX8_duck_38 rfl ?_
        refine jr_i2l hC dX8_duck_40 ?_
        refine jr_lconst (v := (1 : Int64)) hC dX8_duck_41 (by decide) ?_
        refine jr_ldc2 (v := (1000 : Int64)) hC tw_1086 dX8_duck_42 ?_
        refine jr_callS_pi (As := [.long (Int32.toInt64 x5), .long (1 : Int64), .long (1000 : Int64)]) (st := []) hC nc_RX8_45 (c_X8_in hlt h) rfl rfl ⟨⟨rfl, rfl⟩, ⟨by decide, by decide⟩, by decide, by decide⟩ (Nat.le_of_ble_eq_true rfl) dX8_duck_45 (fun v41 h => ?_)
        obtain ⟨hthb42, hfhb42⟩ := h
        refine jr_if_eq (tgt := 68) hC dX8_duck_48 (by decide) (fun hb42 => ?_) (fun hb42 => ?_)
        · have h := hthb42 hb42
          refine jr_sub [1, 2, 3, 4, 5, 6, 7, 0] (L1 := [(0, .ref a0), (1, .int x1), (2, .int x2), (3, .int x3), (4, .int x4), (5, .int x5), (6, .int x6), (7, .int v34)]) rfl ?_
          exact B68 M a0 x1 x2 x3 x4 x5 x6 v34 h
        · have h := hfhb42 hb42
          refine jr_iload (j := 7) hC dX8_duck_51 rfl ?_
          refine jr_i2l hC dX8_duck_53 ?_
          refine jr_lconst (v := (1 : Int64)) hC dX8_duck_54 (by decide) ?_
          refine jr_ldc2 (v := (1000 : Int64)) hC tw_1086 dX8_duck_55 ?_
          refine jr_callS_pi (As := [.long (Int32.toInt64 x6), .long (1 : Int64), .long (1000 : Int64)]) (st := []) hC nc_RX8_45 (c_X8_in hlt h) rfl rfl ⟨⟨rfl, rfl⟩, ⟨by decide, by decide⟩, by decide, by decide⟩ (Nat.le_of_ble_eq_true rfl) dX8_duck_58 (fun v43 h => ?_)
          obtain ⟨hthb44, hfhb44⟩ := h
          refine jr_if_eq (tgt := 68) hC dX8_duck_61 (by decide) (fun hb44 => ?_) (fun hb44 => ?_)
          · have h := hthb44 hb44
            refine jr_sub [1, 2, 3, 4, 5, 6, 7, 0] (L1 := [(0, .ref a0), (1, .int x1), (2, .int x2), (3, .int x3), (4, .int x4), (5, .int x5), (6, .int x6), (7, .int v34)]) rfl ?_
            exact B68 M a0 x1 x2 x3 x4 x5 x6 v34 h
          · have h := hfhb44 hb44
            refine jr_iconst (v := (1 : Int32)) hC dX8_duck_64 (by decide) ?_
            refine jr_goto (tgt := 69) hC dX8_duck_65 (by decide) ?_
            refine jr_sub [1, 2, 3, 4, 5, 6, 7, 0] (L1 := [(0, .ref a0), (1, .int x1), (2, .int x2), (3, .int x3), (4, .int x4), (5, .int x5), (6, .int x6), (7, .int v34)]) rfl ?_
            exact B69 M a0 x1 x2 x3 x4 x5 x6 v34 (1 : Int32) h
set_option maxHeartbeats 4000000 in
set_option maxRecDepth 100000 in
theorem c_X8_endDuck {G : mw_G} {l : Launch} (hlt : l.stackTraces = false) {n : Nat} {M : mw_M} {a0 : Nat} {x1 : Int32} {Q : mw_M → Int32 → Prop} (h : w_X8_endDuck n M a0 x1 Q) : mw_Met G l yX8_endDuck (.code yX8_endDuck cX8_endDuck 2 (some .int)) { frames := 2, cells := 0, slots := 0, locals := 45 } n M [.ref a0, .int x1] (fun n1 M1 v => n1 = n ∧ mw_rI Q M1 v) (fun _ _ => False) := by
  refine mw_enter (L0 := [(0, .ref a0), (1, .int x1)]) hlt rfl rfl (plainFor_of_name (by decide)) (Nat.le_of_ble_eq_true rfl) rfl ?_
  intro Y hC0 hZ hnL hini0 hn00
  have hC : mw_C G l _ Y cX8_endDuck RX8 := hC0
  have B35 : ∀ (M : mw_M) (s0 : Int32) (h : w_X8_endDuck_b35 n M s0 Q), mw_J Y 0 0 n M 35 [] [.int s0] := by
    intro M s0 h
    unfold w_X8_endDuck_b35 at h
    exact jr_ireti hC hZ (by decide) (by decide) dX8_endDuck_35 ⟨rfl, _, rfl, h⟩
  have B13 : ∀ (M : mw_M) (r0 : Nat) (x1 : Int32) (s0 : Int32) (s1r : Nat) (h : w_X8_endDuck_b13 n M r0 x1 s0 s1r Q), mw_J Y 0 0 n M 13 [(0, .ref r0), (1, .int x1)] [.int s0, .ref s1r] := by
    intro M r0 x1 s0 s1r h
    unfold w_X8_endDuck_b13 at h
    obtain ⟨hc1, h⟩ := h
    refine jr_callV_i (As := [.int s0]) (st := []) hC nc_RX8_73 (c_X8_refusesChange hlt h) hc1 rfl rfl ⟨⟨rfl, rfl⟩, ⟨by decide, by decide⟩, by decide, by decide⟩ (Nat.le_of_ble_eq_true rfl) dX8_endDuck_13 (fun M2 v3 h => ?_)
    obtain ⟨hthb4, hfhb4⟩ := h
    refine jr_if_eq (tgt := 23) hC dX8_endDuck_16 (by decide) (fun hb4 => ?_) (fun hb4 => ?_)
    · have h := hthb4 hb4
      refine jr_aload_n (j := 0) hC dX8_endDuck_23 rfl rfl ?_
      refine jr_iload_n (j := 1) hC dX8_endDuck_24 rfl rfl ?_
      refine jr_callS_pi (As := [.int x1]) (st := [.ref r0]) hC nc_RX8_35 (c_X8_trackAt hlt h) rfl rfl ⟨⟨rfl, rfl⟩, ⟨by decide, by decide⟩, by decide, by decide⟩ (Nat.le_of_ble_eq_true rfl) dX8_endDuck_25 (fun v5 h => ?_)
      refine jr_bipush (v := (29 : Int32)) hC dX8_endDuck_28 (by decide) ?_
      refine jr_iadd hC dX8_endDuck_30 ?_
      refine jr_iconst (v := (-1 : Int32)) hC dX8_endDuck_31 (by decide) ?_
      obtain ⟨hc6, h⟩ := h
      refine jr_callV_i (As := [.int (v5 + (29 : Int32)), .int (-1 : Int32)]) (st := []) hC nc_RX8_76 (c_X8_becomes hlt h) hc6 rfl rfl ⟨⟨rfl, rfl⟩, ⟨by decide, by decide⟩, by decide, by decide⟩ (Nat.le_of_ble_eq_true rfl) dX8_endDuck_32 (fun M7 v8 h => ?_)
      refine jr_sub [] (L1 := []) rfl ?_
      exact B35 M7 v8 h
    · have h := hfhb4 hb4
      refine jr_iconst (v := (0 : Int32)) hC dX8_endDuck_19 (by decide) ?_
      refine jr_goto (tgt := 35) hC dX8_endDuck_20 (by decide) ?_
      refine jr_sub [] (L1 := []) rfl ?_
      exact B35 M2 (0 : Int32) h
  unfold w_X8_endDuck at h
  refine jr_aload_n (j := 0) hC dX8_endDuck_0 rfl rfl ?_
  refine jr_iload_n (j := 1) hC dX8_endDuck_1 rfl rfl ?_
  refine jr_callS_pi (As := [.int x1]) (st := [.ref a0]) hC nc_RX8_111 (c_X8_isTrack hlt h) rfl rfl ⟨⟨rfl, rfl⟩, ⟨by decide, by decide⟩, by decide, by decide⟩ (Nat.le_of_ble_eq_true rfl) dX8_endDuck_2 (fun v9 h => ?_)
  obtain ⟨hthb10, hfhb10⟩ := h
  refine jr_if_eq (tgt := 12) hC dX8_endDuck_5 (by decide) (fun hb10 => ?_) (fun hb10 => ?_)
  · have h := hthb10 hb10
    refine jr_iconst (v := (1 : Int32)) hC dX8_endDuck_12 (by decide) ?_
    exact B13 M a0 x1 (1 : Int32) a0 h
  · have h := hfhb10 hb10
    refine jr_iconst (v := (0 : Int32)) hC dX8_endDuck_8 (by decide) ?_
    refine jr_goto (tgt := 13) hC dX8_endDuck_9 (by decide) ?_
    exact B13 M a0 x1 (0 : Int32) a0 h
set_option maxHeartbeats 4000000 in
set_option maxRecDepth 100000 in
theorem c_X8_dry {G : mw_G} {l : Launch} (hlt : l.stackTraces = false) {n : Nat} {M : mw_M} {a0 : Nat} {x1 : Int32} {x2 : Int32} {Q : Int32 → Prop} (h : w_X8_dry n M a0 x1 x2 Q) : mw_Met G l yX8_dry (.code yX8_dry cX8_dry 7 (some .int)) { frames := 4, cells := 0, slots := 0, locals := 97 } n M [.ref a0, .int x1, .int x2] (fun n1 M1 v => n1 = n ∧ mw_pI M Q M1 v) (fun _ _ => False) := by
  refine mw_enter (L0 := [(0, .ref a0), (1, .int x1), (2, .int x2)]) hlt rfl rfl (plainFor_of_name (by decide)) (Nat.le_of_ble_eq_true rfl) rfl ?_
  intro Y hC0 hZ hnL hini0 hn00
  have hC : mw_C G l _ Y cX8_dry RX8 := hC0
  have B152 : ∀ (r0 : Nat) (x1 : Int32) (x2 : Int32) (x5 : Int32) (h : w_X8_dry_b152 n M r0 x1 x2 x5 Q), mw_J Y 0 0 n M 152 [(0, .ref r0), (1, .int x1), (2, .int x2), (5, .int x5)] [] := by
    intro r0 x1 x2 x5 h
    unfold w_X8_dry_b152 at h
    refine jr_iload (j := 3) hC dX8_dry_152 rfl ?_
    refine jr_i2l hC dX8_dry_154 ?_
    refine jr_aload_n (j := 0) hC dX8_dry_155 rfl rfl ?_
    obtain ⟨hc1, h⟩ := h
    refine jr_get2 hC fl_RX8_7 hc1 dX8_dry_156 ?_
    refine jr_iload_n (j := 1) hC dX8_dry_159 rfl rfl ?_
    refine jr_callS_pi (As := [.int x1]) (st := [.ref (mP M r0 0), .long (Int32.toInt64 x5)]) hC nc_RX8_35 (c_X8_trackAt hlt h) rfl rfl ⟨⟨rfl, rfl⟩, ⟨by decide, by decide⟩, by decide, by decide⟩ (Nat.le_of_ble_eq_true rfl) dX8_dry_160 (fun v2 h => ?_)
    obtain ⟨hc3, h⟩ := h
    obtain ⟨hc4, h⟩ := h
    refine jr_iald hC hc3 hc4 dX8_dry_163 ?_
    refine jr_callS_pi (As := [.long (Int32.toInt64 x5), .int (mI M (mP M r0 0) (Int32.toNatClampNeg v2))]) (st := []) hC nc_RX8_164 (c_X8_applied hlt h) rfl rfl ⟨⟨rfl, rfl⟩, ⟨by decide, by decide⟩, by decide, by decide⟩ (Nat.le_of_ble_eq_true rfl) dX8_dry_164 (fun v5 h => ?_)
    refine jr_i2l hC dX8_dry_167 ?_
    refine jr_aload_n (j := 0) hC dX8_dry_168 rfl rfl ?_
    refine jr_iload_n (j := 1) hC dX8_dry_169 rfl rfl ?_
    refine jr_iload_n (j := 2) hC dX8_dry_170 rfl rfl ?_
    refine jr_callV_pi (As := [.int x1, .int x2]) (st := [.long (Int32.toInt64 v5)]) hC nc_RX8_188 (c_X8_laneAt hlt h) hc1 rfl rfl ⟨⟨rfl, rfl⟩, ⟨by decide, by decide⟩, by decide, by decide⟩ (Nat.le_of_ble_eq_true rfl) dX8_dry_171 (fun v6 h => ?_)
    refine jr_callS_pi (As := [.long (Int32.toInt64 v5), .int v6]) (st := []) hC nc_RX8_164 (c_X8_applied hlt h) rfl rfl ⟨⟨rfl, rfl⟩, ⟨by decide, by decide⟩, by decide, by decide⟩ (Nat.le_of_ble_eq_true rfl) dX8_dry_174 (fun v7 h => ?_)
    exact jr_ireti hC hZ (by decide) (by decide) dX8_dry_177 ⟨rfl, rfl, _, rfl, h⟩
  have B87 : ∀ (r0 : Nat) (x1 : Int32) (x2 : Int32) (x3 : Int32) (x4 : Int32) (s0 : Int32) (h : w_X8_dry_b87 n M r0 x1 x2 x3 x4 s0 Q), mw_J Y 0 0 n M 87 [(0, .ref r0), (1, .int x1), (2, .int x2), (3, .int x3), (4, .int x4)] [.int s0] := by
    intro r0 x1 x2 x3 x4 s0 h
    unfold w_X8_dry_b87 at h
    refine jr_istore (L1 := [(5, .int s0), (0, .ref r0), (1, .int x1), (2, .int x2), (3, .int x3), (4, .int x4)]) hC dX8_dry_87 hnL (by decide) rfl ?_
    refine jr_iload (j := 5) hC dX8_dry_89 rfl ?_
    refine jr_iconst (v := (-1 : Int32)) hC dX8_dry_91 (by decide) ?_
    obtain ⟨hthb8, hfhb8⟩ := h
    refine jr_ic_eq (tgt := 152) hC dX8_dry_92 (by decide) (fun hb8 => ?_) (fun hb8 => ?_)
    · have h := hthb8 hb8
      refine jr_sub [1, 2, 3, 0] (L1 := [(0, .ref r0), (1, .int x1), (2, .int x2), (5, .int s0)]) rfl ?_
      exact B152 r0 x1 x2 s0 h
    · have h := hfhb8 hb8
      refine jr_sipush (v := (1000 : Int32)) hC dX8_dry_95 (by decide) ?_
      refine jr_iload_n (j := 3) hC dX8_dry_98 rfl rfl ?_
      refine jr_aload_n (j := 1) hC dX8_dry_99 rfl rfl ?_
      refine jr_iload (j := 5) hC dX8_dry_100 rfl ?_
      refine jr_iconst (v := (2 : Int32)) hC dX8_dry_102 (by decide) ?_
      obtain ⟨hc9, h⟩ := h
      refine jr_callV_pi (As := [.int x4, .int (2 : Int32)]) (st := [.int x2, .int (1000 : Int32)]) hC nc_RX8_158 (c_X8_clipOf hlt h) hc9 rfl rfl ⟨⟨rfl, rfl⟩, ⟨by decide, by decide⟩, by decide, by decide⟩ (Nat.le_of_ble_eq_true rfl) dX8_dry_103 (fun v10 h => ?_)
      refine jr_isub hC dX8_dry_106 ?_
      refine jr_imul hC dX8_dry_107 ?_
      refine jr_aload_n (j := 1) hC dX8_dry_108 rfl rfl ?_
      refine jr_iload_n (j := 4) hC dX8_dry_109 rfl rfl ?_
      refine jr_callV_pi (As := [.int x3]) (st := [.int ((1000 : Int32) * (x2 - v10))]) hC nc_RX8_161 (c_X8_clipEnd hlt h) hc9 rfl rfl ⟨⟨rfl, rfl⟩, ⟨by decide, by decide⟩, by decide, by decide⟩ (Nat.le_of_ble_eq_true rfl) dX8_dry_110 (fun v11 h => ?_)
      refine jr_aload_n (j := 1) hC dX8_dry_113 rfl rfl ?_
      refine jr_iload (j := 5) hC dX8_dry_114 rfl ?_
      refine jr_iconst (v := (2 : Int32)) hC dX8_dry_116 (by decide) ?_
      refine jr_callV_pi (As := [.int x4, .int (2 : Int32)]) (st := [.int v11, .int ((1000 : Int32) * (x2 - v10))]) hC nc_RX8_158 (c_X8_clipOf hlt h) hc9 rfl rfl ⟨⟨rfl, rfl⟩, ⟨by decide, by decide⟩, by decide, by decide⟩ (Nat.le_of_ble_eq_true rfl) dX8_dry_117 (fun v12 h => ?_)
      refine jr_isub hC dX8_dry_120 ?_
      obtain ⟨hc13, h⟩ := h
      refine jr_idiv hC dX8_dry_121 hc13 ?_
      refine jr_nmI (fun v14 ev14 => ?_)
      have h := h v14 ev14
      refine jr_istore (L1 := [(6, .int v14), (5, .int s0), (0, .ref r0), (1, .int x1), (2, .int x2), (3, .int x3), (4, .int x4)]) hC dX8_dry_122 hnL (by decide) rfl ?_
      refine jr_iload (j := 1) hC dX8_dry_124 rfl ?_
      refine jr_i2l hC dX8_dry_126 ?_
      refine jr_sipush (v := (1000 : Int32)) hC dX8_dry_127 (by decide) ?_
      refine jr_iload (j := 0) hC dX8_dry_130 rfl ?_
      refine jr_isub hC dX8_dry_132 ?_
      refine jr_callS_pi (As := [.long (Int32.toInt64 s0), .int ((1000 : Int32) - v14)]) (st := []) hC nc_RX8_164 (c_X8_applied hlt h) rfl rfl ⟨⟨rfl, rfl⟩, ⟨by decide, by decide⟩, by decide, by decide⟩ (Nat.le_of_ble_eq_true rfl) dX8_dry_133 (fun v15 h => ?_)
      refine jr_aload_n (j := 2) hC dX8_dry_136 rfl rfl ?_
      refine jr_iload (j := 6) hC dX8_dry_137 rfl ?_
      refine jr_iload_n (j := 4) hC dX8_dry_139 rfl rfl ?_
      refine jr_callV_pi (As := [.int x4, .int x2]) (st := [.int v15]) hC nc_RX8_175 (c_X8_raw hlt h) hc9 rfl rfl ⟨⟨rfl, rfl⟩, ⟨by decide, by decide⟩, by decide, by decide⟩ (Nat.le_of_ble_eq_true rfl) dX8_dry_140 (fun v16 h => ?_)
      refine jr_i2l hC dX8_dry_143 ?_
      refine jr_iload (j := 0) hC dX8_dry_144 rfl ?_
      refine jr_callS_pi (As := [.long (Int32.toInt64 v16), .int v14]) (st := [.int v15]) hC nc_RX8_164 (c_X8_applied hlt h) rfl rfl ⟨⟨rfl, rfl⟩, ⟨by decide, by decide⟩, by decide, by decide⟩ (Nat.le_of_ble_eq_true rfl) dX8_dry_146 (fun v17 h => ?_)
      refine jr_iadd hC dX8_dry_149 ?_
      refine jr_nmI (fun v18 ev18 => ?_)
      have h := h v18 ev18
      refine jr_istore (L1 := [(5, .int v18), (6, .int v14), (0, .ref r0), (1, .int x1), (2, .int x2), (3, .int x3), (4, .int x4)]) hC dX8_dry_150 hnL (by decide) rfl ?_
      refine jr_sub [2, 3, 4, 0] (L1 := [(0, .ref r0), (1, .int x1), (2, .int x2), (5, .int v18)]) rfl ?_
      exact B152 r0 x1 x2 v18 h
  have B66 : ∀ (r0 : Nat) (x1 : Int32) (x2 : Int32) (x3 : Int32) (x4 : Int32) (x5 : Int32) (K8 : Int32 → Int32 → Int32 → Prop) (hK8 : ∀ (x3_ : Int32) (x4_ : Int32) (x5_ : Int32), K8 x3_ x4_ x5_ → mw_J Y 0 0 n M 8 [(0, .ref r0), (1, .int x1), (2, .int x2), (3, .int x3_), (4, .int x4_), (5, .int x5_)] []) (h : w_X8_dry_b66 n M r0 x1 x2 x3 x4 x5 Q K8), mw_J Y 0 0 n M 66 [(0, .ref r0), (1, .int x1), (2, .int x2), (3, .int x3), (4, .int x4), (5, .int x5)] [] := by
    intro r0 x1 x2 x3 x4 x5 K8 hK8 h
    unfold w_X8_dry_b66 at h
    obtain ⟨v19, ev19⟩ : ∃ y : Int32, y = (x5 + (1 : Int32)) := ⟨_, rfl⟩
    have h := h v19 ev19
    refine jr_iinc (j := 5) (v := v19) (L1 := [(5, .int v19), (0, .ref r0), (1, .int x1), (2, .int x2), (3, .int x3), (4, .int x4)]) hC dX8_dry_66 rfl (by rw [ev19]; rfl) hnL (by decide) rfl ?_
    refine jr_goto (tgt := 8) hC dX8_dry_69 (by decide) ?_
    refine jr_sub [1, 2, 3, 4, 5, 0] (L1 := [(0, .ref r0), (1, .int x1), (2, .int x2), (3, .int x3), (4, .int x4), (5, .int v19)]) rfl ?_
    exact hK8 x3 x4 v19 h
  have B65 : ∀ (r0 : Nat) (x1 : Int32) (x2 : Int32) (x4 : Int32) (x5 : Int32) (s0 : Int32) (K8 : Int32 → Int32 → Int32 → Prop) (hK8 : ∀ (x3_ : Int32) (x4_ : Int32) (x5_ : Int32), K8 x3_ x4_ x5_ → mw_J Y 0 0 n M 8 [(0, .ref r0), (1, .int x1), (2, .int x2), (3, .int x3_), (4, .int x4_), (5, .int x5_)] []) (h : w_X8_dry_b65 n M r0 x1 x2 x4 x5 s0 Q K8), mw_J Y 0 0 n M 65 [(0, .ref r0), (1, .int x1), (2, .int x2), (4, .int x4), (5, .int x5)] [.int s0] := by
    intro r0 x1 x2 x4 x5 s0 K8 hK8 h
    unfold w_X8_dry_b65 at h
    refine jr_istore_n (L1 := [(3, .int s0), (0, .ref r0), (1, .int x1), (2, .int x2), (4, .int x4), (5, .int x5)]) hC dX8_dry_65 rfl hnL (by decide) rfl ?_
    refine jr_sub [1, 2, 3, 0, 4, 5] (L1 := [(0, .ref r0), (1, .int x1), (2, .int x2), (3, .int s0), (4, .int x4), (5, .int x5)]) rfl ?_
    exact B66 r0 x1 x2 s0 x4 x5 K8 hK8 h
  have B52 : ∀ (r0 : Nat) (x1 : Int32) (x2 : Int32) (x3 : Int32) (x5 : Int32) (s0 : Int32) (K8 : Int32 → Int32 → Int32 → Prop) (hK8 : ∀ (x3_ : Int32) (x4_ : Int32) (x5_ : Int32), K8 x3_ x4_ x5_ → mw_J Y 0 0 n M 8 [(0, .ref r0), (1, .int x1), (2, .int x2), (3, .int x3_), (4, .int x4_), (5, .int x5_)] []) (h : w_X8_dry_b52 n M r0 x1 x2 x3 x5 s0 Q K8), mw_J Y 0 0 n M 52 [(0, .ref r0), (1, .int x1), (2, .int x2), (3, .int x3), (5, .int x5)] [.int s0] := by
    intro r0 x1 x2 x3 x5 s0 K8 hK8 h
    unfold w_X8_dry_b52 at h
    refine jr_istore (L1 := [(4, .int s0), (0, .ref r0), (1, .int x1), (2, .int x2), (3, .int x3), (5, .int x5)]) hC dX8_dry_52 hnL (by decide) rfl ?_
    refine jr_iload_n (j := 4) hC dX8_dry_54 rfl rfl ?_
    refine jr_iconst (v := (-1 : Int32)) hC dX8_dry_55 (by decide) ?_
    obtain ⟨hthb20, hfhb20⟩ := h
    refine jr_ic_ne (tgt := 64) hC dX8_dry_56 (by decide) (fun hb20 => ?_) (fun hb20 => ?_)
    · have h := hthb20 hb20
      refine jr_iload_n (j := 4) hC dX8_dry_64 rfl rfl ?_
      refine jr_sub [1, 2, 3, 0, 5] (L1 := [(0, .ref r0), (1, .int x1), (2, .int x2), (4, .int s0), (5, .int x5)]) rfl ?_
      exact B65 r0 x1 x2 s0 x5 x3 K8 hK8 h
    · have h := hfhb20 hb20
      refine jr_iload (j := 5) hC dX8_dry_59 rfl ?_
      refine jr_goto (tgt := 65) hC dX8_dry_61 (by decide) ?_
      refine jr_sub [1, 2, 3, 0, 5] (L1 := [(0, .ref r0), (1, .int x1), (2, .int x2), (4, .int s0), (5, .int x5)]) rfl ?_
      exact B65 r0 x1 x2 s0 x5 x5 K8 hK8 h
  have B8 : ∀ (r0 : Nat) (x1 : Int32) (x2 : Int32) (x3 : Int32) (x4 : Int32) (x5 : Int32) (h : w_X8_dry_b8 n M r0 x1 x2 x3 x4 x5 Q), mw_J Y 0 0 n M 8 [(0, .ref r0), (1, .int x1), (2, .int x2), (3, .int x3), (4, .int x4), (5, .int x5)] [] := by
    intro r0 x1 x2 x3 x4 x5 h
    obtain ⟨Inv, mu, h0, hs⟩ := h
    refine mw_loop3 (fun (x3 : Int32) (x4 : Int32) (x5 : Int32) => mw_J Y 0 0 n M 8 [(0, .ref r0), (1, .int x1), (2, .int x2), (3, .int x3), (4, .int x4), (5, .int x5)] []) Inv mu (fun x3 x4 x5 hI hrec => ?_) x3 x4 x5 h0
    have h := hs x3 x4 x5 hI
    refine jr_iload (j := 5) hC dX8_dry_8 rfl ?_
    refine jr_aload_n (j := 0) hC dX8_dry_10 rfl rfl ?_
    obtain ⟨hc21, h⟩ := h
    refine jr_get2 hC fl_RX8_7 hc21 dX8_dry_11 ?_
    refine jr_bipush (v := (8 : Int32)) hC dX8_dry_14 (by decide) ?_
    obtain ⟨hc22, h⟩ := h
    obtain ⟨hc23, h⟩ := h
    refine jr_iald hC hc22 hc23 dX8_dry_16 ?_
    obtain ⟨hthb24, hfhb24⟩ := h
    refine jr_ic_ge (tgt := 72) hC dX8_dry_17 (by decide) (fun hb24 => ?_) (fun hb24 => ?_)
    · have h := hthb24 hb24
      refine jr_iload_n (j := 3) hC dX8_dry_72 rfl rfl ?_
      refine jr_iconst (v := (-1 : Int32)) hC dX8_dry_73 (by decide) ?_
      obtain ⟨hthb25, hfhb25⟩ := h
      refine jr_ic_ne (tgt := 81) hC dX8_dry_74 (by decide) (fun hb25 => ?_) (fun hb25 => ?_)
      · have h := hthb25 hb25
        refine jr_aload_n (j := 0) hC dX8_dry_81 rfl rfl ?_
        refine jr_iload_n (j := 3) hC dX8_dry_82 rfl rfl ?_
        refine jr_iload_n (j := 2) hC dX8_dry_83 rfl rfl ?_
        refine jr_callV_pi (As := [.int x3, .int x2]) (st := []) hC nc_RX8_175 (c_X8_raw hlt h) hc21 rfl rfl ⟨⟨rfl, rfl⟩, ⟨by decide, by decide⟩, by decide, by decide⟩ (Nat.le_of_ble_eq_true rfl) dX8_dry_84 (fun v26 h => ?_)
        refine jr_sub [0, 1, 2, 3, 4] (L1 := [(0, .ref r0), (1, .int x1), (2, .int x2), (3, .int x3), (4, .int x4)]) rfl ?_
        exact B87 r0 x1 x2 x3 x4 v26 h
      · have h := hfhb25 hb25
        refine jr_iconst (v := (0 : Int32)) hC dX8_dry_77 (by decide) ?_
        refine jr_goto (tgt := 87) hC dX8_dry_78 (by decide) ?_
        refine jr_sub [0, 1, 2, 3, 4] (L1 := [(0, .ref r0), (1, .int x1), (2, .int x2), (3, .int x3), (4, .int x4)]) rfl ?_
        exact B87 r0 x1 x2 x3 x4 (0 : Int32) h
    · have h := hfhb24 hb24
      refine jr_aload_n (j := 0) hC dX8_dry_20 rfl rfl ?_
      refine jr_iload (j := 5) hC dX8_dry_21 rfl ?_
      refine jr_iconst (v := (0 : Int32)) hC dX8_dry_23 (by decide) ?_
      refine jr_callV_pi (As := [.int x5, .int (0 : Int32)]) (st := []) hC nc_RX8_158 (c_X8_clipOf hlt h) hc21 rfl rfl ⟨⟨rfl, rfl⟩, ⟨by decide, by decide⟩, by decide, by decide⟩ (Nat.le_of_ble_eq_true rfl) dX8_dry_24 (fun v27 h => ?_)
      refine jr_iload_n (j := 1) hC dX8_dry_27 rfl rfl ?_
      obtain ⟨hthb28, hfhb28⟩ := h
      refine jr_ic_ne (tgt := 66) hC dX8_dry_28 (by decide) (fun hb28 => ?_) (fun hb28 => ?_)
      · have h := hthb28 hb28
        exact B66 r0 x1 x2 x3 x4 x5 (fun (x3_ : Int32) (x4_ : Int32) (x5_ : Int32) => Inv x3_ x4_ x5_ ∧ mu x3_ x4_ x5_ < mu x3 x4 x5) (fun x3_ x4_ x5_ h9 => hrec x3_ x4_ x5_ h9) h
      · have h := hfhb28 hb28
        refine jr_aload_n (j := 0) hC dX8_dry_31 rfl rfl ?_
        refine jr_iload (j := 5) hC dX8_dry_32 rfl ?_
        refine jr_iload_n (j := 2) hC dX8_dry_34 rfl rfl ?_
        refine jr_callV_pi (As := [.int x5, .int x2]) (st := []) hC nc_RX8_172 (c_X8_covers hlt h) hc21 rfl rfl ⟨⟨rfl, rfl⟩, ⟨by decide, by decide⟩, by decide, by decide⟩ (Nat.le_of_ble_eq_true rfl) dX8_dry_35 (fun v29 h => ?_)
        obtain ⟨hthb30, hfhb30⟩ := h
        refine jr_if_eq (tgt := 66) hC dX8_dry_38 (by decide) (fun hb30 => ?_) (fun hb30 => ?_)
        · have h := hthb30 hb30
          exact B66 r0 x1 x2 x3 x4 x5 (fun (x3_ : Int32) (x4_ : Int32) (x5_ : Int32) => Inv x3_ x4_ x5_ ∧ mu x3_ x4_ x5_ < mu x3 x4 x5) (fun x3_ x4_ x5_ h9 => hrec x3_ x4_ x5_ h9) h
        · have h := hfhb30 hb30
          refine jr_iload_n (j := 3) hC dX8_dry_41 rfl rfl ?_
          refine jr_iconst (v := (-1 : Int32)) hC dX8_dry_42 (by decide) ?_
          obtain ⟨hthb31, hfhb31⟩ := h
          refine jr_ic_ne (tgt := 50) hC dX8_dry_43 (by decide) (fun hb31 => ?_) (fun hb31 => ?_)
          · have h := hthb31 hb31
            refine jr_iload (j := 5) hC dX8_dry_50 rfl ?_
            refine jr_sub [0, 1, 2, 3, 5] (L1 := [(0, .ref r0), (1, .int x1), (2, .int x2), (3, .int x3), (5, .int x5)]) rfl ?_
            exact B52 r0 x1 x2 x3 x5 x5 (fun (x3_ : Int32) (x4_ : Int32) (x5_ : Int32) => Inv x3_ x4_ x5_ ∧ mu x3_ x4_ x5_ < mu x3 x4 x5) (fun x3_ x4_ x5_ h9 => hrec x3_ x4_ x5_ h9) h
          · have h := hfhb31 hb31
            refine jr_iconst (v := (-1 : Int32)) hC dX8_dry_46 (by decide) ?_
            refine jr_goto (tgt := 52) hC dX8_dry_47 (by decide) ?_
            refine jr_sub [0, 1, 2, 3, 5] (L1 := [(0, .ref r0), (1, .int x1), (2, .int x2), (3, .int x3), (5, .int x5)]) rfl ?_
            exact B52 r0 x1 x2 x3 x5 (-1 : Int32) (fun (x3_ : Int32) (x4_ : Int32) (x5_ : Int32) => Inv x3_ x4_ x5_ ∧ mu x3_ x4_ x5_ < mu x3 x4 x5) (fun x3_ x4_ x5_ h9 => hrec x3_ x4_ x5_ h9) h
  unfold w_X8_dry at h
  refine jr_iconst (v := (-1 : Int32)) hC dX8_dry_0 (by decide) ?_
  refine jr_istore_n (L1 := [(3, .int (-1 : Int32)), (0, .ref a0), (1, .int x1), (2, .int x2)]) hC dX8_dry_1 rfl hnL (by decide) rfl ?_
  refine jr_iconst (v := (-1 : Int32)) hC dX8_dry_2 (by decide) ?_
  refine jr_istore (L1 := [(4, .int (-1 : Int32)), (3, .int (-1 : Int32)), (0, .ref a0), (1, .int x1), (2, .int x2)]) hC dX8_dry_3 hnL (by decide) rfl ?_
  refine jr_iconst (v := (0 : Int32)) hC dX8_dry_5 (by decide) ?_
  refine jr_istore (L1 := [(5, .int (0 : Int32)), (4, .int (-1 : Int32)), (3, .int (-1 : Int32)), (0, .ref a0), (1, .int x1), (2, .int x2)]) hC dX8_dry_6 hnL (by decide) rfl ?_
  refine jr_sub [3, 4, 5, 2, 1, 0] (L1 := [(0, .ref a0), (1, .int x1), (2, .int x2), (3, .int (-1 : Int32)), (4, .int (-1 : Int32)), (5, .int (0 : Int32))]) rfl ?_
  exact B8 a0 x1 x2 (-1 : Int32) (-1 : Int32) (0 : Int32) h
set_option maxHeartbeats 4000000 in
set_option maxRecDepth 100000 in
theorem c_X8_levelOf {G : mw_G} {l : Launch} (hlt : l.stackTraces = false) {n : Nat} {M : mw_M} {a0 : Nat} {x1 : Int32} {x2 : Int32} {Q : Int32 → Prop} (h : w_X8_levelOf n M a0 x1 x2 Q) : mw_Met G l yX8_levelOf (.code yX8_levelOf cX8_levelOf 7 (some .int)) { frames := 5, cells := 0, slots := 0, locals := 123 } n M [.ref a0, .int x1, .int x2] (fun n1 M1 v => n1 = n ∧ mw_pI M Q M1 v) (fun _ _ => False) := by
  refine mw_enter (L0 := [(0, .ref a0), (1, .int x1), (2, .int x2)]) hlt rfl rfl (plainFor_of_name (by decide)) (Nat.le_of_ble_eq_true rfl) rfl ?_
  intro Y hC0 hZ hnL hini0 hn00
  have hC : mw_C G l _ Y cX8_levelOf RX8 := hC0
  have B55 : ∀ (r0 : Nat) (x1 : Int32) (x2 : Int32) (x4 : Int32) (s0 : Int32) (K8 : Int32 → Int32 → Prop) (hK8 : ∀ (x3_ : Int32) (x4_ : Int32), K8 x3_ x4_ → mw_J Y 0 0 n M 8 [(0, .ref r0), (1, .int x1), (2, .int x2), (3, .int x3_), (4, .int x4_)] []) (h : w_X8_levelOf_b55 n M r0 x1 x2 x4 s0 Q K8), mw_J Y 0 0 n M 55 [(0, .ref r0), (1, .int x1), (2, .int x2), (4, .int x4)] [.int s0] := by
    intro r0 x1 x2 x4 s0 K8 hK8 h
    unfold w_X8_levelOf_b55 at h
    refine jr_istore_n (L1 := [(3, .int s0), (0, .ref r0), (1, .int x1), (2, .int x2), (4, .int x4)]) hC dX8_levelOf_55 rfl hnL (by decide) rfl ?_
    obtain ⟨v1, ev1⟩ : ∃ y : Int32, y = (x4 + (1 : Int32)) := ⟨_, rfl⟩
    have h := h v1 ev1
    refine jr_iinc (j := 4) (v := v1) (L1 := [(4, .int v1), (3, .int s0), (0, .ref r0), (1, .int x1), (2, .int x2)]) hC dX8_levelOf_56 rfl (by rw [ev1]; rfl) hnL (by decide) rfl ?_
    refine jr_goto (tgt := 8) hC dX8_levelOf_59 (by decide) ?_
    refine jr_sub [2, 3, 4, 1, 0] (L1 := [(0, .ref r0), (1, .int x1), (2, .int x2), (3, .int s0), (4, .int v1)]) rfl ?_
    exact hK8 s0 v1 h
  have B41 : ∀ (r0 : Nat) (x1 : Int32) (x2 : Int32) (x3 : Int32) (x4 : Int32) (s0 : Int32) (K8 : Int32 → Int32 → Prop) (hK8 : ∀ (x3_ : Int32) (x4_ : Int32), K8 x3_ x4_ → mw_J Y 0 0 n M 8 [(0, .ref r0), (1, .int x1), (2, .int x2), (3, .int x3_), (4, .int x4_)] []) (h : w_X8_levelOf_b41 n M r0 x1 x2 x3 x4 s0 Q K8), mw_J Y 0 0 n M 41 [(0, .ref r0), (1, .int x1), (2, .int x2), (3, .int x3), (4, .int x4)] [.int s0] := by
    intro r0 x1 x2 x3 x4 s0 K8 hK8 h
    unfold w_X8_levelOf_b41 at h
    refine jr_istore (L1 := [(6, .int s0), (0, .ref r0), (1, .int x1), (2, .int x2), (3, .int x3), (4, .int x4)]) hC dX8_levelOf_41 hnL (by decide) rfl ?_
    refine jr_iload (j := 0) hC dX8_levelOf_43 rfl ?_
    refine jr_iload_n (j := 4) hC dX8_levelOf_45 rfl rfl ?_
    obtain ⟨hthb2, hfhb2⟩ := h
    refine jr_ic_le (tgt := 54) hC dX8_levelOf_46 (by decide) (fun hb2 => ?_) (fun hb2 => ?_)
    · have h := hthb2 hb2
      refine jr_iload_n (j := 4) hC dX8_levelOf_54 rfl rfl ?_
      refine jr_sub [1, 2, 3, 5] (L1 := [(0, .ref r0), (1, .int x1), (2, .int x2), (4, .int x4)]) rfl ?_
      exact B55 r0 x1 x2 x4 x3 K8 hK8 h
    · have h := hfhb2 hb2
      refine jr_iload (j := 0) hC dX8_levelOf_49 rfl ?_
      refine jr_goto (tgt := 55) hC dX8_levelOf_51 (by decide) ?_
      refine jr_sub [1, 2, 3, 5] (L1 := [(0, .ref r0), (1, .int x1), (2, .int x2), (4, .int x4)]) rfl ?_
      exact B55 r0 x1 x2 x4 s0 K8 hK8 h
  have B8 : ∀ (r0 : Nat) (x1 : Int32) (x2 : Int32) (x3 : Int32) (x4 : Int32) (h : w_X8_levelOf_b8 n M r0 x1 x2 x3 x4 Q), mw_J Y 0 0 n M 8 [(0, .ref r0), (1, .int x1), (2, .int x2), (3, .int x3), (4, .int x4)] [] := by
    intro r0 x1 x2 x3 x4 h
    obtain ⟨Inv, mu, h0, hs⟩ := h
    refine mw_loop2 (fun (x3 : Int32) (x4 : Int32) => mw_J Y 0 0 n M 8 [(0, .ref r0), (1, .int x1), (2, .int x2), (3, .int x3), (4, .int x4)] []) Inv mu (fun x3 x4 hI hrec => ?_) x3 x4 h0
    have h := hs x3 x4 hI
    refine jr_iload (j := 4) hC dX8_levelOf_8 rfl ?_
    refine jr_bipush (v := (40 : Int32)) hC dX8_levelOf_10 (by decide) ?_
    refine jr_iload_n (j := 2) hC dX8_levelOf_12 rfl rfl ?_
    refine jr_iconst (v := (1 : Int32)) hC dX8_levelOf_13 (by decide) ?_
    refine jr_iadd hC dX8_levelOf_14 ?_
    refine jr_imul hC dX8_levelOf_15 ?_
    obtain ⟨hthb3, hfhb3⟩ := h
    refine jr_ic_ge (tgt := 62) hC dX8_levelOf_16 (by decide) (fun hb3 => ?_) (fun hb3 => ?_)
    · have h := hthb3 hb3
      refine jr_iload_n (j := 3) hC dX8_levelOf_62 rfl rfl ?_
      exact jr_ireti hC hZ (by decide) (by decide) dX8_levelOf_63 ⟨rfl, rfl, _, rfl, h⟩
    · have h := hfhb3 hb3
      refine jr_aload_n (j := 0) hC dX8_levelOf_19 rfl rfl ?_
      refine jr_iload_n (j := 1) hC dX8_levelOf_20 rfl rfl ?_
      refine jr_iload (j := 4) hC dX8_levelOf_21 rfl ?_
      obtain ⟨hc4, h⟩ := h
      refine jr_callV_pi (As := [.int x1, .int x4]) (st := []) hC nc_RX8_196 (c_X8_dry hlt h) hc4 rfl rfl ⟨⟨rfl, rfl⟩, ⟨by decide, by decide⟩, by decide, by decide⟩ (Nat.le_of_ble_eq_true rfl) dX8_levelOf_23 (fun v5 h => ?_)
      refine jr_istore (L1 := [(5, .int v5), (0, .ref r0), (1, .int x1), (2, .int x2), (3, .int x3), (4, .int x4)]) hC dX8_levelOf_26 hnL (by decide) rfl ?_
      refine jr_iload (j := 0) hC dX8_levelOf_28 rfl ?_
      obtain ⟨hthb6, hfhb6⟩ := h
      refine jr_if_ge (tgt := 39) hC dX8_levelOf_30 (by decide) (fun hb6 => ?_) (fun hb6 => ?_)
      · have h := hthb6 hb6
        refine jr_iload (j := 0) hC dX8_levelOf_39 rfl ?_
        refine jr_sub [1, 2, 3, 4, 5] (L1 := [(0, .ref r0), (1, .int x1), (2, .int x2), (3, .int x3), (4, .int x4)]) rfl ?_
        exact B41 r0 x1 x2 x3 x4 v5 (fun (x3_ : Int32) (x4_ : Int32) => Inv x3_ x4_ ∧ mu x3_ x4_ < mu x3 x4) (fun x3_ x4_ h9 => hrec x3_ x4_ h9) h
      · have h := hfhb6 hb6
        refine jr_iload (j := 0) hC dX8_levelOf_33 rfl ?_
        refine jr_ineg hC dX8_levelOf_35 ?_
        refine jr_goto (tgt := 41) hC dX8_levelOf_36 (by decide) ?_
        refine jr_sub [1, 2, 3, 4, 5] (L1 := [(0, .ref r0), (1, .int x1), (2, .int x2), (3, .int x3), (4, .int x4)]) rfl ?_
        exact B41 r0 x1 x2 x3 x4 (-v5) (fun (x3_ : Int32) (x4_ : Int32) => Inv x3_ x4_ ∧ mu x3_ x4_ < mu x3 x4) (fun x3_ x4_ h9 => hrec x3_ x4_ h9) h
  unfold w_X8_levelOf at h
  refine jr_iconst (v := (0 : Int32)) hC dX8_levelOf_0 (by decide) ?_
  refine jr_istore_n (L1 := [(3, .int (0 : Int32)), (0, .ref a0), (1, .int x1), (2, .int x2)]) hC dX8_levelOf_1 rfl hnL (by decide) rfl ?_
  refine jr_bipush (v := (40 : Int32)) hC dX8_levelOf_2 (by decide) ?_
  refine jr_iload_n (j := 3) hC dX8_levelOf_4 rfl rfl ?_
  refine jr_imul hC dX8_levelOf_5 ?_
  refine jr_nmI (fun v7 ev7 => ?_)
  have h := h v7 ev7
  refine jr_istore (L1 := [(4, .int v7), (3, .int (0 : Int32)), (0, .ref a0), (1, .int x1), (2, .int x2)]) hC dX8_levelOf_6 hnL (by decide) rfl ?_
  refine jr_sub [2, 3, 4, 1, 0] (L1 := [(0, .ref a0), (1, .int x1), (2, .int x2), (3, .int (0 : Int32)), (4, .int v7)]) rfl ?_
  exact B8 a0 x1 x2 (0 : Int32) v7 h
set_option maxHeartbeats 4000000 in
set_option maxRecDepth 100000 in
theorem c_X8_laysDuck {G : mw_G} {l : Launch} (hlt : l.stackTraces = false) {n : Nat} {M : mw_M} {a0 : Nat} {x1 : Int32} {x2 : Int32} {Q : mw_M → Prop} (h : w_X8_laysDuck n M a0 x1 x2 Q) : mw_Met G l yX8_laysDuck (.code yX8_laysDuck cX8_laysDuck 10 none) { frames := 6, cells := 0, slots := 0, locals := 149 } n M [.ref a0, .int x1, .int x2] (fun n1 M1 v => n1 = n ∧ mw_rV Q M1 v) (fun _ _ => False) := by
  refine mw_enter (L0 := [(0, .ref a0), (1, .int x1), (2, .int x2)]) hlt rfl rfl (plainFor_of_name (by decide)) (Nat.le_of_ble_eq_true rfl) rfl ?_
  intro Y hC0 hZ hnL hini0 hn00
  have hC : mw_C G l _ Y cX8_laysDuck RX8 := hC0
  have B186 : ∀ (M : mw_M) (h : w_X8_laysDuck_b186 n M Q), mw_J Y 0 0 n M 186 [] [] := by
    intro M h
    unfold w_X8_laysDuck_b186 at h
    exact jr_vret hC hZ (by decide) (by decide) dX8_laysDuck_186 ⟨rfl, rfl, h⟩
  have B179 : ∀ (M : mw_M) (r0 : Nat) (x1 : Int32) (x2 : Int32) (x3 : Int32) (x4 : Int32) (x5 : Int32) (s0 : Int32) (s1 : Int32) (s2r : Nat) (K31 : mw_M → Int32 → Prop) (hK31 : ∀ (M_ : mw_M) (x5_ : Int32), K31 M_ x5_ → mw_J Y 0 0 n M_ 31 [(0, .ref r0), (1, .int x1), (2, .int x2), (3, .int x3), (4, .int x4), (5, .int x5_)] []) (h : w_X8_laysDuck_b179 n M r0 x1 x2 x3 x4 x5 s0 s1 s2r Q K31), mw_J Y 0 0 n M 179 [(0, .ref r0), (1, .int x1), (2, .int x2), (3, .int x3), (4, .int x4), (5, .int x5)] [.int s0, .int s1, .ref s2r] := by
    intro M r0 x1 x2 x3 x4 x5 s0 s1 s2r K31 hK31 h
    unfold w_X8_laysDuck_b179 at h
    obtain ⟨hc1, h⟩ := h
    obtain ⟨hc2, h⟩ := h
    obtain ⟨M3, eM3⟩ : ∃ y : mw_M, y = sI M s2r (Int32.toNatClampNeg s1) s0 := ⟨_, rfl⟩
    have h := h M3 eM3
    refine jr_iast hC hc1 hc2 eM3 dX8_laysDuck_179 ?_
    obtain ⟨v4, ev4⟩ : ∃ y : Int32, y = (x5 + (1 : Int32)) := ⟨_, rfl⟩
    have h := h v4 ev4
    refine jr_iinc (j := 5) (v := v4) (L1 := [(5, .int v4), (0, .ref r0), (1, .int x1), (2, .int x2), (3, .int x3), (4, .int x4)]) hC dX8_laysDuck_180 rfl (by rw [ev4]; rfl) hnL (by decide) rfl ?_
    refine jr_goto (tgt := 31) hC dX8_laysDuck_183 (by decide) ?_
    refine jr_sub [1, 2, 3, 4, 5, 0] (L1 := [(0, .ref r0), (1, .int x1), (2, .int x2), (3, .int x3), (4, .int x4), (5, .int v4)]) rfl ?_
    exact hK31 M3 v4 h
  have B86 : ∀ (M : mw_M) (r0 : Nat) (x1 : Int32) (x2 : Int32) (x3 : Int32) (x4 : Int32) (x5 : Int32) (x6 : Int32) (s0 : Int32) (K31 : mw_M → Int32 → Prop) (hK31 : ∀ (M_ : mw_M) (x5_ : Int32), K31 M_ x5_ → mw_J Y 0 0 n M_ 31 [(0, .ref r0), (1, .int x1), (2, .int x2), (3, .int x3), (4, .int x4), (5, .int x5_)] []) (h : w_X8_laysDuck_b86 n M r0 x1 x2 x3 x4 x5 x6 s0 Q K31), mw_J Y 0 0 n M 86 [(0, .ref r0), (1, .int x1), (2, .int x2), (3, .int x3), (4, .int x4), (5, .int x5), (6, .int x6)] [.int s0] := by
    intro M r0 x1 x2 x3 x4 x5 x6 s0 K31 hK31 h
    unfold w_X8_laysDuck_b86 at h
    refine jr_istore (L1 := [(7, .int s0), (0, .ref r0), (1, .int x1), (2, .int x2), (3, .int x3), (4, .int x4), (5, .int x5), (6, .int x6)]) hC dX8_laysDuck_86 hnL (by decide) rfl ?_
    refine jr_iload (j := 7) hC dX8_laysDuck_88 rfl ?_
    refine jr_aload_n (j := 1) hC dX8_laysDuck_90 rfl rfl ?_
    obtain ⟨hc5, h⟩ := h
    refine jr_get2 hC fl_RX8_7 hc5 dX8_laysDuck_91 ?_
    refine jr_iload_n (j := 4) hC dX8_laysDuck_94 rfl rfl ?_
    refine jr_bipush (v := (32 : Int32)) hC dX8_laysDuck_95 (by decide) ?_
    refine jr_iadd hC dX8_laysDuck_97 ?_
    obtain ⟨hc6, h⟩ := h
    obtain ⟨hc7, h⟩ := h
    refine jr_iald hC hc6 hc7 dX8_laysDuck_98 ?_
    refine jr_isub hC dX8_laysDuck_99 ?_
    refine jr_nmI (fun v8 ev8 => ?_)
    have h := h v8 ev8
    refine jr_istore (L1 := [(8, .int v8), (7, .int s0), (0, .ref r0), (1, .int x1), (2, .int x2), (3, .int x3), (4, .int x4), (5, .int x5), (6, .int x6)]) hC dX8_laysDuck_100 hnL (by decide) rfl ?_
    refine jr_iload (j := 8) hC dX8_laysDuck_102 rfl ?_
    refine jr_aload_n (j := 2) hC dX8_laysDuck_104 rfl rfl ?_
    refine jr_get2 hC fl_RX8_7 hc5 dX8_laysDuck_105 ?_
    refine jr_iload_n (j := 5) hC dX8_laysDuck_108 rfl rfl ?_
    refine jr_bipush (v := (33 : Int32)) hC dX8_laysDuck_109 (by decide) ?_
    refine jr_iadd hC dX8_laysDuck_111 ?_
    obtain ⟨hc9, h⟩ := h
    refine jr_iald hC hc6 hc9 dX8_laysDuck_112 ?_
    refine jr_iadd hC dX8_laysDuck_113 ?_
    refine jr_nmI (fun v10 ev10 => ?_)
    have h := h v10 ev10
    refine jr_istore (L1 := [(9, .int v10), (8, .int v8), (7, .int s0), (0, .ref r0), (1, .int x1), (2, .int x2), (3, .int x3), (4, .int x4), (5, .int x5), (6, .int x6)]) hC dX8_laysDuck_114 hnL (by decide) rfl ?_
    refine jr_aload_n (j := 3) hC dX8_laysDuck_116 rfl rfl ?_
    refine jr_get2 hC fl_RX8_32 hc5 dX8_laysDuck_117 ?_
    refine jr_bipush (v := (100 : Int32)) hC dX8_laysDuck_120 (by decide) ?_
    refine jr_iload_n (j := 4) hC dX8_laysDuck_122 rfl rfl ?_
    refine jr_imul hC dX8_laysDuck_123 ?_
    refine jr_iload (j := 8) hC dX8_laysDuck_124 rfl ?_
    refine jr_iadd hC dX8_laysDuck_126 ?_
    refine jr_iload (j := 2) hC dX8_laysDuck_127 rfl ?_
    obtain ⟨hthb11, hfhb11⟩ := h
    refine jr_if_eq (tgt := 163) hC dX8_laysDuck_129 (by decide) (fun hb11 => ?_) (fun hb11 => ?_)
    · have h := hthb11 hb11
      refine jr_iload (j := 0) hC dX8_laysDuck_163 rfl ?_
      refine jr_sipush (v := (1000 : Int32)) hC dX8_laysDuck_165 (by decide) ?_
      obtain ⟨hthb12, hfhb12⟩ := h
      refine jr_ic_ge (tgt := 176) hC dX8_laysDuck_168 (by decide) (fun hb12 => ?_) (fun hb12 => ?_)
      · have h := hthb12 hb12
        refine jr_sipush (v := (1000 : Int32)) hC dX8_laysDuck_176 (by decide) ?_
        refine jr_sub [3, 4, 5, 6, 7, 8] (L1 := [(0, .ref r0), (1, .int x1), (2, .int x2), (3, .int x3), (4, .int x4), (5, .int x5)]) rfl ?_
        exact B179 M r0 x1 x2 x3 x4 x5 (1000 : Int32) (((100 : Int32) * x1) + x5) (mP M r0 9) K31 hK31 h
      · have h := hfhb12 hb12
        refine jr_iload (j := 0) hC dX8_laysDuck_171 rfl ?_
        refine jr_goto (tgt := 179) hC dX8_laysDuck_173 (by decide) ?_
        refine jr_sub [3, 4, 5, 6, 7, 8] (L1 := [(0, .ref r0), (1, .int x1), (2, .int x2), (3, .int x3), (4, .int x4), (5, .int x5)]) rfl ?_
        exact B179 M r0 x1 x2 x3 x4 x5 v10 (((100 : Int32) * x1) + x5) (mP M r0 9) K31 hK31 h
    · have h := hfhb11 hb11
      refine jr_iload (j := 1) hC dX8_laysDuck_132 rfl ?_
      refine jr_aload_n (j := 3) hC dX8_laysDuck_134 rfl rfl ?_
      refine jr_get2 hC fl_RX8_7 hc5 dX8_laysDuck_135 ?_
      refine jr_iload_n (j := 6) hC dX8_laysDuck_138 rfl rfl ?_
      refine jr_bipush (v := (31 : Int32)) hC dX8_laysDuck_139 (by decide) ?_
      refine jr_iadd hC dX8_laysDuck_141 ?_
      obtain ⟨hc13, h⟩ := h
      refine jr_iald hC hc6 hc13 dX8_laysDuck_142 ?_
      obtain ⟨hthb14, hfhb14⟩ := h
      refine jr_ic_le (tgt := 151) hC dX8_laysDuck_143 (by decide) (fun hb14 => ?_) (fun hb14 => ?_)
      · have h := hthb14 hb14
        refine jr_aload_n (j := 3) hC dX8_laysDuck_151 rfl rfl ?_
        refine jr_get2 hC fl_RX8_7 hc5 dX8_laysDuck_152 ?_
        refine jr_iload_n (j := 6) hC dX8_laysDuck_155 rfl rfl ?_
        refine jr_bipush (v := (31 : Int32)) hC dX8_laysDuck_156 (by decide) ?_
        refine jr_iadd hC dX8_laysDuck_158 ?_
        refine jr_iald hC hc6 hc13 dX8_laysDuck_159 ?_
        refine jr_goto (tgt := 179) hC dX8_laysDuck_160 (by decide) ?_
        refine jr_sub [3, 4, 5, 6, 7, 8] (L1 := [(0, .ref r0), (1, .int x1), (2, .int x2), (3, .int x3), (4, .int x4), (5, .int x5)]) rfl ?_
        exact B179 M r0 x1 x2 x3 x4 x5 (mI M (mP M r0 0) (Int32.toNatClampNeg (x3 + (31 : Int32)))) (((100 : Int32) * x1) + x5) (mP M r0 9) K31 hK31 h
      · have h := hfhb14 hb14
        refine jr_iload (j := 1) hC dX8_laysDuck_146 rfl ?_
        refine jr_goto (tgt := 179) hC dX8_laysDuck_148 (by decide) ?_
        refine jr_sub [3, 4, 5, 6, 7, 8] (L1 := [(0, .ref r0), (1, .int x1), (2, .int x2), (3, .int x3), (4, .int x4), (5, .int x5)]) rfl ?_
        exact B179 M r0 x1 x2 x3 x4 x5 v8 (((100 : Int32) * x1) + x5) (mP M r0 9) K31 hK31 h
  have B31 : ∀ (M : mw_M) (r0 : Nat) (x1 : Int32) (x2 : Int32) (x3 : Int32) (x4 : Int32) (x5 : Int32) (h : w_X8_laysDuck_b31 n M r0 x1 x2 x3 x4 x5 Q), mw_J Y 0 0 n M 31 [(0, .ref r0), (1, .int x1), (2, .int x2), (3, .int x3), (4, .int x4), (5, .int x5)] [] := by
    intro M r0 x1 x2 x3 x4 x5 h
    obtain ⟨Inv, mu, h0, hs⟩ := h
    refine mw_loop2 (fun (M : mw_M) (x5 : Int32) => mw_J Y 0 0 n M 31 [(0, .ref r0), (1, .int x1), (2, .int x2), (3, .int x3), (4, .int x4), (5, .int x5)] []) Inv mu (fun M x5 hI hrec => ?_) M x5 h0
    have h := hs M x5 hI
    refine jr_iload (j := 5) hC dX8_laysDuck_31 rfl ?_
    refine jr_iload_n (j := 2) hC dX8_laysDuck_33 rfl rfl ?_
    obtain ⟨hthb15, hfhb15⟩ := h
    refine jr_ic_gt (tgt := 186) hC dX8_laysDuck_34 (by decide) (fun hb15 => ?_) (fun hb15 => ?_)
    · have h := hthb15 hb15
      refine jr_sub [] (L1 := []) rfl ?_
      exact B186 M h
    · have h := hfhb15 hb15
      refine jr_iload (j := 4) hC dX8_laysDuck_37 rfl ?_
      refine jr_iconst (v := (-1 : Int32)) hC dX8_laysDuck_39 (by decide) ?_
      obtain ⟨hthb16, hfhb16⟩ := h
      refine jr_ic_eq (tgt := 186) hC dX8_laysDuck_40 (by decide) (fun hb16 => ?_) (fun hb16 => ?_)
      · have h := hthb16 hb16
        refine jr_sub [] (L1 := []) rfl ?_
        exact B186 M h
      · have h := hfhb16 hb16
        refine jr_aload_n (j := 0) hC dX8_laysDuck_43 rfl rfl ?_
        obtain ⟨hc17, h⟩ := h
        refine jr_get2 hC fl_RX8_32 hc17 dX8_laysDuck_44 ?_
        refine jr_bipush (v := (100 : Int32)) hC dX8_laysDuck_47 (by decide) ?_
        refine jr_iload_n (j := 1) hC dX8_laysDuck_49 rfl rfl ?_
        refine jr_imul hC dX8_laysDuck_50 ?_
        refine jr_iload (j := 5) hC dX8_laysDuck_51 rfl ?_
        refine jr_iadd hC dX8_laysDuck_53 ?_
        refine jr_iconst (v := (1 : Int32)) hC dX8_laysDuck_54 (by decide) ?_
        refine jr_isub hC dX8_laysDuck_55 ?_
        obtain ⟨hc18, h⟩ := h
        obtain ⟨hc19, h⟩ := h
        refine jr_iald hC hc18 hc19 dX8_laysDuck_56 ?_
        refine jr_nmI (fun v20 ev20 => ?_)
        have h := h v20 ev20
        refine jr_istore (L1 := [(6, .int v20), (0, .ref r0), (1, .int x1), (2, .int x2), (3, .int x3), (4, .int x4), (5, .int x5)]) hC dX8_laysDuck_57 hnL (by decide) rfl ?_
        refine jr_aload_n (j := 1) hC dX8_laysDuck_59 rfl rfl ?_
        refine jr_iload (j := 5) hC dX8_laysDuck_60 rfl ?_
        refine jr_iload (j := 6) hC dX8_laysDuck_62 rfl ?_
        refine jr_iconst (v := (1 : Int32)) hC dX8_laysDuck_64 (by decide) ?_
        refine jr_isub hC dX8_laysDuck_65 ?_
        refine jr_callV_pi (As := [.int x4, .int (x5 - (1 : Int32))]) (st := []) hC nc_RX8_199 (c_X8_levelOf hlt h) hc17 rfl rfl ⟨⟨rfl, rfl⟩, ⟨by decide, by decide⟩, by decide, by decide⟩ (Nat.le_of_ble_eq_true rfl) dX8_laysDuck_66 (fun v21 h => ?_)
        refine jr_aload_n (j := 1) hC dX8_laysDuck_69 rfl rfl ?_
        refine jr_get2 hC fl_RX8_7 hc17 dX8_laysDuck_70 ?_
        refine jr_iload_n (j := 4) hC dX8_laysDuck_73 rfl rfl ?_
        refine jr_bipush (v := (30 : Int32)) hC dX8_laysDuck_74 (by decide) ?_
        refine jr_iadd hC dX8_laysDuck_76 ?_
        obtain ⟨hc22, h⟩ := h
        obtain ⟨hc23, h⟩ := h
        refine jr_iald hC hc22 hc23 dX8_laysDuck_77 ?_
        obtain ⟨hthb24, hfhb24⟩ := h
        refine jr_ic_lt (tgt := 85) hC dX8_laysDuck_78 (by decide) (fun hb24 => ?_) (fun hb24 => ?_)
        · have h := hthb24 hb24
          refine jr_iconst (v := (0 : Int32)) hC dX8_laysDuck_85 (by decide) ?_
          refine jr_sub [1, 2, 3, 4, 5, 6, 0] (L1 := [(0, .ref r0), (1, .int x1), (2, .int x2), (3, .int x3), (4, .int x4), (5, .int x5), (6, .int v20)]) rfl ?_
          exact B86 M r0 x1 x2 x3 x4 x5 v20 (0 : Int32) (fun (M_ : mw_M) (x5_ : Int32) => Inv M_ x5_ ∧ mu M_ x5_ < mu M x5) (fun M_ x5_ h9 => hrec M_ x5_ h9) h
        · have h := hfhb24 hb24
          refine jr_iconst (v := (1 : Int32)) hC dX8_laysDuck_81 (by decide) ?_
          refine jr_goto (tgt := 86) hC dX8_laysDuck_82 (by decide) ?_
          refine jr_sub [1, 2, 3, 4, 5, 6, 0] (L1 := [(0, .ref r0), (1, .int x1), (2, .int x2), (3, .int x3), (4, .int x4), (5, .int x5), (6, .int v20)]) rfl ?_
          exact B86 M r0 x1 x2 x3 x4 x5 v20 (1 : Int32) (fun (M_ : mw_M) (x5_ : Int32) => Inv M_ x5_ ∧ mu M_ x5_ < mu M x5) (fun M_ x5_ h9 => hrec M_ x5_ h9) h
  unfold w_X8_laysDuck at h
  refine jr_iload_n (j := 1) hC dX8_laysDuck_0 rfl rfl ?_
  refine jr_callS_pi (As := [.int x1]) (st := []) hC nc_RX8_35 (c_X8_trackAt hlt h) rfl rfl ⟨⟨rfl, rfl⟩, ⟨by decide, by decide⟩, by decide, by decide⟩ (Nat.le_of_ble_eq_true rfl) dX8_laysDuck_1 (fun v25 h => ?_)
  refine jr_istore_n (L1 := [(3, .int v25), (0, .ref a0), (1, .int x1), (2, .int x2)]) hC dX8_laysDuck_4 rfl hnL (by decide) rfl ?_
  refine jr_aload_n (j := 1) hC dX8_laysDuck_5 rfl rfl ?_
  obtain ⟨hc26, h⟩ := h
  refine jr_get2 hC fl_RX8_7 hc26 dX8_laysDuck_6 ?_
  refine jr_iload_n (j := 0) hC dX8_laysDuck_9 rfl rfl ?_
  refine jr_bipush (v := (29 : Int32)) hC dX8_laysDuck_10 (by decide) ?_
  refine jr_iadd hC dX8_laysDuck_12 ?_
  obtain ⟨hc27, h⟩ := h
  obtain ⟨hc28, h⟩ := h
  refine jr_iald hC hc27 hc28 dX8_laysDuck_13 ?_
  refine jr_nmI (fun v29 ev29 => ?_)
  have h := h v29 ev29
  refine jr_istore (L1 := [(4, .int v29), (3, .int v25), (0, .ref a0), (1, .int x1), (2, .int x2)]) hC dX8_laysDuck_14 hnL (by decide) rfl ?_
  refine jr_aload_n (j := 2) hC dX8_laysDuck_16 rfl rfl ?_
  refine jr_get2 hC fl_RX8_32 hc26 dX8_laysDuck_17 ?_
  refine jr_bipush (v := (100 : Int32)) hC dX8_laysDuck_20 (by decide) ?_
  refine jr_iload_n (j := 3) hC dX8_laysDuck_22 rfl rfl ?_
  refine jr_imul hC dX8_laysDuck_23 ?_
  refine jr_sipush (v := (1000 : Int32)) hC dX8_laysDuck_24 (by decide) ?_
  obtain ⟨hc30, h⟩ := h
  obtain ⟨hc31, h⟩ := h
  obtain ⟨M32, eM32⟩ : ∃ y : mw_M, y = sI M (mP M a0 9) (Int32.toNatClampNeg ((100 : Int32) * x1)) (1000 : Int32) := ⟨_, rfl⟩
  have h := h M32 eM32
  refine jr_iast hC hc30 hc31 eM32 dX8_laysDuck_27 ?_
  refine jr_iconst (v := (1 : Int32)) hC dX8_laysDuck_28 (by decide) ?_
  refine jr_istore (L1 := [(5, .int (1 : Int32)), (4, .int v29), (3, .int v25), (0, .ref a0), (1, .int x1), (2, .int x2)]) hC dX8_laysDuck_29 hnL (by decide) rfl ?_
  refine jr_sub [3, 4, 5, 2, 1, 0] (L1 := [(0, .ref a0), (1, .int x1), (2, .int x2), (3, .int v25), (4, .int v29), (5, .int (1 : Int32))]) rfl ?_
  exact B31 M32 a0 x1 x2 v25 v29 (1 : Int32) h
set_option maxHeartbeats 4000000 in
set_option maxRecDepth 100000 in
theorem c_X8_duckAt {G : mw_G} {l : Launch} (hlt : l.stackTraces = false) {n : Nat} {M : mw_M} {a0 : Nat} {x1 : Int32} {x2 : Int32} {Q : Int32 → Prop} (h : w_X8_duckAt n M a0 x1 x2 Q) : mw_Met G l yX8_duckAt (.code yX8_duckAt cX8_duckAt 5 (some .int)) { frames := 1, cells := 0, slots := 0, locals := 25 } n M [.ref a0, .int x1, .int x2] (fun n1 M1 v => n1 = n ∧ mw_pI M Q M1 v) (fun _ _ => False) := by
  refine mw_enter (L0 := [(0, .ref a0), (1, .int x1), (2, .int x2)]) hlt rfl rfl (plainFor_of_name (by decide)) (Nat.le_of_ble_eq_true rfl) rfl ?_
  intro Y hC0 hZ hnL hini0 hn00
  have hC : mw_C G l _ Y cX8_duckAt RX8 := hC0
  have B28 : ∀ (r0 : Nat) (x1 : Int32) (x2 : Int32) (x3 : Int32) (s0 : Int32) (h : w_X8_duckAt_b28 n M r0 x1 x2 x3 s0 Q), mw_J Y 0 0 n M 28 [(0, .ref r0), (1, .int x1), (2, .int x2), (3, .int x3)] [.int s0] := by
    intro r0 x1 x2 x3 s0 h
    unfold w_X8_duckAt_b28 at h
    refine jr_istore (L1 := [(4, .int s0), (0, .ref r0), (1, .int x1), (2, .int x2), (3, .int x3)]) hC dX8_duckAt_28 hnL (by decide) rfl ?_
    refine jr_iload (j := 0) hC dX8_duckAt_30 rfl ?_
    refine jr_aload_n (j := 1) hC dX8_duckAt_32 rfl rfl ?_
    obtain ⟨hc1, h⟩ := h
    refine jr_get2 hC fl_RX8_32 hc1 dX8_duckAt_33 ?_
    refine jr_bipush (v := (100 : Int32)) hC dX8_duckAt_36 (by decide) ?_
    refine jr_iload_n (j := 2) hC dX8_duckAt_38 rfl rfl ?_
    refine jr_imul hC dX8_duckAt_39 ?_
    refine jr_iload_n (j := 4) hC dX8_duckAt_40 rfl rfl ?_
    refine jr_iadd hC dX8_duckAt_41 ?_
    obtain ⟨hc2, h⟩ := h
    obtain ⟨hc3, h⟩ := h
    refine jr_iald hC hc2 hc3 dX8_duckAt_42 ?_
    refine jr_iload (j := 0) hC dX8_duckAt_43 rfl ?_
    refine jr_isub hC dX8_duckAt_45 ?_
    refine jr_i2l hC dX8_duckAt_46 ?_
    refine jr_iload_n (j := 3) hC dX8_duckAt_47 rfl rfl ?_
    refine jr_bipush (v := (40 : Int32)) hC dX8_duckAt_48 (by decide) ?_
    refine jr_iload_n (j := 4) hC dX8_duckAt_50 rfl rfl ?_
    refine jr_imul hC dX8_duckAt_51 ?_
    refine jr_isub hC dX8_duckAt_52 ?_
    refine jr_i2l hC dX8_duckAt_53 ?_
    refine jr_lmul hC dX8_duckAt_54 ?_
    refine jr_ldc2 (v := (40 : Int64)) hC tw_1317 dX8_duckAt_55 ?_
    refine jr_callS_pj (As := [.long ((Int32.toInt64 ((mI M (mP M r0 9) (Int32.toNatClampNeg (((100 : Int32) * x1) + x3))) - s0)) * (Int32.toInt64 (x2 - ((40 : Int32) * x3)))), .long (40 : Int64)]) (st := [.int s0]) hC nc_RX8_60 (c_X8_floor hlt h) rfl rfl ⟨⟨rfl, rfl⟩, ⟨by decide, by decide⟩, by decide, by decide⟩ (Nat.le_of_ble_eq_true rfl) dX8_duckAt_58 (fun w4 h => ?_)
    refine jr_l2i hC dX8_duckAt_61 ?_
    refine jr_iadd hC dX8_duckAt_62 ?_
    exact jr_ireti hC hZ (by decide) (by decide) dX8_duckAt_63 ⟨rfl, rfl, _, rfl, h⟩
  unfold w_X8_duckAt at h
  refine jr_iload_n (j := 2) hC dX8_duckAt_0 rfl rfl ?_
  refine jr_bipush (v := (40 : Int32)) hC dX8_duckAt_1 (by decide) ?_
  refine jr_idiv hC dX8_duckAt_3 (by decide) ?_
  refine jr_nmI (fun v5 ev5 => ?_)
  have h := h v5 ev5
  refine jr_istore_n (L1 := [(3, .int v5), (0, .ref a0), (1, .int x1), (2, .int x2)]) hC dX8_duckAt_4 rfl hnL (by decide) rfl ?_
  refine jr_iload_n (j := 0) hC dX8_duckAt_5 rfl rfl ?_
  obtain ⟨hthb6, hfhb6⟩ := h
  refine jr_if_ne (tgt := 15) hC dX8_duckAt_6 (by decide) (fun hb6 => ?_) (fun hb6 => ?_)
  · have h := hthb6 hb6
    refine jr_aload_n (j := 1) hC dX8_duckAt_15 rfl rfl ?_
    obtain ⟨hc7, h⟩ := h
    refine jr_get2 hC fl_RX8_32 hc7 dX8_duckAt_16 ?_
    refine jr_bipush (v := (100 : Int32)) hC dX8_duckAt_19 (by decide) ?_
    refine jr_iload_n (j := 2) hC dX8_duckAt_21 rfl rfl ?_
    refine jr_imul hC dX8_duckAt_22 ?_
    refine jr_iload_n (j := 0) hC dX8_duckAt_23 rfl rfl ?_
    refine jr_iadd hC dX8_duckAt_24 ?_
    refine jr_iconst (v := (1 : Int32)) hC dX8_duckAt_25 (by decide) ?_
    refine jr_isub hC dX8_duckAt_26 ?_
    obtain ⟨hc8, h⟩ := h
    obtain ⟨hc9, h⟩ := h
    refine jr_iald hC hc8 hc9 dX8_duckAt_27 ?_
    refine jr_sub [1, 2, 3, 0] (L1 := [(0, .ref a0), (1, .int x1), (2, .int x2), (3, .int v5)]) rfl ?_
    exact B28 a0 x1 x2 v5 (mI M (mP M a0 9) (Int32.toNatClampNeg ((((100 : Int32) * x1) + v5) - (1 : Int32)))) h
  · have h := hfhb6 hb6
    refine jr_sipush (v := (1000 : Int32)) hC dX8_duckAt_9 (by decide) ?_
    refine jr_goto (tgt := 28) hC dX8_duckAt_12 (by decide) ?_
    refine jr_sub [1, 2, 3, 0] (L1 := [(0, .ref a0), (1, .int x1), (2, .int x2), (3, .int v5)]) rfl ?_
    exact B28 a0 x1 x2 v5 (1000 : Int32) h
set_option maxHeartbeats 4000000 in
set_option maxRecDepth 100000 in
theorem c_X8_duckGain {G : mw_G} {l : Launch} (hlt : l.stackTraces = false) {n : Nat} {M : mw_M} {a0 : Nat} {x1 : Int32} {x2 : Int32} {Q : mw_M → Int32 → Prop} (h : w_X8_duckGain n M a0 x1 x2 Q) : mw_Met G l yX8_duckGain (.code yX8_duckGain cX8_duckGain 3 (some .int)) { frames := 7, cells := 0, slots := 0, locals := 178 } n M [.ref a0, .int x1, .int x2] (fun n1 M1 v => n1 = n ∧ mw_rI Q M1 v) (fun _ _ => False) := by
  refine mw_enter (L0 := [(0, .ref a0), (1, .int x1), (2, .int x2)]) hlt rfl rfl (plainFor_of_name (by decide)) (Nat.le_of_ble_eq_true rfl) rfl ?_
  intro Y hC0 hZ hnL hini0 hn00
  have hC : mw_C G l _ Y cX8_duckGain RX8 := hC0
  have B24 : ∀ (M : mw_M) (r0 : Nat) (x1 : Int32) (x2 : Int32) (s0 : Int32) (s1r : Nat) (h : w_X8_duckGain_b24 n M r0 x1 x2 s0 s1r Q), mw_J Y 0 0 n M 24 [(0, .ref r0), (1, .int x1), (2, .int x2)] [.int s0, .ref s1r] := by
    intro M r0 x1 x2 s0 s1r h
    unfold w_X8_duckGain_b24 at h
    obtain ⟨hc1, h⟩ := h
    refine jr_callV_i (As := [.int s0]) (st := []) hC nc_RX8_51 (c_X8_refuses hlt h) hc1 rfl rfl ⟨⟨rfl, rfl⟩, ⟨by decide, by decide⟩, by decide, by decide⟩ (Nat.le_of_ble_eq_true rfl) dX8_duckGain_24 (fun M2 v3 h => ?_)
    obtain ⟨hthb4, hfhb4⟩ := h
    refine jr_if_eq (tgt := 32) hC dX8_duckGain_27 (by decide) (fun hb4 => ?_) (fun hb4 => ?_)
    · have h := hthb4 hb4
      refine jr_aload_n (j := 0) hC dX8_duckGain_32 rfl rfl ?_
      obtain ⟨hc5, h⟩ := h
      refine jr_get2 hC fl_RX8_7 hc5 dX8_duckGain_33 ?_
      refine jr_iload_n (j := 1) hC dX8_duckGain_36 rfl rfl ?_
      refine jr_callS_pi (As := [.int x1]) (st := [.ref (mP M2 r0 0)]) hC nc_RX8_35 (c_X8_trackAt hlt h) rfl rfl ⟨⟨rfl, rfl⟩, ⟨by decide, by decide⟩, by decide, by decide⟩ (Nat.le_of_ble_eq_true rfl) dX8_duckGain_37 (fun v6 h => ?_)
      refine jr_bipush (v := (29 : Int32)) hC dX8_duckGain_40 (by decide) ?_
      refine jr_iadd hC dX8_duckGain_42 ?_
      obtain ⟨hc7, h⟩ := h
      obtain ⟨hc8, h⟩ := h
      refine jr_iald hC hc7 hc8 dX8_duckGain_43 ?_
      refine jr_iconst (v := (-1 : Int32)) hC dX8_duckGain_44 (by decide) ?_
      obtain ⟨hthb9, hfhb9⟩ := h
      refine jr_ic_ne (tgt := 52) hC dX8_duckGain_45 (by decide) (fun hb9 => ?_) (fun hb9 => ?_)
      · have h := hthb9 hb9
        refine jr_aload_n (j := 0) hC dX8_duckGain_52 rfl rfl ?_
        refine jr_iload_n (j := 1) hC dX8_duckGain_53 rfl rfl ?_
        refine jr_iload_n (j := 2) hC dX8_duckGain_54 rfl rfl ?_
        refine jr_bipush (v := (40 : Int32)) hC dX8_duckGain_55 (by decide) ?_
        refine jr_idiv hC dX8_duckGain_57 (by decide) ?_
        refine jr_callV_v (As := [.int x1, .int (x2 / (40 : Int32))]) (st := []) hC nc_RX8_204 (c_X8_laysDuck hlt h) hc5 rfl rfl ⟨⟨rfl, rfl⟩, ⟨by decide, by decide⟩, by decide, by decide⟩ (Nat.le_of_ble_eq_true rfl) dX8_duckGain_58 (fun M10 h => ?_)
        refine jr_aload_n (j := 0) hC dX8_duckGain_61 rfl rfl ?_
        refine jr_iload_n (j := 1) hC dX8_duckGain_62 rfl rfl ?_
        refine jr_iload_n (j := 2) hC dX8_duckGain_63 rfl rfl ?_
        refine jr_callV_pi (As := [.int x1, .int x2]) (st := []) hC nc_RX8_207 (c_X8_duckAt hlt h) hc5 rfl rfl ⟨⟨rfl, rfl⟩, ⟨by decide, by decide⟩, by decide, by decide⟩ (Nat.le_of_ble_eq_true rfl) dX8_duckGain_64 (fun v11 h => ?_)
        exact jr_ireti hC hZ (by decide) (by decide) dX8_duckGain_67 ⟨rfl, _, rfl, h⟩
      · have h := hfhb9 hb9
        refine jr_sipush (v := (1000 : Int32)) hC dX8_duckGain_48 (by decide) ?_
        exact jr_ireti hC hZ (by decide) (by decide) dX8_duckGain_51 ⟨rfl, _, rfl, h⟩
    · have h := hfhb4 hb4
      refine jr_iconst (v := (0 : Int32)) hC dX8_duckGain_30 (by decide) ?_
      exact jr_ireti hC hZ (by decide) (by decide) dX8_duckGain_31 ⟨rfl, _, rfl, h⟩
  unfold w_X8_duckGain at h
  refine jr_aload_n (j := 0) hC dX8_duckGain_0 rfl rfl ?_
  refine jr_iload_n (j := 1) hC dX8_duckGain_1 rfl rfl ?_
  refine jr_callS_pi (As := [.int x1]) (st := [.ref a0]) hC nc_RX8_111 (c_X8_isTrack hlt h) rfl rfl ⟨⟨rfl, rfl⟩, ⟨by decide, by decide⟩, by decide, by decide⟩ (Nat.le_of_ble_eq_true rfl) dX8_duckGain_2 (fun v12 h => ?_)
  obtain ⟨hthb13, hfhb13⟩ := h
  refine jr_if_ne (tgt := 12) hC dX8_duckGain_5 (by decide) (fun hb13 => ?_) (fun hb13 => ?_)
  · have h := hthb13 hb13
    refine jr_iload_n (j := 2) hC dX8_duckGain_12 rfl rfl ?_
    refine jr_callS_pi (As := [.int x2]) (st := [.ref a0]) hC nc_RX8_114 (c_X8_isPlace hlt h) rfl rfl ⟨⟨rfl, rfl⟩, ⟨by decide, by decide⟩, by decide, by decide⟩ (Nat.le_of_ble_eq_true rfl) dX8_duckGain_13 (fun v14 h => ?_)
    obtain ⟨hthb15, hfhb15⟩ := h
    refine jr_if_eq (tgt := 23) hC dX8_duckGain_16 (by decide) (fun hb15 => ?_) (fun hb15 => ?_)
    · have h := hthb15 hb15
      refine jr_iconst (v := (2 : Int32)) hC dX8_duckGain_23 (by decide) ?_
      exact B24 M a0 x1 x2 (2 : Int32) a0 h
    · have h := hfhb15 hb15
      refine jr_iconst (v := (0 : Int32)) hC dX8_duckGain_19 (by decide) ?_
      refine jr_goto (tgt := 24) hC dX8_duckGain_20 (by decide) ?_
      exact B24 M a0 x1 x2 (0 : Int32) a0 h
  · have h := hfhb13 hb13
    refine jr_iconst (v := (1 : Int32)) hC dX8_duckGain_8 (by decide) ?_
    refine jr_goto (tgt := 24) hC dX8_duckGain_9 (by decide) ?_
    exact B24 M a0 x1 x2 (1 : Int32) a0 h
set_option maxHeartbeats 4000000 in
set_option maxRecDepth 100000 in
theorem c_X8_valueAt {G : mw_G} {l : Launch} (hlt : l.stackTraces = false) {n : Nat} {M : mw_M} {a0 : Nat} {x1 : Int32} {x2 : Int32} {Q : Int32 → Prop} (h : w_X8_valueAt n M a0 x1 x2 Q) : mw_Met G l yX8_valueAt (.code yX8_valueAt cX8_valueAt 4 (some .int)) { frames := 5, cells := 0, slots := 0, locals := 123 } n M [.ref a0, .int x1, .int x2] (fun n1 M1 v => n1 = n ∧ mw_pI M Q M1 v) (fun _ _ => False) := by
  refine mw_enter (L0 := [(0, .ref a0), (1, .int x1), (2, .int x2)]) hlt rfl rfl (plainFor_of_name (by decide)) (Nat.le_of_ble_eq_true rfl) rfl ?_
  intro Y hC0 hZ hnL hini0 hn00
  have hC : mw_C G l _ Y cX8_valueAt RX8 := hC0
  have B38 : ∀ (s0 : Int32) (h : w_X8_valueAt_b38 n M s0 Q), mw_J Y 0 0 n M 38 [] [.int s0] := by
    intro s0 h
    unfold w_X8_valueAt_b38 at h
    exact jr_ireti hC hZ (by decide) (by decide) dX8_valueAt_38 ⟨rfl, rfl, _, rfl, h⟩
  unfold w_X8_valueAt at h
  refine jr_aload_n (j := 0) hC dX8_valueAt_0 rfl rfl ?_
  refine jr_iload_n (j := 1) hC dX8_valueAt_1 rfl rfl ?_
  refine jr_iload_n (j := 2) hC dX8_valueAt_2 rfl rfl ?_
  obtain ⟨hc1, h⟩ := h
  refine jr_callV_pi (As := [.int x1, .int x2]) (st := []) hC nc_RX8_196 (c_X8_dry hlt h) hc1 rfl rfl ⟨⟨rfl, rfl⟩, ⟨by decide, by decide⟩, by decide, by decide⟩ (Nat.le_of_ble_eq_true rfl) dX8_valueAt_3 (fun v2 h => ?_)
  refine jr_istore_n (L1 := [(3, .int v2), (0, .ref a0), (1, .int x1), (2, .int x2)]) hC dX8_valueAt_6 rfl hnL (by decide) rfl ?_
  refine jr_aload_n (j := 1) hC dX8_valueAt_7 rfl rfl ?_
  refine jr_get2 hC fl_RX8_7 hc1 dX8_valueAt_8 ?_
  refine jr_iload_n (j := 2) hC dX8_valueAt_11 rfl rfl ?_
  refine jr_callS_pi (As := [.int x1]) (st := [.ref (mP M a0 0)]) hC nc_RX8_35 (c_X8_trackAt hlt h) rfl rfl ⟨⟨rfl, rfl⟩, ⟨by decide, by decide⟩, by decide, by decide⟩ (Nat.le_of_ble_eq_true rfl) dX8_valueAt_12 (fun v3 h => ?_)
  refine jr_bipush (v := (29 : Int32)) hC dX8_valueAt_15 (by decide) ?_
  refine jr_iadd hC dX8_valueAt_17 ?_
  obtain ⟨hc4, h⟩ := h
  obtain ⟨hc5, h⟩ := h
  refine jr_iald hC hc4 hc5 dX8_valueAt_18 ?_
  refine jr_iconst (v := (-1 : Int32)) hC dX8_valueAt_19 (by decide) ?_
  obtain ⟨hthb6, hfhb6⟩ := h
  refine jr_ic_ne (tgt := 27) hC dX8_valueAt_20 (by decide) (fun hb6 => ?_) (fun hb6 => ?_)
  · have h := hthb6 hb6
    refine jr_iload_n (j := 0) hC dX8_valueAt_27 rfl rfl ?_
    refine jr_i2l hC dX8_valueAt_28 ?_
    refine jr_aload_n (j := 1) hC dX8_valueAt_29 rfl rfl ?_
    refine jr_iload_n (j := 2) hC dX8_valueAt_30 rfl rfl ?_
    refine jr_iload_n (j := 3) hC dX8_valueAt_31 rfl rfl ?_
    refine jr_callV_pi (As := [.int x1, .int x2]) (st := [.long (Int32.toInt64 v2)]) hC nc_RX8_207 (c_X8_duckAt hlt h) hc1 rfl rfl ⟨⟨rfl, rfl⟩, ⟨by decide, by decide⟩, by decide, by decide⟩ (Nat.le_of_ble_eq_true rfl) dX8_valueAt_32 (fun v7 h => ?_)
    refine jr_callS_pi (As := [.long (Int32.toInt64 v2), .int v7]) (st := []) hC nc_RX8_164 (c_X8_applied hlt h) rfl rfl ⟨⟨rfl, rfl⟩, ⟨by decide, by decide⟩, by decide, by decide⟩ (Nat.le_of_ble_eq_true rfl) dX8_valueAt_35 (fun v8 h => ?_)
    refine jr_sub [] (L1 := []) rfl ?_
    exact B38 v8 h
  · have h := hfhb6 hb6
    refine jr_iload_n (j := 0) hC dX8_valueAt_23 rfl rfl ?_
    refine jr_goto (tgt := 38) hC dX8_valueAt_24 (by decide) ?_
    refine jr_sub [] (L1 := []) rfl ?_
    exact B38 v2 h
set_option maxHeartbeats 4000000 in
set_option maxRecDepth 100000 in
theorem c_X8_trackValue {G : mw_G} {l : Launch} (hlt : l.stackTraces = false) {n : Nat} {M : mw_M} {a0 : Nat} {x1 : Int32} {x2 : Int32} {Q : mw_M → Int32 → Prop} (h : w_X8_trackValue n M a0 x1 x2 Q) : mw_Met G l yX8_trackValue (.code yX8_trackValue cX8_trackValue 3 (some .int)) { frames := 7, cells := 0, slots := 0, locals := 178 } n M [.ref a0, .int x1, .int x2] (fun n1 M1 v => n1 = n ∧ mw_rI Q M1 v) (fun _ _ => False) := by
  refine mw_enter (L0 := [(0, .ref a0), (1, .int x1), (2, .int x2)]) hlt rfl rfl (plainFor_of_name (by decide)) (Nat.le_of_ble_eq_true rfl) rfl ?_
  intro Y hC0 hZ hnL hini0 hn00
  have hC : mw_C G l _ Y cX8_trackValue RX8 := hC0
  have B24 : ∀ (M : mw_M) (r0 : Nat) (x1 : Int32) (x2 : Int32) (s0 : Int32) (s1r : Nat) (h : w_X8_trackValue_b24 n M r0 x1 x2 s0 s1r Q), mw_J Y 0 0 n M 24 [(0, .ref r0), (1, .int x1), (2, .int x2)] [.int s0, .ref s1r] := by
    intro M r0 x1 x2 s0 s1r h
    unfold w_X8_trackValue_b24 at h
    obtain ⟨hc1, h⟩ := h
    refine jr_callV_i (As := [.int s0]) (st := []) hC nc_RX8_51 (c_X8_refuses hlt h) hc1 rfl rfl ⟨⟨rfl, rfl⟩, ⟨by decide, by decide⟩, by decide, by decide⟩ (Nat.le_of_ble_eq_true rfl) dX8_trackValue_24 (fun M2 v3 h => ?_)
    obtain ⟨hthb4, hfhb4⟩ := h
    refine jr_if_eq (tgt := 32) hC dX8_trackValue_27 (by decide) (fun hb4 => ?_) (fun hb4 => ?_)
    · have h := hthb4 hb4
      refine jr_aload_n (j := 0) hC dX8_trackValue_32 rfl rfl ?_
      refine jr_iload_n (j := 1) hC dX8_trackValue_33 rfl rfl ?_
      refine jr_iload_n (j := 2) hC dX8_trackValue_34 rfl rfl ?_
      refine jr_bipush (v := (40 : Int32)) hC dX8_trackValue_35 (by decide) ?_
      refine jr_idiv hC dX8_trackValue_37 (by decide) ?_
      obtain ⟨hc5, h⟩ := h
      refine jr_callV_v (As := [.int x1, .int (x2 / (40 : Int32))]) (st := []) hC nc_RX8_204 (c_X8_laysDuck hlt h) hc5 rfl rfl ⟨⟨rfl, rfl⟩, ⟨by decide, by decide⟩, by decide, by decide⟩ (Nat.le_of_ble_eq_true rfl) dX8_trackValue_38 (fun M6 h => ?_)
      refine jr_aload_n (j := 0) hC dX8_trackValue_41 rfl rfl ?_
      refine jr_iload_n (j := 1) hC dX8_trackValue_42 rfl rfl ?_
      refine jr_iload_n (j := 2) hC dX8_trackValue_43 rfl rfl ?_
      refine jr_callV_pi (As := [.int x1, .int x2]) (st := []) hC nc_RX8_210 (c_X8_valueAt hlt h) hc5 rfl rfl ⟨⟨rfl, rfl⟩, ⟨by decide, by decide⟩, by decide, by decide⟩ (Nat.le_of_ble_eq_true rfl) dX8_trackValue_44 (fun v7 h => ?_)
      exact jr_ireti hC hZ (by decide) (by decide) dX8_trackValue_47 ⟨rfl, _, rfl, h⟩
    · have h := hfhb4 hb4
      refine jr_iconst (v := (0 : Int32)) hC dX8_trackValue_30 (by decide) ?_
      exact jr_ireti hC hZ (by decide) (by decide) dX8_trackValue_31 ⟨rfl, _, rfl, h⟩
  unfold w_X8_trackValue at h
  refine jr_aload_n (j := 0) hC dX8_trackValue_0 rfl rfl ?_
  refine jr_iload_n (j := 1) hC dX8_trackValue_1 rfl rfl ?_
  refine jr_callS_pi (As := [.int x1]) (st := [.ref a0]) hC nc_RX8_111 (c_X8_isTrack hlt h) rfl rfl ⟨⟨rfl, rfl⟩, ⟨by decide, by decide⟩, by decide, by decide⟩ (Nat.le_of_ble_eq_true rfl) dX8_trackValue_2 (fun v8 h => ?_)
  obtain ⟨hthb9, hfhb9⟩ := h
  refine jr_if_ne (tgt := 12) hC dX8_trackValue_5 (by decide) (fun hb9 => ?_) (fun hb9 => ?_)
  · have h := hthb9 hb9
    refine jr_iload_n (j := 2) hC dX8_trackValue_12 rfl rfl ?_
    refine jr_callS_pi (As := [.int x2]) (st := [.ref a0]) hC nc_RX8_114 (c_X8_isPlace hlt h) rfl rfl ⟨⟨rfl, rfl⟩, ⟨by decide, by decide⟩, by decide, by decide⟩ (Nat.le_of_ble_eq_true rfl) dX8_trackValue_13 (fun v10 h => ?_)
    obtain ⟨hthb11, hfhb11⟩ := h
    refine jr_if_eq (tgt := 23) hC dX8_trackValue_16 (by decide) (fun hb11 => ?_) (fun hb11 => ?_)
    · have h := hthb11 hb11
      refine jr_iconst (v := (2 : Int32)) hC dX8_trackValue_23 (by decide) ?_
      exact B24 M a0 x1 x2 (2 : Int32) a0 h
    · have h := hfhb11 hb11
      refine jr_iconst (v := (0 : Int32)) hC dX8_trackValue_19 (by decide) ?_
      refine jr_goto (tgt := 24) hC dX8_trackValue_20 (by decide) ?_
      exact B24 M a0 x1 x2 (0 : Int32) a0 h
  · have h := hfhb9 hb9
    refine jr_iconst (v := (1 : Int32)) hC dX8_trackValue_8 (by decide) ?_
    refine jr_goto (tgt := 24) hC dX8_trackValue_9 (by decide) ?_
    exact B24 M a0 x1 x2 (1 : Int32) a0 h
set_option maxHeartbeats 4000000 in
set_option maxRecDepth 100000 in
theorem c_X8_isHeard {G : mw_G} {l : Launch} (hlt : l.stackTraces = false) {n : Nat} {M : mw_M} {a0 : Nat} {x1 : Int32} {Q : Int32 → Prop} (h : w_X8_isHeard n M a0 x1 Q) : mw_Met G l yX8_isHeard (.code yX8_isHeard cX8_isHeard 4 (some .boolean)) { frames := 1, cells := 0, slots := 0, locals := 20 } n M [.ref a0, .int x1] (fun n1 M1 v => n1 = n ∧ mw_pI M Q M1 v) (fun _ _ => False) := by
  refine mw_enter (L0 := [(0, .ref a0), (1, .int x1)]) hlt rfl rfl (plainFor_of_name (by decide)) (Nat.le_of_ble_eq_true rfl) rfl ?_
  intro Y hC0 hZ hnL hini0 hn00
  have hC : mw_C G l _ Y cX8_isHeard RX8 := hC0
  have B78 : ∀ (s0 : Int32) (h : w_X8_isHeard_b78 n M s0 Q), mw_J Y 0 0 n M 78 [] [.int s0] := by
    intro s0 h
    unfold w_X8_isHeard_b78 at h
    obtain ⟨hc1, h⟩ := h
    exact jr_iretz hC hZ (by decide) (by decide) hc1 dX8_isHeard_78 ⟨rfl, rfl, _, rfl, h⟩
  have B77 : (w_X8_isHeard_b77 n M Q) → mw_J Y 0 0 n M 77 [] [] := by
    intro  h
    unfold w_X8_isHeard_b77 at h
    refine jr_iconst (v := (0 : Int32)) hC dX8_isHeard_77 (by decide) ?_
    exact B78 (0 : Int32) h
  have B73 : (w_X8_isHeard_b73 n M Q) → mw_J Y 0 0 n M 73 [] [] := by
    intro  h
    unfold w_X8_isHeard_b73 at h
    refine jr_iconst (v := (1 : Int32)) hC dX8_isHeard_73 (by decide) ?_
    refine jr_goto (tgt := 78) hC dX8_isHeard_74 (by decide) ?_
    exact B78 (1 : Int32) h
  have B33 : ∀ (r0 : Nat) (x1 : Int32) (x3 : Int32) (s0 : Int32) (K4 : Int32 → Int32 → Prop) (hK4 : ∀ (x2_ : Int32) (x3_ : Int32), K4 x2_ x3_ → mw_J Y 0 0 n M 4 [(0, .ref r0), (1, .int x1), (2, .int x2_), (3, .int x3_)] []) (h : w_X8_isHeard_b33 n M r0 x1 x3 s0 Q K4), mw_J Y 0 0 n M 33 [(0, .ref r0), (1, .int x1), (3, .int x3)] [.int s0] := by
    intro r0 x1 x3 s0 K4 hK4 h
    unfold w_X8_isHeard_b33 at h
    refine jr_istore_n (L1 := [(2, .int s0), (0, .ref r0), (1, .int x1), (3, .int x3)]) hC dX8_isHeard_33 rfl hnL (by decide) rfl ?_
    obtain ⟨v2, ev2⟩ : ∃ y : Int32, y = (x3 + (1 : Int32)) := ⟨_, rfl⟩
    have h := h v2 ev2
    refine jr_iinc (j := 3) (v := v2) (L1 := [(3, .int v2), (2, .int s0), (0, .ref r0), (1, .int x1)]) hC dX8_isHeard_34 rfl (by rw [ev2]; rfl) hnL (by decide) rfl ?_
    refine jr_goto (tgt := 4) hC dX8_isHeard_37 (by decide) ?_
    refine jr_sub [2, 3, 1, 0] (L1 := [(0, .ref r0), (1, .int x1), (2, .int s0), (3, .int v2)]) rfl ?_
    exact hK4 s0 v2 h
  have B28 : ∀ (r0 : Nat) (x1 : Int32) (x3 : Int32) (K4 : Int32 → Int32 → Prop) (hK4 : ∀ (x2_ : Int32) (x3_ : Int32), K4 x2_ x3_ → mw_J Y 0 0 n M 4 [(0, .ref r0), (1, .int x1), (2, .int x2_), (3, .int x3_)] []) (h : w_X8_isHeard_b28 n M r0 x1 x3 Q K4), mw_J Y 0 0 n M 28 [(0, .ref r0), (1, .int x1), (3, .int x3)] [] := by
    intro r0 x1 x3 K4 hK4 h
    unfold w_X8_isHeard_b28 at h
    refine jr_iconst (v := (1 : Int32)) hC dX8_isHeard_28 (by decide) ?_
    refine jr_goto (tgt := 33) hC dX8_isHeard_29 (by decide) ?_
    exact B33 r0 x1 x3 (1 : Int32) K4 hK4 h
  have B4 : ∀ (r0 : Nat) (x1 : Int32) (x2 : Int32) (x3 : Int32) (h : w_X8_isHeard_b4 n M r0 x1 x2 x3 Q), mw_J Y 0 0 n M 4 [(0, .ref r0), (1, .int x1), (2, .int x2), (3, .int x3)] [] := by
    intro r0 x1 x2 x3 h
    obtain ⟨Inv, mu, h0, hs⟩ := h
    refine mw_loop2 (fun (x2 : Int32) (x3 : Int32) => mw_J Y 0 0 n M 4 [(0, .ref r0), (1, .int x1), (2, .int x2), (3, .int x3)] []) Inv mu (fun x2 x3 hI hrec => ?_) x2 x3 h0
    have h := hs x2 x3 hI
    refine jr_iload_n (j := 3) hC dX8_isHeard_4 rfl rfl ?_
    refine jr_iconst (v := (4 : Int32)) hC dX8_isHeard_5 (by decide) ?_
    obtain ⟨hthb3, hfhb3⟩ := h
    refine jr_ic_ge (tgt := 40) hC dX8_isHeard_6 (by decide) (fun hb3 => ?_) (fun hb3 => ?_)
    · have h := hthb3 hb3
      refine jr_aload_n (j := 0) hC dX8_isHeard_40 rfl rfl ?_
      obtain ⟨hc4, h⟩ := h
      refine jr_get2 hC fl_RX8_7 hc4 dX8_isHeard_41 ?_
      refine jr_iload_n (j := 1) hC dX8_isHeard_44 rfl rfl ?_
      refine jr_callS_pi (As := [.int x1]) (st := [.ref (mP M r0 0)]) hC nc_RX8_35 (c_X8_trackAt hlt h) rfl rfl ⟨⟨rfl, rfl⟩, ⟨by decide, by decide⟩, by decide, by decide⟩ (Nat.le_of_ble_eq_true rfl) dX8_isHeard_45 (fun v5 h => ?_)
      refine jr_iconst (v := (2 : Int32)) hC dX8_isHeard_48 (by decide) ?_
      refine jr_iadd hC dX8_isHeard_49 ?_
      obtain ⟨hc6, h⟩ := h
      obtain ⟨hc7, h⟩ := h
      refine jr_iald hC hc6 hc7 dX8_isHeard_50 ?_
      obtain ⟨hthb8, hfhb8⟩ := h
      refine jr_if_ne (tgt := 77) hC dX8_isHeard_51 (by decide) (fun hb8 => ?_) (fun hb8 => ?_)
      · have h := hthb8 hb8
        refine jr_sub [] (L1 := []) rfl ?_
        exact B77 h
      · have h := hfhb8 hb8
        refine jr_iload_n (j := 2) hC dX8_isHeard_54 rfl rfl ?_
        obtain ⟨hthb9, hfhb9⟩ := h
        refine jr_if_eq (tgt := 73) hC dX8_isHeard_55 (by decide) (fun hb9 => ?_) (fun hb9 => ?_)
        · have h := hthb9 hb9
          refine jr_sub [] (L1 := []) rfl ?_
          exact B73 h
        · have h := hfhb9 hb9
          refine jr_aload_n (j := 0) hC dX8_isHeard_58 rfl rfl ?_
          refine jr_get2 hC fl_RX8_7 hc4 dX8_isHeard_59 ?_
          refine jr_iload_n (j := 1) hC dX8_isHeard_62 rfl rfl ?_
          refine jr_callS_pi (As := [.int x1]) (st := [.ref (mP M r0 0)]) hC nc_RX8_35 (c_X8_trackAt hlt h) rfl rfl ⟨⟨rfl, rfl⟩, ⟨by decide, by decide⟩, by decide, by decide⟩ (Nat.le_of_ble_eq_true rfl) dX8_isHeard_63 (fun v10 h => ?_)
          refine jr_iconst (v := (3 : Int32)) hC dX8_isHeard_66 (by decide) ?_
          refine jr_iadd hC dX8_isHeard_67 ?_
          obtain ⟨hc11, h⟩ := h
          refine jr_iald hC hc6 hc11 dX8_isHeard_68 ?_
          refine jr_iconst (v := (1 : Int32)) hC dX8_isHeard_69 (by decide) ?_
          obtain ⟨hthb12, hfhb12⟩ := h
          refine jr_ic_ne (tgt := 77) hC dX8_isHeard_70 (by decide) (fun hb12 => ?_) (fun hb12 => ?_)
          · have h := hthb12 hb12
            refine jr_sub [] (L1 := []) rfl ?_
            exact B77 h
          · have h := hfhb12 hb12
            refine jr_sub [] (L1 := []) rfl ?_
            exact B73 h
    · have h := hfhb3 hb3
      refine jr_iload_n (j := 2) hC dX8_isHeard_9 rfl rfl ?_
      obtain ⟨hthb13, hfhb13⟩ := h
      refine jr_if_ne (tgt := 28) hC dX8_isHeard_10 (by decide) (fun hb13 => ?_) (fun hb13 => ?_)
      · have h := hthb13 hb13
        refine jr_sub [0, 1, 3] (L1 := [(0, .ref r0), (1, .int x1), (3, .int x3)]) rfl ?_
        exact B28 r0 x1 x3 (fun (x2_ : Int32) (x3_ : Int32) => Inv x2_ x3_ ∧ mu x2_ x3_ < mu x2 x3) (fun x2_ x3_ h9 => hrec x2_ x3_ h9) h
      · have h := hfhb13 hb13
        refine jr_aload_n (j := 0) hC dX8_isHeard_13 rfl rfl ?_
        obtain ⟨hc14, h⟩ := h
        refine jr_get2 hC fl_RX8_7 hc14 dX8_isHeard_14 ?_
        refine jr_iload_n (j := 3) hC dX8_isHeard_17 rfl rfl ?_
        refine jr_callS_pi (As := [.int x3]) (st := [.ref (mP M r0 0)]) hC nc_RX8_35 (c_X8_trackAt hlt h) rfl rfl ⟨⟨rfl, rfl⟩, ⟨by decide, by decide⟩, by decide, by decide⟩ (Nat.le_of_ble_eq_true rfl) dX8_isHeard_18 (fun v15 h => ?_)
        refine jr_iconst (v := (3 : Int32)) hC dX8_isHeard_21 (by decide) ?_
        refine jr_iadd hC dX8_isHeard_22 ?_
        obtain ⟨hc16, h⟩ := h
        obtain ⟨hc17, h⟩ := h
        refine jr_iald hC hc16 hc17 dX8_isHeard_23 ?_
        refine jr_iconst (v := (1 : Int32)) hC dX8_isHeard_24 (by decide) ?_
        obtain ⟨hthb18, hfhb18⟩ := h
        refine jr_ic_ne (tgt := 32) hC dX8_isHeard_25 (by decide) (fun hb18 => ?_) (fun hb18 => ?_)
        · have h := hthb18 hb18
          refine jr_iconst (v := (0 : Int32)) hC dX8_isHeard_32 (by decide) ?_
          refine jr_sub [0, 1, 3] (L1 := [(0, .ref r0), (1, .int x1), (3, .int x3)]) rfl ?_
          exact B33 r0 x1 x3 (0 : Int32) (fun (x2_ : Int32) (x3_ : Int32) => Inv x2_ x3_ ∧ mu x2_ x3_ < mu x2 x3) (fun x2_ x3_ h9 => hrec x2_ x3_ h9) h
        · have h := hfhb18 hb18
          refine jr_sub [0, 1, 3] (L1 := [(0, .ref r0), (1, .int x1), (3, .int x3)]) rfl ?_
          exact B28 r0 x1 x3 (fun (x2_ : Int32) (x3_ : Int32) => Inv x2_ x3_ ∧ mu x2_ x3_ < mu x2 x3) (fun x2_ x3_ h9 => hrec x2_ x3_ h9) h
  unfold w_X8_isHeard at h
  refine jr_iconst (v := (0 : Int32)) hC dX8_isHeard_0 (by decide) ?_
  refine jr_istore_n (L1 := [(2, .int (0 : Int32)), (0, .ref a0), (1, .int x1)]) hC dX8_isHeard_1 rfl hnL (by decide) rfl ?_
  refine jr_iconst (v := (0 : Int32)) hC dX8_isHeard_2 (by decide) ?_
  refine jr_istore_n (L1 := [(3, .int (0 : Int32)), (2, .int (0 : Int32)), (0, .ref a0), (1, .int x1)]) hC dX8_isHeard_3 rfl hnL (by decide) rfl ?_
  refine jr_sub [2, 3, 1, 0] (L1 := [(0, .ref a0), (1, .int x1), (2, .int (0 : Int32)), (3, .int (0 : Int32))]) rfl ?_
  exact B4 a0 x1 (0 : Int32) (0 : Int32) h
set_option maxHeartbeats 4000000 in
set_option maxRecDepth 100000 in
theorem c_X8_isAudible {G : mw_G} {l : Launch} (hlt : l.stackTraces = false) {n : Nat} {M : mw_M} {a0 : Nat} {x1 : Int32} {Q : mw_M → Int32 → Prop} (h : w_X8_isAudible n M a0 x1 Q) : mw_Met G l yX8_isAudible (.code yX8_isAudible cX8_isAudible 2 (some .boolean)) { frames := 2, cells := 0, slots := 0, locals := 45 } n M [.ref a0, .int x1] (fun n1 M1 v => n1 = n ∧ mw_rI Q M1 v) (fun _ _ => False) := by
  refine mw_enter (L0 := [(0, .ref a0), (1, .int x1)]) hlt rfl rfl (plainFor_of_name (by decide)) (Nat.le_of_ble_eq_true rfl) rfl ?_
  intro Y hC0 hZ hnL hini0 hn00
  have hC : mw_C G l _ Y cX8_isAudible RX8 := hC0
  have B32 : ∀ (M : mw_M) (s0 : Int32) (h : w_X8_isAudible_b32 n M s0 Q), mw_J Y 0 0 n M 32 [] [.int s0] := by
    intro M s0 h
    unfold w_X8_isAudible_b32 at h
    obtain ⟨hc1, h⟩ := h
    exact jr_iretz hC hZ (by decide) (by decide) hc1 dX8_isAudible_32 ⟨rfl, _, rfl, h⟩
  have B31 : ∀ (M : mw_M) (h : w_X8_isAudible_b31 n M Q), mw_J Y 0 0 n M 31 [] [] := by
    intro M h
    unfold w_X8_isAudible_b31 at h
    refine jr_iconst (v := (0 : Int32)) hC dX8_isAudible_31 (by decide) ?_
    exact B32 M (0 : Int32) h
  have B13 : ∀ (M : mw_M) (r0 : Nat) (x1 : Int32) (s0 : Int32) (s1r : Nat) (h : w_X8_isAudible_b13 n M r0 x1 s0 s1r Q), mw_J Y 0 0 n M 13 [(0, .ref r0), (1, .int x1)] [.int s0, .ref s1r] := by
    intro M r0 x1 s0 s1r h
    unfold w_X8_isAudible_b13 at h
    obtain ⟨hc2, h⟩ := h
    refine jr_callV_i (As := [.int s0]) (st := []) hC nc_RX8_51 (c_X8_refuses hlt h) hc2 rfl rfl ⟨⟨rfl, rfl⟩, ⟨by decide, by decide⟩, by decide, by decide⟩ (Nat.le_of_ble_eq_true rfl) dX8_isAudible_13 (fun M3 v4 h => ?_)
    obtain ⟨hthb5, hfhb5⟩ := h
    refine jr_if_ne (tgt := 31) hC dX8_isAudible_16 (by decide) (fun hb5 => ?_) (fun hb5 => ?_)
    · have h := hthb5 hb5
      refine jr_sub [] (L1 := []) rfl ?_
      exact B31 M3 h
    · have h := hfhb5 hb5
      refine jr_aload_n (j := 0) hC dX8_isAudible_19 rfl rfl ?_
      refine jr_iload_n (j := 1) hC dX8_isAudible_20 rfl rfl ?_
      obtain ⟨hc6, h⟩ := h
      refine jr_callV_pi (As := [.int x1]) (st := []) hC nc_RX8_213 (c_X8_isHeard hlt h) hc6 rfl rfl ⟨⟨rfl, rfl⟩, ⟨by decide, by decide⟩, by decide, by decide⟩ (Nat.le_of_ble_eq_true rfl) dX8_isAudible_21 (fun v7 h => ?_)
      obtain ⟨hthb8, hfhb8⟩ := h
      refine jr_if_eq (tgt := 31) hC dX8_isAudible_24 (by decide) (fun hb8 => ?_) (fun hb8 => ?_)
      · have h := hthb8 hb8
        refine jr_sub [] (L1 := []) rfl ?_
        exact B31 M3 h
      · have h := hfhb8 hb8
        refine jr_iconst (v := (1 : Int32)) hC dX8_isAudible_27 (by decide) ?_
        refine jr_goto (tgt := 32) hC dX8_isAudible_28 (by decide) ?_
        refine jr_sub [] (L1 := []) rfl ?_
        exact B32 M3 (1 : Int32) h
  unfold w_X8_isAudible at h
  refine jr_aload_n (j := 0) hC dX8_isAudible_0 rfl rfl ?_
  refine jr_iload_n (j := 1) hC dX8_isAudible_1 rfl rfl ?_
  refine jr_callS_pi (As := [.int x1]) (st := [.ref a0]) hC nc_RX8_111 (c_X8_isTrack hlt h) rfl rfl ⟨⟨rfl, rfl⟩, ⟨by decide, by decide⟩, by decide, by decide⟩ (Nat.le_of_ble_eq_true rfl) dX8_isAudible_2 (fun v9 h => ?_)
  obtain ⟨hthb10, hfhb10⟩ := h
  refine jr_if_eq (tgt := 12) hC dX8_isAudible_5 (by decide) (fun hb10 => ?_) (fun hb10 => ?_)
  · have h := hthb10 hb10
    refine jr_iconst (v := (1 : Int32)) hC dX8_isAudible_12 (by decide) ?_
    exact B13 M a0 x1 (1 : Int32) a0 h
  · have h := hfhb10 hb10
    refine jr_iconst (v := (0 : Int32)) hC dX8_isAudible_8 (by decide) ?_
    refine jr_goto (tgt := 13) hC dX8_isAudible_9 (by decide) ?_
    exact B13 M a0 x1 (0 : Int32) a0 h
set_option maxHeartbeats 4000000 in
set_option maxRecDepth 100000 in
theorem c_X8_laysDucks {G : mw_G} {l : Launch} (hlt : l.stackTraces = false) {n : Nat} {M : mw_M} {a0 : Nat} {x1 : Int32} {Q : mw_M → Prop} (h : w_X8_laysDucks n M a0 x1 Q) : mw_Met G l yX8_laysDucks (.code yX8_laysDucks cX8_laysDucks 3 none) { frames := 7, cells := 0, slots := 0, locals := 178 } n M [.ref a0, .int x1] (fun n1 M1 v => n1 = n ∧ mw_rV Q M1 v) (fun _ _ => False) := by
  refine mw_enter (L0 := [(0, .ref a0), (1, .int x1)]) hlt rfl rfl (plainFor_of_name (by decide)) (Nat.le_of_ble_eq_true rfl) rfl ?_
  intro Y hC0 hZ hnL hini0 hn00
  have hC : mw_C G l _ Y cX8_laysDucks RX8 := hC0
  have B2 : ∀ (M : mw_M) (r0 : Nat) (x1 : Int32) (x2 : Int32) (h : w_X8_laysDucks_b2 n M r0 x1 x2 Q), mw_J Y 0 0 n M 2 [(0, .ref r0), (1, .int x1), (2, .int x2)] [] := by
    intro M r0 x1 x2 h
    obtain ⟨Inv, mu, h0, hs⟩ := h
    refine mw_loop2 (fun (M : mw_M) (x2 : Int32) => mw_J Y 0 0 n M 2 [(0, .ref r0), (1, .int x1), (2, .int x2)] []) Inv mu (fun M x2 hI hrec => ?_) M x2 h0
    have h := hs M x2 hI
    refine jr_iload_n (j := 2) hC dX8_laysDucks_2 rfl rfl ?_
    refine jr_iconst (v := (4 : Int32)) hC dX8_laysDucks_3 (by decide) ?_
    obtain ⟨hthb1, hfhb1⟩ := h
    refine jr_ic_ge (tgt := 19) hC dX8_laysDucks_4 (by decide) (fun hb1 => ?_) (fun hb1 => ?_)
    · have h := hthb1 hb1
      exact jr_vret hC hZ (by decide) (by decide) dX8_laysDucks_19 ⟨rfl, rfl, h⟩
    · have h := hfhb1 hb1
      refine jr_aload_n (j := 0) hC dX8_laysDucks_7 rfl rfl ?_
      refine jr_iload_n (j := 2) hC dX8_laysDucks_8 rfl rfl ?_
      refine jr_iload_n (j := 1) hC dX8_laysDucks_9 rfl rfl ?_
      obtain ⟨hc2, h⟩ := h
      refine jr_callV_v (As := [.int x2, .int x1]) (st := []) hC nc_RX8_204 (c_X8_laysDuck hlt h) hc2 rfl rfl ⟨⟨rfl, rfl⟩, ⟨by decide, by decide⟩, by decide, by decide⟩ (Nat.le_of_ble_eq_true rfl) dX8_laysDucks_10 (fun M3 h => ?_)
      obtain ⟨v4, ev4⟩ : ∃ y : Int32, y = (x2 + (1 : Int32)) := ⟨_, rfl⟩
      have h := h v4 ev4
      refine jr_iinc (j := 2) (v := v4) (L1 := [(2, .int v4), (0, .ref r0), (1, .int x1)]) hC dX8_laysDucks_13 rfl (by rw [ev4]; rfl) hnL (by decide) rfl ?_
      refine jr_goto (tgt := 2) hC dX8_laysDucks_16 (by decide) ?_
      refine jr_sub [1, 2, 0] (L1 := [(0, .ref r0), (1, .int x1), (2, .int v4)]) rfl ?_
      exact hrec M3 v4 h
  unfold w_X8_laysDucks at h
  refine jr_iconst (v := (0 : Int32)) hC dX8_laysDucks_0 (by decide) ?_
  refine jr_istore_n (L1 := [(2, .int (0 : Int32)), (0, .ref a0), (1, .int x1)]) hC dX8_laysDucks_1 rfl hnL (by decide) rfl ?_
  refine jr_sub [1, 2, 0] (L1 := [(0, .ref a0), (1, .int x1), (2, .int (0 : Int32))]) rfl ?_
  exact B2 M a0 x1 (0 : Int32) h
set_option maxHeartbeats 4000000 in
set_option maxRecDepth 100000 in
theorem c_X8_limited {G : mw_G} {l : Launch} (hlt : l.stackTraces = false) {n : Nat} {M : mw_M} {a0 : Nat} {x1 : Int32} {Q : mw_M → Int32 → Prop} (h : w_X8_limited n M a0 x1 Q) : mw_Met G l yX8_limited (.code yX8_limited cX8_limited 2 (some .int)) { frames := 0, cells := 0, slots := 0, locals := 0 } n M [.ref a0, .int x1] (fun n1 M1 v => n1 = n ∧ mw_rI Q M1 v) (fun _ _ => False) := by
  refine mw_enter (L0 := [(0, .ref a0), (1, .int x1)]) hlt rfl rfl (plainFor_of_name (by decide)) (Nat.le_of_ble_eq_true rfl) rfl ?_
  intro Y hC0 hZ hnL hini0 hn00
  have hC : mw_C G l _ Y cX8_limited RX8 := hC0
  have B55 : ∀ (M : mw_M) (s0 : Int32) (h : w_X8_limited_b55 n M s0 Q), mw_J Y 0 0 n M 55 [] [.int s0] := by
    intro M s0 h
    unfold w_X8_limited_b55 at h
    exact jr_ireti hC hZ (by decide) (by decide) dX8_limited_55 ⟨rfl, _, rfl, h⟩
  have B24 : ∀ (M : mw_M) (x1 : Int32) (s0 : Int32) (s1 : Int32) (s2r : Nat) (h : w_X8_limited_b24 n M x1 s0 s1 s2r Q), mw_J Y 0 0 n M 24 [(1, .int x1)] [.int s0, .int s1, .ref s2r] := by
    intro M x1 s0 s1 s2r h
    unfold w_X8_limited_b24 at h
    refine jr_iadd hC dX8_limited_24 ?_
    obtain ⟨hc1, h⟩ := h
    obtain ⟨M2, eM2⟩ : ∃ y : mw_M, y = sI M s2r 12 (s1 + s0) := ⟨_, rfl⟩
    have h := h M2 eM2
    refine jr_putI hC fp_RX8_216 hc1 eM2 dX8_limited_25 ?_
    refine jr_iload_n (j := 0) hC dX8_limited_28 rfl rfl ?_
    refine jr_sipush (v := (32767 : Int32)) hC dX8_limited_29 (by decide) ?_
    obtain ⟨hthb3, hfhb3⟩ := h
    refine jr_ic_le (tgt := 41) hC dX8_limited_32 (by decide) (fun hb3 => ?_) (fun hb3 => ?_)
    · have h := hthb3 hb3
      refine jr_iload_n (j := 0) hC dX8_limited_41 rfl rfl ?_
      refine jr_sipush (v := (-32767 : Int32)) hC dX8_limited_42 (by decide) ?_
      obtain ⟨hthb4, hfhb4⟩ := h
      refine jr_ic_ge (tgt := 54) hC dX8_limited_45 (by decide) (fun hb4 => ?_) (fun hb4 => ?_)
      · have h := hthb4 hb4
        refine jr_iload_n (j := 0) hC dX8_limited_54 rfl rfl ?_
        refine jr_sub [] (L1 := []) rfl ?_
        exact B55 M2 x1 h
      · have h := hfhb4 hb4
        refine jr_sipush (v := (-32767 : Int32)) hC dX8_limited_48 (by decide) ?_
        refine jr_goto (tgt := 55) hC dX8_limited_51 (by decide) ?_
        refine jr_sub [] (L1 := []) rfl ?_
        exact B55 M2 (-32767 : Int32) h
    · have h := hfhb3 hb3
      refine jr_sipush (v := (32767 : Int32)) hC dX8_limited_35 (by decide) ?_
      refine jr_goto (tgt := 55) hC dX8_limited_38 (by decide) ?_
      refine jr_sub [] (L1 := []) rfl ?_
      exact B55 M2 (32767 : Int32) h
  have B19 : ∀ (M : mw_M) (x1 : Int32) (s0 : Int32) (s1r : Nat) (h : w_X8_limited_b19 n M x1 s0 s1r Q), mw_J Y 0 0 n M 19 [(1, .int x1)] [.int s0, .ref s1r] := by
    intro M x1 s0 s1r h
    unfold w_X8_limited_b19 at h
    refine jr_iconst (v := (1 : Int32)) hC dX8_limited_19 (by decide) ?_
    refine jr_goto (tgt := 24) hC dX8_limited_20 (by decide) ?_
    exact B24 M x1 (1 : Int32) s0 s1r h
  unfold w_X8_limited at h
  refine jr_aload_n (j := 0) hC dX8_limited_0 rfl rfl ?_
  refine jr_dup hC dX8_limited_1 rfl ?_
  obtain ⟨hc5, h⟩ := h
  refine jr_get0 hC fl_RX8_216 hc5 dX8_limited_2 ?_
  refine jr_iload_n (j := 1) hC dX8_limited_5 rfl rfl ?_
  refine jr_sipush (v := (32767 : Int32)) hC dX8_limited_6 (by decide) ?_
  obtain ⟨hthb6, hfhb6⟩ := h
  refine jr_ic_gt (tgt := 19) hC dX8_limited_9 (by decide) (fun hb6 => ?_) (fun hb6 => ?_)
  · have h := hthb6 hb6
    refine jr_sub [1] (L1 := [(1, .int x1)]) rfl ?_
    exact B19 M x1 (mI M a0 12) a0 h
  · have h := hfhb6 hb6
    refine jr_iload_n (j := 1) hC dX8_limited_12 rfl rfl ?_
    refine jr_sipush (v := (-32767 : Int32)) hC dX8_limited_13 (by decide) ?_
    obtain ⟨hthb7, hfhb7⟩ := h
    refine jr_ic_ge (tgt := 23) hC dX8_limited_16 (by decide) (fun hb7 => ?_) (fun hb7 => ?_)
    · have h := hthb7 hb7
      refine jr_iconst (v := (0 : Int32)) hC dX8_limited_23 (by decide) ?_
      refine jr_sub [1] (L1 := [(1, .int x1)]) rfl ?_
      exact B24 M x1 (0 : Int32) (mI M a0 12) a0 h
    · have h := hfhb7 hb7
      refine jr_sub [1] (L1 := [(1, .int x1)]) rfl ?_
      exact B19 M x1 (mI M a0 12) a0 h
set_option maxHeartbeats 4000000 in
set_option maxRecDepth 100000 in
theorem c_X8_mixes {G : mw_G} {l : Launch} (hlt : l.stackTraces = false) {n : Nat} {M : mw_M} {a0 : Nat} {x1 : Int32} {Q : mw_M → Prop} (h : w_X8_mixes n M a0 x1 Q) : mw_Met G l yX8_mixes (.code yX8_mixes cX8_mixes 10 none) { frames := 6, cells := 0, slots := 0, locals := 146 } n M [.ref a0, .int x1] (fun n1 M1 v => n1 = n ∧ mw_rV Q M1 v) (fun _ _ => False) := by
  refine mw_enter (L0 := [(0, .ref a0), (1, .int x1)]) hlt rfl rfl (plainFor_of_name (by decide)) (Nat.le_of_ble_eq_true rfl) rfl ?_
  intro Y hC0 hZ hnL hini0 hn00
  have hC : mw_C G l _ Y cX8_mixes RX8 := hC0
  have B103 : ∀ (M : mw_M) (r0 : Nat) (x1 : Int32) (l2 : Int64) (l4 : Int64) (x6 : Int32) (K8 : mw_M → Int64 → Int64 → Int32 → Prop) (hK8 : ∀ (M_ : mw_M) (l2_ : Int64) (l4_ : Int64) (x6_ : Int32), K8 M_ l2_ l4_ x6_ → mw_J Y 0 0 n M_ 8 [(0, .ref r0), (1, .int x1), (2, .long l2_), (4, .long l4_), (6, .int x6_)] []) (h : w_X8_mixes_b103 n M r0 x1 l2 l4 x6 Q K8), mw_J Y 0 0 n M 103 [(0, .ref r0), (1, .int x1), (2, .long l2), (4, .long l4), (6, .int x6)] [] := by
    intro M r0 x1 l2 l4 x6 K8 hK8 h
    unfold w_X8_mixes_b103 at h
    obtain ⟨v1, ev1⟩ : ∃ y : Int32, y = (x6 + (1 : Int32)) := ⟨_, rfl⟩
    have h := h v1 ev1
    refine jr_iinc (j := 4) (v := v1) (L1 := [(6, .int v1), (0, .ref r0), (1, .int x1), (2, .long l2), (4, .long l4)]) hC dX8_mixes_103 rfl (by rw [ev1]; rfl) hnL (by decide) rfl ?_
    refine jr_goto (tgt := 8) hC dX8_mixes_106 (by decide) ?_
    refine jr_sub [1, 2, 3, 4, 0] (L1 := [(0, .ref r0), (1, .int x1), (2, .long l2), (4, .long l4), (6, .int v1)]) rfl ?_
    exact hK8 M l2 l4 v1 h
  have B91 : ∀ (M : mw_M) (r0 : Nat) (x1 : Int32) (l2 : Int64) (x6 : Int32) (s0 : Int32) (s1 : Int32) (s2l : Int64) (s3l : Int64) (K8 : mw_M → Int64 → Int64 → Int32 → Prop) (hK8 : ∀ (M_ : mw_M) (l2_ : Int64) (l4_ : Int64) (x6_ : Int32), K8 M_ l2_ l4_ x6_ → mw_J Y 0 0 n M_ 8 [(0, .ref r0), (1, .int x1), (2, .long l2_), (4, .long l4_), (6, .int x6_)] []) (h : w_X8_mixes_b91 n M r0 x1 l2 x6 s0 s1 s2l s3l Q K8), mw_J Y 0 0 n M 91 [(0, .ref r0), (1, .int x1), (2, .long l2), (6, .int x6)] [.int s0, .int s1, .long s2l, .long s3l] := by
    intro M r0 x1 l2 x6 s0 s1 s2l s3l K8 hK8 h
    unfold w_X8_mixes_b91 at h
    refine jr_iadd hC dX8_mixes_91 ?_
    refine jr_i2l hC dX8_mixes_92 ?_
    refine jr_lmul hC dX8_mixes_93 ?_
    refine jr_ldc2 (v := (100 : Int64)) hC tw_1259 dX8_mixes_94 ?_
    refine jr_callS_pj (As := [.long (s2l * (Int32.toInt64 (s1 + s0))), .long (100 : Int64)]) (st := [.long s3l]) hC nc_RX8_60 (c_X8_floor hlt h) rfl rfl ⟨⟨rfl, rfl⟩, ⟨by decide, by decide⟩, by decide, by decide⟩ (Nat.le_of_ble_eq_true rfl) dX8_mixes_97 (fun w2 h => ?_)
    refine jr_ladd hC dX8_mixes_100 ?_
    refine jr_nmJ (fun w3 ew3 => ?_)
    have h := h w3 ew3
    refine jr_lstore (L1 := [(4, .long w3), (0, .ref r0), (1, .int x1), (2, .long l2), (6, .int x6)]) hC dX8_mixes_101 hnL (by decide) rfl ?_
    refine jr_sub [1, 2, 3, 0, 4] (L1 := [(0, .ref r0), (1, .int x1), (2, .long l2), (4, .long w3), (6, .int x6)]) rfl ?_
    exact B103 M r0 x1 l2 w3 x6 K8 hK8 h
  have B63 : ∀ (M : mw_M) (r0 : Nat) (x1 : Int32) (l4 : Int64) (x6 : Int32) (l7 : Int64) (x9 : Int32) (s0 : Int32) (s1 : Int32) (s2l : Int64) (s3l : Int64) (K8 : mw_M → Int64 → Int64 → Int32 → Prop) (hK8 : ∀ (M_ : mw_M) (l2_ : Int64) (l4_ : Int64) (x6_ : Int32), K8 M_ l2_ l4_ x6_ → mw_J Y 0 0 n M_ 8 [(0, .ref r0), (1, .int x1), (2, .long l2_), (4, .long l4_), (6, .int x6_)] []) (h : w_X8_mixes_b63 n M r0 x1 l4 x6 l7 x9 s0 s1 s2l s3l Q K8), mw_J Y 0 0 n M 63 [(0, .ref r0), (1, .int x1), (4, .long l4), (6, .int x6), (7, .long l7), (9, .int x9)] [.int s0, .int s1, .long s2l, .long s3l] := by
    intro M r0 x1 l4 x6 l7 x9 s0 s1 s2l s3l K8 hK8 h
    unfold w_X8_mixes_b63 at h
    refine jr_isub hC dX8_mixes_63 ?_
    refine jr_i2l hC dX8_mixes_64 ?_
    refine jr_lmul hC dX8_mixes_65 ?_
    refine jr_ldc2 (v := (100 : Int64)) hC tw_1259 dX8_mixes_66 ?_
    refine jr_callS_pj (As := [.long (s2l * (Int32.toInt64 (s1 - s0))), .long (100 : Int64)]) (st := [.long s3l]) hC nc_RX8_60 (c_X8_floor hlt h) rfl rfl ⟨⟨rfl, rfl⟩, ⟨by decide, by decide⟩, by decide, by decide⟩ (Nat.le_of_ble_eq_true rfl) dX8_mixes_69 (fun w4 h => ?_)
    refine jr_ladd hC dX8_mixes_72 ?_
    refine jr_nmJ (fun w5 ew5 => ?_)
    have h := h w5 ew5
    refine jr_lstore_n (L1 := [(2, .long w5), (0, .ref r0), (1, .int x1), (4, .long l4), (6, .int x6), (7, .long l7), (9, .int x9)]) hC dX8_mixes_73 rfl hnL (by decide) rfl ?_
    refine jr_lload (j := 3) hC dX8_mixes_74 rfl ?_
    refine jr_lload (j := 5) hC dX8_mixes_76 rfl ?_
    refine jr_bipush (v := (100 : Int32)) hC dX8_mixes_78 (by decide) ?_
    refine jr_iload (j := 6) hC dX8_mixes_80 rfl ?_
    obtain ⟨hthb6, hfhb6⟩ := h
    refine jr_if_ge (tgt := 90) hC dX8_mixes_82 (by decide) (fun hb6 => ?_) (fun hb6 => ?_)
    · have h := hthb6 hb6
      refine jr_iconst (v := (0 : Int32)) hC dX8_mixes_90 (by decide) ?_
      refine jr_sub [1, 2, 0, 4] (L1 := [(0, .ref r0), (1, .int x1), (2, .long w5), (6, .int x6)]) rfl ?_
      exact B91 M r0 x1 w5 x6 (0 : Int32) (100 : Int32) l7 l4 K8 hK8 h
    · have h := hfhb6 hb6
      refine jr_iload (j := 6) hC dX8_mixes_85 rfl ?_
      refine jr_goto (tgt := 91) hC dX8_mixes_87 (by decide) ?_
      refine jr_sub [1, 2, 0, 4] (L1 := [(0, .ref r0), (1, .int x1), (2, .long w5), (6, .int x6)]) rfl ?_
      exact B91 M r0 x1 w5 x6 x9 (100 : Int32) l7 l4 K8 hK8 h
  have B8 : ∀ (M : mw_M) (r0 : Nat) (x1 : Int32) (l2 : Int64) (l4 : Int64) (x6 : Int32) (h : w_X8_mixes_b8 n M r0 x1 l2 l4 x6 Q), mw_J Y 0 0 n M 8 [(0, .ref r0), (1, .int x1), (2, .long l2), (4, .long l4), (6, .int x6)] [] := by
    intro M r0 x1 l2 l4 x6 h
    obtain ⟨Inv, mu, h0, hs⟩ := h
    refine mw_loop4 (fun (M : mw_M) (l2 : Int64) (l4 : Int64) (x6 : Int32) => mw_J Y 0 0 n M 8 [(0, .ref r0), (1, .int x1), (2, .long l2), (4, .long l4), (6, .int x6)] []) Inv mu (fun M l2 l4 x6 hI hrec => ?_) M l2 l4 x6 h0
    have h := hs M l2 l4 x6 hI
    refine jr_iload (j := 4) hC dX8_mixes_8 rfl ?_
    refine jr_iconst (v := (4 : Int32)) hC dX8_mixes_10 (by decide) ?_
    obtain ⟨hthb7, hfhb7⟩ := h
    refine jr_ic_ge (tgt := 109) hC dX8_mixes_11 (by decide) (fun hb7 => ?_) (fun hb7 => ?_)
    · have h := hthb7 hb7
      refine jr_aload_n (j := 0) hC dX8_mixes_109 rfl rfl ?_
      refine jr_iconst (v := (0 : Int32)) hC dX8_mixes_110 (by decide) ?_
      obtain ⟨hc8, h⟩ := h
      obtain ⟨M9, eM9⟩ : ∃ y : mw_M, y = sI M r0 12 (0 : Int32) := ⟨_, rfl⟩
      have h := h M9 eM9
      refine jr_putI hC fp_RX8_216 hc8 eM9 dX8_mixes_111 ?_
      refine jr_aload_n (j := 0) hC dX8_mixes_114 rfl rfl ?_
      refine jr_aload_n (j := 0) hC dX8_mixes_115 rfl rfl ?_
      refine jr_lload_n (j := 2) hC dX8_mixes_116 rfl rfl ?_
      refine jr_aload_n (j := 0) hC dX8_mixes_117 rfl rfl ?_
      refine jr_get2 hC fl_RX8_7 hc8 dX8_mixes_118 ?_
      refine jr_iconst (v := (3 : Int32)) hC dX8_mixes_121 (by decide) ?_
      obtain ⟨hc10, h⟩ := h
      obtain ⟨hc11, h⟩ := h
      refine jr_iald hC hc10 hc11 dX8_mixes_122 ?_
      refine jr_callS_pi (As := [.long l2, .int (mI M9 (mP M9 r0 0) (Int32.toNatClampNeg (3 : Int32)))]) (st := [.ref r0, .ref r0]) hC nc_RX8_164 (c_X8_applied hlt h) rfl rfl ⟨⟨rfl, rfl⟩, ⟨by decide, by decide⟩, by decide, by decide⟩ (Nat.le_of_ble_eq_true rfl) dX8_mixes_123 (fun v12 h => ?_)
      refine jr_callV_i (As := [.int v12]) (st := [.ref r0]) hC nc_RX8_219 (c_X8_limited hlt h) hc8 rfl rfl ⟨⟨rfl, rfl⟩, ⟨by decide, by decide⟩, by decide, by decide⟩ (Nat.le_of_ble_eq_true rfl) dX8_mixes_126 (fun M13 v14 h => ?_)
      obtain ⟨M15, eM15⟩ : ∃ y : mw_M, y = sI M13 r0 10 v14 := ⟨_, rfl⟩
      have h := h M15 eM15
      refine jr_putI hC fp_RX8_222 hc8 eM15 dX8_mixes_129 ?_
      refine jr_aload_n (j := 0) hC dX8_mixes_132 rfl rfl ?_
      refine jr_aload_n (j := 0) hC dX8_mixes_133 rfl rfl ?_
      refine jr_lload (j := 3) hC dX8_mixes_134 rfl ?_
      refine jr_aload_n (j := 0) hC dX8_mixes_136 rfl rfl ?_
      refine jr_get2 hC fl_RX8_7 hc8 dX8_mixes_137 ?_
      refine jr_iconst (v := (3 : Int32)) hC dX8_mixes_140 (by decide) ?_
      obtain ⟨hc16, h⟩ := h
      obtain ⟨hc17, h⟩ := h
      refine jr_iald hC hc16 hc17 dX8_mixes_141 ?_
      refine jr_callS_pi (As := [.long l4, .int (mI M15 (mP M15 r0 0) (Int32.toNatClampNeg (3 : Int32)))]) (st := [.ref r0, .ref r0]) hC nc_RX8_164 (c_X8_applied hlt h) rfl rfl ⟨⟨rfl, rfl⟩, ⟨by decide, by decide⟩, by decide, by decide⟩ (Nat.le_of_ble_eq_true rfl) dX8_mixes_142 (fun v18 h => ?_)
      refine jr_callV_i (As := [.int v18]) (st := [.ref r0]) hC nc_RX8_219 (c_X8_limited hlt h) hc8 rfl rfl ⟨⟨rfl, rfl⟩, ⟨by decide, by decide⟩, by decide, by decide⟩ (Nat.le_of_ble_eq_true rfl) dX8_mixes_145 (fun M19 v20 h => ?_)
      obtain ⟨M21, eM21⟩ : ∃ y : mw_M, y = sI M19 r0 11 v20 := ⟨_, rfl⟩
      have h := h M21 eM21
      refine jr_putI hC fp_RX8_225 hc8 eM21 dX8_mixes_148 ?_
      exact jr_vret hC hZ (by decide) (by decide) dX8_mixes_151 ⟨rfl, rfl, h⟩
    · have h := hfhb7 hb7
      refine jr_aload_n (j := 0) hC dX8_mixes_14 rfl rfl ?_
      refine jr_iload (j := 4) hC dX8_mixes_15 rfl ?_
      obtain ⟨hc22, h⟩ := h
      refine jr_callV_pi (As := [.int x6]) (st := []) hC nc_RX8_213 (c_X8_isHeard hlt h) hc22 rfl rfl ⟨⟨rfl, rfl⟩, ⟨by decide, by decide⟩, by decide, by decide⟩ (Nat.le_of_ble_eq_true rfl) dX8_mixes_17 (fun v23 h => ?_)
      obtain ⟨hthb24, hfhb24⟩ := h
      refine jr_if_eq (tgt := 103) hC dX8_mixes_20 (by decide) (fun hb24 => ?_) (fun hb24 => ?_)
      · have h := hthb24 hb24
        exact B103 M r0 x1 l2 l4 x6 (fun (M_ : mw_M) (l2_ : Int64) (l4_ : Int64) (x6_ : Int32) => Inv M_ l2_ l4_ x6_ ∧ mu M_ l2_ l4_ x6_ < mu M l2 l4 x6) (fun M_ l2_ l4_ x6_ h9 => hrec M_ l2_ l4_ x6_ h9) h
      · have h := hfhb24 hb24
        refine jr_aload_n (j := 0) hC dX8_mixes_23 rfl rfl ?_
        refine jr_iload (j := 4) hC dX8_mixes_24 rfl ?_
        refine jr_iload_n (j := 1) hC dX8_mixes_26 rfl rfl ?_
        refine jr_callV_pi (As := [.int x6, .int x1]) (st := []) hC nc_RX8_210 (c_X8_valueAt hlt h) hc22 rfl rfl ⟨⟨rfl, rfl⟩, ⟨by decide, by decide⟩, by decide, by decide⟩ (Nat.le_of_ble_eq_true rfl) dX8_mixes_27 (fun v25 h => ?_)
        refine jr_i2l hC dX8_mixes_30 ?_
        refine jr_nmJ (fun w26 ew26 => ?_)
        have h := h w26 ew26
        refine jr_lstore (L1 := [(7, .long w26), (0, .ref r0), (1, .int x1), (2, .long l2), (4, .long l4), (6, .int x6)]) hC dX8_mixes_31 hnL (by decide) rfl ?_
        refine jr_aload_n (j := 1) hC dX8_mixes_33 rfl rfl ?_
        refine jr_get2 hC fl_RX8_7 hc22 dX8_mixes_34 ?_
        refine jr_iload (j := 5) hC dX8_mixes_37 rfl ?_
        refine jr_callS_pi (As := [.int x6]) (st := [.ref (mP M r0 0)]) hC nc_RX8_35 (c_X8_trackAt hlt h) rfl rfl ⟨⟨rfl, rfl⟩, ⟨by decide, by decide⟩, by decide, by decide⟩ (Nat.le_of_ble_eq_true rfl) dX8_mixes_39 (fun v27 h => ?_)
        refine jr_iconst (v := (1 : Int32)) hC dX8_mixes_42 (by decide) ?_
        refine jr_iadd hC dX8_mixes_43 ?_
        obtain ⟨hc28, h⟩ := h
        obtain ⟨hc29, h⟩ := h
        refine jr_iald hC hc28 hc29 dX8_mixes_44 ?_
        refine jr_nmI (fun v30 ev30 => ?_)
        have h := h v30 ev30
        refine jr_istore (L1 := [(9, .int v30), (7, .long w26), (0, .ref r0), (1, .int x1), (2, .long l2), (4, .long l4), (6, .int x6)]) hC dX8_mixes_45 hnL (by decide) rfl ?_
        refine jr_lload_n (j := 4) hC dX8_mixes_47 rfl rfl ?_
        refine jr_lload (j := 1) hC dX8_mixes_48 rfl ?_
        refine jr_bipush (v := (100 : Int32)) hC dX8_mixes_50 (by decide) ?_
        refine jr_iload (j := 0) hC dX8_mixes_52 rfl ?_
        obtain ⟨hthb31, hfhb31⟩ := h
        refine jr_if_le (tgt := 62) hC dX8_mixes_54 (by decide) (fun hb31 => ?_) (fun hb31 => ?_)
        · have h := hthb31 hb31
          refine jr_iconst (v := (0 : Int32)) hC dX8_mixes_62 (by decide) ?_
          refine jr_sub [2, 3, 5, 6, 1, 0] (L1 := [(0, .ref r0), (1, .int x1), (4, .long l4), (6, .int x6), (7, .long w26), (9, .int v30)]) rfl ?_
          exact B63 M r0 x1 l4 x6 w26 v30 (0 : Int32) (100 : Int32) w26 l2 (fun (M_ : mw_M) (l2_ : Int64) (l4_ : Int64) (x6_ : Int32) => Inv M_ l2_ l4_ x6_ ∧ mu M_ l2_ l4_ x6_ < mu M l2 l4 x6) (fun M_ l2_ l4_ x6_ h9 => hrec M_ l2_ l4_ x6_ h9) h
        · have h := hfhb31 hb31
          refine jr_iload (j := 0) hC dX8_mixes_57 rfl ?_
          refine jr_goto (tgt := 63) hC dX8_mixes_59 (by decide) ?_
          refine jr_sub [2, 3, 5, 6, 1, 0] (L1 := [(0, .ref r0), (1, .int x1), (4, .long l4), (6, .int x6), (7, .long w26), (9, .int v30)]) rfl ?_
          exact B63 M r0 x1 l4 x6 w26 v30 v30 (100 : Int32) w26 l2 (fun (M_ : mw_M) (l2_ : Int64) (l4_ : Int64) (x6_ : Int32) => Inv M_ l2_ l4_ x6_ ∧ mu M_ l2_ l4_ x6_ < mu M l2 l4 x6) (fun M_ l2_ l4_ x6_ h9 => hrec M_ l2_ l4_ x6_ h9) h
  unfold w_X8_mixes at h
  refine jr_lconst (v := (0 : Int64)) hC dX8_mixes_0 (by decide) ?_
  refine jr_lstore_n (L1 := [(2, .long (0 : Int64)), (0, .ref a0), (1, .int x1)]) hC dX8_mixes_1 rfl hnL (by decide) rfl ?_
  refine jr_lconst (v := (0 : Int64)) hC dX8_mixes_2 (by decide) ?_
  refine jr_lstore (L1 := [(4, .long (0 : Int64)), (2, .long (0 : Int64)), (0, .ref a0), (1, .int x1)]) hC dX8_mixes_3 hnL (by decide) rfl ?_
  refine jr_iconst (v := (0 : Int32)) hC dX8_mixes_5 (by decide) ?_
  refine jr_istore (L1 := [(6, .int (0 : Int32)), (4, .long (0 : Int64)), (2, .long (0 : Int64)), (0, .ref a0), (1, .int x1)]) hC dX8_mixes_6 hnL (by decide) rfl ?_
  refine jr_sub [3, 4, 2, 1, 0] (L1 := [(0, .ref a0), (1, .int x1), (2, .long (0 : Int64)), (4, .long (0 : Int64)), (6, .int (0 : Int32))]) rfl ?_
  exact B8 M a0 x1 (0 : Int64) (0 : Int64) (0 : Int32) h
set_option maxHeartbeats 4000000 in
set_option maxRecDepth 100000 in
theorem c_X8_setMaster {G : mw_G} {l : Launch} (hlt : l.stackTraces = false) {n : Nat} {M : mw_M} {a0 : Nat} {x1 : Int32} {Q : mw_M → Int32 → Prop} (h : w_X8_setMaster n M a0 x1 Q) : mw_Met G l yX8_setMaster (.code yX8_setMaster cX8_setMaster 2 (some .int)) { frames := 2, cells := 0, slots := 0, locals := 43 } n M [.ref a0, .int x1] (fun n1 M1 v => n1 = n ∧ mw_rI Q M1 v) (fun _ _ => False) := by
  refine mw_enter (L0 := [(0, .ref a0), (1, .int x1)]) hlt rfl rfl (plainFor_of_name (by decide)) (Nat.le_of_ble_eq_true rfl) rfl ?_
  intro Y hC0 hZ hnL hini0 hn00
  have hC : mw_C G l _ Y cX8_setMaster RX8 := hC0
  have B34 : ∀ (M : mw_M) (s0 : Int32) (h : w_X8_setMaster_b34 n M s0 Q), mw_J Y 0 0 n M 34 [] [.int s0] := by
    intro M s0 h
    unfold w_X8_setMaster_b34 at h
    exact jr_ireti hC hZ (by decide) (by decide) dX8_setMaster_34 ⟨rfl, _, rfl, h⟩
  have B18 : ∀ (M : mw_M) (r0 : Nat) (x1 : Int32) (s0 : Int32) (s1r : Nat) (h : w_X8_setMaster_b18 n M r0 x1 s0 s1r Q), mw_J Y 0 0 n M 18 [(0, .ref r0), (1, .int x1)] [.int s0, .ref s1r] := by
    intro M r0 x1 s0 s1r h
    unfold w_X8_setMaster_b18 at h
    obtain ⟨hc1, h⟩ := h
    refine jr_callV_i (As := [.int s0]) (st := []) hC nc_RX8_73 (c_X8_refusesChange hlt h) hc1 rfl rfl ⟨⟨rfl, rfl⟩, ⟨by decide, by decide⟩, by decide, by decide⟩ (Nat.le_of_ble_eq_true rfl) dX8_setMaster_18 (fun M2 v3 h => ?_)
    obtain ⟨hthb4, hfhb4⟩ := h
    refine jr_if_eq (tgt := 28) hC dX8_setMaster_21 (by decide) (fun hb4 => ?_) (fun hb4 => ?_)
    · have h := hthb4 hb4
      refine jr_aload_n (j := 0) hC dX8_setMaster_28 rfl rfl ?_
      refine jr_iconst (v := (3 : Int32)) hC dX8_setMaster_29 (by decide) ?_
      refine jr_iload_n (j := 1) hC dX8_setMaster_30 rfl rfl ?_
      obtain ⟨hc5, h⟩ := h
      refine jr_callV_i (As := [.int (3 : Int32), .int x1]) (st := []) hC nc_RX8_76 (c_X8_becomes hlt h) hc5 rfl rfl ⟨⟨rfl, rfl⟩, ⟨by decide, by decide⟩, by decide, by decide⟩ (Nat.le_of_ble_eq_true rfl) dX8_setMaster_31 (fun M6 v7 h => ?_)
      refine jr_sub [] (L1 := []) rfl ?_
      exact B34 M6 v7 h
    · have h := hfhb4 hb4
      refine jr_iconst (v := (0 : Int32)) hC dX8_setMaster_24 (by decide) ?_
      refine jr_goto (tgt := 34) hC dX8_setMaster_25 (by decide) ?_
      refine jr_sub [] (L1 := []) rfl ?_
      exact B34 M2 (0 : Int32) h
  unfold w_X8_setMaster at h
  refine jr_aload_n (j := 0) hC dX8_setMaster_0 rfl rfl ?_
  refine jr_iload_n (j := 1) hC dX8_setMaster_1 rfl rfl ?_
  refine jr_i2l hC dX8_setMaster_2 ?_
  refine jr_lconst (v := (0 : Int64)) hC dX8_setMaster_3 (by decide) ?_
  refine jr_ldc2 (v := (2000 : Int64)) hC tw_1131 dX8_setMaster_4 ?_
  refine jr_callS_pi (As := [.long (Int32.toInt64 x1), .long (0 : Int64), .long (2000 : Int64)]) (st := [.ref a0]) hC nc_RX8_45 (c_X8_in hlt h) rfl rfl ⟨⟨rfl, rfl⟩, ⟨by decide, by decide⟩, by decide, by decide⟩ (Nat.le_of_ble_eq_true rfl) dX8_setMaster_7 (fun v8 h => ?_)
  obtain ⟨hthb9, hfhb9⟩ := h
  refine jr_if_eq (tgt := 17) hC dX8_setMaster_10 (by decide) (fun hb9 => ?_) (fun hb9 => ?_)
  · have h := hthb9 hb9
    refine jr_iconst (v := (1 : Int32)) hC dX8_setMaster_17 (by decide) ?_
    exact B18 M a0 x1 (1 : Int32) a0 h
  · have h := hfhb9 hb9
    refine jr_iconst (v := (0 : Int32)) hC dX8_setMaster_13 (by decide) ?_
    refine jr_goto (tgt := 18) hC dX8_setMaster_14 (by decide) ?_
    exact B18 M a0 x1 (0 : Int32) a0 h
set_option maxHeartbeats 4000000 in
set_option maxRecDepth 100000 in
theorem c_X8_mix {G : mw_G} {l : Launch} (hlt : l.stackTraces = false) {n : Nat} {M : mw_M} {a0 : Nat} {x1 : Int32} {x2 : Int32} {Q : mw_M → Int32 → Prop} (h : w_X8_mix n M a0 x1 x2 Q) : mw_Met G l yX8_mix (.code yX8_mix cX8_mix 3 (some .int)) { frames := 8, cells := 0, slots := 0, locals := 200 } n M [.ref a0, .int x1, .int x2] (fun n1 M1 v => n1 = n ∧ mw_rI Q M1 v) (fun _ _ => False) := by
  refine mw_enter (L0 := [(0, .ref a0), (1, .int x1), (2, .int x2)]) hlt rfl rfl (plainFor_of_name (by decide)) (Nat.le_of_ble_eq_true rfl) rfl ?_
  intro Y hC0 hZ hnL hini0 hn00
  have hC : mw_C G l _ Y cX8_mix RX8 := hC0
  have B49 : ∀ (M : mw_M) (s0 : Int32) (h : w_X8_mix_b49 n M s0 Q), mw_J Y 0 0 n M 49 [] [.int s0] := by
    intro M s0 h
    unfold w_X8_mix_b49 at h
    exact jr_ireti hC hZ (by decide) (by decide) dX8_mix_49 ⟨rfl, _, rfl, h⟩
  have B13 : ∀ (M : mw_M) (r0 : Nat) (x1 : Int32) (x2 : Int32) (s0 : Int32) (s1r : Nat) (h : w_X8_mix_b13 n M r0 x1 x2 s0 s1r Q), mw_J Y 0 0 n M 13 [(0, .ref r0), (1, .int x1), (2, .int x2)] [.int s0, .ref s1r] := by
    intro M r0 x1 x2 s0 s1r h
    unfold w_X8_mix_b13 at h
    obtain ⟨hc1, h⟩ := h
    refine jr_callV_i (As := [.int s0]) (st := []) hC nc_RX8_51 (c_X8_refuses hlt h) hc1 rfl rfl ⟨⟨rfl, rfl⟩, ⟨by decide, by decide⟩, by decide, by decide⟩ (Nat.le_of_ble_eq_true rfl) dX8_mix_13 (fun M2 v3 h => ?_)
    obtain ⟨hthb4, hfhb4⟩ := h
    refine jr_if_eq (tgt := 21) hC dX8_mix_16 (by decide) (fun hb4 => ?_) (fun hb4 => ?_)
    · have h := hthb4 hb4
      refine jr_aload_n (j := 0) hC dX8_mix_21 rfl rfl ?_
      refine jr_iload_n (j := 1) hC dX8_mix_22 rfl rfl ?_
      refine jr_bipush (v := (40 : Int32)) hC dX8_mix_23 (by decide) ?_
      refine jr_idiv hC dX8_mix_25 (by decide) ?_
      obtain ⟨hc5, h⟩ := h
      refine jr_callV_v (As := [.int (x1 / (40 : Int32))]) (st := []) hC nc_RX8_228 (c_X8_laysDucks hlt h) hc5 rfl rfl ⟨⟨rfl, rfl⟩, ⟨by decide, by decide⟩, by decide, by decide⟩ (Nat.le_of_ble_eq_true rfl) dX8_mix_26 (fun M6 h => ?_)
      refine jr_aload_n (j := 0) hC dX8_mix_29 rfl rfl ?_
      refine jr_iload_n (j := 1) hC dX8_mix_30 rfl rfl ?_
      refine jr_callV_v (As := [.int x1]) (st := []) hC nc_RX8_231 (c_X8_mixes hlt h) hc5 rfl rfl ⟨⟨rfl, rfl⟩, ⟨by decide, by decide⟩, by decide, by decide⟩ (Nat.le_of_ble_eq_true rfl) dX8_mix_31 (fun M7 h => ?_)
      refine jr_iload_n (j := 2) hC dX8_mix_34 rfl rfl ?_
      obtain ⟨hthb8, hfhb8⟩ := h
      refine jr_if_eq (tgt := 45) hC dX8_mix_35 (by decide) (fun hb8 => ?_) (fun hb8 => ?_)
      · have h := hthb8 hb8
        refine jr_aload_n (j := 0) hC dX8_mix_45 rfl rfl ?_
        refine jr_get0 hC fl_RX8_222 hc5 dX8_mix_46 ?_
        refine jr_sub [] (L1 := []) rfl ?_
        exact B49 M7 (mI M7 r0 10) h
      · have h := hfhb8 hb8
        refine jr_aload_n (j := 0) hC dX8_mix_38 rfl rfl ?_
        refine jr_get0 hC fl_RX8_225 hc5 dX8_mix_39 ?_
        refine jr_goto (tgt := 49) hC dX8_mix_42 (by decide) ?_
        refine jr_sub [] (L1 := []) rfl ?_
        exact B49 M7 (mI M7 r0 11) h
    · have h := hfhb4 hb4
      refine jr_iconst (v := (0 : Int32)) hC dX8_mix_19 (by decide) ?_
      exact jr_ireti hC hZ (by decide) (by decide) dX8_mix_20 ⟨rfl, _, rfl, h⟩
  unfold w_X8_mix at h
  refine jr_aload_n (j := 0) hC dX8_mix_0 rfl rfl ?_
  refine jr_iload_n (j := 1) hC dX8_mix_1 rfl rfl ?_
  refine jr_callS_pi (As := [.int x1]) (st := [.ref a0]) hC nc_RX8_114 (c_X8_isPlace hlt h) rfl rfl ⟨⟨rfl, rfl⟩, ⟨by decide, by decide⟩, by decide, by decide⟩ (Nat.le_of_ble_eq_true rfl) dX8_mix_2 (fun v9 h => ?_)
  obtain ⟨hthb10, hfhb10⟩ := h
  refine jr_if_eq (tgt := 12) hC dX8_mix_5 (by decide) (fun hb10 => ?_) (fun hb10 => ?_)
  · have h := hthb10 hb10
    refine jr_iconst (v := (1 : Int32)) hC dX8_mix_12 (by decide) ?_
    exact B13 M a0 x1 x2 (1 : Int32) a0 h
  · have h := hfhb10 hb10
    refine jr_iconst (v := (0 : Int32)) hC dX8_mix_8 (by decide) ?_
    refine jr_goto (tgt := 13) hC dX8_mix_9 (by decide) ?_
    exact B13 M a0 x1 x2 (0 : Int32) a0 h
set_option maxHeartbeats 4000000 in
set_option maxRecDepth 100000 in
theorem c_X8_setLoop {G : mw_G} {l : Launch} (hlt : l.stackTraces = false) {n : Nat} {M : mw_M} {a0 : Nat} {x1 : Int32} {x2 : Int32} {Q : mw_M → Int32 → Prop} (h : w_X8_setLoop n M a0 x1 x2 Q) : mw_Met G l yX8_setLoop (.code yX8_setLoop cX8_setLoop 3 (some .int)) { frames := 2, cells := 0, slots := 0, locals := 43 } n M [.ref a0, .int x1, .int x2] (fun n1 M1 v => n1 = n ∧ mw_rI Q M1 v) (fun _ _ => False) := by
  refine mw_enter (L0 := [(0, .ref a0), (1, .int x1), (2, .int x2)]) hlt rfl rfl (plainFor_of_name (by decide)) (Nat.le_of_ble_eq_true rfl) rfl ?_
  intro Y hC0 hZ hnL hini0 hn00
  have hC : mw_C G l _ Y cX8_setLoop RX8 := hC0
  have B31 : ∀ (M : mw_M) (r0 : Nat) (x1 : Int32) (x2 : Int32) (s0 : Int32) (s1r : Nat) (h : w_X8_setLoop_b31 n M r0 x1 x2 s0 s1r Q), mw_J Y 0 0 n M 31 [(0, .ref r0), (1, .int x1), (2, .int x2)] [.int s0, .ref s1r] := by
    intro M r0 x1 x2 s0 s1r h
    unfold w_X8_setLoop_b31 at h
    obtain ⟨hc1, h⟩ := h
    refine jr_callV_i (As := [.int s0]) (st := []) hC nc_RX8_73 (c_X8_refusesChange hlt h) hc1 rfl rfl ⟨⟨rfl, rfl⟩, ⟨by decide, by decide⟩, by decide, by decide⟩ (Nat.le_of_ble_eq_true rfl) dX8_setLoop_31 (fun M2 v3 h => ?_)
    obtain ⟨hthb4, hfhb4⟩ := h
    refine jr_if_eq (tgt := 39) hC dX8_setLoop_34 (by decide) (fun hb4 => ?_) (fun hb4 => ?_)
    · have h := hthb4 hb4
      refine jr_aload_n (j := 0) hC dX8_setLoop_39 rfl rfl ?_
      obtain ⟨hc5, h⟩ := h
      refine jr_get2 hC fl_RX8_7 hc5 dX8_setLoop_40 ?_
      refine jr_iconst (v := (2 : Int32)) hC dX8_setLoop_43 (by decide) ?_
      refine jr_iload_n (j := 2) hC dX8_setLoop_44 rfl rfl ?_
      obtain ⟨hc6, h⟩ := h
      obtain ⟨hc7, h⟩ := h
      obtain ⟨M8, eM8⟩ : ∃ y : mw_M, y = sI M2 (mP M2 r0 0) (Int32.toNatClampNeg (2 : Int32)) x2 := ⟨_, rfl⟩
      have h := h M8 eM8
      refine jr_iast hC hc6 hc7 eM8 dX8_setLoop_45 ?_
      refine jr_aload_n (j := 0) hC dX8_setLoop_46 rfl rfl ?_
      refine jr_iconst (v := (1 : Int32)) hC dX8_setLoop_47 (by decide) ?_
      refine jr_iload_n (j := 1) hC dX8_setLoop_48 rfl rfl ?_
      refine jr_callV_i (As := [.int (1 : Int32), .int x1]) (st := []) hC nc_RX8_76 (c_X8_becomes hlt h) hc5 rfl rfl ⟨⟨rfl, rfl⟩, ⟨by decide, by decide⟩, by decide, by decide⟩ (Nat.le_of_ble_eq_true rfl) dX8_setLoop_49 (fun M9 v10 h => ?_)
      exact jr_ireti hC hZ (by decide) (by decide) dX8_setLoop_52 ⟨rfl, _, rfl, h⟩
    · have h := hfhb4 hb4
      refine jr_iconst (v := (0 : Int32)) hC dX8_setLoop_37 (by decide) ?_
      exact jr_ireti hC hZ (by decide) (by decide) dX8_setLoop_38 ⟨rfl, _, rfl, h⟩
  have B30 : ∀ (M : mw_M) (r0 : Nat) (x1 : Int32) (x2 : Int32) (s0r : Nat) (h : w_X8_setLoop_b30 n M r0 x1 x2 s0r Q), mw_J Y 0 0 n M 30 [(0, .ref r0), (1, .int x1), (2, .int x2)] [.ref s0r] := by
    intro M r0 x1 x2 s0r h
    unfold w_X8_setLoop_b30 at h
    refine jr_iconst (v := (1 : Int32)) hC dX8_setLoop_30 (by decide) ?_
    exact B31 M r0 x1 x2 (1 : Int32) s0r h
  unfold w_X8_setLoop at h
  refine jr_aload_n (j := 0) hC dX8_setLoop_0 rfl rfl ?_
  refine jr_iload_n (j := 2) hC dX8_setLoop_1 rfl rfl ?_
  refine jr_i2l hC dX8_setLoop_2 ?_
  refine jr_lconst (v := (1 : Int64)) hC dX8_setLoop_3 (by decide) ?_
  refine jr_ldc2 (v := (4000 : Int64)) hC tw_1087 dX8_setLoop_4 ?_
  refine jr_callS_pi (As := [.long (Int32.toInt64 x2), .long (1 : Int64), .long (4000 : Int64)]) (st := [.ref a0]) hC nc_RX8_45 (c_X8_in hlt h) rfl rfl ⟨⟨rfl, rfl⟩, ⟨by decide, by decide⟩, by decide, by decide⟩ (Nat.le_of_ble_eq_true rfl) dX8_setLoop_7 (fun v11 h => ?_)
  obtain ⟨hthb12, hfhb12⟩ := h
  refine jr_if_eq (tgt := 30) hC dX8_setLoop_10 (by decide) (fun hb12 => ?_) (fun hb12 => ?_)
  · have h := hthb12 hb12
    exact B30 M a0 x1 x2 a0 h
  · have h := hfhb12 hb12
    refine jr_iload_n (j := 1) hC dX8_setLoop_13 rfl rfl ?_
    refine jr_i2l hC dX8_setLoop_14 ?_
    refine jr_lconst (v := (0 : Int64)) hC dX8_setLoop_15 (by decide) ?_
    refine jr_iload_n (j := 2) hC dX8_setLoop_16 rfl rfl ?_
    refine jr_iconst (v := (1 : Int32)) hC dX8_setLoop_17 (by decide) ?_
    refine jr_isub hC dX8_setLoop_18 ?_
    refine jr_i2l hC dX8_setLoop_19 ?_
    refine jr_callS_pi (As := [.long (Int32.toInt64 x1), .long (0 : Int64), .long (Int32.toInt64 (x2 - (1 : Int32)))]) (st := [.ref a0]) hC nc_RX8_45 (c_X8_in hlt h) rfl rfl ⟨⟨rfl, rfl⟩, ⟨by decide, by decide⟩, by decide, by decide⟩ (Nat.le_of_ble_eq_true rfl) dX8_setLoop_20 (fun v13 h => ?_)
    obtain ⟨hthb14, hfhb14⟩ := h
    refine jr_if_eq (tgt := 30) hC dX8_setLoop_23 (by decide) (fun hb14 => ?_) (fun hb14 => ?_)
    · have h := hthb14 hb14
      exact B30 M a0 x1 x2 a0 h
    · have h := hfhb14 hb14
      refine jr_iconst (v := (0 : Int32)) hC dX8_setLoop_26 (by decide) ?_
      refine jr_goto (tgt := 31) hC dX8_setLoop_27 (by decide) ?_
      exact B31 M a0 x1 x2 (0 : Int32) a0 h
set_option maxHeartbeats 4000000 in
set_option maxRecDepth 100000 in
theorem c_X8_seek {G : mw_G} {l : Launch} (hlt : l.stackTraces = false) {n : Nat} {M : mw_M} {a0 : Nat} {x1 : Int32} {Q : mw_M → Int32 → Prop} (h : w_X8_seek n M a0 x1 Q) : mw_Met G l yX8_seek (.code yX8_seek cX8_seek 2 (some .int)) { frames := 2, cells := 0, slots := 0, locals := 45 } n M [.ref a0, .int x1] (fun n1 M1 v => n1 = n ∧ mw_rI Q M1 v) (fun _ _ => False) := by
  refine mw_enter (L0 := [(0, .ref a0), (1, .int x1)]) hlt rfl rfl (plainFor_of_name (by decide)) (Nat.le_of_ble_eq_true rfl) rfl ?_
  intro Y hC0 hZ hnL hini0 hn00
  have hC : mw_C G l _ Y cX8_seek RX8 := hC0
  have B29 : ∀ (M : mw_M) (s0 : Int32) (h : w_X8_seek_b29 n M s0 Q), mw_J Y 0 0 n M 29 [] [.int s0] := by
    intro M s0 h
    unfold w_X8_seek_b29 at h
    exact jr_ireti hC hZ (by decide) (by decide) dX8_seek_29 ⟨rfl, _, rfl, h⟩
  have B13 : ∀ (M : mw_M) (r0 : Nat) (x1 : Int32) (s0 : Int32) (s1r : Nat) (h : w_X8_seek_b13 n M r0 x1 s0 s1r Q), mw_J Y 0 0 n M 13 [(0, .ref r0), (1, .int x1)] [.int s0, .ref s1r] := by
    intro M r0 x1 s0 s1r h
    unfold w_X8_seek_b13 at h
    obtain ⟨hc1, h⟩ := h
    refine jr_callV_i (As := [.int s0]) (st := []) hC nc_RX8_73 (c_X8_refusesChange hlt h) hc1 rfl rfl ⟨⟨rfl, rfl⟩, ⟨by decide, by decide⟩, by decide, by decide⟩ (Nat.le_of_ble_eq_true rfl) dX8_seek_13 (fun M2 v3 h => ?_)
    obtain ⟨hthb4, hfhb4⟩ := h
    refine jr_if_eq (tgt := 23) hC dX8_seek_16 (by decide) (fun hb4 => ?_) (fun hb4 => ?_)
    · have h := hthb4 hb4
      refine jr_aload_n (j := 0) hC dX8_seek_23 rfl rfl ?_
      refine jr_iconst (v := (0 : Int32)) hC dX8_seek_24 (by decide) ?_
      refine jr_iload_n (j := 1) hC dX8_seek_25 rfl rfl ?_
      obtain ⟨hc5, h⟩ := h
      refine jr_callV_i (As := [.int (0 : Int32), .int x1]) (st := []) hC nc_RX8_76 (c_X8_becomes hlt h) hc5 rfl rfl ⟨⟨rfl, rfl⟩, ⟨by decide, by decide⟩, by decide, by decide⟩ (Nat.le_of_ble_eq_true rfl) dX8_seek_26 (fun M6 v7 h => ?_)
      refine jr_sub [] (L1 := []) rfl ?_
      exact B29 M6 v7 h
    · have h := hfhb4 hb4
      refine jr_iconst (v := (0 : Int32)) hC dX8_seek_19 (by decide) ?_
      refine jr_goto (tgt := 29) hC dX8_seek_20 (by decide) ?_
      refine jr_sub [] (L1 := []) rfl ?_
      exact B29 M2 (0 : Int32) h
  unfold w_X8_seek at h
  refine jr_aload_n (j := 0) hC dX8_seek_0 rfl rfl ?_
  refine jr_iload_n (j := 1) hC dX8_seek_1 rfl rfl ?_
  refine jr_callS_pi (As := [.int x1]) (st := [.ref a0]) hC nc_RX8_114 (c_X8_isPlace hlt h) rfl rfl ⟨⟨rfl, rfl⟩, ⟨by decide, by decide⟩, by decide, by decide⟩ (Nat.le_of_ble_eq_true rfl) dX8_seek_2 (fun v8 h => ?_)
  obtain ⟨hthb9, hfhb9⟩ := h
  refine jr_if_eq (tgt := 12) hC dX8_seek_5 (by decide) (fun hb9 => ?_) (fun hb9 => ?_)
  · have h := hthb9 hb9
    refine jr_iconst (v := (1 : Int32)) hC dX8_seek_12 (by decide) ?_
    exact B13 M a0 x1 (1 : Int32) a0 h
  · have h := hfhb9 hb9
    refine jr_iconst (v := (0 : Int32)) hC dX8_seek_8 (by decide) ?_
    refine jr_goto (tgt := 13) hC dX8_seek_9 (by decide) ?_
    exact B13 M a0 x1 (0 : Int32) a0 h
set_option maxHeartbeats 4000000 in
set_option maxRecDepth 100000 in
theorem c_X8_renders {G : mw_G} {l : Launch} (hlt : l.stackTraces = false) {n : Nat} {M : mw_M} {a0 : Nat} {Q : mw_M → Prop} (h : w_X8_renders n M a0 Q) : mw_Met G l yX8_renders (.code yX8_renders cX8_renders 3 none) { frames := 7, cells := 0, slots := 0, locals := 175 } n M [.ref a0] (fun n1 M1 v => n1 = n ∧ mw_rV Q M1 v) (fun _ _ => False) := by
  refine mw_enter (L0 := [(0, .ref a0)]) hlt rfl rfl (plainFor_of_name (by decide)) (Nat.le_of_ble_eq_true rfl) rfl ?_
  intro Y hC0 hZ hnL hini0 hn00
  have hC : mw_C G l _ Y cX8_renders RX8 := hC0
  have B222 : ∀ (M : mw_M) (s0 : Int32) (s1 : Int32) (s2r : Nat) (h : w_X8_renders_b222 n M s0 s1 s2r Q), mw_J Y 0 0 n M 222 [] [.int s0, .int s1, .ref s2r] := by
    intro M s0 s1 s2r h
    unfold w_X8_renders_b222 at h
    obtain ⟨hc1, h⟩ := h
    obtain ⟨hc2, h⟩ := h
    obtain ⟨M3, eM3⟩ : ∃ y : mw_M, y = sI M s2r (Int32.toNatClampNeg s1) s0 := ⟨_, rfl⟩
    have h := h M3 eM3
    refine jr_iast hC hc1 hc2 eM3 dX8_renders_222 ?_
    exact jr_vret hC hZ (by decide) (by decide) dX8_renders_223 ⟨rfl, rfl, h⟩
  have B207 : ∀ (M : mw_M) (r0 : Nat) (s0 : Int32) (s1r : Nat) (h : w_X8_renders_b207 n M r0 s0 s1r Q), mw_J Y 0 0 n M 207 [(0, .ref r0)] [.int s0, .ref s1r] := by
    intro M r0 s0 s1r h
    unfold w_X8_renders_b207 at h
    refine jr_aload_n (j := 0) hC dX8_renders_207 rfl rfl ?_
    obtain ⟨hc4, h⟩ := h
    refine jr_get2 hC fl_RX8_7 hc4 dX8_renders_208 ?_
    refine jr_iconst (v := (1 : Int32)) hC dX8_renders_211 (by decide) ?_
    obtain ⟨hc5, h⟩ := h
    obtain ⟨hc6, h⟩ := h
    refine jr_iald hC hc5 hc6 dX8_renders_212 ?_
    refine jr_goto (tgt := 222) hC dX8_renders_213 (by decide) ?_
    refine jr_sub [] (L1 := []) rfl ?_
    exact B222 M (mI M (mP M r0 0) (Int32.toNatClampNeg (1 : Int32))) s0 s1r h
  have B114 : ∀ (M : mw_M) (r0 : Nat) (s0 : Int32) (s1 : Int32) (s2r : Nat) (h : w_X8_renders_b114 n M r0 s0 s1 s2r Q), mw_J Y 0 0 n M 114 [(0, .ref r0)] [.int s0, .int s1, .ref s2r] := by
    intro M r0 s0 s1 s2r h
    unfold w_X8_renders_b114 at h
    obtain ⟨hc7, h⟩ := h
    obtain ⟨hc8, h⟩ := h
    obtain ⟨M9, eM9⟩ : ∃ y : mw_M, y = sI M s2r (Int32.toNatClampNeg s1) s0 := ⟨_, rfl⟩
    have h := h M9 eM9
    refine jr_iast hC hc7 hc8 eM9 dX8_renders_114 ?_
    refine jr_aload_n (j := 0) hC dX8_renders_115 rfl rfl ?_
    obtain ⟨hc10, h⟩ := h
    refine jr_get2 hC fl_RX8_7 hc10 dX8_renders_116 ?_
    refine jr_bipush (v := (7 : Int32)) hC dX8_renders_119 (by decide) ?_
    refine jr_dup2 hC dX8_renders_121 rfl rfl ?_
    obtain ⟨hc11, h⟩ := h
    obtain ⟨hc12, h⟩ := h
    refine jr_iald hC hc11 hc12 dX8_renders_122 ?_
    refine jr_aload_n (j := 0) hC dX8_renders_123 rfl rfl ?_
    refine jr_get0 hC fl_RX8_216 hc10 dX8_renders_124 ?_
    refine jr_iadd hC dX8_renders_127 ?_
    obtain ⟨M13, eM13⟩ : ∃ y : mw_M, y = sI M9 (mP M9 r0 0) (Int32.toNatClampNeg (7 : Int32)) ((mI M9 (mP M9 r0 0) (Int32.toNatClampNeg (7 : Int32))) + (mI M9 r0 12)) := ⟨_, rfl⟩
    have h := h M13 eM13
    refine jr_iast hC hc11 hc12 eM13 dX8_renders_128 ?_
    refine jr_aload_n (j := 0) hC dX8_renders_129 rfl rfl ?_
    refine jr_ldc2 (v := (31 : Int64)) hC tw_1370 dX8_renders_130 ?_
    refine jr_aload_n (j := 0) hC dX8_renders_133 rfl rfl ?_
    refine jr_get1 hC fl_RX8_15 hc10 dX8_renders_134 ?_
    refine jr_lmul hC dX8_renders_137 ?_
    refine jr_aload_n (j := 0) hC dX8_renders_138 rfl rfl ?_
    refine jr_get0 hC fl_RX8_222 hc10 dX8_renders_139 ?_
    refine jr_i2l hC dX8_renders_142 ?_
    refine jr_ladd hC dX8_renders_143 ?_
    obtain ⟨M14, eM14⟩ : ∃ y : mw_M, y = sL M13 r0 1 (((31 : Int64) * (mL M13 r0 1)) + (Int32.toInt64 (mI M13 r0 10))) := ⟨_, rfl⟩
    have h := h M14 eM14
    refine jr_putL hC fp_RX8_15 hc10 eM14 dX8_renders_144 ?_
    refine jr_aload_n (j := 0) hC dX8_renders_147 rfl rfl ?_
    refine jr_ldc2 (v := (31 : Int64)) hC tw_1370 dX8_renders_148 ?_
    refine jr_aload_n (j := 0) hC dX8_renders_151 rfl rfl ?_
    refine jr_get1 hC fl_RX8_15 hc10 dX8_renders_152 ?_
    refine jr_lmul hC dX8_renders_155 ?_
    refine jr_aload_n (j := 0) hC dX8_renders_156 rfl rfl ?_
    refine jr_get0 hC fl_RX8_225 hc10 dX8_renders_157 ?_
    refine jr_i2l hC dX8_renders_160 ?_
    refine jr_ladd hC dX8_renders_161 ?_
    obtain ⟨M15, eM15⟩ : ∃ y : mw_M, y = sL M14 r0 1 (((31 : Int64) * (mL M14 r0 1)) + (Int32.toInt64 (mI M14 r0 11))) := ⟨_, rfl⟩
    have h := h M15 eM15
    refine jr_putL hC fp_RX8_15 hc10 eM15 dX8_renders_162 ?_
    refine jr_aload_n (j := 0) hC dX8_renders_165 rfl rfl ?_
    refine jr_get2 hC fl_RX8_7 hc10 dX8_renders_166 ?_
    refine jr_iconst (v := (0 : Int32)) hC dX8_renders_169 (by decide) ?_
    refine jr_dup2 hC dX8_renders_170 rfl rfl ?_
    obtain ⟨hc16, h⟩ := h
    obtain ⟨hc17, h⟩ := h
    refine jr_iald hC hc16 hc17 dX8_renders_171 ?_
    refine jr_iconst (v := (1 : Int32)) hC dX8_renders_172 (by decide) ?_
    refine jr_iadd hC dX8_renders_173 ?_
    obtain ⟨M18, eM18⟩ : ∃ y : mw_M, y = sI M15 (mP M15 r0 0) (Int32.toNatClampNeg (0 : Int32)) ((mI M15 (mP M15 r0 0) (Int32.toNatClampNeg (0 : Int32))) + (1 : Int32)) := ⟨_, rfl⟩
    have h := h M18 eM18
    refine jr_iast hC hc16 hc17 eM18 dX8_renders_174 ?_
    refine jr_aload_n (j := 0) hC dX8_renders_175 rfl rfl ?_
    refine jr_get2 hC fl_RX8_7 hc10 dX8_renders_176 ?_
    refine jr_iconst (v := (0 : Int32)) hC dX8_renders_179 (by decide) ?_
    refine jr_aload_n (j := 0) hC dX8_renders_180 rfl rfl ?_
    refine jr_get2 hC fl_RX8_7 hc10 dX8_renders_181 ?_
    refine jr_iconst (v := (0 : Int32)) hC dX8_renders_184 (by decide) ?_
    obtain ⟨hc19, h⟩ := h
    obtain ⟨hc20, h⟩ := h
    refine jr_iald hC hc19 hc20 dX8_renders_185 ?_
    refine jr_aload_n (j := 0) hC dX8_renders_186 rfl rfl ?_
    refine jr_get2 hC fl_RX8_7 hc10 dX8_renders_187 ?_
    refine jr_iconst (v := (2 : Int32)) hC dX8_renders_190 (by decide) ?_
    obtain ⟨hc21, h⟩ := h
    refine jr_iald hC hc19 hc21 dX8_renders_191 ?_
    obtain ⟨hthb22, hfhb22⟩ := h
    refine jr_ic_eq (tgt := 207) hC dX8_renders_192 (by decide) (fun hb22 => ?_) (fun hb22 => ?_)
    · have h := hthb22 hb22
      exact B207 M18 r0 (0 : Int32) (mP M18 r0 0) h
    · have h := hfhb22 hb22
      refine jr_aload_n (j := 0) hC dX8_renders_195 rfl rfl ?_
      refine jr_get2 hC fl_RX8_7 hc10 dX8_renders_196 ?_
      refine jr_iconst (v := (0 : Int32)) hC dX8_renders_199 (by decide) ?_
      refine jr_iald hC hc19 hc20 dX8_renders_200 ?_
      refine jr_sipush (v := (4000 : Int32)) hC dX8_renders_201 (by decide) ?_
      obtain ⟨hthb23, hfhb23⟩ := h
      refine jr_ic_ne (tgt := 216) hC dX8_renders_204 (by decide) (fun hb23 => ?_) (fun hb23 => ?_)
      · have h := hthb23 hb23
        refine jr_aload_n (j := 0) hC dX8_renders_216 rfl rfl ?_
        refine jr_get2 hC fl_RX8_7 hc10 dX8_renders_217 ?_
        refine jr_iconst (v := (0 : Int32)) hC dX8_renders_220 (by decide) ?_
        refine jr_iald hC hc19 hc20 dX8_renders_221 ?_
        refine jr_sub [] (L1 := []) rfl ?_
        exact B222 M18 (mI M18 (mP M18 r0 0) (Int32.toNatClampNeg (0 : Int32))) (0 : Int32) (mP M18 r0 0) h
      · have h := hfhb23 hb23
        exact B207 M18 r0 (0 : Int32) (mP M18 r0 0) h
  have B85 : ∀ (M : mw_M) (r0 : Nat) (x2 : Int32) (s0 : Int32) (s1 : Int32) (s2r : Nat) (h : w_X8_renders_b85 n M r0 x2 s0 s1 s2r Q), mw_J Y 0 0 n M 85 [(0, .ref r0), (2, .int x2)] [.int s0, .int s1, .ref s2r] := by
    intro M r0 x2 s0 s1 s2r h
    unfold w_X8_renders_b85 at h
    obtain ⟨hc24, h⟩ := h
    obtain ⟨hc25, h⟩ := h
    obtain ⟨M26, eM26⟩ : ∃ y : mw_M, y = sI M s2r (Int32.toNatClampNeg s1) s0 := ⟨_, rfl⟩
    have h := h M26 eM26
    refine jr_iast hC hc24 hc25 eM26 dX8_renders_85 ?_
    refine jr_aload_n (j := 0) hC dX8_renders_86 rfl rfl ?_
    obtain ⟨hc27, h⟩ := h
    refine jr_get2 hC fl_RX8_7 hc27 dX8_renders_87 ?_
    refine jr_bipush (v := (6 : Int32)) hC dX8_renders_90 (by decide) ?_
    refine jr_iload_n (j := 1) hC dX8_renders_92 rfl rfl ?_
    refine jr_aload_n (j := 0) hC dX8_renders_93 rfl rfl ?_
    refine jr_get2 hC fl_RX8_7 hc27 dX8_renders_94 ?_
    refine jr_bipush (v := (6 : Int32)) hC dX8_renders_97 (by decide) ?_
    obtain ⟨hc28, h⟩ := h
    obtain ⟨hc29, h⟩ := h
    refine jr_iald hC hc28 hc29 dX8_renders_99 ?_
    obtain ⟨hthb30, hfhb30⟩ := h
    refine jr_ic_le (tgt := 107) hC dX8_renders_100 (by decide) (fun hb30 => ?_) (fun hb30 => ?_)
    · have h := hthb30 hb30
      refine jr_aload_n (j := 0) hC dX8_renders_107 rfl rfl ?_
      refine jr_get2 hC fl_RX8_7 hc27 dX8_renders_108 ?_
      refine jr_bipush (v := (6 : Int32)) hC dX8_renders_111 (by decide) ?_
      refine jr_iald hC hc28 hc29 dX8_renders_113 ?_
      refine jr_sub [0] (L1 := [(0, .ref r0)]) rfl ?_
      exact B114 M26 r0 (mI M26 (mP M26 r0 0) (Int32.toNatClampNeg (6 : Int32))) (6 : Int32) (mP M26 r0 0) h
    · have h := hfhb30 hb30
      refine jr_iload_n (j := 1) hC dX8_renders_103 rfl rfl ?_
      refine jr_goto (tgt := 114) hC dX8_renders_104 (by decide) ?_
      refine jr_sub [0] (L1 := [(0, .ref r0)]) rfl ?_
      exact B114 M26 r0 x2 (6 : Int32) (mP M26 r0 0) h
  have B49 : ∀ (M : mw_M) (r0 : Nat) (x1 : Int32) (s0 : Int32) (h : w_X8_renders_b49 n M r0 x1 s0 Q), mw_J Y 0 0 n M 49 [(0, .ref r0), (1, .int x1)] [.int s0] := by
    intro M r0 x1 s0 h
    unfold w_X8_renders_b49 at h
    refine jr_istore_n (L1 := [(2, .int s0), (0, .ref r0), (1, .int x1)]) hC dX8_renders_49 rfl hnL (by decide) rfl ?_
    refine jr_aload_n (j := 1) hC dX8_renders_50 rfl rfl ?_
    obtain ⟨hc31, h⟩ := h
    refine jr_get2 hC fl_RX8_7 hc31 dX8_renders_51 ?_
    refine jr_iconst (v := (4 : Int32)) hC dX8_renders_54 (by decide) ?_
    refine jr_dup2 hC dX8_renders_55 rfl rfl ?_
    obtain ⟨hc32, h⟩ := h
    obtain ⟨hc33, h⟩ := h
    refine jr_iald hC hc32 hc33 dX8_renders_56 ?_
    refine jr_iconst (v := (1 : Int32)) hC dX8_renders_57 (by decide) ?_
    refine jr_iadd hC dX8_renders_58 ?_
    obtain ⟨M34, eM34⟩ : ∃ y : mw_M, y = sI M (mP M r0 0) (Int32.toNatClampNeg (4 : Int32)) ((mI M (mP M r0 0) (Int32.toNatClampNeg (4 : Int32))) + (1 : Int32)) := ⟨_, rfl⟩
    have h := h M34 eM34
    refine jr_iast hC hc32 hc33 eM34 dX8_renders_59 ?_
    refine jr_aload_n (j := 1) hC dX8_renders_60 rfl rfl ?_
    refine jr_get2 hC fl_RX8_7 hc31 dX8_renders_61 ?_
    refine jr_iconst (v := (5 : Int32)) hC dX8_renders_64 (by decide) ?_
    refine jr_iload_n (j := 2) hC dX8_renders_65 rfl rfl ?_
    refine jr_aload_n (j := 1) hC dX8_renders_66 rfl rfl ?_
    refine jr_get2 hC fl_RX8_7 hc31 dX8_renders_67 ?_
    refine jr_iconst (v := (5 : Int32)) hC dX8_renders_70 (by decide) ?_
    obtain ⟨hc35, h⟩ := h
    obtain ⟨hc36, h⟩ := h
    refine jr_iald hC hc35 hc36 dX8_renders_71 ?_
    obtain ⟨hthb37, hfhb37⟩ := h
    refine jr_ic_le (tgt := 79) hC dX8_renders_72 (by decide) (fun hb37 => ?_) (fun hb37 => ?_)
    · have h := hthb37 hb37
      refine jr_aload_n (j := 1) hC dX8_renders_79 rfl rfl ?_
      refine jr_get2 hC fl_RX8_7 hc31 dX8_renders_80 ?_
      refine jr_iconst (v := (5 : Int32)) hC dX8_renders_83 (by decide) ?_
      refine jr_iald hC hc35 hc36 dX8_renders_84 ?_
      refine jr_sub [1, 0] (L1 := [(0, .ref r0), (2, .int s0)]) rfl ?_
      exact B85 M34 r0 s0 (mI M34 (mP M34 r0 0) (Int32.toNatClampNeg (5 : Int32))) (5 : Int32) (mP M34 r0 0) h
    · have h := hfhb37 hb37
      refine jr_iload_n (j := 2) hC dX8_renders_75 rfl rfl ?_
      refine jr_goto (tgt := 85) hC dX8_renders_76 (by decide) ?_
      refine jr_sub [1, 0] (L1 := [(0, .ref r0), (2, .int s0)]) rfl ?_
      exact B85 M34 r0 s0 x1 (5 : Int32) (mP M34 r0 0) h
  have B29 : ∀ (M : mw_M) (r0 : Nat) (s0 : Int32) (h : w_X8_renders_b29 n M r0 s0 Q), mw_J Y 0 0 n M 29 [(0, .ref r0)] [.int s0] := by
    intro M r0 s0 h
    unfold w_X8_renders_b29 at h
    refine jr_istore_n (L1 := [(1, .int s0), (0, .ref r0)]) hC dX8_renders_29 rfl hnL (by decide) rfl ?_
    refine jr_aload_n (j := 1) hC dX8_renders_30 rfl rfl ?_
    obtain ⟨hc38, h⟩ := h
    refine jr_get0 hC fl_RX8_225 hc38 dX8_renders_31 ?_
    obtain ⟨hthb39, hfhb39⟩ := h
    refine jr_if_ge (tgt := 45) hC dX8_renders_34 (by decide) (fun hb39 => ?_) (fun hb39 => ?_)
    · have h := hthb39 hb39
      refine jr_aload_n (j := 1) hC dX8_renders_45 rfl rfl ?_
      refine jr_get0 hC fl_RX8_225 hc38 dX8_renders_46 ?_
      refine jr_sub [1, 0] (L1 := [(0, .ref r0), (1, .int s0)]) rfl ?_
      exact B49 M r0 s0 (mI M r0 11) h
    · have h := hfhb39 hb39
      refine jr_aload_n (j := 1) hC dX8_renders_37 rfl rfl ?_
      refine jr_get0 hC fl_RX8_225 hc38 dX8_renders_38 ?_
      refine jr_ineg hC dX8_renders_41 ?_
      refine jr_goto (tgt := 49) hC dX8_renders_42 (by decide) ?_
      refine jr_sub [1, 0] (L1 := [(0, .ref r0), (1, .int s0)]) rfl ?_
      exact B49 M r0 s0 (-(mI M r0 11)) h
  unfold w_X8_renders at h
  refine jr_aload_n (j := 0) hC dX8_renders_0 rfl rfl ?_
  refine jr_aload_n (j := 0) hC dX8_renders_1 rfl rfl ?_
  obtain ⟨hc40, h⟩ := h
  refine jr_get2 hC fl_RX8_7 hc40 dX8_renders_2 ?_
  refine jr_iconst (v := (0 : Int32)) hC dX8_renders_5 (by decide) ?_
  obtain ⟨hc41, h⟩ := h
  obtain ⟨hc42, h⟩ := h
  refine jr_iald hC hc41 hc42 dX8_renders_6 ?_
  refine jr_callV_v (As := [.int (mI M (mP M a0 0) (Int32.toNatClampNeg (0 : Int32)))]) (st := []) hC nc_RX8_231 (c_X8_mixes hlt h) hc40 rfl rfl ⟨⟨rfl, rfl⟩, ⟨by decide, by decide⟩, by decide, by decide⟩ (Nat.le_of_ble_eq_true rfl) dX8_renders_7 (fun M43 h => ?_)
  refine jr_aload_n (j := 0) hC dX8_renders_10 rfl rfl ?_
  refine jr_get0 hC fl_RX8_222 hc40 dX8_renders_11 ?_
  obtain ⟨hthb44, hfhb44⟩ := h
  refine jr_if_ge (tgt := 25) hC dX8_renders_14 (by decide) (fun hb44 => ?_) (fun hb44 => ?_)
  · have h := hthb44 hb44
    refine jr_aload_n (j := 0) hC dX8_renders_25 rfl rfl ?_
    refine jr_get0 hC fl_RX8_222 hc40 dX8_renders_26 ?_
    exact B29 M43 a0 (mI M43 a0 10) h
  · have h := hfhb44 hb44
    refine jr_aload_n (j := 0) hC dX8_renders_17 rfl rfl ?_
    refine jr_get0 hC fl_RX8_222 hc40 dX8_renders_18 ?_
    refine jr_ineg hC dX8_renders_21 ?_
    refine jr_goto (tgt := 29) hC dX8_renders_22 (by decide) ?_
    exact B29 M43 a0 (-(mI M43 a0 10)) h
set_option maxHeartbeats 4000000 in
set_option maxRecDepth 100000 in
theorem c_X8_render {G : mw_G} {l : Launch} (hlt : l.stackTraces = false) {n : Nat} {M : mw_M} {a0 : Nat} {x1 : Int32} {Q : mw_M → Int32 → Prop} (h : w_X8_render n M a0 x1 Q) : mw_Met G l yX8_render (.code yX8_render cX8_render 3 (some .int)) { frames := 8, cells := 0, slots := 0, locals := 200 } n M [.ref a0, .int x1] (fun n1 M1 v => n1 = n ∧ mw_rI Q M1 v) (fun _ _ => False) := by
  refine mw_enter (L0 := [(0, .ref a0), (1, .int x1)]) hlt rfl rfl (plainFor_of_name (by decide)) (Nat.le_of_ble_eq_true rfl) rfl ?_
  intro Y hC0 hZ hnL hini0 hn00
  have hC : mw_C G l _ Y cX8_render RX8 := hC0
  have B34 : ∀ (M : mw_M) (r0 : Nat) (x1 : Int32) (x2 : Int32) (h : w_X8_render_b34 n M r0 x1 x2 Q), mw_J Y 0 0 n M 34 [(0, .ref r0), (1, .int x1), (2, .int x2)] [] := by
    intro M r0 x1 x2 h
    obtain ⟨Inv, mu, h0, hs⟩ := h
    refine mw_loop2 (fun (M : mw_M) (x2 : Int32) => mw_J Y 0 0 n M 34 [(0, .ref r0), (1, .int x1), (2, .int x2)] []) Inv mu (fun M x2 hI hrec => ?_) M x2 h0
    have h := hs M x2 hI
    refine jr_iload_n (j := 2) hC dX8_render_34 rfl rfl ?_
    refine jr_iload_n (j := 1) hC dX8_render_35 rfl rfl ?_
    obtain ⟨hthb1, hfhb1⟩ := h
    refine jr_ic_ge (tgt := 49) hC dX8_render_36 (by decide) (fun hb1 => ?_) (fun hb1 => ?_)
    · have h := hthb1 hb1
      refine jr_aload_n (j := 0) hC dX8_render_49 rfl rfl ?_
      obtain ⟨hc2, h⟩ := h
      refine jr_get2 hC fl_RX8_7 hc2 dX8_render_50 ?_
      refine jr_iconst (v := (0 : Int32)) hC dX8_render_53 (by decide) ?_
      obtain ⟨hc3, h⟩ := h
      obtain ⟨hc4, h⟩ := h
      refine jr_iald hC hc3 hc4 dX8_render_54 ?_
      exact jr_ireti hC hZ (by decide) (by decide) dX8_render_55 ⟨rfl, _, rfl, h⟩
    · have h := hfhb1 hb1
      refine jr_aload_n (j := 0) hC dX8_render_39 rfl rfl ?_
      obtain ⟨hc5, h⟩ := h
      refine jr_callV_v (As := []) (st := []) hC nc_RX8_236 (c_X8_renders hlt h) hc5 rfl rfl ⟨⟨rfl, rfl⟩, ⟨by decide, by decide⟩, by decide, by decide⟩ (Nat.le_of_ble_eq_true rfl) dX8_render_40 (fun M6 h => ?_)
      obtain ⟨v7, ev7⟩ : ∃ y : Int32, y = (x2 + (1 : Int32)) := ⟨_, rfl⟩
      have h := h v7 ev7
      refine jr_iinc (j := 2) (v := v7) (L1 := [(2, .int v7), (0, .ref r0), (1, .int x1)]) hC dX8_render_43 rfl (by rw [ev7]; rfl) hnL (by decide) rfl ?_
      refine jr_goto (tgt := 34) hC dX8_render_46 (by decide) ?_
      refine jr_sub [1, 2, 0] (L1 := [(0, .ref r0), (1, .int x1), (2, .int v7)]) rfl ?_
      exact hrec M6 v7 h
  have B18 : ∀ (M : mw_M) (r0 : Nat) (x1 : Int32) (s0 : Int32) (s1r : Nat) (h : w_X8_render_b18 n M r0 x1 s0 s1r Q), mw_J Y 0 0 n M 18 [(0, .ref r0), (1, .int x1)] [.int s0, .ref s1r] := by
    intro M r0 x1 s0 s1r h
    unfold w_X8_render_b18 at h
    obtain ⟨hc8, h⟩ := h
    refine jr_callV_i (As := [.int s0]) (st := []) hC nc_RX8_73 (c_X8_refusesChange hlt h) hc8 rfl rfl ⟨⟨rfl, rfl⟩, ⟨by decide, by decide⟩, by decide, by decide⟩ (Nat.le_of_ble_eq_true rfl) dX8_render_18 (fun M9 v10 h => ?_)
    obtain ⟨hthb11, hfhb11⟩ := h
    refine jr_if_eq (tgt := 26) hC dX8_render_21 (by decide) (fun hb11 => ?_) (fun hb11 => ?_)
    · have h := hthb11 hb11
      refine jr_aload_n (j := 0) hC dX8_render_26 rfl rfl ?_
      refine jr_bipush (v := (99 : Int32)) hC dX8_render_27 (by decide) ?_
      obtain ⟨hc12, h⟩ := h
      refine jr_callV_v (As := [.int (99 : Int32)]) (st := []) hC nc_RX8_228 (c_X8_laysDucks hlt h) hc12 rfl rfl ⟨⟨rfl, rfl⟩, ⟨by decide, by decide⟩, by decide, by decide⟩ (Nat.le_of_ble_eq_true rfl) dX8_render_29 (fun M13 h => ?_)
      refine jr_iconst (v := (0 : Int32)) hC dX8_render_32 (by decide) ?_
      refine jr_istore_n (L1 := [(2, .int (0 : Int32)), (0, .ref r0), (1, .int x1)]) hC dX8_render_33 rfl hnL (by decide) rfl ?_
      refine jr_sub [1, 2, 0] (L1 := [(0, .ref r0), (1, .int x1), (2, .int (0 : Int32))]) rfl ?_
      exact B34 M13 r0 x1 (0 : Int32) h
    · have h := hfhb11 hb11
      refine jr_iconst (v := (0 : Int32)) hC dX8_render_24 (by decide) ?_
      exact jr_ireti hC hZ (by decide) (by decide) dX8_render_25 ⟨rfl, _, rfl, h⟩
  unfold w_X8_render at h
  refine jr_aload_n (j := 0) hC dX8_render_0 rfl rfl ?_
  refine jr_iload_n (j := 1) hC dX8_render_1 rfl rfl ?_
  refine jr_i2l hC dX8_render_2 ?_
  refine jr_lconst (v := (1 : Int64)) hC dX8_render_3 (by decide) ?_
  refine jr_ldc2 (v := (1000 : Int64)) hC tw_1086 dX8_render_4 ?_
  refine jr_callS_pi (As := [.long (Int32.toInt64 x1), .long (1 : Int64), .long (1000 : Int64)]) (st := [.ref a0]) hC nc_RX8_45 (c_X8_in hlt h) rfl rfl ⟨⟨rfl, rfl⟩, ⟨by decide, by decide⟩, by decide, by decide⟩ (Nat.le_of_ble_eq_true rfl) dX8_render_7 (fun v14 h => ?_)
  obtain ⟨hthb15, hfhb15⟩ := h
  refine jr_if_eq (tgt := 17) hC dX8_render_10 (by decide) (fun hb15 => ?_) (fun hb15 => ?_)
  · have h := hthb15 hb15
    refine jr_iconst (v := (1 : Int32)) hC dX8_render_17 (by decide) ?_
    exact B18 M a0 x1 (1 : Int32) a0 h
  · have h := hfhb15 hb15
    refine jr_iconst (v := (0 : Int32)) hC dX8_render_13 (by decide) ?_
    refine jr_goto (tgt := 18) hC dX8_render_14 (by decide) ?_
    exact B18 M a0 x1 (0 : Int32) a0 h
set_option maxHeartbeats 4000000 in
set_option maxRecDepth 100000 in
theorem c_X8_meterOf {G : mw_G} {l : Launch} (hlt : l.stackTraces = false) {n : Nat} {M : mw_M} {a0 : Nat} {x1 : Int32} {Q : Int64 → Prop} (h : w_X8_meterOf n M a0 x1 Q) : mw_Met G l yX8_meterOf (.code yX8_meterOf cX8_meterOf 2 (some .long)) { frames := 0, cells := 0, slots := 0, locals := 0 } n M [.ref a0, .int x1] (fun n1 M1 v => n1 = n ∧ mw_pJ M Q M1 v) (fun _ _ => False) := by
  refine mw_enter (L0 := [(0, .ref a0), (1, .int x1)]) hlt rfl rfl (plainFor_of_name (by decide)) (Nat.le_of_ble_eq_true rfl) rfl ?_
  intro Y hC0 hZ hnL hini0 hn00
  have hC : mw_C G l _ Y cX8_meterOf RX8 := hC0
  have B21 : ∀ (s0l : Int64) (h : w_X8_meterOf_b21 n M s0l Q), mw_J Y 0 0 n M 21 [] [.long s0l] := by
    intro s0l h
    unfold w_X8_meterOf_b21 at h
    exact jr_lret hC hZ (by decide) (by decide) dX8_meterOf_21 ⟨rfl, rfl, _, rfl, h⟩
  unfold w_X8_meterOf at h
  refine jr_iload_n (j := 1) hC dX8_meterOf_0 rfl rfl ?_
  refine jr_iconst (v := (4 : Int32)) hC dX8_meterOf_1 (by decide) ?_
  obtain ⟨hthb1, hfhb1⟩ := h
  refine jr_ic_ge (tgt := 17) hC dX8_meterOf_2 (by decide) (fun hb1 => ?_) (fun hb1 => ?_)
  · have h := hthb1 hb1
    refine jr_aload_n (j := 0) hC dX8_meterOf_17 rfl rfl ?_
    obtain ⟨hc2, h⟩ := h
    refine jr_get1 hC fl_RX8_15 hc2 dX8_meterOf_18 ?_
    refine jr_sub [] (L1 := []) rfl ?_
    exact B21 (mL M a0 1) h
  · have h := hfhb1 hb1
    refine jr_aload_n (j := 0) hC dX8_meterOf_5 rfl rfl ?_
    obtain ⟨hc3, h⟩ := h
    refine jr_get2 hC fl_RX8_7 hc3 dX8_meterOf_6 ?_
    refine jr_iconst (v := (4 : Int32)) hC dX8_meterOf_9 (by decide) ?_
    refine jr_iload_n (j := 1) hC dX8_meterOf_10 rfl rfl ?_
    refine jr_iadd hC dX8_meterOf_11 ?_
    obtain ⟨hc4, h⟩ := h
    obtain ⟨hc5, h⟩ := h
    refine jr_iald hC hc4 hc5 dX8_meterOf_12 ?_
    refine jr_i2l hC dX8_meterOf_13 ?_
    refine jr_goto (tgt := 21) hC dX8_meterOf_14 (by decide) ?_
    refine jr_sub [] (L1 := []) rfl ?_
    exact B21 (Int32.toInt64 (mI M (mP M a0 0) (Int32.toNatClampNeg ((4 : Int32) + x1)))) h
set_option maxHeartbeats 4000000 in
set_option maxRecDepth 100000 in
theorem c_X8_meter {G : mw_G} {l : Launch} (hlt : l.stackTraces = false) {n : Nat} {M : mw_M} {a0 : Nat} {x1 : Int32} {Q : mw_M → Int64 → Prop} (h : w_X8_meter n M a0 x1 Q) : mw_Met G l yX8_meter (.code yX8_meter cX8_meter 2 (some .long)) { frames := 1, cells := 0, slots := 0, locals := 25 } n M [.ref a0, .int x1] (fun n1 M1 v => n1 = n ∧ mw_rJ Q M1 v) (fun _ _ => False) := by
  refine mw_enter (L0 := [(0, .ref a0), (1, .int x1)]) hlt rfl rfl (plainFor_of_name (by decide)) (Nat.le_of_ble_eq_true rfl) rfl ?_
  intro Y hC0 hZ hnL hini0 hn00
  have hC : mw_C G l _ Y cX8_meter RX8 := hC0
  have B33 : ∀ (M : mw_M) (s0l : Int64) (h : w_X8_meter_b33 n M s0l Q), mw_J Y 0 0 n M 33 [] [.long s0l] := by
    intro M s0l h
    unfold w_X8_meter_b33 at h
    exact jr_lret hC hZ (by decide) (by decide) dX8_meter_33 ⟨rfl, _, rfl, h⟩
  have B18 : ∀ (M : mw_M) (r0 : Nat) (x1 : Int32) (s0 : Int32) (s1r : Nat) (h : w_X8_meter_b18 n M r0 x1 s0 s1r Q), mw_J Y 0 0 n M 18 [(0, .ref r0), (1, .int x1)] [.int s0, .ref s1r] := by
    intro M r0 x1 s0 s1r h
    unfold w_X8_meter_b18 at h
    obtain ⟨hc1, h⟩ := h
    refine jr_callV_i (As := [.int s0]) (st := []) hC nc_RX8_51 (c_X8_refuses hlt h) hc1 rfl rfl ⟨⟨rfl, rfl⟩, ⟨by decide, by decide⟩, by decide, by decide⟩ (Nat.le_of_ble_eq_true rfl) dX8_meter_18 (fun M2 v3 h => ?_)
    obtain ⟨hthb4, hfhb4⟩ := h
    refine jr_if_eq (tgt := 28) hC dX8_meter_21 (by decide) (fun hb4 => ?_) (fun hb4 => ?_)
    · have h := hthb4 hb4
      refine jr_aload_n (j := 0) hC dX8_meter_28 rfl rfl ?_
      refine jr_iload_n (j := 1) hC dX8_meter_29 rfl rfl ?_
      obtain ⟨hc5, h⟩ := h
      refine jr_callV_pj (As := [.int x1]) (st := []) hC nc_RX8_241 (c_X8_meterOf hlt h) hc5 rfl rfl ⟨⟨rfl, rfl⟩, ⟨by decide, by decide⟩, by decide, by decide⟩ (Nat.le_of_ble_eq_true rfl) dX8_meter_30 (fun w6 h => ?_)
      refine jr_sub [] (L1 := []) rfl ?_
      exact B33 M2 w6 h
    · have h := hfhb4 hb4
      refine jr_lconst (v := (0 : Int64)) hC dX8_meter_24 (by decide) ?_
      refine jr_goto (tgt := 33) hC dX8_meter_25 (by decide) ?_
      refine jr_sub [] (L1 := []) rfl ?_
      exact B33 M2 (0 : Int64) h
  unfold w_X8_meter at h
  refine jr_aload_n (j := 0) hC dX8_meter_0 rfl rfl ?_
  refine jr_iload_n (j := 1) hC dX8_meter_1 rfl rfl ?_
  refine jr_i2l hC dX8_meter_2 ?_
  refine jr_lconst (v := (0 : Int64)) hC dX8_meter_3 (by decide) ?_
  refine jr_ldc2 (v := (4 : Int64)) hC tw_1375 dX8_meter_4 ?_
  refine jr_callS_pi (As := [.long (Int32.toInt64 x1), .long (0 : Int64), .long (4 : Int64)]) (st := [.ref a0]) hC nc_RX8_45 (c_X8_in hlt h) rfl rfl ⟨⟨rfl, rfl⟩, ⟨by decide, by decide⟩, by decide, by decide⟩ (Nat.le_of_ble_eq_true rfl) dX8_meter_7 (fun v7 h => ?_)
  obtain ⟨hthb8, hfhb8⟩ := h
  refine jr_if_eq (tgt := 17) hC dX8_meter_10 (by decide) (fun hb8 => ?_) (fun hb8 => ?_)
  · have h := hthb8 hb8
    refine jr_iconst (v := (1 : Int32)) hC dX8_meter_17 (by decide) ?_
    exact B18 M a0 x1 (1 : Int32) a0 h
  · have h := hfhb8 hb8
    refine jr_iconst (v := (0 : Int32)) hC dX8_meter_13 (by decide) ?_
    refine jr_goto (tgt := 18) hC dX8_meter_14 (by decide) ?_
    exact B18 M a0 x1 (0 : Int32) a0 h
set_option maxHeartbeats 4000000 in
set_option maxRecDepth 100000 in
theorem c_X8_clearMeters {G : mw_G} {l : Launch} (hlt : l.stackTraces = false) {n : Nat} {M : mw_M} {a0 : Nat} {Q : mw_M → Int64 → Prop} (h : w_X8_clearMeters n M a0 Q) : mw_Met G l yX8_clearMeters (.code yX8_clearMeters cX8_clearMeters 2 (some .long)) { frames := 2, cells := 0, slots := 0, locals := 43 } n M [.ref a0] (fun n1 M1 v => n1 = n ∧ mw_rJ Q M1 v) (fun _ _ => False) := by
  refine mw_enter (L0 := [(0, .ref a0)]) hlt rfl rfl (plainFor_of_name (by decide)) (Nat.le_of_ble_eq_true rfl) rfl ?_
  intro Y hC0 hZ hnL hini0 hn00
  have hC : mw_C G l _ Y cX8_clearMeters RX8 := hC0
  have B19 : ∀ (M : mw_M) (r0 : Nat) (x1 : Int32) (h : w_X8_clearMeters_b19 n M r0 x1 Q), mw_J Y 0 0 n M 19 [(0, .ref r0), (1, .int x1)] [] := by
    intro M r0 x1 h
    obtain ⟨Inv, mu, h0, hs⟩ := h
    refine mw_loop2 (fun (M : mw_M) (x1 : Int32) => mw_J Y 0 0 n M 19 [(0, .ref r0), (1, .int x1)] []) Inv mu (fun M x1 hI hrec => ?_) M x1 h0
    have h := hs M x1 hI
    refine jr_iload_n (j := 1) hC dX8_clearMeters_19 rfl rfl ?_
    refine jr_iconst (v := (4 : Int32)) hC dX8_clearMeters_20 (by decide) ?_
    obtain ⟨hthb1, hfhb1⟩ := h
    refine jr_ic_ge (tgt := 39) hC dX8_clearMeters_21 (by decide) (fun hb1 => ?_) (fun hb1 => ?_)
    · have h := hthb1 hb1
      refine jr_aload_n (j := 0) hC dX8_clearMeters_39 rfl rfl ?_
      refine jr_iconst (v := (4 : Int32)) hC dX8_clearMeters_40 (by decide) ?_
      refine jr_iconst (v := (0 : Int32)) hC dX8_clearMeters_41 (by decide) ?_
      obtain ⟨hc2, h⟩ := h
      refine jr_callV_i (As := [.int (4 : Int32), .int (0 : Int32)]) (st := []) hC nc_RX8_76 (c_X8_becomes hlt h) hc2 rfl rfl ⟨⟨rfl, rfl⟩, ⟨by decide, by decide⟩, by decide, by decide⟩ (Nat.le_of_ble_eq_true rfl) dX8_clearMeters_42 (fun M3 v4 h => ?_)
      refine jr_i2l hC dX8_clearMeters_45 ?_
      exact jr_lret hC hZ (by decide) (by decide) dX8_clearMeters_46 ⟨rfl, _, rfl, h⟩
    · have h := hfhb1 hb1
      refine jr_aload_n (j := 0) hC dX8_clearMeters_24 rfl rfl ?_
      obtain ⟨hc5, h⟩ := h
      refine jr_get2 hC fl_RX8_7 hc5 dX8_clearMeters_25 ?_
      refine jr_iconst (v := (4 : Int32)) hC dX8_clearMeters_28 (by decide) ?_
      refine jr_iload_n (j := 1) hC dX8_clearMeters_29 rfl rfl ?_
      refine jr_iadd hC dX8_clearMeters_30 ?_
      refine jr_iconst (v := (0 : Int32)) hC dX8_clearMeters_31 (by decide) ?_
      obtain ⟨hc6, h⟩ := h
      obtain ⟨hc7, h⟩ := h
      obtain ⟨M8, eM8⟩ : ∃ y : mw_M, y = sI M (mP M r0 0) (Int32.toNatClampNeg ((4 : Int32) + x1)) (0 : Int32) := ⟨_, rfl⟩
      have h := h M8 eM8
      refine jr_iast hC hc6 hc7 eM8 dX8_clearMeters_32 ?_
      obtain ⟨v9, ev9⟩ : ∃ y : Int32, y = (x1 + (1 : Int32)) := ⟨_, rfl⟩
      have h := h v9 ev9
      refine jr_iinc (j := 1) (v := v9) (L1 := [(1, .int v9), (0, .ref r0)]) hC dX8_clearMeters_33 rfl (by rw [ev9]; rfl) hnL (by decide) rfl ?_
      refine jr_goto (tgt := 19) hC dX8_clearMeters_36 (by decide) ?_
      refine jr_sub [1, 0] (L1 := [(0, .ref r0), (1, .int v9)]) rfl ?_
      exact hrec M8 v9 h
  unfold w_X8_clearMeters at h
  refine jr_aload_n (j := 0) hC dX8_clearMeters_0 rfl rfl ?_
  refine jr_iconst (v := (0 : Int32)) hC dX8_clearMeters_1 (by decide) ?_
  obtain ⟨hc10, h⟩ := h
  refine jr_callV_i (As := [.int (0 : Int32)]) (st := []) hC nc_RX8_73 (c_X8_refusesChange hlt h) hc10 rfl rfl ⟨⟨rfl, rfl⟩, ⟨by decide, by decide⟩, by decide, by decide⟩ (Nat.le_of_ble_eq_true rfl) dX8_clearMeters_2 (fun M11 v12 h => ?_)
  obtain ⟨hthb13, hfhb13⟩ := h
  refine jr_if_eq (tgt := 10) hC dX8_clearMeters_5 (by decide) (fun hb13 => ?_) (fun hb13 => ?_)
  · have h := hthb13 hb13
    refine jr_aload_n (j := 0) hC dX8_clearMeters_10 rfl rfl ?_
    refine jr_ldc2 (v := (7 : Int64)) hC tw_1025 dX8_clearMeters_11 ?_
    obtain ⟨M14, eM14⟩ : ∃ y : mw_M, y = sL M11 a0 1 (7 : Int64) := ⟨_, rfl⟩
    have h := h M14 eM14
    refine jr_putL hC fp_RX8_15 hc10 eM14 dX8_clearMeters_14 ?_
    refine jr_iconst (v := (1 : Int32)) hC dX8_clearMeters_17 (by decide) ?_
    refine jr_istore_n (L1 := [(1, .int (1 : Int32)), (0, .ref a0)]) hC dX8_clearMeters_18 rfl hnL (by decide) rfl ?_
    refine jr_sub [1, 0] (L1 := [(0, .ref a0), (1, .int (1 : Int32))]) rfl ?_
    exact B19 M14 a0 (1 : Int32) h
  · have h := hfhb13 hb13
    refine jr_lconst (v := (0 : Int64)) hC dX8_clearMeters_8 (by decide) ?_
    exact jr_lret hC hZ (by decide) (by decide) dX8_clearMeters_9 ⟨rfl, _, rfl, h⟩
