set_option maxHeartbeats 4000000 in
set_option maxRecDepth 100000 in
theorem c_X8_trackAt {G : mw_G} {l : Launch} (hlt : l.stackTraces = false) {n : Nat} {M : mw_M} {x0 : Int32} {Q : Int32 → Prop} (h : w_X8_trackAt n M x0 Q) : mw_Met G l yX8_trackAt (.code yX8_trackAt cX8_trackAt 1 (some .int)) { frames := 0, cells := 0, slots := 0, locals := 0 } n M [.int x0] (fun n1 M1 v => n1 = n ∧ mw_pI M Q M1 v) (fun _ _ => False) := by
  refine mw_enter (L0 := [(0, .int x0)]) hlt rfl rfl (plainFor_of_name (by decide)) (Nat.le_of_ble_eq_true rfl) rfl ?_
  intro Y hC0 hZ hnL hini0 hn00
  have hC : mw_C G l _ Y cX8_trackAt RX8 := hC0
  unfold w_X8_trackAt at h
  refine jr_sipush (v := (141 : Int32)) hC dX8_trackAt_0 (by decide) ?_
  refine jr_bipush (v := (34 : Int32)) hC dX8_trackAt_3 (by decide) ?_
  refine jr_iload_n (j := 0) hC dX8_trackAt_5 rfl rfl ?_
  refine jr_imul hC dX8_trackAt_6 ?_
  refine jr_iadd hC dX8_trackAt_7 ?_
  exact jr_ireti hC hZ (by decide) (by decide) dX8_trackAt_8 ⟨rfl, rfl, _, rfl, h⟩
set_option maxHeartbeats 4000000 in
set_option maxRecDepth 100000 in
theorem c_X8_init {G : mw_G} {l : Launch} (hlt : l.stackTraces = false) {n : Nat} {M : mw_M} {a0 : Nat} {Q : Nat → mw_M → Prop} (h : w_X8_init n M a0 Q) : mw_Met G l yX8_init (.code yX8_init cX8_init 2 none) { frames := 1, cells := 6, slots := 1924, locals := 20 } n M [.ref a0] (mw_rN Q) (fun _ _ => False) := by
  refine mw_enter (L0 := [(0, .ref a0)]) hlt rfl rfl (plainFor_of_name (by decide)) (Nat.le_of_ble_eq_true rfl) rfl ?_
  intro Y hC0 hZ hnL hini0 hn00
  have hC : mw_C G l _ Y cX8_init RX8 := hC0
  have hini : mw_init Y := hini0 rfl
  have B125 : ∀ (k : Nat) (sl : Nat) (n : Nat) (M : mw_M) (r0 : Nat) (x1 : Int32) (h : w_X8_init_b125 k sl n M r0 x1 Q), mw_J Y k sl n M 125 [(0, .ref r0), (1, .int x1)] [] := by
    intro k sl n M r0 x1 h
    obtain ⟨Inv, mu, h0, hs⟩ := h
    refine mw_loop5 (fun (k : Nat) (sl : Nat) (n : Nat) (M : mw_M) (x1 : Int32) => mw_J Y k sl n M 125 [(0, .ref r0), (1, .int x1)] []) Inv mu (fun k sl n M x1 hI hrec => ?_) k sl n M x1 h0
    have h := hs k sl n M x1 hI
    refine jr_iload_n (j := 1) hC dX8_init_125 rfl rfl ?_
    refine jr_iconst (v := (4 : Int32)) hC dX8_init_126 (by decide) ?_
    obtain ⟨hthb1, hfhb1⟩ := h
    refine jr_ic_ge (tgt := 161) hC dX8_init_127 (by decide) (fun hb1 => ?_) (fun hb1 => ?_)
    · have h := hthb1 hb1
      obtain ⟨hc2, h⟩ := h
      obtain ⟨hc3, h⟩ := h
      exact jr_vret hC hZ hc2 hc3 dX8_init_161 ⟨rfl, h⟩
    · have h := hfhb1 hb1
      refine jr_aload_n (j := 0) hC dX8_init_130 rfl rfl ?_
      obtain ⟨hc4, h⟩ := h
      refine jr_get2 hC fl_RX8_7 hc4 dX8_init_131 ?_
      refine jr_iload_n (j := 1) hC dX8_init_134 rfl rfl ?_
      obtain ⟨hc6, h⟩ := h
      obtain ⟨hc7, h⟩ := h
      refine jr_callS_pi (As := [.int x1]) (st := [.ref (mP M r0 0)]) hC nc_RX8_35 (c_X8_trackAt hlt h) rfl rfl ⟨⟨rfl, rfl⟩, ⟨by decide, by decide⟩, hc6, hc7⟩ (Nat.le_of_ble_eq_true rfl) dX8_init_135 (fun v5 h => ?_)
      refine jr_sipush (v := (1000 : Int32)) hC dX8_init_138 (by decide) ?_
      obtain ⟨hc8, h⟩ := h
      obtain ⟨hc9, h⟩ := h
      obtain ⟨M10, eM10⟩ : ∃ y : mw_M, y = sI M (mP M r0 0) (Int32.toNatClampNeg v5) (1000 : Int32) := ⟨_, rfl⟩
      have h := h M10 eM10
      refine jr_iast hC hc8 hc9 eM10 dX8_init_141 ?_
      refine jr_aload_n (j := 0) hC dX8_init_142 rfl rfl ?_
      refine jr_get2 hC fl_RX8_7 hc4 dX8_init_143 ?_
      refine jr_iload_n (j := 1) hC dX8_init_146 rfl rfl ?_
      refine jr_callS_pi (As := [.int x1]) (st := [.ref (mP M10 r0 0)]) hC nc_RX8_35 (c_X8_trackAt hlt h) rfl rfl ⟨⟨rfl, rfl⟩, ⟨by decide, by decide⟩, hc6, hc7⟩ (Nat.le_of_ble_eq_true rfl) dX8_init_147 (fun v11 h => ?_)
      refine jr_bipush (v := (29 : Int32)) hC dX8_init_150 (by decide) ?_
      refine jr_iadd hC dX8_init_152 ?_
      refine jr_iconst (v := (-1 : Int32)) hC dX8_init_153 (by decide) ?_
      obtain ⟨hc12, h⟩ := h
      obtain ⟨hc13, h⟩ := h
      obtain ⟨M14, eM14⟩ : ∃ y : mw_M, y = sI M10 (mP M10 r0 0) (Int32.toNatClampNeg (v11 + (29 : Int32))) (-1 : Int32) := ⟨_, rfl⟩
      have h := h M14 eM14
      refine jr_iast hC hc12 hc13 eM14 dX8_init_154 ?_
      obtain ⟨v15, ev15⟩ : ∃ y : Int32, y = (x1 + (1 : Int32)) := ⟨_, rfl⟩
      have h := h v15 ev15
      refine jr_iinc (j := 1) (v := v15) (L1 := [(1, .int v15), (0, .ref r0)]) hC dX8_init_155 rfl (by rw [ev15]; rfl) hnL (by decide) rfl ?_
      refine jr_goto (tgt := 125) hC dX8_init_158 (by decide) ?_
      refine jr_sub [1, 0] (L1 := [(0, .ref r0), (1, .int v15)]) rfl ?_
      exact hrec k sl n M14 v15 h
  have B81 : ∀ (k : Nat) (sl : Nat) (n : Nat) (M : mw_M) (r0 : Nat) (x1 : Int32) (h : w_X8_init_b81 k sl n M r0 x1 Q), mw_J Y k sl n M 81 [(0, .ref r0), (1, .int x1)] [] := by
    intro k sl n M r0 x1 h
    obtain ⟨Inv, mu, h0, hs⟩ := h
    refine mw_loop5 (fun (k : Nat) (sl : Nat) (n : Nat) (M : mw_M) (x1 : Int32) => mw_J Y k sl n M 81 [(0, .ref r0), (1, .int x1)] []) Inv mu (fun k sl n M x1 hI hrec => ?_) k sl n M x1 h0
    have h := hs k sl n M x1 hI
    refine jr_iload_n (j := 1) hC dX8_init_81 rfl rfl ?_
    refine jr_bipush (v := (6 : Int32)) hC dX8_init_82 (by decide) ?_
    obtain ⟨hthb16, hfhb16⟩ := h
    refine jr_ic_ge (tgt := 123) hC dX8_init_84 (by decide) (fun hb16 => ?_) (fun hb16 => ?_)
    · have h := hthb16 hb16
      refine jr_iconst (v := (0 : Int32)) hC dX8_init_123 (by decide) ?_
      refine jr_istore_n (L1 := [(1, .int (0 : Int32)), (0, .ref r0)]) hC dX8_init_124 rfl hnL (by decide) rfl ?_
      refine jr_sub [1, 0] (L1 := [(0, .ref r0), (1, .int (0 : Int32))]) rfl ?_
      exact B125 k sl n M r0 (0 : Int32) h
    · have h := hfhb16 hb16
      refine jr_aload_n (j := 0) hC dX8_init_87 rfl rfl ?_
      obtain ⟨hc17, h⟩ := h
      refine jr_get2 hC fl_RX8_7 hc17 dX8_init_88 ?_
      refine jr_bipush (v := (9 : Int32)) hC dX8_init_91 (by decide) ?_
      refine jr_iconst (v := (4 : Int32)) hC dX8_init_93 (by decide) ?_
      refine jr_iload_n (j := 1) hC dX8_init_94 rfl rfl ?_
      refine jr_imul hC dX8_init_95 ?_
      refine jr_iadd hC dX8_init_96 ?_
      refine jr_iconst (v := (2 : Int32)) hC dX8_init_97 (by decide) ?_
      refine jr_iadd hC dX8_init_98 ?_
      refine jr_iconst (v := (1 : Int32)) hC dX8_init_99 (by decide) ?_
      obtain ⟨hc18, h⟩ := h
      obtain ⟨hc19, h⟩ := h
      obtain ⟨M20, eM20⟩ : ∃ y : mw_M, y = sI M (mP M r0 0) (Int32.toNatClampNeg (((9 : Int32) + ((4 : Int32) * x1)) + (2 : Int32))) (1 : Int32) := ⟨_, rfl⟩
      have h := h M20 eM20
      refine jr_iast hC hc18 hc19 eM20 dX8_init_100 ?_
      refine jr_aload_n (j := 0) hC dX8_init_101 rfl rfl ?_
      refine jr_get2 hC fl_RX8_7 hc17 dX8_init_102 ?_
      refine jr_bipush (v := (9 : Int32)) hC dX8_init_105 (by decide) ?_
      refine jr_iconst (v := (4 : Int32)) hC dX8_init_107 (by decide) ?_
      refine jr_iload_n (j := 1) hC dX8_init_108 rfl rfl ?_
      refine jr_imul hC dX8_init_109 ?_
      refine jr_iadd hC dX8_init_110 ?_
      refine jr_iconst (v := (3 : Int32)) hC dX8_init_111 (by decide) ?_
      refine jr_iadd hC dX8_init_112 ?_
      refine jr_sipush (v := (4000 : Int32)) hC dX8_init_113 (by decide) ?_
      obtain ⟨hc21, h⟩ := h
      obtain ⟨hc22, h⟩ := h
      obtain ⟨M23, eM23⟩ : ∃ y : mw_M, y = sI M20 (mP M20 r0 0) (Int32.toNatClampNeg (((9 : Int32) + ((4 : Int32) * x1)) + (3 : Int32))) (4000 : Int32) := ⟨_, rfl⟩
      have h := h M23 eM23
      refine jr_iast hC hc21 hc22 eM23 dX8_init_116 ?_
      obtain ⟨v24, ev24⟩ : ∃ y : Int32, y = (x1 + (1 : Int32)) := ⟨_, rfl⟩
      have h := h v24 ev24
      refine jr_iinc (j := 1) (v := v24) (L1 := [(1, .int v24), (0, .ref r0)]) hC dX8_init_117 rfl (by rw [ev24]; rfl) hnL (by decide) rfl ?_
      refine jr_goto (tgt := 81) hC dX8_init_120 (by decide) ?_
      refine jr_sub [1, 0] (L1 := [(0, .ref r0), (1, .int v24)]) rfl ?_
      exact hrec k sl n M23 v24 h
  unfold w_X8_init at h
  refine jr_aload_n (j := 0) hC dX8_init_0 rfl rfl ?_
  obtain ⟨hc25, h⟩ := h
  refine jr_objinit hC hc25 tw_1024 tw_83 tw_84 (by decide) (by decide) dX8_init_1 ?_
  refine jr_aload_n (j := 0) hC dX8_init_4 rfl rfl ?_
  refine jr_sipush (v := (277 : Int32)) hC dX8_init_5 (by decide) ?_
  obtain ⟨hc26, h⟩ := h
  obtain ⟨hc27, h⟩ := h
  obtain ⟨hc28, h⟩ := h
  obtain ⟨hc29, h⟩ := h
  obtain ⟨hc30, h⟩ := h
  refine jr_newi (N := 277) hC tw_250 hc26 hc27 (by decide) (by decide) (mw_okl_c hc30 mw_okl_n) (mw_oks_c hc30 mw_oks_n) hc28 hc29 dX8_init_8 ?_
  obtain ⟨hc31, h⟩ := h
  obtain ⟨M32, eM32⟩ : ∃ y : mw_M, y = sP M a0 0 n := ⟨_, rfl⟩
  have h := h M32 eM32
  refine jr_putAF hC fp_RX8_7 hc31 hini (by intro C T N h9; cases h9; rfl) eM32 dX8_init_10 ?_
  refine jr_aload_n (j := 0) hC dX8_init_13 rfl rfl ?_
  refine jr_ldc2 (v := (7 : Int64)) hC tw_1025 dX8_init_14 ?_
  obtain ⟨M33, eM33⟩ : ∃ y : mw_M, y = sL M32 a0 1 (7 : Int64) := ⟨_, rfl⟩
  have h := h M33 eM33
  refine jr_putL hC fp_RX8_15 hc31 eM33 dX8_init_17 ?_
  refine jr_aload_n (j := 0) hC dX8_init_20 rfl rfl ?_
  refine jr_sipush (v := (1108 : Int32)) hC dX8_init_21 (by decide) ?_
  obtain ⟨hc34, h⟩ := h
  obtain ⟨hc35, h⟩ := h
  obtain ⟨hc36, h⟩ := h
  obtain ⟨hc37, h⟩ := h
  obtain ⟨hc38, h⟩ := h
  refine jr_newi (N := 1108) hC tw_250 hc34 hc35 (by decide) (by decide) (mw_okl_c hc38 mw_okl_n) (mw_oks_c hc38 mw_oks_n) hc36 hc37 dX8_init_24 ?_
  obtain ⟨hc39, h⟩ := h
  obtain ⟨M40, eM40⟩ : ∃ y : mw_M, y = sP M33 a0 2 (n + 1) := ⟨_, rfl⟩
  have h := h M40 eM40
  refine jr_putAF hC fp_RX8_19 hc39 hini (by intro C T N h9; cases h9; rfl) eM40 dX8_init_26 ?_
  refine jr_aload_n (j := 0) hC dX8_init_29 rfl rfl ?_
  refine jr_iconst (v := (4 : Int32)) hC dX8_init_30 (by decide) ?_
  obtain ⟨hc41, h⟩ := h
  obtain ⟨hc42, h⟩ := h
  obtain ⟨hc43, h⟩ := h
  obtain ⟨hc44, h⟩ := h
  obtain ⟨hc45, h⟩ := h
  refine jr_newl (N := 4) hC tw_1072 hc41 hc42 (by decide) (by decide) (mw_okl_c hc45 mw_okl_n) (mw_oks_c hc45 mw_oks_n) hc43 hc44 dX8_init_31 ?_
  obtain ⟨hc46, h⟩ := h
  obtain ⟨M47, eM47⟩ : ∃ y : mw_M, y = sP M40 a0 3 ((n + 1) + 1) := ⟨_, rfl⟩
  have h := h M47 eM47
  refine jr_putAF hC fp_RX8_22 hc46 hini (by intro C T N h9; cases h9; rfl) eM47 dX8_init_33 ?_
  refine jr_aload_n (j := 0) hC dX8_init_36 rfl rfl ?_
  refine jr_bipush (v := (126 : Int32)) hC dX8_init_37 (by decide) ?_
  obtain ⟨hc48, h⟩ := h
  obtain ⟨hc49, h⟩ := h
  obtain ⟨hc50, h⟩ := h
  obtain ⟨hc51, h⟩ := h
  obtain ⟨hc52, h⟩ := h
  refine jr_newi (N := 126) hC tw_250 hc48 hc49 (by decide) (by decide) (mw_okl_c hc52 mw_okl_n) (mw_oks_c hc52 mw_oks_n) hc50 hc51 dX8_init_39 ?_
  obtain ⟨hc53, h⟩ := h
  obtain ⟨M54, eM54⟩ : ∃ y : mw_M, y = sP M47 a0 7 (((n + 1) + 1) + 1) := ⟨_, rfl⟩
  have h := h M54 eM54
  refine jr_putAF hC fp_RX8_26 hc53 hini (by intro C T N h9; cases h9; rfl) eM54 dX8_init_41 ?_
  refine jr_aload_n (j := 0) hC dX8_init_44 rfl rfl ?_
  refine jr_bipush (v := (9 : Int32)) hC dX8_init_45 (by decide) ?_
  obtain ⟨hc55, h⟩ := h
  obtain ⟨hc56, h⟩ := h
  obtain ⟨hc57, h⟩ := h
  obtain ⟨hc58, h⟩ := h
  obtain ⟨hc59, h⟩ := h
  refine jr_newi (N := 9) hC tw_250 hc55 hc56 (by decide) (by decide) (mw_okl_c hc59 mw_okl_n) (mw_oks_c hc59 mw_oks_n) hc57 hc58 dX8_init_47 ?_
  obtain ⟨hc60, h⟩ := h
  obtain ⟨M61, eM61⟩ : ∃ y : mw_M, y = sP M54 a0 8 ((((n + 1) + 1) + 1) + 1) := ⟨_, rfl⟩
  have h := h M61 eM61
  refine jr_putAF hC fp_RX8_29 hc60 hini (by intro C T N h9; cases h9; rfl) eM61 dX8_init_49 ?_
  refine jr_aload_n (j := 0) hC dX8_init_52 rfl rfl ?_
  refine jr_sipush (v := (400 : Int32)) hC dX8_init_53 (by decide) ?_
  obtain ⟨hc62, h⟩ := h
  obtain ⟨hc63, h⟩ := h
  obtain ⟨hc64, h⟩ := h
  obtain ⟨hc65, h⟩ := h
  obtain ⟨hc66, h⟩ := h
  refine jr_newi (N := 400) hC tw_250 hc62 hc63 (by decide) (by decide) (mw_okl_c hc66 mw_okl_n) (mw_oks_c hc66 mw_oks_n) hc64 hc65 dX8_init_56 ?_
  obtain ⟨hc67, h⟩ := h
  obtain ⟨M68, eM68⟩ : ∃ y : mw_M, y = sP M61 a0 9 (((((n + 1) + 1) + 1) + 1) + 1) := ⟨_, rfl⟩
  have h := h M68 eM68
  refine jr_putAF hC fp_RX8_32 hc67 hini (by intro C T N h9; cases h9; rfl) eM68 dX8_init_58 ?_
  refine jr_aload_n (j := 0) hC dX8_init_61 rfl rfl ?_
  refine jr_get2 hC fl_RX8_7 hc67 dX8_init_62 ?_
  refine jr_iconst (v := (2 : Int32)) hC dX8_init_65 (by decide) ?_
  refine jr_sipush (v := (4000 : Int32)) hC dX8_init_66 (by decide) ?_
  obtain ⟨hc69, h⟩ := h
  obtain ⟨hc70, h⟩ := h
  obtain ⟨M71, eM71⟩ : ∃ y : mw_M, y = sI M68 (mP M68 a0 0) (Int32.toNatClampNeg (2 : Int32)) (4000 : Int32) := ⟨_, rfl⟩
  have h := h M71 eM71
  refine jr_iast hC hc69 hc70 eM71 dX8_init_69 ?_
  refine jr_aload_n (j := 0) hC dX8_init_70 rfl rfl ?_
  refine jr_get2 hC fl_RX8_7 hc67 dX8_init_71 ?_
  refine jr_iconst (v := (3 : Int32)) hC dX8_init_74 (by decide) ?_
  refine jr_sipush (v := (1000 : Int32)) hC dX8_init_75 (by decide) ?_
  obtain ⟨hc72, h⟩ := h
  obtain ⟨hc73, h⟩ := h
  obtain ⟨M74, eM74⟩ : ∃ y : mw_M, y = sI M71 (mP M71 a0 0) (Int32.toNatClampNeg (3 : Int32)) (1000 : Int32) := ⟨_, rfl⟩
  have h := h M74 eM74
  refine jr_iast hC hc72 hc73 eM74 dX8_init_78 ?_
  refine jr_iconst (v := (0 : Int32)) hC dX8_init_79 (by decide) ?_
  refine jr_istore_n (L1 := [(1, .int (0 : Int32)), (0, .ref a0)]) hC dX8_init_80 rfl hnL (by decide) rfl ?_
  refine jr_sub [1, 0] (L1 := [(0, .ref a0), (1, .int (0 : Int32))]) rfl ?_
  exact B81 ((((((0 + 1) + 1) + 1) + 1) + 1) + 1) ((((((0 + 277) + 1108) + 4) + 126) + 9) + 400) ((((((n + 1) + 1) + 1) + 1) + 1) + 1) M74 a0 (0 : Int32) h
set_option maxHeartbeats 4000000 in
set_option maxRecDepth 100000 in
theorem c_X8_thrown {G : mw_G} {l : Launch} (hlt : l.stackTraces = false) {n : Nat} {M : mw_M} {a0 : Nat} {Q : Int32 → Prop} (h : w_X8_thrown n M a0 Q) : mw_Met G l yX8_thrown (.code yX8_thrown cX8_thrown 1 (some .int)) { frames := 0, cells := 0, slots := 0, locals := 0 } n M [.ref a0] (fun n1 M1 v => n1 = n ∧ mw_pI M Q M1 v) (fun _ _ => False) := by
  refine mw_enter (L0 := [(0, .ref a0)]) hlt rfl rfl (plainFor_of_name (by decide)) (Nat.le_of_ble_eq_true rfl) rfl ?_
  intro Y hC0 hZ hnL hini0 hn00
  have hC : mw_C G l _ Y cX8_thrown RX8 := hC0
  unfold w_X8_thrown at h
  refine jr_aload_n (j := 0) hC dX8_thrown_0 rfl rfl ?_
  obtain ⟨hc1, h⟩ := h
  refine jr_get0 hC fl_RX8_39 hc1 dX8_thrown_1 ?_
  exact jr_ireti hC hZ (by decide) (by decide) dX8_thrown_4 ⟨rfl, rfl, _, rfl, h⟩
set_option maxHeartbeats 4000000 in
set_option maxRecDepth 100000 in
theorem c_X8_in {G : mw_G} {l : Launch} (hlt : l.stackTraces = false) {n : Nat} {M : mw_M} {l0 : Int64} {l2 : Int64} {l4 : Int64} {Q : Int32 → Prop} (h : w_X8_in n M l0 l2 l4 Q) : mw_Met G l yX8_in (.code yX8_in cX8_in 6 (some .boolean)) { frames := 0, cells := 0, slots := 0, locals := 0 } n M [.long l0, .long l2, .long l4] (fun n1 M1 v => n1 = n ∧ mw_pI M Q M1 v) (fun _ _ => False) := by
  refine mw_enter (L0 := [(0, .long l0), (2, .long l2), (4, .long l4)]) hlt rfl rfl (plainFor_of_name (by decide)) (Nat.le_of_ble_eq_true rfl) rfl ?_
  intro Y hC0 hZ hnL hini0 hn00
  have hC : mw_C G l _ Y cX8_in RX8 := hC0
  have B18 : ∀ (s0 : Int32) (h : w_X8_in_b18 n M s0 Q), mw_J Y 0 0 n M 18 [] [.int s0] := by
    intro s0 h
    unfold w_X8_in_b18 at h
    obtain ⟨hc1, h⟩ := h
    exact jr_iretz hC hZ (by decide) (by decide) hc1 dX8_in_18 ⟨rfl, rfl, _, rfl, h⟩
  have B17 : (w_X8_in_b17 n M Q) → mw_J Y 0 0 n M 17 [] [] := by
    intro  h
    unfold w_X8_in_b17 at h
    refine jr_iconst (v := (0 : Int32)) hC dX8_in_17 (by decide) ?_
    exact B18 (0 : Int32) h
  unfold w_X8_in at h
  refine jr_lload_n (j := 0) hC dX8_in_0 rfl rfl ?_
  refine jr_lload_n (j := 1) hC dX8_in_1 rfl rfl ?_
  obtain ⟨hthb2, hfhb2⟩ := h
  refine jr_lc_lt (tgt := 17) hC dX8_in_2 dX8_in_3 (by decide) (fun hb2 => ?_) (fun hb2 => ?_)
  · have h := hthb2 hb2
    refine jr_sub [] (L1 := []) rfl ?_
    exact B17 h
  · have h := hfhb2 hb2
    refine jr_lload_n (j := 0) hC dX8_in_6 rfl rfl ?_
    refine jr_lload (j := 2) hC dX8_in_7 rfl ?_
    obtain ⟨hthb3, hfhb3⟩ := h
    refine jr_lc_gt (tgt := 17) hC dX8_in_9 dX8_in_10 (by decide) (fun hb3 => ?_) (fun hb3 => ?_)
    · have h := hthb3 hb3
      refine jr_sub [] (L1 := []) rfl ?_
      exact B17 h
    · have h := hfhb3 hb3
      refine jr_iconst (v := (1 : Int32)) hC dX8_in_13 (by decide) ?_
      refine jr_goto (tgt := 18) hC dX8_in_14 (by decide) ?_
      refine jr_sub [] (L1 := []) rfl ?_
      exact B18 (1 : Int32) h
set_option maxHeartbeats 4000000 in
set_option maxRecDepth 100000 in
theorem c_X8_isTrack {G : mw_G} {l : Launch} (hlt : l.stackTraces = false) {n : Nat} {M : mw_M} {x0 : Int32} {Q : Int32 → Prop} (h : w_X8_isTrack n M x0 Q) : mw_Met G l yX8_isTrack (.code yX8_isTrack cX8_isTrack 1 (some .boolean)) { frames := 1, cells := 0, slots := 0, locals := 25 } n M [.int x0] (fun n1 M1 v => n1 = n ∧ mw_pI M Q M1 v) (fun _ _ => False) := by
  refine mw_enter (L0 := [(0, .int x0)]) hlt rfl rfl (plainFor_of_name (by decide)) (Nat.le_of_ble_eq_true rfl) rfl ?_
  intro Y hC0 hZ hnL hini0 hn00
  have hC : mw_C G l _ Y cX8_isTrack RX8 := hC0
  unfold w_X8_isTrack at h
  refine jr_iload_n (j := 0) hC dX8_isTrack_0 rfl rfl ?_
  refine jr_i2l hC dX8_isTrack_1 ?_
  refine jr_lconst (v := (0 : Int64)) hC dX8_isTrack_2 (by decide) ?_
  refine jr_ldc2 (v := (3 : Int64)) hC tw_1081 dX8_isTrack_3 ?_
  refine jr_callS_pi (As := [.long (Int32.toInt64 x0), .long (0 : Int64), .long (3 : Int64)]) (st := []) hC nc_RX8_45 (c_X8_in hlt h) rfl rfl ⟨⟨rfl, rfl⟩, ⟨by decide, by decide⟩, by decide, by decide⟩ (Nat.le_of_ble_eq_true rfl) dX8_isTrack_6 (fun v1 h => ?_)
  obtain ⟨hc2, h⟩ := h
  exact jr_iretz hC hZ (by decide) (by decide) hc2 dX8_isTrack_9 ⟨rfl, rfl, _, rfl, h⟩
set_option maxHeartbeats 4000000 in
set_option maxRecDepth 100000 in
theorem c_X8_isPlace {G : mw_G} {l : Launch} (hlt : l.stackTraces = false) {n : Nat} {M : mw_M} {x0 : Int32} {Q : Int32 → Prop} (h : w_X8_isPlace n M x0 Q) : mw_Met G l yX8_isPlace (.code yX8_isPlace cX8_isPlace 1 (some .boolean)) { frames := 1, cells := 0, slots := 0, locals := 25 } n M [.int x0] (fun n1 M1 v => n1 = n ∧ mw_pI M Q M1 v) (fun _ _ => False) := by
  refine mw_enter (L0 := [(0, .int x0)]) hlt rfl rfl (plainFor_of_name (by decide)) (Nat.le_of_ble_eq_true rfl) rfl ?_
  intro Y hC0 hZ hnL hini0 hn00
  have hC : mw_C G l _ Y cX8_isPlace RX8 := hC0
  unfold w_X8_isPlace at h
  refine jr_iload_n (j := 0) hC dX8_isPlace_0 rfl rfl ?_
  refine jr_i2l hC dX8_isPlace_1 ?_
  refine jr_lconst (v := (0 : Int64)) hC dX8_isPlace_2 (by decide) ?_
  refine jr_ldc2 (v := (3999 : Int64)) hC tw_1130 dX8_isPlace_3 ?_
  refine jr_callS_pi (As := [.long (Int32.toInt64 x0), .long (0 : Int64), .long (3999 : Int64)]) (st := []) hC nc_RX8_45 (c_X8_in hlt h) rfl rfl ⟨⟨rfl, rfl⟩, ⟨by decide, by decide⟩, by decide, by decide⟩ (Nat.le_of_ble_eq_true rfl) dX8_isPlace_6 (fun v1 h => ?_)
  obtain ⟨hc2, h⟩ := h
  exact jr_iretz hC hZ (by decide) (by decide) hc2 dX8_isPlace_9 ⟨rfl, rfl, _, rfl, h⟩
set_option maxHeartbeats 4000000 in
set_option maxRecDepth 100000 in
theorem c_X8_isClip {G : mw_G} {l : Launch} (hlt : l.stackTraces = false) {n : Nat} {M : mw_M} {a0 : Nat} {x1 : Int32} {Q : Int32 → Prop} (h : w_X8_isClip n M a0 x1 Q) : mw_Met G l yX8_isClip (.code yX8_isClip cX8_isClip 2 (some .boolean)) { frames := 1, cells := 0, slots := 0, locals := 25 } n M [.ref a0, .int x1] (fun n1 M1 v => n1 = n ∧ mw_pI M Q M1 v) (fun _ _ => False) := by
  refine mw_enter (L0 := [(0, .ref a0), (1, .int x1)]) hlt rfl rfl (plainFor_of_name (by decide)) (Nat.le_of_ble_eq_true rfl) rfl ?_
  intro Y hC0 hZ hnL hini0 hn00
  have hC : mw_C G l _ Y cX8_isClip RX8 := hC0
  unfold w_X8_isClip at h
  refine jr_iload_n (j := 1) hC dX8_isClip_0 rfl rfl ?_
  refine jr_i2l hC dX8_isClip_1 ?_
  refine jr_lconst (v := (0 : Int64)) hC dX8_isClip_2 (by decide) ?_
  refine jr_aload_n (j := 0) hC dX8_isClip_3 rfl rfl ?_
  obtain ⟨hc1, h⟩ := h
  refine jr_get2 hC fl_RX8_7 hc1 dX8_isClip_4 ?_
  refine jr_bipush (v := (8 : Int32)) hC dX8_isClip_7 (by decide) ?_
  obtain ⟨hc2, h⟩ := h
  obtain ⟨hc3, h⟩ := h
  refine jr_iald hC hc2 hc3 dX8_isClip_9 ?_
  refine jr_iconst (v := (1 : Int32)) hC dX8_isClip_10 (by decide) ?_
  refine jr_isub hC dX8_isClip_11 ?_
  refine jr_i2l hC dX8_isClip_12 ?_
  refine jr_callS_pi (As := [.long (Int32.toInt64 x1), .long (0 : Int64), .long (Int32.toInt64 ((mI M (mP M a0 0) (Int32.toNatClampNeg (8 : Int32))) - (1 : Int32)))]) (st := []) hC nc_RX8_45 (c_X8_in hlt h) rfl rfl ⟨⟨rfl, rfl⟩, ⟨by decide, by decide⟩, by decide, by decide⟩ (Nat.le_of_ble_eq_true rfl) dX8_isClip_13 (fun v4 h => ?_)
  obtain ⟨hc5, h⟩ := h
  exact jr_iretz hC hZ (by decide) (by decide) hc5 dX8_isClip_16 ⟨rfl, rfl, _, rfl, h⟩
set_option maxHeartbeats 4000000 in
set_option maxRecDepth 100000 in
theorem c_X8_refuses {G : mw_G} {l : Launch} (hlt : l.stackTraces = false) {n : Nat} {M : mw_M} {a0 : Nat} {x1 : Int32} {Q : mw_M → Int32 → Prop} (h : w_X8_refuses n M a0 x1 Q) : mw_Met G l yX8_refuses (.code yX8_refuses cX8_refuses 2 (some .boolean)) { frames := 0, cells := 0, slots := 0, locals := 0 } n M [.ref a0, .int x1] (fun n1 M1 v => n1 = n ∧ mw_rI Q M1 v) (fun _ _ => False) := by
  refine mw_enter (L0 := [(0, .ref a0), (1, .int x1)]) hlt rfl rfl (plainFor_of_name (by decide)) (Nat.le_of_ble_eq_true rfl) rfl ?_
  intro Y hC0 hZ hnL hini0 hn00
  have hC : mw_C G l _ Y cX8_refuses RX8 := hC0
  have B14 : ∀ (M : mw_M) (s0 : Int32) (h : w_X8_refuses_b14 n M s0 Q), mw_J Y 0 0 n M 14 [] [.int s0] := by
    intro M s0 h
    unfold w_X8_refuses_b14 at h
    obtain ⟨hc1, h⟩ := h
    exact jr_iretz hC hZ (by decide) (by decide) hc1 dX8_refuses_14 ⟨rfl, _, rfl, h⟩
  unfold w_X8_refuses at h
  refine jr_aload_n (j := 0) hC dX8_refuses_0 rfl rfl ?_
  refine jr_iload_n (j := 1) hC dX8_refuses_1 rfl rfl ?_
  obtain ⟨hc2, h⟩ := h
  obtain ⟨M3, eM3⟩ : ∃ y : mw_M, y = sI M a0 5 x1 := ⟨_, rfl⟩
  have h := h M3 eM3
  refine jr_putI hC fp_RX8_39 hc2 eM3 dX8_refuses_2 ?_
  refine jr_iload_n (j := 1) hC dX8_refuses_5 rfl rfl ?_
  obtain ⟨hthb4, hfhb4⟩ := h
  refine jr_if_eq (tgt := 13) hC dX8_refuses_6 (by decide) (fun hb4 => ?_) (fun hb4 => ?_)
  · have h := hthb4 hb4
    refine jr_iconst (v := (0 : Int32)) hC dX8_refuses_13 (by decide) ?_
    refine jr_sub [] (L1 := []) rfl ?_
    exact B14 M3 (0 : Int32) h
  · have h := hfhb4 hb4
    refine jr_iconst (v := (1 : Int32)) hC dX8_refuses_9 (by decide) ?_
    refine jr_goto (tgt := 14) hC dX8_refuses_10 (by decide) ?_
    refine jr_sub [] (L1 := []) rfl ?_
    exact B14 M3 (1 : Int32) h
set_option maxHeartbeats 4000000 in
set_option maxRecDepth 100000 in
theorem c_X8_refusesChange {G : mw_G} {l : Launch} (hlt : l.stackTraces = false) {n : Nat} {M : mw_M} {a0 : Nat} {x1 : Int32} {Q : mw_M → Int32 → Prop} (h : w_X8_refusesChange n M a0 x1 Q) : mw_Met G l yX8_refusesChange (.code yX8_refusesChange cX8_refusesChange 3 (some .boolean)) { frames := 1, cells := 0, slots := 0, locals := 21 } n M [.ref a0, .int x1] (fun n1 M1 v => n1 = n ∧ mw_rI Q M1 v) (fun _ _ => False) := by
  refine mw_enter (L0 := [(0, .ref a0), (1, .int x1)]) hlt rfl rfl (plainFor_of_name (by decide)) (Nat.le_of_ble_eq_true rfl) rfl ?_
  intro Y hC0 hZ hnL hini0 hn00
  have hC : mw_C G l _ Y cX8_refusesChange RX8 := hC0
  have B88 : ∀ (M : mw_M) (r0 : Nat) (x2 : Int32) (h : w_X8_refusesChange_b88 n M r0 x2 Q), mw_J Y 0 0 n M 88 [(0, .ref r0), (2, .int x2)] [] := by
    intro M r0 x2 h
    obtain ⟨Inv, mu, h0, hs⟩ := h
    refine mw_loop2 (fun (M : mw_M) (x2 : Int32) => mw_J Y 0 0 n M 88 [(0, .ref r0), (2, .int x2)] []) Inv mu (fun M x2 hI hrec => ?_) M x2 h0
    have h := hs M x2 hI
    refine jr_iload_n (j := 1) hC dX8_refusesChange_88 rfl rfl ?_
    refine jr_sipush (v := (277 : Int32)) hC dX8_refusesChange_89 (by decide) ?_
    obtain ⟨hthb1, hfhb1⟩ := h
    refine jr_ic_ge (tgt := 122) hC dX8_refusesChange_92 (by decide) (fun hb1 => ?_) (fun hb1 => ?_)
    · have h := hthb1 hb1
      refine jr_aload_n (j := 0) hC dX8_refusesChange_122 rfl rfl ?_
      obtain ⟨hc2, h⟩ := h
      refine jr_get2 hC fl_RX8_22 hc2 dX8_refusesChange_123 ?_
      refine jr_aload_n (j := 0) hC dX8_refusesChange_126 rfl rfl ?_
      refine jr_get0 hC fl_RX8_55 hc2 dX8_refusesChange_127 ?_
      refine jr_aload_n (j := 0) hC dX8_refusesChange_130 rfl rfl ?_
      refine jr_get1 hC fl_RX8_15 hc2 dX8_refusesChange_131 ?_
      obtain ⟨hc3, h⟩ := h
      obtain ⟨hc4, h⟩ := h
      obtain ⟨M5, eM5⟩ : ∃ y : mw_M, y = sL M (mP M r0 3) (Int32.toNatClampNeg (mI M r0 4)) (mL M r0 1) := ⟨_, rfl⟩
      have h := h M5 eM5
      refine jr_last hC hc3 hc4 eM5 dX8_refusesChange_134 ?_
      refine jr_aload_n (j := 0) hC dX8_refusesChange_135 rfl rfl ?_
      refine jr_dup hC dX8_refusesChange_136 rfl ?_
      refine jr_get0 hC fl_RX8_55 hc2 dX8_refusesChange_137 ?_
      refine jr_iconst (v := (1 : Int32)) hC dX8_refusesChange_140 (by decide) ?_
      refine jr_iadd hC dX8_refusesChange_141 ?_
      obtain ⟨M6, eM6⟩ : ∃ y : mw_M, y = sI M5 r0 4 ((mI M5 r0 4) + (1 : Int32)) := ⟨_, rfl⟩
      have h := h M6 eM6
      refine jr_putI hC fp_RX8_55 hc2 eM6 dX8_refusesChange_142 ?_
      refine jr_iconst (v := (0 : Int32)) hC dX8_refusesChange_145 (by decide) ?_
      exact jr_iretz hC hZ (by decide) (by decide) (Or.inl rfl) dX8_refusesChange_146 ⟨rfl, _, rfl, h⟩
    · have h := hfhb1 hb1
      refine jr_aload_n (j := 0) hC dX8_refusesChange_95 rfl rfl ?_
      obtain ⟨hc7, h⟩ := h
      refine jr_get2 hC fl_RX8_19 hc7 dX8_refusesChange_96 ?_
      refine jr_sipush (v := (277 : Int32)) hC dX8_refusesChange_99 (by decide) ?_
      refine jr_aload_n (j := 0) hC dX8_refusesChange_102 rfl rfl ?_
      refine jr_get0 hC fl_RX8_55 hc7 dX8_refusesChange_103 ?_
      refine jr_imul hC dX8_refusesChange_106 ?_
      refine jr_iload_n (j := 1) hC dX8_refusesChange_107 rfl rfl ?_
      refine jr_iadd hC dX8_refusesChange_108 ?_
      refine jr_aload_n (j := 0) hC dX8_refusesChange_109 rfl rfl ?_
      refine jr_get2 hC fl_RX8_7 hc7 dX8_refusesChange_110 ?_
      refine jr_iload_n (j := 1) hC dX8_refusesChange_113 rfl rfl ?_
      obtain ⟨hc8, h⟩ := h
      obtain ⟨hc9, h⟩ := h
      refine jr_iald hC hc8 hc9 dX8_refusesChange_114 ?_
      obtain ⟨hc10, h⟩ := h
      obtain ⟨hc11, h⟩ := h
      obtain ⟨M12, eM12⟩ : ∃ y : mw_M, y = sI M (mP M r0 2) (Int32.toNatClampNeg (((277 : Int32) * (mI M r0 4)) + x2)) (mI M (mP M r0 0) (Int32.toNatClampNeg x2)) := ⟨_, rfl⟩
      have h := h M12 eM12
      refine jr_iast hC hc10 hc11 eM12 dX8_refusesChange_115 ?_
      obtain ⟨v13, ev13⟩ : ∃ y : Int32, y = (x2 + (1 : Int32)) := ⟨_, rfl⟩
      have h := h v13 ev13
      refine jr_iinc (j := 1) (v := v13) (L1 := [(2, .int v13), (0, .ref r0)]) hC dX8_refusesChange_116 rfl (by rw [ev13]; rfl) hnL (by decide) rfl ?_
      refine jr_goto (tgt := 88) hC dX8_refusesChange_119 (by decide) ?_
      refine jr_sub [1, 0] (L1 := [(0, .ref r0), (2, .int v13)]) rfl ?_
      exact hrec M12 v13 h
  have B86 : ∀ (M : mw_M) (r0 : Nat) (h : w_X8_refusesChange_b86 n M r0 Q), mw_J Y 0 0 n M 86 [(0, .ref r0)] [] := by
    intro M r0 h
    unfold w_X8_refusesChange_b86 at h
    refine jr_iconst (v := (0 : Int32)) hC dX8_refusesChange_86 (by decide) ?_
    refine jr_istore_n (L1 := [(2, .int (0 : Int32)), (0, .ref r0)]) hC dX8_refusesChange_87 rfl hnL (by decide) rfl ?_
    refine jr_sub [1, 0] (L1 := [(0, .ref r0), (2, .int (0 : Int32))]) rfl ?_
    exact B88 M r0 (0 : Int32) h
  have B51 : ∀ (M : mw_M) (r0 : Nat) (x2 : Int32) (h : w_X8_refusesChange_b51 n M r0 x2 Q), mw_J Y 0 0 n M 51 [(0, .ref r0), (2, .int x2)] [] := by
    intro M r0 x2 h
    obtain ⟨Inv, mu, h0, hs⟩ := h
    refine mw_loop2 (fun (M : mw_M) (x2 : Int32) => mw_J Y 0 0 n M 51 [(0, .ref r0), (2, .int x2)] []) Inv mu (fun M x2 hI hrec => ?_) M x2 h0
    have h := hs M x2 hI
    refine jr_iload_n (j := 1) hC dX8_refusesChange_51 rfl rfl ?_
    refine jr_iconst (v := (3 : Int32)) hC dX8_refusesChange_52 (by decide) ?_
    obtain ⟨hthb14, hfhb14⟩ := h
    refine jr_ic_ge (tgt := 76) hC dX8_refusesChange_53 (by decide) (fun hb14 => ?_) (fun hb14 => ?_)
    · have h := hthb14 hb14
      refine jr_aload_n (j := 0) hC dX8_refusesChange_76 rfl rfl ?_
      refine jr_dup hC dX8_refusesChange_77 rfl ?_
      obtain ⟨hc15, h⟩ := h
      refine jr_get0 hC fl_RX8_55 hc15 dX8_refusesChange_78 ?_
      refine jr_iconst (v := (1 : Int32)) hC dX8_refusesChange_81 (by decide) ?_
      refine jr_isub hC dX8_refusesChange_82 ?_
      obtain ⟨M16, eM16⟩ : ∃ y : mw_M, y = sI M r0 4 ((mI M r0 4) - (1 : Int32)) := ⟨_, rfl⟩
      have h := h M16 eM16
      refine jr_putI hC fp_RX8_55 hc15 eM16 dX8_refusesChange_83 ?_
      refine jr_sub [0] (L1 := [(0, .ref r0)]) rfl ?_
      exact B86 M16 r0 h
    · have h := hfhb14 hb14
      refine jr_aload_n (j := 0) hC dX8_refusesChange_56 rfl rfl ?_
      obtain ⟨hc17, h⟩ := h
      refine jr_get2 hC fl_RX8_22 hc17 dX8_refusesChange_57 ?_
      refine jr_iload_n (j := 1) hC dX8_refusesChange_60 rfl rfl ?_
      refine jr_aload_n (j := 0) hC dX8_refusesChange_61 rfl rfl ?_
      refine jr_get2 hC fl_RX8_22 hc17 dX8_refusesChange_62 ?_
      refine jr_iload_n (j := 1) hC dX8_refusesChange_65 rfl rfl ?_
      refine jr_iconst (v := (1 : Int32)) hC dX8_refusesChange_66 (by decide) ?_
      refine jr_iadd hC dX8_refusesChange_67 ?_
      obtain ⟨hc18, h⟩ := h
      obtain ⟨hc19, h⟩ := h
      refine jr_lald hC hc18 hc19 dX8_refusesChange_68 ?_
      obtain ⟨hc20, h⟩ := h
      obtain ⟨M21, eM21⟩ : ∃ y : mw_M, y = sL M (mP M r0 3) (Int32.toNatClampNeg x2) (mL M (mP M r0 3) (Int32.toNatClampNeg (x2 + (1 : Int32)))) := ⟨_, rfl⟩
      have h := h M21 eM21
      refine jr_last hC hc18 hc20 eM21 dX8_refusesChange_69 ?_
      obtain ⟨v22, ev22⟩ : ∃ y : Int32, y = (x2 + (1 : Int32)) := ⟨_, rfl⟩
      have h := h v22 ev22
      refine jr_iinc (j := 1) (v := v22) (L1 := [(2, .int v22), (0, .ref r0)]) hC dX8_refusesChange_70 rfl (by rw [ev22]; rfl) hnL (by decide) rfl ?_
      refine jr_goto (tgt := 51) hC dX8_refusesChange_73 (by decide) ?_
      refine jr_sub [1, 0] (L1 := [(0, .ref r0), (2, .int v22)]) rfl ?_
      exact hrec M21 v22 h
  have B20 : ∀ (M : mw_M) (r0 : Nat) (x2 : Int32) (h : w_X8_refusesChange_b20 n M r0 x2 Q), mw_J Y 0 0 n M 20 [(0, .ref r0), (2, .int x2)] [] := by
    intro M r0 x2 h
    obtain ⟨Inv, mu, h0, hs⟩ := h
    refine mw_loop2 (fun (M : mw_M) (x2 : Int32) => mw_J Y 0 0 n M 20 [(0, .ref r0), (2, .int x2)] []) Inv mu (fun M x2 hI hrec => ?_) M x2 h0
    have h := hs M x2 hI
    refine jr_iload_n (j := 1) hC dX8_refusesChange_20 rfl rfl ?_
    refine jr_sipush (v := (831 : Int32)) hC dX8_refusesChange_21 (by decide) ?_
    obtain ⟨hthb23, hfhb23⟩ := h
    refine jr_ic_ge (tgt := 49) hC dX8_refusesChange_24 (by decide) (fun hb23 => ?_) (fun hb23 => ?_)
    · have h := hthb23 hb23
      refine jr_iconst (v := (0 : Int32)) hC dX8_refusesChange_49 (by decide) ?_
      refine jr_istore_n (L1 := [(2, .int (0 : Int32)), (0, .ref r0)]) hC dX8_refusesChange_50 rfl hnL (by decide) rfl ?_
      refine jr_sub [1, 0] (L1 := [(0, .ref r0), (2, .int (0 : Int32))]) rfl ?_
      exact B51 M r0 (0 : Int32) h
    · have h := hfhb23 hb23
      refine jr_aload_n (j := 0) hC dX8_refusesChange_27 rfl rfl ?_
      obtain ⟨hc24, h⟩ := h
      refine jr_get2 hC fl_RX8_19 hc24 dX8_refusesChange_28 ?_
      refine jr_iload_n (j := 1) hC dX8_refusesChange_31 rfl rfl ?_
      refine jr_aload_n (j := 0) hC dX8_refusesChange_32 rfl rfl ?_
      refine jr_get2 hC fl_RX8_19 hc24 dX8_refusesChange_33 ?_
      refine jr_iload_n (j := 1) hC dX8_refusesChange_36 rfl rfl ?_
      refine jr_sipush (v := (277 : Int32)) hC dX8_refusesChange_37 (by decide) ?_
      refine jr_iadd hC dX8_refusesChange_40 ?_
      obtain ⟨hc25, h⟩ := h
      obtain ⟨hc26, h⟩ := h
      refine jr_iald hC hc25 hc26 dX8_refusesChange_41 ?_
      obtain ⟨hc27, h⟩ := h
      obtain ⟨M28, eM28⟩ : ∃ y : mw_M, y = sI M (mP M r0 2) (Int32.toNatClampNeg x2) (mI M (mP M r0 2) (Int32.toNatClampNeg (x2 + (277 : Int32)))) := ⟨_, rfl⟩
      have h := h M28 eM28
      refine jr_iast hC hc25 hc27 eM28 dX8_refusesChange_42 ?_
      obtain ⟨v29, ev29⟩ : ∃ y : Int32, y = (x2 + (1 : Int32)) := ⟨_, rfl⟩
      have h := h v29 ev29
      refine jr_iinc (j := 1) (v := v29) (L1 := [(2, .int v29), (0, .ref r0)]) hC dX8_refusesChange_43 rfl (by rw [ev29]; rfl) hnL (by decide) rfl ?_
      refine jr_goto (tgt := 20) hC dX8_refusesChange_46 (by decide) ?_
      refine jr_sub [1, 0] (L1 := [(0, .ref r0), (2, .int v29)]) rfl ?_
      exact hrec M28 v29 h
  unfold w_X8_refusesChange at h
  refine jr_aload_n (j := 0) hC dX8_refusesChange_0 rfl rfl ?_
  refine jr_iload_n (j := 1) hC dX8_refusesChange_1 rfl rfl ?_
  obtain ⟨hc30, h⟩ := h
  refine jr_callV_i (As := [.int x1]) (st := []) hC nc_RX8_51 (c_X8_refuses hlt h) hc30 rfl rfl ⟨⟨rfl, rfl⟩, ⟨by decide, by decide⟩, by decide, by decide⟩ (Nat.le_of_ble_eq_true rfl) dX8_refusesChange_2 (fun M31 v32 h => ?_)
  obtain ⟨hthb33, hfhb33⟩ := h
  refine jr_if_eq (tgt := 10) hC dX8_refusesChange_5 (by decide) (fun hb33 => ?_) (fun hb33 => ?_)
  · have h := hthb33 hb33
    refine jr_aload_n (j := 0) hC dX8_refusesChange_10 rfl rfl ?_
    refine jr_get0 hC fl_RX8_55 hc30 dX8_refusesChange_11 ?_
    refine jr_iconst (v := (4 : Int32)) hC dX8_refusesChange_14 (by decide) ?_
    obtain ⟨hthb34, hfhb34⟩ := h
    refine jr_ic_ne (tgt := 86) hC dX8_refusesChange_15 (by decide) (fun hb34 => ?_) (fun hb34 => ?_)
    · have h := hthb34 hb34
      refine jr_sub [0] (L1 := [(0, .ref a0)]) rfl ?_
      exact B86 M31 a0 h
    · have h := hfhb34 hb34
      refine jr_iconst (v := (0 : Int32)) hC dX8_refusesChange_18 (by decide) ?_
      refine jr_istore_n (L1 := [(2, .int (0 : Int32)), (0, .ref a0), (1, .int x1)]) hC dX8_refusesChange_19 rfl hnL (by decide) rfl ?_
      refine jr_sub [1, 0] (L1 := [(0, .ref a0), (2, .int (0 : Int32))]) rfl ?_
      exact B20 M31 a0 (0 : Int32) h
  · have h := hfhb33 hb33
    refine jr_iconst (v := (1 : Int32)) hC dX8_refusesChange_8 (by decide) ?_
    exact jr_iretz hC hZ (by decide) (by decide) (Or.inr rfl) dX8_refusesChange_9 ⟨rfl, _, rfl, h⟩
set_option maxHeartbeats 4000000 in
set_option maxRecDepth 100000 in
theorem c_X8_floor {G : mw_G} {l : Launch} (hlt : l.stackTraces = false) {n : Nat} {M : mw_M} {l0 : Int64} {l2 : Int64} {Q : Int64 → Prop} (h : w_X8_floor n M l0 l2 Q) : mw_Met G l yX8_floor (.code yX8_floor cX8_floor 6 (some .long)) { frames := 0, cells := 0, slots := 0, locals := 0 } n M [.long l0, .long l2] (fun n1 M1 v => n1 = n ∧ mw_pJ M Q M1 v) (fun _ _ => False) := by
  refine mw_enter (L0 := [(0, .long l0), (2, .long l2)]) hlt rfl rfl (plainFor_of_name (by decide)) (Nat.le_of_ble_eq_true rfl) rfl ?_
  intro Y hC0 hZ hnL hini0 hn00
  have hC : mw_C G l _ Y cX8_floor RX8 := hC0
  have B22 : ∀ (s0l : Int64) (h : w_X8_floor_b22 n M s0l Q), mw_J Y 0 0 n M 22 [] [.long s0l] := by
    intro s0l h
    unfold w_X8_floor_b22 at h
    exact jr_lret hC hZ (by decide) (by decide) dX8_floor_22 ⟨rfl, rfl, _, rfl, h⟩
  unfold w_X8_floor at h
  refine jr_lload_n (j := 0) hC dX8_floor_0 rfl rfl ?_
  refine jr_lload_n (j := 1) hC dX8_floor_1 rfl rfl ?_
  obtain ⟨hc1, h⟩ := h
  refine jr_ldiv hC dX8_floor_2 hc1 ?_
  refine jr_nmJ (fun w2 ew2 => ?_)
  have h := h w2 ew2
  refine jr_lstore (L1 := [(4, .long w2), (0, .long l0), (2, .long l2)]) hC dX8_floor_3 hnL (by decide) rfl ?_
  refine jr_lload_n (j := 1) hC dX8_floor_5 rfl rfl ?_
  refine jr_lload_n (j := 2) hC dX8_floor_6 rfl rfl ?_
  refine jr_lrem hC dX8_floor_7 hc1 ?_
  refine jr_lconst (v := (0 : Int64)) hC dX8_floor_8 (by decide) ?_
  obtain ⟨hthb3, hfhb3⟩ := h
  refine jr_lc_ge (tgt := 20) hC dX8_floor_9 dX8_floor_10 (by decide) (fun hb3 => ?_) (fun hb3 => ?_)
  · have h := hthb3 hb3
    refine jr_lload (j := 0) hC dX8_floor_20 rfl ?_
    refine jr_sub [] (L1 := []) rfl ?_
    exact B22 w2 h
  · have h := hfhb3 hb3
    refine jr_lload (j := 0) hC dX8_floor_13 rfl ?_
    refine jr_lconst (v := (1 : Int64)) hC dX8_floor_15 (by decide) ?_
    refine jr_lsub hC dX8_floor_16 ?_
    refine jr_goto (tgt := 22) hC dX8_floor_17 (by decide) ?_
    refine jr_sub [] (L1 := []) rfl ?_
    exact B22 (w2 - (1 : Int64)) h
set_option maxHeartbeats 4000000 in
set_option maxRecDepth 100000 in
theorem c_X8_applied {G : mw_G} {l : Launch} (hlt : l.stackTraces = false) {n : Nat} {M : mw_M} {l0 : Int64} {x2 : Int32} {Q : Int32 → Prop} (h : w_X8_applied n M l0 x2 Q) : mw_Met G l yX8_applied (.code yX8_applied cX8_applied 3 (some .int)) { frames := 1, cells := 0, slots := 0, locals := 25 } n M [.long l0, .int x2] (fun n1 M1 v => n1 = n ∧ mw_pI M Q M1 v) (fun _ _ => False) := by
  refine mw_enter (L0 := [(0, .long l0), (2, .int x2)]) hlt rfl rfl (plainFor_of_name (by decide)) (Nat.le_of_ble_eq_true rfl) rfl ?_
  intro Y hC0 hZ hnL hini0 hn00
  have hC : mw_C G l _ Y cX8_applied RX8 := hC0
  unfold w_X8_applied at h
  refine jr_lload_n (j := 0) hC dX8_applied_0 rfl rfl ?_
  refine jr_iload_n (j := 1) hC dX8_applied_1 rfl rfl ?_
  refine jr_i2l hC dX8_applied_2 ?_
  refine jr_lmul hC dX8_applied_3 ?_
  refine jr_ldc2 (v := (1000 : Int64)) hC tw_1086 dX8_applied_4 ?_
  refine jr_callS_pj (As := [.long (l0 * (Int32.toInt64 x2)), .long (1000 : Int64)]) (st := []) hC nc_RX8_60 (c_X8_floor hlt h) rfl rfl ⟨⟨rfl, rfl⟩, ⟨by decide, by decide⟩, by decide, by decide⟩ (Nat.le_of_ble_eq_true rfl) dX8_applied_7 (fun w1 h => ?_)
  refine jr_l2i hC dX8_applied_10 ?_
  exact jr_ireti hC hZ (by decide) (by decide) dX8_applied_11 ⟨rfl, rfl, _, rfl, h⟩
set_option maxHeartbeats 4000000 in
set_option maxRecDepth 100000 in
theorem c_X8_becomes {G : mw_G} {l : Launch} (hlt : l.stackTraces = false) {n : Nat} {M : mw_M} {a0 : Nat} {x1 : Int32} {x2 : Int32} {Q : mw_M → Int32 → Prop} (h : w_X8_becomes n M a0 x1 x2 Q) : mw_Met G l yX8_becomes (.code yX8_becomes cX8_becomes 4 (some .int)) { frames := 0, cells := 0, slots := 0, locals := 0 } n M [.ref a0, .int x1, .int x2] (fun n1 M1 v => n1 = n ∧ mw_rI Q M1 v) (fun _ _ => False) := by
  refine mw_enter (L0 := [(0, .ref a0), (1, .int x1), (2, .int x2)]) hlt rfl rfl (plainFor_of_name (by decide)) (Nat.le_of_ble_eq_true rfl) rfl ?_
  intro Y hC0 hZ hnL hini0 hn00
  have hC : mw_C G l _ Y cX8_becomes RX8 := hC0
  unfold w_X8_becomes at h
  refine jr_aload_n (j := 0) hC dX8_becomes_0 rfl rfl ?_
  obtain ⟨hc1, h⟩ := h
  refine jr_get2 hC fl_RX8_7 hc1 dX8_becomes_1 ?_
  refine jr_iload_n (j := 1) hC dX8_becomes_4 rfl rfl ?_
  obtain ⟨hc2, h⟩ := h
  obtain ⟨hc3, h⟩ := h
  refine jr_iald hC hc2 hc3 dX8_becomes_5 ?_
  refine jr_nmI (fun v4 ev4 => ?_)
  have h := h v4 ev4
  refine jr_istore_n (L1 := [(3, .int v4), (0, .ref a0), (1, .int x1), (2, .int x2)]) hC dX8_becomes_6 rfl hnL (by decide) rfl ?_
  refine jr_aload_n (j := 1) hC dX8_becomes_7 rfl rfl ?_
  refine jr_get2 hC fl_RX8_7 hc1 dX8_becomes_8 ?_
  refine jr_iload_n (j := 2) hC dX8_becomes_11 rfl rfl ?_
  refine jr_iload_n (j := 3) hC dX8_becomes_12 rfl rfl ?_
  obtain ⟨M5, eM5⟩ : ∃ y : mw_M, y = sI M (mP M a0 0) (Int32.toNatClampNeg x1) x2 := ⟨_, rfl⟩
  have h := h M5 eM5
  refine jr_iast hC hc2 hc3 eM5 dX8_becomes_13 ?_
  refine jr_iload_n (j := 0) hC dX8_becomes_14 rfl rfl ?_
  exact jr_ireti hC hZ (by decide) (by decide) dX8_becomes_15 ⟨rfl, _, rfl, h⟩
set_option maxHeartbeats 4000000 in
set_option maxRecDepth 100000 in
theorem c_X8_isSource {G : mw_G} {l : Launch} (hlt : l.stackTraces = false) {n : Nat} {M : mw_M} {x0 : Int32} {Q : Int32 → Prop} (h : w_X8_isSource n M x0 Q) : mw_Met G l yX8_isSource (.code yX8_isSource cX8_isSource 1 (some .boolean)) { frames := 1, cells := 0, slots := 0, locals := 25 } n M [.int x0] (fun n1 M1 v => n1 = n ∧ mw_pI M Q M1 v) (fun _ _ => False) := by
  refine mw_enter (L0 := [(0, .int x0)]) hlt rfl rfl (plainFor_of_name (by decide)) (Nat.le_of_ble_eq_true rfl) rfl ?_
  intro Y hC0 hZ hnL hini0 hn00
  have hC : mw_C G l _ Y cX8_isSource RX8 := hC0
  unfold w_X8_isSource at h
  refine jr_iload_n (j := 0) hC dX8_isSource_0 rfl rfl ?_
  refine jr_i2l hC dX8_isSource_1 ?_
  refine jr_lconst (v := (0 : Int64)) hC dX8_isSource_2 (by decide) ?_
  refine jr_ldc2 (v := (5 : Int64)) hC tw_1091 dX8_isSource_3 ?_
  refine jr_callS_pi (As := [.long (Int32.toInt64 x0), .long (0 : Int64), .long (5 : Int64)]) (st := []) hC nc_RX8_45 (c_X8_in hlt h) rfl rfl ⟨⟨rfl, rfl⟩, ⟨by decide, by decide⟩, by decide, by decide⟩ (Nat.le_of_ble_eq_true rfl) dX8_isSource_6 (fun v1 h => ?_)
  obtain ⟨hc2, h⟩ := h
  exact jr_iretz hC hZ (by decide) (by decide) hc2 dX8_isSource_9 ⟨rfl, rfl, _, rfl, h⟩
set_option maxHeartbeats 4000000 in
set_option maxRecDepth 100000 in
theorem c_X8_setSource {G : mw_G} {l : Launch} (hlt : l.stackTraces = false) {n : Nat} {M : mw_M} {a0 : Nat} {x1 : Int32} {x2 : Int32} {x3 : Int32} {x4 : Int32} {x5 : Int32} {Q : mw_M → Int32 → Prop} (h : w_X8_setSource n M a0 x1 x2 x3 x4 x5 Q) : mw_Met G l yX8_setSource (.code yX8_setSource cX8_setSource 8 (some .int)) { frames := 2, cells := 0, slots := 0, locals := 45 } n M [.ref a0, .int x1, .int x2, .int x3, .int x4, .int x5] (fun n1 M1 v => n1 = n ∧ mw_rI Q M1 v) (fun _ _ => False) := by
  refine mw_enter (L0 := [(0, .ref a0), (1, .int x1), (2, .int x2), (3, .int x3), (4, .int x4), (5, .int x5)]) hlt rfl rfl (plainFor_of_name (by decide)) (Nat.le_of_ble_eq_true rfl) rfl ?_
  intro Y hC0 hZ hnL hini0 hn00
  have hC : mw_C G l _ Y cX8_setSource RX8 := hC0
  have B79 : ∀ (M : mw_M) (r0 : Nat) (x1 : Int32) (x2 : Int32) (x3 : Int32) (x4 : Int32) (x5 : Int32) (s0 : Int32) (s1r : Nat) (h : w_X8_setSource_b79 n M r0 x1 x2 x3 x4 x5 s0 s1r Q), mw_J Y 0 0 n M 79 [(0, .ref r0), (1, .int x1), (2, .int x2), (3, .int x3), (4, .int x4), (5, .int x5)] [.int s0, .ref s1r] := by
    intro M r0 x1 x2 x3 x4 x5 s0 s1r h
    unfold w_X8_setSource_b79 at h
    obtain ⟨hc1, h⟩ := h
    refine jr_callV_i (As := [.int s0]) (st := []) hC nc_RX8_73 (c_X8_refusesChange hlt h) hc1 rfl rfl ⟨⟨rfl, rfl⟩, ⟨by decide, by decide⟩, by decide, by decide⟩ (Nat.le_of_ble_eq_true rfl) dX8_setSource_79 (fun M2 v3 h => ?_)
    obtain ⟨hthb4, hfhb4⟩ := h
    refine jr_if_eq (tgt := 87) hC dX8_setSource_82 (by decide) (fun hb4 => ?_) (fun hb4 => ?_)
    · have h := hthb4 hb4
      refine jr_bipush (v := (9 : Int32)) hC dX8_setSource_87 (by decide) ?_
      refine jr_iconst (v := (4 : Int32)) hC dX8_setSource_89 (by decide) ?_
      refine jr_iload_n (j := 1) hC dX8_setSource_90 rfl rfl ?_
      refine jr_imul hC dX8_setSource_91 ?_
      refine jr_iadd hC dX8_setSource_92 ?_
      refine jr_nmI (fun v5 ev5 => ?_)
      have h := h v5 ev5
      refine jr_istore (L1 := [(7, .int v5), (0, .ref r0), (1, .int x1), (2, .int x2), (3, .int x3), (4, .int x4), (5, .int x5)]) hC dX8_setSource_93 hnL (by decide) rfl ?_
      refine jr_aload_n (j := 1) hC dX8_setSource_95 rfl rfl ?_
      obtain ⟨hc6, h⟩ := h
      refine jr_get2 hC fl_RX8_7 hc6 dX8_setSource_96 ?_
      refine jr_iload (j := 0) hC dX8_setSource_99 rfl ?_
      refine jr_iload_n (j := 3) hC dX8_setSource_101 rfl rfl ?_
      obtain ⟨hc7, h⟩ := h
      obtain ⟨hc8, h⟩ := h
      obtain ⟨M9, eM9⟩ : ∃ y : mw_M, y = sI M2 (mP M2 r0 0) (Int32.toNatClampNeg v5) x2 := ⟨_, rfl⟩
      have h := h M9 eM9
      refine jr_iast hC hc7 hc8 eM9 dX8_setSource_102 ?_
      refine jr_aload_n (j := 1) hC dX8_setSource_103 rfl rfl ?_
      refine jr_get2 hC fl_RX8_7 hc6 dX8_setSource_104 ?_
      refine jr_iload (j := 0) hC dX8_setSource_107 rfl ?_
      refine jr_iconst (v := (1 : Int32)) hC dX8_setSource_109 (by decide) ?_
      refine jr_iadd hC dX8_setSource_110 ?_
      refine jr_iload_n (j := 4) hC dX8_setSource_111 rfl rfl ?_
      obtain ⟨hc10, h⟩ := h
      obtain ⟨hc11, h⟩ := h
      obtain ⟨M12, eM12⟩ : ∃ y : mw_M, y = sI M9 (mP M9 r0 0) (Int32.toNatClampNeg (v5 + (1 : Int32))) x3 := ⟨_, rfl⟩
      have h := h M12 eM12
      refine jr_iast hC hc10 hc11 eM12 dX8_setSource_112 ?_
      refine jr_aload_n (j := 1) hC dX8_setSource_113 rfl rfl ?_
      refine jr_get2 hC fl_RX8_7 hc6 dX8_setSource_114 ?_
      refine jr_iload (j := 0) hC dX8_setSource_117 rfl ?_
      refine jr_iconst (v := (2 : Int32)) hC dX8_setSource_119 (by decide) ?_
      refine jr_iadd hC dX8_setSource_120 ?_
      refine jr_iload (j := 5) hC dX8_setSource_121 rfl ?_
      obtain ⟨hc13, h⟩ := h
      obtain ⟨hc14, h⟩ := h
      obtain ⟨M15, eM15⟩ : ∃ y : mw_M, y = sI M12 (mP M12 r0 0) (Int32.toNatClampNeg (v5 + (2 : Int32))) x4 := ⟨_, rfl⟩
      have h := h M15 eM15
      refine jr_iast hC hc13 hc14 eM15 dX8_setSource_123 ?_
      refine jr_aload_n (j := 1) hC dX8_setSource_124 rfl rfl ?_
      refine jr_iload (j := 0) hC dX8_setSource_125 rfl ?_
      refine jr_iconst (v := (3 : Int32)) hC dX8_setSource_127 (by decide) ?_
      refine jr_iadd hC dX8_setSource_128 ?_
      refine jr_iload (j := 6) hC dX8_setSource_129 rfl ?_
      refine jr_callV_i (As := [.int (v5 + (3 : Int32)), .int x5]) (st := []) hC nc_RX8_76 (c_X8_becomes hlt h) hc6 rfl rfl ⟨⟨rfl, rfl⟩, ⟨by decide, by decide⟩, by decide, by decide⟩ (Nat.le_of_ble_eq_true rfl) dX8_setSource_131 (fun M16 v17 h => ?_)
      exact jr_ireti hC hZ (by decide) (by decide) dX8_setSource_134 ⟨rfl, _, rfl, h⟩
    · have h := hfhb4 hb4
      refine jr_iconst (v := (0 : Int32)) hC dX8_setSource_85 (by decide) ?_
      exact jr_ireti hC hZ (by decide) (by decide) dX8_setSource_86 ⟨rfl, _, rfl, h⟩
  have B55 : ∀ (M : mw_M) (r0 : Nat) (x1 : Int32) (x2 : Int32) (x3 : Int32) (x4 : Int32) (x5 : Int32) (s0 : Int32) (h : w_X8_setSource_b55 n M r0 x1 x2 x3 x4 x5 s0 Q), mw_J Y 0 0 n M 55 [(0, .ref r0), (1, .int x1), (2, .int x2), (3, .int x3), (4, .int x4), (5, .int x5)] [.int s0] := by
    intro M r0 x1 x2 x3 x4 x5 s0 h
    unfold w_X8_setSource_b55 at h
    refine jr_istore (L1 := [(6, .int s0), (0, .ref r0), (1, .int x1), (2, .int x2), (3, .int x3), (4, .int x4), (5, .int x5)]) hC dX8_setSource_55 hnL (by decide) rfl ?_
    refine jr_aload_n (j := 1) hC dX8_setSource_57 rfl rfl ?_
    refine jr_iload_n (j := 2) hC dX8_setSource_58 rfl rfl ?_
    refine jr_callS_pi (As := [.int x1]) (st := [.ref r0]) hC nc_RX8_70 (c_X8_isSource hlt h) rfl rfl ⟨⟨rfl, rfl⟩, ⟨by decide, by decide⟩, by decide, by decide⟩ (Nat.le_of_ble_eq_true rfl) dX8_setSource_59 (fun v18 h => ?_)
    obtain ⟨hthb19, hfhb19⟩ := h
    refine jr_if_ne (tgt := 69) hC dX8_setSource_62 (by decide) (fun hb19 => ?_) (fun hb19 => ?_)
    · have h := hthb19 hb19
      refine jr_iload (j := 0) hC dX8_setSource_69 rfl ?_
      obtain ⟨hthb20, hfhb20⟩ := h
      refine jr_if_eq (tgt := 78) hC dX8_setSource_71 (by decide) (fun hb20 => ?_) (fun hb20 => ?_)
      · have h := hthb20 hb20
        refine jr_iconst (v := (2 : Int32)) hC dX8_setSource_78 (by decide) ?_
        refine jr_sub [1, 2, 3, 4, 5, 6] (L1 := [(0, .ref r0), (1, .int x1), (2, .int x2), (3, .int x3), (4, .int x4), (5, .int x5)]) rfl ?_
        exact B79 M r0 x1 x2 x3 x4 x5 (2 : Int32) r0 h
      · have h := hfhb20 hb20
        refine jr_iconst (v := (0 : Int32)) hC dX8_setSource_74 (by decide) ?_
        refine jr_goto (tgt := 79) hC dX8_setSource_75 (by decide) ?_
        refine jr_sub [1, 2, 3, 4, 5, 6] (L1 := [(0, .ref r0), (1, .int x1), (2, .int x2), (3, .int x3), (4, .int x4), (5, .int x5)]) rfl ?_
        exact B79 M r0 x1 x2 x3 x4 x5 (0 : Int32) r0 h
    · have h := hfhb19 hb19
      refine jr_iconst (v := (1 : Int32)) hC dX8_setSource_65 (by decide) ?_
      refine jr_goto (tgt := 79) hC dX8_setSource_66 (by decide) ?_
      refine jr_sub [1, 2, 3, 4, 5, 6] (L1 := [(0, .ref r0), (1, .int x1), (2, .int x2), (3, .int x3), (4, .int x4), (5, .int x5)]) rfl ?_
      exact B79 M r0 x1 x2 x3 x4 x5 (1 : Int32) r0 h
  have B54 : ∀ (M : mw_M) (r0 : Nat) (x1 : Int32) (x2 : Int32) (x3 : Int32) (x4 : Int32) (x5 : Int32) (h : w_X8_setSource_b54 n M r0 x1 x2 x3 x4 x5 Q), mw_J Y 0 0 n M 54 [(0, .ref r0), (1, .int x1), (2, .int x2), (3, .int x3), (4, .int x4), (5, .int x5)] [] := by
    intro M r0 x1 x2 x3 x4 x5 h
    unfold w_X8_setSource_b54 at h
    refine jr_iconst (v := (0 : Int32)) hC dX8_setSource_54 (by decide) ?_
    exact B55 M r0 x1 x2 x3 x4 x5 (0 : Int32) h
  unfold w_X8_setSource at h
  refine jr_iload_n (j := 2) hC dX8_setSource_0 rfl rfl ?_
  refine jr_i2l hC dX8_setSource_1 ?_
  refine jr_lconst (v := (0 : Int64)) hC dX8_setSource_2 (by decide) ?_
  refine jr_ldc2 (v := (3 : Int64)) hC tw_1081 dX8_setSource_3 ?_
  refine jr_callS_pi (As := [.long (Int32.toInt64 x2), .long (0 : Int64), .long (3 : Int64)]) (st := []) hC nc_RX8_45 (c_X8_in hlt h) rfl rfl ⟨⟨rfl, rfl⟩, ⟨by decide, by decide⟩, by decide, by decide⟩ (Nat.le_of_ble_eq_true rfl) dX8_setSource_6 (fun v21 h => ?_)
  obtain ⟨hthb22, hfhb22⟩ := h
  refine jr_if_eq (tgt := 54) hC dX8_setSource_9 (by decide) (fun hb22 => ?_) (fun hb22 => ?_)
  · have h := hthb22 hb22
    exact B54 M a0 x1 x2 x3 x4 x5 h
  · have h := hfhb22 hb22
    refine jr_iload_n (j := 3) hC dX8_setSource_12 rfl rfl ?_
    refine jr_i2l hC dX8_setSource_13 ?_
    refine jr_lconst (v := (0 : Int64)) hC dX8_setSource_14 (by decide) ?_
    refine jr_ldc2 (v := (10000 : Int64)) hC tw_1085 dX8_setSource_15 ?_
    refine jr_callS_pi (As := [.long (Int32.toInt64 x3), .long (0 : Int64), .long (10000 : Int64)]) (st := []) hC nc_RX8_45 (c_X8_in hlt h) rfl rfl ⟨⟨rfl, rfl⟩, ⟨by decide, by decide⟩, by decide, by decide⟩ (Nat.le_of_ble_eq_true rfl) dX8_setSource_18 (fun v23 h => ?_)
    obtain ⟨hthb24, hfhb24⟩ := h
    refine jr_if_eq (tgt := 54) hC dX8_setSource_21 (by decide) (fun hb24 => ?_) (fun hb24 => ?_)
    · have h := hthb24 hb24
      exact B54 M a0 x1 x2 x3 x4 x5 h
    · have h := hfhb24 hb24
      refine jr_iload (j := 4) hC dX8_setSource_24 rfl ?_
      refine jr_i2l hC dX8_setSource_26 ?_
      refine jr_lconst (v := (1 : Int64)) hC dX8_setSource_27 (by decide) ?_
      refine jr_ldc2 (v := (1000 : Int64)) hC tw_1086 dX8_setSource_28 ?_
      refine jr_callS_pi (As := [.long (Int32.toInt64 x4), .long (1 : Int64), .long (1000 : Int64)]) (st := []) hC nc_RX8_45 (c_X8_in hlt h) rfl rfl ⟨⟨rfl, rfl⟩, ⟨by decide, by decide⟩, by decide, by decide⟩ (Nat.le_of_ble_eq_true rfl) dX8_setSource_31 (fun v25 h => ?_)
      obtain ⟨hthb26, hfhb26⟩ := h
      refine jr_if_eq (tgt := 54) hC dX8_setSource_34 (by decide) (fun hb26 => ?_) (fun hb26 => ?_)
      · have h := hthb26 hb26
        exact B54 M a0 x1 x2 x3 x4 x5 h
      · have h := hfhb26 hb26
        refine jr_iload (j := 5) hC dX8_setSource_37 rfl ?_
        refine jr_i2l hC dX8_setSource_39 ?_
        refine jr_lconst (v := (1 : Int64)) hC dX8_setSource_40 (by decide) ?_
        refine jr_ldc2 (v := (4000 : Int64)) hC tw_1087 dX8_setSource_41 ?_
        refine jr_callS_pi (As := [.long (Int32.toInt64 x5), .long (1 : Int64), .long (4000 : Int64)]) (st := []) hC nc_RX8_45 (c_X8_in hlt h) rfl rfl ⟨⟨rfl, rfl⟩, ⟨by decide, by decide⟩, by decide, by decide⟩ (Nat.le_of_ble_eq_true rfl) dX8_setSource_44 (fun v27 h => ?_)
        obtain ⟨hthb28, hfhb28⟩ := h
        refine jr_if_eq (tgt := 54) hC dX8_setSource_47 (by decide) (fun hb28 => ?_) (fun hb28 => ?_)
        · have h := hthb28 hb28
          exact B54 M a0 x1 x2 x3 x4 x5 h
        · have h := hfhb28 hb28
          refine jr_iconst (v := (1 : Int32)) hC dX8_setSource_50 (by decide) ?_
          refine jr_goto (tgt := 55) hC dX8_setSource_51 (by decide) ?_
          exact B55 M a0 x1 x2 x3 x4 x5 (1 : Int32) h
set_option maxHeartbeats 4000000 in
set_option maxRecDepth 100000 in
theorem c_X8_sampleOf {G : mw_G} {l : Launch} (hlt : l.stackTraces = false) {n : Nat} {M : mw_M} {a0 : Nat} {x1 : Int32} {x2 : Int32} {Q : Int32 → Prop} (h : w_X8_sampleOf n M a0 x1 x2 Q) : mw_Met G l yX8_sampleOf (.code yX8_sampleOf cX8_sampleOf 8 (some .int)) { frames := 0, cells := 0, slots := 0, locals := 0 } n M [.ref a0, .int x1, .int x2] (fun n1 M1 v => n1 = n ∧ mw_pI M Q M1 v) (fun _ _ => False) := by
  refine mw_enter (L0 := [(0, .ref a0), (1, .int x1), (2, .int x2)]) hlt rfl rfl (plainFor_of_name (by decide)) (Nat.le_of_ble_eq_true rfl) rfl ?_
  intro Y hC0 hZ hnL hini0 hn00
  have hC : mw_C G l _ Y cX8_sampleOf RX8 := hC0
  have B87 : ∀ (s0 : Int32) (h : w_X8_sampleOf_b87 n M s0 Q), mw_J Y 0 0 n M 87 [] [.int s0] := by
    intro s0 h
    unfold w_X8_sampleOf_b87 at h
    exact jr_ireti hC hZ (by decide) (by decide) dX8_sampleOf_87 ⟨rfl, rfl, _, rfl, h⟩
  unfold w_X8_sampleOf at h
  refine jr_aload_n (j := 0) hC dX8_sampleOf_0 rfl rfl ?_
  obtain ⟨hc1, h⟩ := h
  refine jr_get2 hC fl_RX8_7 hc1 dX8_sampleOf_1 ?_
  refine jr_bipush (v := (9 : Int32)) hC dX8_sampleOf_4 (by decide) ?_
  refine jr_iconst (v := (4 : Int32)) hC dX8_sampleOf_6 (by decide) ?_
  refine jr_iload_n (j := 1) hC dX8_sampleOf_7 rfl rfl ?_
  refine jr_imul hC dX8_sampleOf_8 ?_
  refine jr_iadd hC dX8_sampleOf_9 ?_
  refine jr_iconst (v := (1 : Int32)) hC dX8_sampleOf_10 (by decide) ?_
  refine jr_iadd hC dX8_sampleOf_11 ?_
  obtain ⟨hc2, h⟩ := h
  obtain ⟨hc3, h⟩ := h
  refine jr_iald hC hc2 hc3 dX8_sampleOf_12 ?_
  refine jr_nmI (fun v4 ev4 => ?_)
  have h := h v4 ev4
  refine jr_istore_n (L1 := [(3, .int v4), (0, .ref a0), (1, .int x1), (2, .int x2)]) hC dX8_sampleOf_13 rfl hnL (by decide) rfl ?_
  refine jr_aload_n (j := 1) hC dX8_sampleOf_14 rfl rfl ?_
  refine jr_get2 hC fl_RX8_7 hc1 dX8_sampleOf_15 ?_
  refine jr_bipush (v := (9 : Int32)) hC dX8_sampleOf_18 (by decide) ?_
  refine jr_iconst (v := (4 : Int32)) hC dX8_sampleOf_20 (by decide) ?_
  refine jr_iload_n (j := 2) hC dX8_sampleOf_21 rfl rfl ?_
  refine jr_imul hC dX8_sampleOf_22 ?_
  refine jr_iadd hC dX8_sampleOf_23 ?_
  refine jr_iconst (v := (2 : Int32)) hC dX8_sampleOf_24 (by decide) ?_
  refine jr_iadd hC dX8_sampleOf_25 ?_
  obtain ⟨hc5, h⟩ := h
  refine jr_iald hC hc2 hc5 dX8_sampleOf_26 ?_
  refine jr_nmI (fun v6 ev6 => ?_)
  have h := h v6 ev6
  refine jr_istore (L1 := [(4, .int v6), (3, .int v4), (0, .ref a0), (1, .int x1), (2, .int x2)]) hC dX8_sampleOf_27 hnL (by decide) rfl ?_
  refine jr_iload_n (j := 4) hC dX8_sampleOf_29 rfl rfl ?_
  refine jr_iload (j := 0) hC dX8_sampleOf_30 rfl ?_
  obtain ⟨hc7, h⟩ := h
  refine jr_irem hC dX8_sampleOf_32 hc7 ?_
  refine jr_nmI (fun v8 ev8 => ?_)
  have h := h v8 ev8
  refine jr_istore (L1 := [(5, .int v8), (4, .int v6), (3, .int v4), (0, .ref a0), (1, .int x1), (2, .int x2)]) hC dX8_sampleOf_33 hnL (by decide) rfl ?_
  refine jr_aload_n (j := 3) hC dX8_sampleOf_35 rfl rfl ?_
  refine jr_get2 hC fl_RX8_7 hc1 dX8_sampleOf_36 ?_
  refine jr_bipush (v := (9 : Int32)) hC dX8_sampleOf_39 (by decide) ?_
  refine jr_iconst (v := (4 : Int32)) hC dX8_sampleOf_41 (by decide) ?_
  refine jr_iload_n (j := 4) hC dX8_sampleOf_42 rfl rfl ?_
  refine jr_imul hC dX8_sampleOf_43 ?_
  refine jr_iadd hC dX8_sampleOf_44 ?_
  obtain ⟨hc9, h⟩ := h
  refine jr_iald hC hc2 hc9 dX8_sampleOf_45 ?_
  obtain ⟨hs0, hs1, hs2, hs3⟩ := h
  rcases (show Int32.toInt (mI M (mP M a0 0) (Int32.toNatClampNeg ((9 : Int32) + ((4 : Int32) * x1)))) < 1 ∨ 3 < Int32.toInt (mI M (mP M a0 0) (Int32.toNatClampNeg ((9 : Int32) + ((4 : Int32) * x1)))) ∨ Int32.toInt (mI M (mP M a0 0) (Int32.toNatClampNeg ((9 : Int32) + ((4 : Int32) * x1)))) = 1 ∨ Int32.toInt (mI M (mP M a0 0) (Int32.toNatClampNeg ((9 : Int32) + ((4 : Int32) * x1)))) = 2 ∨ Int32.toInt (mI M (mP M a0 0) (Int32.toNatClampNeg ((9 : Int32) + ((4 : Int32) * x1)))) = 3 from by omega) with hq | hq | hq | hq | hq
  · have h := hs0 (Or.inl hq)
    refine jr_tout (tgt := 139) hC (Or.inl hq) dX8_sampleOf_46 (by decide) ?_
    refine jr_iload_n (j := 2) hC dX8_sampleOf_139 rfl rfl ?_
    exact jr_ireti hC hZ (by decide) (by decide) dX8_sampleOf_140 ⟨rfl, rfl, _, rfl, h⟩
  · have h := hs0 (Or.inr hq)
    refine jr_tout (tgt := 139) hC (Or.inr hq) dX8_sampleOf_46 (by decide) ?_
    refine jr_iload_n (j := 2) hC dX8_sampleOf_139 rfl rfl ?_
    exact jr_ireti hC hZ (by decide) (by decide) dX8_sampleOf_140 ⟨rfl, rfl, _, rfl, h⟩
  · have h := hs1 hq
    refine jr_tin (tgt := 72) hC 1 hq dX8_sampleOf_46 (by decide) (by decide) rfl (by decide) ?_
    refine jr_iconst (v := (2 : Int32)) hC dX8_sampleOf_72 (by decide) ?_
    refine jr_iload (j := 0) hC dX8_sampleOf_73 rfl ?_
    refine jr_imul hC dX8_sampleOf_75 ?_
    refine jr_iload (j := 1) hC dX8_sampleOf_76 rfl ?_
    obtain ⟨hthb10, hfhb10⟩ := h
    refine jr_ic_ge (tgt := 85) hC dX8_sampleOf_78 (by decide) (fun hb10 => ?_) (fun hb10 => ?_)
    · have h := hthb10 hb10
      refine jr_iload_n (j := 2) hC dX8_sampleOf_85 rfl rfl ?_
      refine jr_ineg hC dX8_sampleOf_86 ?_
      refine jr_sub [] (L1 := []) rfl ?_
      exact B87 (-v4) h
    · have h := hfhb10 hb10
      refine jr_iload_n (j := 2) hC dX8_sampleOf_81 rfl rfl ?_
      refine jr_goto (tgt := 87) hC dX8_sampleOf_82 (by decide) ?_
      refine jr_sub [] (L1 := []) rfl ?_
      exact B87 v4 h
  · have h := hs2 hq
    refine jr_tin (tgt := 88) hC 2 hq dX8_sampleOf_46 (by decide) (by decide) rfl (by decide) ?_
    refine jr_iconst (v := (2 : Int32)) hC dX8_sampleOf_88 (by decide) ?_
    refine jr_iload_n (j := 2) hC dX8_sampleOf_89 rfl rfl ?_
    refine jr_imul hC dX8_sampleOf_90 ?_
    refine jr_iload (j := 0) hC dX8_sampleOf_91 rfl ?_
    refine jr_imul hC dX8_sampleOf_93 ?_
    refine jr_iload (j := 1) hC dX8_sampleOf_94 rfl ?_
    refine jr_idiv hC dX8_sampleOf_96 hc7 ?_
    refine jr_iload_n (j := 2) hC dX8_sampleOf_97 rfl rfl ?_
    refine jr_isub hC dX8_sampleOf_98 ?_
    exact jr_ireti hC hZ (by decide) (by decide) dX8_sampleOf_99 ⟨rfl, rfl, _, rfl, h⟩
  · have h := hs3 hq
    refine jr_tin (tgt := 100) hC 3 hq dX8_sampleOf_46 (by decide) (by decide) rfl (by decide) ?_
    refine jr_ldc2 (v := (1103515245 : Int64)) hC tw_1116 dX8_sampleOf_100 ?_
    refine jr_iload_n (j := 5) hC dX8_sampleOf_103 rfl rfl ?_
    refine jr_iconst (v := (1 : Int32)) hC dX8_sampleOf_104 (by decide) ?_
    refine jr_iadd hC dX8_sampleOf_105 ?_
    refine jr_i2l hC dX8_sampleOf_106 ?_
    refine jr_lmul hC dX8_sampleOf_107 ?_
    refine jr_ldc2 (v := (12345 : Int64)) hC tw_1117 dX8_sampleOf_108 ?_
    refine jr_iload (j := 1) hC dX8_sampleOf_111 rfl ?_
    refine jr_i2l hC dX8_sampleOf_113 ?_
    refine jr_lmul hC dX8_sampleOf_114 ?_
    refine jr_ladd hC dX8_sampleOf_115 ?_
    refine jr_ldc2 (v := (2147483648 : Int64)) hC tw_1118 dX8_sampleOf_116 ?_
    refine jr_lrem hC dX8_sampleOf_119 (by decide) ?_
    refine jr_nmJ (fun w11 ew11 => ?_)
    have h := h w11 ew11
    refine jr_lstore (L1 := [(6, .long w11), (5, .int v8), (4, .int v6), (3, .int v4), (0, .ref a0), (1, .int x1), (2, .int x2)]) hC dX8_sampleOf_120 hnL (by decide) rfl ?_
    refine jr_lload (j := 0) hC dX8_sampleOf_122 rfl ?_
    refine jr_ldc2 (v := (65536 : Int64)) hC tw_1119 dX8_sampleOf_124 ?_
    refine jr_ldiv hC dX8_sampleOf_127 (by decide) ?_
    refine jr_iconst (v := (2 : Int32)) hC dX8_sampleOf_128 (by decide) ?_
    refine jr_iload_n (j := 3) hC dX8_sampleOf_129 rfl rfl ?_
    refine jr_imul hC dX8_sampleOf_130 ?_
    refine jr_iconst (v := (1 : Int32)) hC dX8_sampleOf_131 (by decide) ?_
    refine jr_iadd hC dX8_sampleOf_132 ?_
    refine jr_i2l hC dX8_sampleOf_133 ?_
    obtain ⟨hc12, h⟩ := h
    refine jr_lrem hC dX8_sampleOf_134 hc12 ?_
    refine jr_l2i hC dX8_sampleOf_135 ?_
    refine jr_iload_n (j := 3) hC dX8_sampleOf_136 rfl rfl ?_
    refine jr_isub hC dX8_sampleOf_137 ?_
    exact jr_ireti hC hZ (by decide) (by decide) dX8_sampleOf_138 ⟨rfl, rfl, _, rfl, h⟩
set_option maxHeartbeats 4000000 in
set_option maxRecDepth 100000 in
theorem c_X8_hasSample {G : mw_G} {l : Launch} (hlt : l.stackTraces = false) {n : Nat} {M : mw_M} {a0 : Nat} {x1 : Int32} {x2 : Int32} {Q : Int32 → Prop} (h : w_X8_hasSample n M a0 x1 x2 Q) : mw_Met G l yX8_hasSample (.code yX8_hasSample cX8_hasSample 3 (some .boolean)) { frames := 0, cells := 0, slots := 0, locals := 0 } n M [.ref a0, .int x1, .int x2] (fun n1 M1 v => n1 = n ∧ mw_pI M Q M1 v) (fun _ _ => False) := by
  refine mw_enter (L0 := [(0, .ref a0), (1, .int x1), (2, .int x2)]) hlt rfl rfl (plainFor_of_name (by decide)) (Nat.le_of_ble_eq_true rfl) rfl ?_
  intro Y hC0 hZ hnL hini0 hn00
  have hC : mw_C G l _ Y cX8_hasSample RX8 := hC0
  have B22 : ∀ (s0 : Int32) (h : w_X8_hasSample_b22 n M s0 Q), mw_J Y 0 0 n M 22 [] [.int s0] := by
    intro s0 h
    unfold w_X8_hasSample_b22 at h
    obtain ⟨hc1, h⟩ := h
    exact jr_iretz hC hZ (by decide) (by decide) hc1 dX8_hasSample_22 ⟨rfl, rfl, _, rfl, h⟩
  unfold w_X8_hasSample at h
  refine jr_iload_n (j := 2) hC dX8_hasSample_0 rfl rfl ?_
  refine jr_aload_n (j := 0) hC dX8_hasSample_1 rfl rfl ?_
  obtain ⟨hc2, h⟩ := h
  refine jr_get2 hC fl_RX8_7 hc2 dX8_hasSample_2 ?_
  refine jr_bipush (v := (9 : Int32)) hC dX8_hasSample_5 (by decide) ?_
  refine jr_iconst (v := (4 : Int32)) hC dX8_hasSample_7 (by decide) ?_
  refine jr_iload_n (j := 1) hC dX8_hasSample_8 rfl rfl ?_
  refine jr_imul hC dX8_hasSample_9 ?_
  refine jr_iadd hC dX8_hasSample_10 ?_
  refine jr_iconst (v := (3 : Int32)) hC dX8_hasSample_11 (by decide) ?_
  refine jr_iadd hC dX8_hasSample_12 ?_
  obtain ⟨hc3, h⟩ := h
  obtain ⟨hc4, h⟩ := h
  refine jr_iald hC hc3 hc4 dX8_hasSample_13 ?_
  obtain ⟨hthb5, hfhb5⟩ := h
  refine jr_ic_ge (tgt := 21) hC dX8_hasSample_14 (by decide) (fun hb5 => ?_) (fun hb5 => ?_)
  · have h := hthb5 hb5
    refine jr_iconst (v := (0 : Int32)) hC dX8_hasSample_21 (by decide) ?_
    refine jr_sub [] (L1 := []) rfl ?_
    exact B22 (0 : Int32) h
  · have h := hfhb5 hb5
    refine jr_iconst (v := (1 : Int32)) hC dX8_hasSample_17 (by decide) ?_
    refine jr_goto (tgt := 22) hC dX8_hasSample_18 (by decide) ?_
    refine jr_sub [] (L1 := []) rfl ?_
    exact B22 (1 : Int32) h
set_option maxHeartbeats 4000000 in
set_option maxRecDepth 100000 in
theorem c_X8_sample {G : mw_G} {l : Launch} (hlt : l.stackTraces = false) {n : Nat} {M : mw_M} {a0 : Nat} {x1 : Int32} {x2 : Int32} {Q : mw_M → Int32 → Prop} (h : w_X8_sample n M a0 x1 x2 Q) : mw_Met G l yX8_sample (.code yX8_sample cX8_sample 3 (some .int)) { frames := 2, cells := 0, slots := 0, locals := 45 } n M [.ref a0, .int x1, .int x2] (fun n1 M1 v => n1 = n ∧ mw_rI Q M1 v) (fun _ _ => False) := by
  refine mw_enter (L0 := [(0, .ref a0), (1, .int x1), (2, .int x2)]) hlt rfl rfl (plainFor_of_name (by decide)) (Nat.le_of_ble_eq_true rfl) rfl ?_
  intro Y hC0 hZ hnL hini0 hn00
  have hC : mw_C G l _ Y cX8_sample RX8 := hC0
  have B42 : ∀ (M : mw_M) (s0 : Int32) (h : w_X8_sample_b42 n M s0 Q), mw_J Y 0 0 n M 42 [] [.int s0] := by
    intro M s0 h
    unfold w_X8_sample_b42 at h
    exact jr_ireti hC hZ (by decide) (by decide) dX8_sample_42 ⟨rfl, _, rfl, h⟩
  have B26 : ∀ (M : mw_M) (r0 : Nat) (x1 : Int32) (x2 : Int32) (s0 : Int32) (s1r : Nat) (h : w_X8_sample_b26 n M r0 x1 x2 s0 s1r Q), mw_J Y 0 0 n M 26 [(0, .ref r0), (1, .int x1), (2, .int x2)] [.int s0, .ref s1r] := by
    intro M r0 x1 x2 s0 s1r h
    unfold w_X8_sample_b26 at h
    obtain ⟨hc1, h⟩ := h
    refine jr_callV_i (As := [.int s0]) (st := []) hC nc_RX8_51 (c_X8_refuses hlt h) hc1 rfl rfl ⟨⟨rfl, rfl⟩, ⟨by decide, by decide⟩, by decide, by decide⟩ (Nat.le_of_ble_eq_true rfl) dX8_sample_26 (fun M2 v3 h => ?_)
    obtain ⟨hthb4, hfhb4⟩ := h
    refine jr_if_eq (tgt := 36) hC dX8_sample_29 (by decide) (fun hb4 => ?_) (fun hb4 => ?_)
    · have h := hthb4 hb4
      refine jr_aload_n (j := 0) hC dX8_sample_36 rfl rfl ?_
      refine jr_iload_n (j := 1) hC dX8_sample_37 rfl rfl ?_
      refine jr_iload_n (j := 2) hC dX8_sample_38 rfl rfl ?_
      obtain ⟨hc5, h⟩ := h
      refine jr_callV_pi (As := [.int x1, .int x2]) (st := []) hC nc_RX8_92 (c_X8_sampleOf hlt h) hc5 rfl rfl ⟨⟨rfl, rfl⟩, ⟨by decide, by decide⟩, by decide, by decide⟩ (Nat.le_of_ble_eq_true rfl) dX8_sample_39 (fun v6 h => ?_)
      refine jr_sub [] (L1 := []) rfl ?_
      exact B42 M2 v6 h
    · have h := hfhb4 hb4
      refine jr_iconst (v := (0 : Int32)) hC dX8_sample_32 (by decide) ?_
      refine jr_goto (tgt := 42) hC dX8_sample_33 (by decide) ?_
      refine jr_sub [] (L1 := []) rfl ?_
      exact B42 M2 (0 : Int32) h
  have B25 : ∀ (M : mw_M) (r0 : Nat) (x1 : Int32) (x2 : Int32) (s0r : Nat) (h : w_X8_sample_b25 n M r0 x1 x2 s0r Q), mw_J Y 0 0 n M 25 [(0, .ref r0), (1, .int x1), (2, .int x2)] [.ref s0r] := by
    intro M r0 x1 x2 s0r h
    unfold w_X8_sample_b25 at h
    refine jr_iconst (v := (1 : Int32)) hC dX8_sample_25 (by decide) ?_
    exact B26 M r0 x1 x2 (1 : Int32) s0r h
  unfold w_X8_sample at h
  refine jr_aload_n (j := 0) hC dX8_sample_0 rfl rfl ?_
  refine jr_iload_n (j := 1) hC dX8_sample_1 rfl rfl ?_
  refine jr_callS_pi (As := [.int x1]) (st := [.ref a0]) hC nc_RX8_70 (c_X8_isSource hlt h) rfl rfl ⟨⟨rfl, rfl⟩, ⟨by decide, by decide⟩, by decide, by decide⟩ (Nat.le_of_ble_eq_true rfl) dX8_sample_2 (fun v7 h => ?_)
  obtain ⟨hthb8, hfhb8⟩ := h
  refine jr_if_eq (tgt := 25) hC dX8_sample_5 (by decide) (fun hb8 => ?_) (fun hb8 => ?_)
  · have h := hthb8 hb8
    exact B25 M a0 x1 x2 a0 h
  · have h := hfhb8 hb8
    refine jr_iload_n (j := 2) hC dX8_sample_8 rfl rfl ?_
    obtain ⟨hthb9, hfhb9⟩ := h
    refine jr_if_lt (tgt := 25) hC dX8_sample_9 (by decide) (fun hb9 => ?_) (fun hb9 => ?_)
    · have h := hthb9 hb9
      exact B25 M a0 x1 x2 a0 h
    · have h := hfhb9 hb9
      refine jr_aload_n (j := 0) hC dX8_sample_12 rfl rfl ?_
      refine jr_iload_n (j := 1) hC dX8_sample_13 rfl rfl ?_
      refine jr_iload_n (j := 2) hC dX8_sample_14 rfl rfl ?_
      obtain ⟨hc10, h⟩ := h
      refine jr_callV_pi (As := [.int x1, .int x2]) (st := [.ref a0]) hC nc_RX8_88 (c_X8_hasSample hlt h) hc10 rfl rfl ⟨⟨rfl, rfl⟩, ⟨by decide, by decide⟩, by decide, by decide⟩ (Nat.le_of_ble_eq_true rfl) dX8_sample_15 (fun v11 h => ?_)
      obtain ⟨hthb12, hfhb12⟩ := h
      refine jr_if_eq (tgt := 25) hC dX8_sample_18 (by decide) (fun hb12 => ?_) (fun hb12 => ?_)
      · have h := hthb12 hb12
        exact B25 M a0 x1 x2 a0 h
      · have h := hfhb12 hb12
        refine jr_iconst (v := (0 : Int32)) hC dX8_sample_21 (by decide) ?_
        refine jr_goto (tgt := 26) hC dX8_sample_22 (by decide) ?_
        exact B26 M a0 x1 x2 (0 : Int32) a0 h
set_option maxHeartbeats 4000000 in
set_option maxRecDepth 100000 in
theorem c_X8_tries {G : mw_G} {l : Launch} (hlt : l.stackTraces = false) {n : Nat} {M : mw_M} {a0 : Nat} {Q : mw_M → Prop} (h : w_X8_tries n M a0 Q) : mw_Met G l yX8_tries (.code yX8_tries cX8_tries 2 none) { frames := 0, cells := 0, slots := 0, locals := 0 } n M [.ref a0] (fun n1 M1 v => n1 = n ∧ mw_rV Q M1 v) (fun _ _ => False) := by
  refine mw_enter (L0 := [(0, .ref a0)]) hlt rfl rfl (plainFor_of_name (by decide)) (Nat.le_of_ble_eq_true rfl) rfl ?_
  intro Y hC0 hZ hnL hini0 hn00
  have hC : mw_C G l _ Y cX8_tries RX8 := hC0
  have B13 : ∀ (M : mw_M) (r0 : Nat) (x1 : Int32) (h : w_X8_tries_b13 n M r0 x1 Q), mw_J Y 0 0 n M 13 [(0, .ref r0), (1, .int x1)] [] := by
    intro M r0 x1 h
    obtain ⟨Inv, mu, h0, hs⟩ := h
    refine mw_loop2 (fun (M : mw_M) (x1 : Int32) => mw_J Y 0 0 n M 13 [(0, .ref r0), (1, .int x1)] []) Inv mu (fun M x1 hI hrec => ?_) M x1 h0
    have h := hs M x1 hI
    refine jr_iload_n (j := 1) hC dX8_tries_13 rfl rfl ?_
    refine jr_bipush (v := (9 : Int32)) hC dX8_tries_14 (by decide) ?_
    refine jr_aload_n (j := 0) hC dX8_tries_16 rfl rfl ?_
    obtain ⟨hc1, h⟩ := h
    refine jr_get0 hC fl_RX8_95 hc1 dX8_tries_17 ?_
    refine jr_imul hC dX8_tries_20 ?_
    obtain ⟨hthb2, hfhb2⟩ := h
    refine jr_ic_ge (tgt := 45) hC dX8_tries_21 (by decide) (fun hb2 => ?_) (fun hb2 => ?_)
    · have h := hthb2 hb2
      exact jr_vret hC hZ (by decide) (by decide) dX8_tries_45 ⟨rfl, rfl, h⟩
    · have h := hfhb2 hb2
      refine jr_aload_n (j := 0) hC dX8_tries_24 rfl rfl ?_
      refine jr_get2 hC fl_RX8_26 hc1 dX8_tries_25 ?_
      refine jr_iload_n (j := 1) hC dX8_tries_28 rfl rfl ?_
      refine jr_aload_n (j := 0) hC dX8_tries_29 rfl rfl ?_
      refine jr_get2 hC fl_RX8_7 hc1 dX8_tries_30 ?_
      refine jr_bipush (v := (33 : Int32)) hC dX8_tries_33 (by decide) ?_
      refine jr_iload_n (j := 1) hC dX8_tries_35 rfl rfl ?_
      refine jr_iadd hC dX8_tries_36 ?_
      obtain ⟨hc3, h⟩ := h
      obtain ⟨hc4, h⟩ := h
      refine jr_iald hC hc3 hc4 dX8_tries_37 ?_
      obtain ⟨hc5, h⟩ := h
      obtain ⟨hc6, h⟩ := h
      obtain ⟨M7, eM7⟩ : ∃ y : mw_M, y = sI M (mP M r0 7) (Int32.toNatClampNeg x1) (mI M (mP M r0 0) (Int32.toNatClampNeg ((33 : Int32) + x1))) := ⟨_, rfl⟩
      have h := h M7 eM7
      refine jr_iast hC hc5 hc6 eM7 dX8_tries_38 ?_
      obtain ⟨v8, ev8⟩ : ∃ y : Int32, y = (x1 + (1 : Int32)) := ⟨_, rfl⟩
      have h := h v8 ev8
      refine jr_iinc (j := 1) (v := v8) (L1 := [(1, .int v8), (0, .ref r0)]) hC dX8_tries_39 rfl (by rw [ev8]; rfl) hnL (by decide) rfl ?_
      refine jr_goto (tgt := 13) hC dX8_tries_42 (by decide) ?_
      refine jr_sub [1, 0] (L1 := [(0, .ref r0), (1, .int v8)]) rfl ?_
      exact hrec M7 v8 h
  unfold w_X8_tries at h
  refine jr_aload_n (j := 0) hC dX8_tries_0 rfl rfl ?_
  refine jr_aload_n (j := 0) hC dX8_tries_1 rfl rfl ?_
  obtain ⟨hc9, h⟩ := h
  refine jr_get2 hC fl_RX8_7 hc9 dX8_tries_2 ?_
  refine jr_bipush (v := (8 : Int32)) hC dX8_tries_5 (by decide) ?_
  obtain ⟨hc10, h⟩ := h
  obtain ⟨hc11, h⟩ := h
  refine jr_iald hC hc10 hc11 dX8_tries_7 ?_
  obtain ⟨M12, eM12⟩ : ∃ y : mw_M, y = sI M a0 6 (mI M (mP M a0 0) (Int32.toNatClampNeg (8 : Int32))) := ⟨_, rfl⟩
  have h := h M12 eM12
  refine jr_putI hC fp_RX8_95 hc9 eM12 dX8_tries_8 ?_
  refine jr_iconst (v := (0 : Int32)) hC dX8_tries_11 (by decide) ?_
  refine jr_istore_n (L1 := [(1, .int (0 : Int32)), (0, .ref a0)]) hC dX8_tries_12 rfl hnL (by decide) rfl ?_
  refine jr_sub [1, 0] (L1 := [(0, .ref a0), (1, .int (0 : Int32))]) rfl ?_
  exact B13 M12 a0 (0 : Int32) h
set_option maxHeartbeats 4000000 in
set_option maxRecDepth 100000 in
theorem c_X8_of {G : mw_G} {l : Launch} (hlt : l.stackTraces = false) {n : Nat} {M : mw_M} {a0 : Nat} {x1 : Int32} {x2 : Int32} {Q : Int32 → Prop} (h : w_X8_of n M a0 x1 x2 Q) : mw_Met G l yX8_of (.code yX8_of cX8_of 3 (some .int)) { frames := 0, cells := 0, slots := 0, locals := 0 } n M [.ref a0, .int x1, .int x2] (fun n1 M1 v => n1 = n ∧ mw_pI M Q M1 v) (fun _ _ => False) := by
  refine mw_enter (L0 := [(0, .ref a0), (1, .int x1), (2, .int x2)]) hlt rfl rfl (plainFor_of_name (by decide)) (Nat.le_of_ble_eq_true rfl) rfl ?_
  intro Y hC0 hZ hnL hini0 hn00
  have hC : mw_C G l _ Y cX8_of RX8 := hC0
  unfold w_X8_of at h
  refine jr_aload_n (j := 0) hC dX8_of_0 rfl rfl ?_
  obtain ⟨hc1, h⟩ := h
  refine jr_get2 hC fl_RX8_26 hc1 dX8_of_1 ?_
  refine jr_bipush (v := (9 : Int32)) hC dX8_of_4 (by decide) ?_
  refine jr_iload_n (j := 1) hC dX8_of_6 rfl rfl ?_
  refine jr_imul hC dX8_of_7 ?_
  refine jr_iload_n (j := 2) hC dX8_of_8 rfl rfl ?_
  refine jr_iadd hC dX8_of_9 ?_
  obtain ⟨hc2, h⟩ := h
  obtain ⟨hc3, h⟩ := h
  refine jr_iald hC hc2 hc3 dX8_of_10 ?_
  exact jr_ireti hC hZ (by decide) (by decide) dX8_of_11 ⟨rfl, rfl, _, rfl, h⟩
set_option maxHeartbeats 4000000 in
set_option maxRecDepth 100000 in
theorem c_X8_set {G : mw_G} {l : Launch} (hlt : l.stackTraces = false) {n : Nat} {M : mw_M} {a0 : Nat} {x1 : Int32} {x2 : Int32} {x3 : Int32} {Q : mw_M → Prop} (h : w_X8_set n M a0 x1 x2 x3 Q) : mw_Met G l yX8_set (.code yX8_set cX8_set 4 none) { frames := 0, cells := 0, slots := 0, locals := 0 } n M [.ref a0, .int x1, .int x2, .int x3] (fun n1 M1 v => n1 = n ∧ mw_rV Q M1 v) (fun _ _ => False) := by
  refine mw_enter (L0 := [(0, .ref a0), (1, .int x1), (2, .int x2), (3, .int x3)]) hlt rfl rfl (plainFor_of_name (by decide)) (Nat.le_of_ble_eq_true rfl) rfl ?_
  intro Y hC0 hZ hnL hini0 hn00
  have hC : mw_C G l _ Y cX8_set RX8 := hC0
  unfold w_X8_set at h
  refine jr_aload_n (j := 0) hC dX8_set_0 rfl rfl ?_
  obtain ⟨hc1, h⟩ := h
  refine jr_get2 hC fl_RX8_26 hc1 dX8_set_1 ?_
  refine jr_bipush (v := (9 : Int32)) hC dX8_set_4 (by decide) ?_
  refine jr_iload_n (j := 1) hC dX8_set_6 rfl rfl ?_
  refine jr_imul hC dX8_set_7 ?_
  refine jr_iload_n (j := 2) hC dX8_set_8 rfl rfl ?_
  refine jr_iadd hC dX8_set_9 ?_
  refine jr_iload_n (j := 3) hC dX8_set_10 rfl rfl ?_
  obtain ⟨hc2, h⟩ := h
  obtain ⟨hc3, h⟩ := h
  obtain ⟨M4, eM4⟩ : ∃ y : mw_M, y = sI M (mP M a0 7) (Int32.toNatClampNeg (((9 : Int32) * x1) + x2)) x3 := ⟨_, rfl⟩
  have h := h M4 eM4
  refine jr_iast hC hc2 hc3 eM4 dX8_set_11 ?_
  exact jr_vret hC hZ (by decide) (by decide) dX8_set_12 ⟨rfl, rfl, h⟩
set_option maxHeartbeats 4000000 in
set_option maxRecDepth 100000 in
theorem c_X8_endOf {G : mw_G} {l : Launch} (hlt : l.stackTraces = false) {n : Nat} {M : mw_M} {a0 : Nat} {x1 : Int32} {Q : Int32 → Prop} (h : w_X8_endOf n M a0 x1 Q) : mw_Met G l yX8_endOf (.code yX8_endOf cX8_endOf 2 (some .int)) { frames := 1, cells := 0, slots := 0, locals := 22 } n M [.ref a0, .int x1] (fun n1 M1 v => n1 = n ∧ mw_pI M Q M1 v) (fun _ _ => False) := by
  refine mw_enter (L0 := [(0, .ref a0), (1, .int x1)]) hlt rfl rfl (plainFor_of_name (by decide)) (Nat.le_of_ble_eq_true rfl) rfl ?_
  intro Y hC0 hZ hnL hini0 hn00
  have hC : mw_C G l _ Y cX8_endOf RX8 := hC0
  unfold w_X8_endOf at h
  refine jr_aload_n (j := 0) hC dX8_endOf_0 rfl rfl ?_
  refine jr_iload_n (j := 1) hC dX8_endOf_1 rfl rfl ?_
  refine jr_iconst (v := (2 : Int32)) hC dX8_endOf_2 (by decide) ?_
  obtain ⟨hc1, h⟩ := h
  refine jr_callV_pi (As := [.int x1, .int (2 : Int32)]) (st := []) hC nc_RX8_98 (c_X8_of hlt h) hc1 rfl rfl ⟨⟨rfl, rfl⟩, ⟨by decide, by decide⟩, by decide, by decide⟩ (Nat.le_of_ble_eq_true rfl) dX8_endOf_3 (fun v2 h => ?_)
  refine jr_aload_n (j := 0) hC dX8_endOf_6 rfl rfl ?_
  refine jr_iload_n (j := 1) hC dX8_endOf_7 rfl rfl ?_
  refine jr_iconst (v := (4 : Int32)) hC dX8_endOf_8 (by decide) ?_
  refine jr_callV_pi (As := [.int x1, .int (4 : Int32)]) (st := [.int v2]) hC nc_RX8_98 (c_X8_of hlt h) hc1 rfl rfl ⟨⟨rfl, rfl⟩, ⟨by decide, by decide⟩, by decide, by decide⟩ (Nat.le_of_ble_eq_true rfl) dX8_endOf_9 (fun v3 h => ?_)
  refine jr_iadd hC dX8_endOf_12 ?_
  exact jr_ireti hC hZ (by decide) (by decide) dX8_endOf_13 ⟨rfl, rfl, _, rfl, h⟩
set_option maxHeartbeats 4000000 in
set_option maxRecDepth 100000 in
theorem c_X8_shifts {G : mw_G} {l : Launch} (hlt : l.stackTraces = false) {n : Nat} {M : mw_M} {a0 : Nat} {x1 : Int32} {x2 : Int32} {Q : mw_M → Prop} (h : w_X8_shifts n M a0 x1 x2 Q) : mw_Met G l yX8_shifts (.code yX8_shifts cX8_shifts 4 none) { frames := 0, cells := 0, slots := 0, locals := 0 } n M [.ref a0, .int x1, .int x2] (fun n1 M1 v => n1 = n ∧ mw_rV Q M1 v) (fun _ _ => False) := by
  refine mw_enter (L0 := [(0, .ref a0), (1, .int x1), (2, .int x2)]) hlt rfl rfl (plainFor_of_name (by decide)) (Nat.le_of_ble_eq_true rfl) rfl ?_
  intro Y hC0 hZ hnL hini0 hn00
  have hC : mw_C G l _ Y cX8_shifts RX8 := hC0
  have B2 : ∀ (M : mw_M) (r0 : Nat) (x1 : Int32) (x2 : Int32) (x3 : Int32) (h : w_X8_shifts_b2 n M r0 x1 x2 x3 Q), mw_J Y 0 0 n M 2 [(0, .ref r0), (1, .int x1), (2, .int x2), (3, .int x3)] [] := by
    intro M r0 x1 x2 x3 h
    obtain ⟨Inv, mu, h0, hs⟩ := h
    refine mw_loop2 (fun (M : mw_M) (x3 : Int32) => mw_J Y 0 0 n M 2 [(0, .ref r0), (1, .int x1), (2, .int x2), (3, .int x3)] []) Inv mu (fun M x3 hI hrec => ?_) M x3 h0
    have h := hs M x3 hI
    refine jr_iload_n (j := 3) hC dX8_shifts_2 rfl rfl ?_
    refine jr_bipush (v := (9 : Int32)) hC dX8_shifts_3 (by decide) ?_
    obtain ⟨hthb1, hfhb1⟩ := h
    refine jr_ic_ge (tgt := 36) hC dX8_shifts_5 (by decide) (fun hb1 => ?_) (fun hb1 => ?_)
    · have h := hthb1 hb1
      exact jr_vret hC hZ (by decide) (by decide) dX8_shifts_36 ⟨rfl, rfl, h⟩
    · have h := hfhb1 hb1
      refine jr_aload_n (j := 0) hC dX8_shifts_8 rfl rfl ?_
      obtain ⟨hc2, h⟩ := h
      refine jr_get2 hC fl_RX8_26 hc2 dX8_shifts_9 ?_
      refine jr_bipush (v := (9 : Int32)) hC dX8_shifts_12 (by decide) ?_
      refine jr_iload_n (j := 2) hC dX8_shifts_14 rfl rfl ?_
      refine jr_imul hC dX8_shifts_15 ?_
      refine jr_iload_n (j := 3) hC dX8_shifts_16 rfl rfl ?_
      refine jr_iadd hC dX8_shifts_17 ?_
      refine jr_aload_n (j := 0) hC dX8_shifts_18 rfl rfl ?_
      refine jr_get2 hC fl_RX8_26 hc2 dX8_shifts_19 ?_
      refine jr_bipush (v := (9 : Int32)) hC dX8_shifts_22 (by decide) ?_
      refine jr_iload_n (j := 1) hC dX8_shifts_24 rfl rfl ?_
      refine jr_imul hC dX8_shifts_25 ?_
      refine jr_iload_n (j := 3) hC dX8_shifts_26 rfl rfl ?_
      refine jr_iadd hC dX8_shifts_27 ?_
      obtain ⟨hc3, h⟩ := h
      obtain ⟨hc4, h⟩ := h
      refine jr_iald hC hc3 hc4 dX8_shifts_28 ?_
      obtain ⟨hc5, h⟩ := h
      obtain ⟨M6, eM6⟩ : ∃ y : mw_M, y = sI M (mP M r0 7) (Int32.toNatClampNeg (((9 : Int32) * x2) + x3)) (mI M (mP M r0 7) (Int32.toNatClampNeg (((9 : Int32) * x1) + x3))) := ⟨_, rfl⟩
      have h := h M6 eM6
      refine jr_iast hC hc3 hc5 eM6 dX8_shifts_29 ?_
      obtain ⟨v7, ev7⟩ : ∃ y : Int32, y = (x3 + (1 : Int32)) := ⟨_, rfl⟩
      have h := h v7 ev7
      refine jr_iinc (j := 3) (v := v7) (L1 := [(3, .int v7), (0, .ref r0), (1, .int x1), (2, .int x2)]) hC dX8_shifts_30 rfl (by rw [ev7]; rfl) hnL (by decide) rfl ?_
      refine jr_goto (tgt := 2) hC dX8_shifts_33 (by decide) ?_
      refine jr_sub [1, 2, 3, 0] (L1 := [(0, .ref r0), (1, .int x1), (2, .int x2), (3, .int v7)]) rfl ?_
      exact hrec M6 v7 h
  unfold w_X8_shifts at h
  refine jr_iconst (v := (0 : Int32)) hC dX8_shifts_0 (by decide) ?_
  refine jr_istore_n (L1 := [(3, .int (0 : Int32)), (0, .ref a0), (1, .int x1), (2, .int x2)]) hC dX8_shifts_1 rfl hnL (by decide) rfl ?_
  refine jr_sub [1, 2, 3, 0] (L1 := [(0, .ref a0), (1, .int x1), (2, .int x2), (3, .int (0 : Int32))]) rfl ?_
  exact B2 M a0 x1 x2 (0 : Int32) h
set_option maxHeartbeats 4000000 in
set_option maxRecDepth 100000 in
theorem c_X8_carries {G : mw_G} {l : Launch} (hlt : l.stackTraces = false) {n : Nat} {M : mw_M} {a0 : Nat} {x1 : Int32} {x2 : Int32} {Q : mw_M → Prop} (h : w_X8_carries n M a0 x1 x2 Q) : mw_Met G l yX8_carries (.code yX8_carries cX8_carries 4 none) { frames := 1, cells := 0, slots := 0, locals := 23 } n M [.ref a0, .int x1, .int x2] (fun n1 M1 v => n1 = n ∧ mw_rV Q M1 v) (fun _ _ => False) := by
  refine mw_enter (L0 := [(0, .ref a0), (1, .int x1), (2, .int x2)]) hlt rfl rfl (plainFor_of_name (by decide)) (Nat.le_of_ble_eq_true rfl) rfl ?_
  intro Y hC0 hZ hnL hini0 hn00
  have hC : mw_C G l _ Y cX8_carries RX8 := hC0
  have B75 : ∀ (M : mw_M) (r0 : Nat) (x2 : Int32) (x3 : Int32) (h : w_X8_carries_b75 n M r0 x2 x3 Q), mw_J Y 0 0 n M 75 [(0, .ref r0), (2, .int x2), (3, .int x3)] [] := by
    intro M r0 x2 x3 h
    obtain ⟨Inv, mu, h0, hs⟩ := h
    refine mw_loop2 (fun (M : mw_M) (x3 : Int32) => mw_J Y 0 0 n M 75 [(0, .ref r0), (2, .int x2), (3, .int x3)] []) Inv mu (fun M x3 hI hrec => ?_) M x3 h0
    have h := hs M x3 hI
    refine jr_iload_n (j := 2) hC dX8_carries_75 rfl rfl ?_
    refine jr_bipush (v := (9 : Int32)) hC dX8_carries_76 (by decide) ?_
    obtain ⟨hthb1, hfhb1⟩ := h
    refine jr_ic_ge (tgt := 104) hC dX8_carries_78 (by decide) (fun hb1 => ?_) (fun hb1 => ?_)
    · have h := hthb1 hb1
      exact jr_vret hC hZ (by decide) (by decide) dX8_carries_104 ⟨rfl, rfl, h⟩
    · have h := hfhb1 hb1
      refine jr_aload_n (j := 0) hC dX8_carries_81 rfl rfl ?_
      obtain ⟨hc2, h⟩ := h
      refine jr_get2 hC fl_RX8_26 hc2 dX8_carries_82 ?_
      refine jr_bipush (v := (9 : Int32)) hC dX8_carries_85 (by decide) ?_
      refine jr_iload_n (j := 1) hC dX8_carries_87 rfl rfl ?_
      refine jr_imul hC dX8_carries_88 ?_
      refine jr_iload_n (j := 2) hC dX8_carries_89 rfl rfl ?_
      refine jr_iadd hC dX8_carries_90 ?_
      refine jr_aload_n (j := 0) hC dX8_carries_91 rfl rfl ?_
      refine jr_get2 hC fl_RX8_29 hc2 dX8_carries_92 ?_
      refine jr_iload_n (j := 2) hC dX8_carries_95 rfl rfl ?_
      obtain ⟨hc3, h⟩ := h
      obtain ⟨hc4, h⟩ := h
      refine jr_iald hC hc3 hc4 dX8_carries_96 ?_
      obtain ⟨hc5, h⟩ := h
      obtain ⟨hc6, h⟩ := h
      obtain ⟨M7, eM7⟩ : ∃ y : mw_M, y = sI M (mP M r0 7) (Int32.toNatClampNeg (((9 : Int32) * x2) + x3)) (mI M (mP M r0 8) (Int32.toNatClampNeg x3)) := ⟨_, rfl⟩
      have h := h M7 eM7
      refine jr_iast hC hc5 hc6 eM7 dX8_carries_97 ?_
      obtain ⟨v8, ev8⟩ : ∃ y : Int32, y = (x3 + (1 : Int32)) := ⟨_, rfl⟩
      have h := h v8 ev8
      refine jr_iinc (j := 2) (v := v8) (L1 := [(3, .int v8), (0, .ref r0), (2, .int x2)]) hC dX8_carries_98 rfl (by rw [ev8]; rfl) hnL (by decide) rfl ?_
      refine jr_goto (tgt := 75) hC dX8_carries_101 (by decide) ?_
      refine jr_sub [1, 2, 0] (L1 := [(0, .ref r0), (2, .int x2), (3, .int v8)]) rfl ?_
      exact hrec M7 v8 h
  have B54 : ∀ (M : mw_M) (r0 : Nat) (x2 : Int32) (x3 : Int32) (h : w_X8_carries_b54 n M r0 x2 x3 Q), mw_J Y 0 0 n M 54 [(0, .ref r0), (2, .int x2), (3, .int x3)] [] := by
    intro M r0 x2 x3 h
    obtain ⟨Inv, mu, h0, hs⟩ := h
    refine mw_loop2 (fun (M : mw_M) (x3 : Int32) => mw_J Y 0 0 n M 54 [(0, .ref r0), (2, .int x2), (3, .int x3)] []) Inv mu (fun M x3 hI hrec => ?_) M x3 h0
    have h := hs M x3 hI
    refine jr_iload_n (j := 2) hC dX8_carries_54 rfl rfl ?_
    refine jr_iload_n (j := 1) hC dX8_carries_55 rfl rfl ?_
    obtain ⟨hthb9, hfhb9⟩ := h
    refine jr_ic_le (tgt := 73) hC dX8_carries_56 (by decide) (fun hb9 => ?_) (fun hb9 => ?_)
    · have h := hthb9 hb9
      refine jr_iconst (v := (0 : Int32)) hC dX8_carries_73 (by decide) ?_
      refine jr_istore_n (L1 := [(3, .int (0 : Int32)), (0, .ref r0), (2, .int x2)]) hC dX8_carries_74 rfl hnL (by decide) rfl ?_
      refine jr_sub [1, 2, 0] (L1 := [(0, .ref r0), (2, .int x2), (3, .int (0 : Int32))]) rfl ?_
      exact B75 M r0 x2 (0 : Int32) h
    · have h := hfhb9 hb9
      refine jr_aload_n (j := 0) hC dX8_carries_59 rfl rfl ?_
      refine jr_iload_n (j := 2) hC dX8_carries_60 rfl rfl ?_
      refine jr_iconst (v := (1 : Int32)) hC dX8_carries_61 (by decide) ?_
      refine jr_isub hC dX8_carries_62 ?_
      refine jr_iload_n (j := 2) hC dX8_carries_63 rfl rfl ?_
      obtain ⟨hc10, h⟩ := h
      refine jr_callV_v (As := [.int (x3 - (1 : Int32)), .int x3]) (st := []) hC nc_RX8_101 (c_X8_shifts hlt h) hc10 rfl rfl ⟨⟨rfl, rfl⟩, ⟨by decide, by decide⟩, by decide, by decide⟩ (Nat.le_of_ble_eq_true rfl) dX8_carries_64 (fun M11 h => ?_)
      obtain ⟨v12, ev12⟩ : ∃ y : Int32, y = (x3 + (-1 : Int32)) := ⟨_, rfl⟩
      have h := h v12 ev12
      refine jr_iinc (j := 2) (v := v12) (L1 := [(3, .int v12), (0, .ref r0), (2, .int x2)]) hC dX8_carries_67 rfl (by rw [ev12]; rfl) hnL (by decide) rfl ?_
      refine jr_goto (tgt := 54) hC dX8_carries_70 (by decide) ?_
      refine jr_sub [1, 2, 0] (L1 := [(0, .ref r0), (2, .int x2), (3, .int v12)]) rfl ?_
      exact hrec M11 v12 h
  have B33 : ∀ (M : mw_M) (r0 : Nat) (x1 : Int32) (x2 : Int32) (x3 : Int32) (h : w_X8_carries_b33 n M r0 x1 x2 x3 Q), mw_J Y 0 0 n M 33 [(0, .ref r0), (1, .int x1), (2, .int x2), (3, .int x3)] [] := by
    intro M r0 x1 x2 x3 h
    obtain ⟨Inv, mu, h0, hs⟩ := h
    refine mw_loop2 (fun (M : mw_M) (x3 : Int32) => mw_J Y 0 0 n M 33 [(0, .ref r0), (1, .int x1), (2, .int x2), (3, .int x3)] []) Inv mu (fun M x3 hI hrec => ?_) M x3 h0
    have h := hs M x3 hI
    refine jr_iload_n (j := 3) hC dX8_carries_33 rfl rfl ?_
    refine jr_iload_n (j := 2) hC dX8_carries_34 rfl rfl ?_
    obtain ⟨hthb13, hfhb13⟩ := h
    refine jr_ic_ge (tgt := 52) hC dX8_carries_35 (by decide) (fun hb13 => ?_) (fun hb13 => ?_)
    · have h := hthb13 hb13
      refine jr_iload_n (j := 1) hC dX8_carries_52 rfl rfl ?_
      refine jr_istore_n (L1 := [(3, .int x1), (0, .ref r0), (1, .int x1), (2, .int x2)]) hC dX8_carries_53 rfl hnL (by decide) rfl ?_
      refine jr_sub [1, 3, 0] (L1 := [(0, .ref r0), (2, .int x2), (3, .int x1)]) rfl ?_
      exact B54 M r0 x2 x1 h
    · have h := hfhb13 hb13
      refine jr_aload_n (j := 0) hC dX8_carries_38 rfl rfl ?_
      refine jr_iload_n (j := 3) hC dX8_carries_39 rfl rfl ?_
      refine jr_iconst (v := (1 : Int32)) hC dX8_carries_40 (by decide) ?_
      refine jr_iadd hC dX8_carries_41 ?_
      refine jr_iload_n (j := 3) hC dX8_carries_42 rfl rfl ?_
      obtain ⟨hc14, h⟩ := h
      refine jr_callV_v (As := [.int (x3 + (1 : Int32)), .int x3]) (st := []) hC nc_RX8_101 (c_X8_shifts hlt h) hc14 rfl rfl ⟨⟨rfl, rfl⟩, ⟨by decide, by decide⟩, by decide, by decide⟩ (Nat.le_of_ble_eq_true rfl) dX8_carries_43 (fun M15 h => ?_)
      obtain ⟨v16, ev16⟩ : ∃ y : Int32, y = (x3 + (1 : Int32)) := ⟨_, rfl⟩
      have h := h v16 ev16
      refine jr_iinc (j := 3) (v := v16) (L1 := [(3, .int v16), (0, .ref r0), (1, .int x1), (2, .int x2)]) hC dX8_carries_46 rfl (by rw [ev16]; rfl) hnL (by decide) rfl ?_
      refine jr_goto (tgt := 33) hC dX8_carries_49 (by decide) ?_
      refine jr_sub [1, 2, 3, 0] (L1 := [(0, .ref r0), (1, .int x1), (2, .int x2), (3, .int v16)]) rfl ?_
      exact hrec M15 v16 h
  have B2 : ∀ (M : mw_M) (r0 : Nat) (x1 : Int32) (x2 : Int32) (x3 : Int32) (h : w_X8_carries_b2 n M r0 x1 x2 x3 Q), mw_J Y 0 0 n M 2 [(0, .ref r0), (1, .int x1), (2, .int x2), (3, .int x3)] [] := by
    intro M r0 x1 x2 x3 h
    obtain ⟨Inv, mu, h0, hs⟩ := h
    refine mw_loop2 (fun (M : mw_M) (x3 : Int32) => mw_J Y 0 0 n M 2 [(0, .ref r0), (1, .int x1), (2, .int x2), (3, .int x3)] []) Inv mu (fun M x3 hI hrec => ?_) M x3 h0
    have h := hs M x3 hI
    refine jr_iload_n (j := 3) hC dX8_carries_2 rfl rfl ?_
    refine jr_bipush (v := (9 : Int32)) hC dX8_carries_3 (by decide) ?_
    obtain ⟨hthb17, hfhb17⟩ := h
    refine jr_ic_ge (tgt := 31) hC dX8_carries_5 (by decide) (fun hb17 => ?_) (fun hb17 => ?_)
    · have h := hthb17 hb17
      refine jr_iload_n (j := 1) hC dX8_carries_31 rfl rfl ?_
      refine jr_istore_n (L1 := [(3, .int x1), (0, .ref r0), (1, .int x1), (2, .int x2)]) hC dX8_carries_32 rfl hnL (by decide) rfl ?_
      refine jr_sub [1, 2, 3, 0] (L1 := [(0, .ref r0), (1, .int x1), (2, .int x2), (3, .int x1)]) rfl ?_
      exact B33 M r0 x1 x2 x1 h
    · have h := hfhb17 hb17
      refine jr_aload_n (j := 0) hC dX8_carries_8 rfl rfl ?_
      obtain ⟨hc18, h⟩ := h
      refine jr_get2 hC fl_RX8_29 hc18 dX8_carries_9 ?_
      refine jr_iload_n (j := 3) hC dX8_carries_12 rfl rfl ?_
      refine jr_aload_n (j := 0) hC dX8_carries_13 rfl rfl ?_
      refine jr_get2 hC fl_RX8_26 hc18 dX8_carries_14 ?_
      refine jr_bipush (v := (9 : Int32)) hC dX8_carries_17 (by decide) ?_
      refine jr_iload_n (j := 1) hC dX8_carries_19 rfl rfl ?_
      refine jr_imul hC dX8_carries_20 ?_
      refine jr_iload_n (j := 3) hC dX8_carries_21 rfl rfl ?_
      refine jr_iadd hC dX8_carries_22 ?_
      obtain ⟨hc19, h⟩ := h
      obtain ⟨hc20, h⟩ := h
      refine jr_iald hC hc19 hc20 dX8_carries_23 ?_
      obtain ⟨hc21, h⟩ := h
      obtain ⟨hc22, h⟩ := h
      obtain ⟨M23, eM23⟩ : ∃ y : mw_M, y = sI M (mP M r0 8) (Int32.toNatClampNeg x3) (mI M (mP M r0 7) (Int32.toNatClampNeg (((9 : Int32) * x1) + x3))) := ⟨_, rfl⟩
      have h := h M23 eM23
      refine jr_iast hC hc21 hc22 eM23 dX8_carries_24 ?_
      obtain ⟨v24, ev24⟩ : ∃ y : Int32, y = (x3 + (1 : Int32)) := ⟨_, rfl⟩
      have h := h v24 ev24
      refine jr_iinc (j := 3) (v := v24) (L1 := [(3, .int v24), (0, .ref r0), (1, .int x1), (2, .int x2)]) hC dX8_carries_25 rfl (by rw [ev24]; rfl) hnL (by decide) rfl ?_
      refine jr_goto (tgt := 2) hC dX8_carries_28 (by decide) ?_
      refine jr_sub [1, 2, 3, 0] (L1 := [(0, .ref r0), (1, .int x1), (2, .int x2), (3, .int v24)]) rfl ?_
      exact hrec M23 v24 h
  unfold w_X8_carries at h
  refine jr_iconst (v := (0 : Int32)) hC dX8_carries_0 (by decide) ?_
  refine jr_istore_n (L1 := [(3, .int (0 : Int32)), (0, .ref a0), (1, .int x1), (2, .int x2)]) hC dX8_carries_1 rfl hnL (by decide) rfl ?_
  refine jr_sub [1, 2, 3, 0] (L1 := [(0, .ref a0), (1, .int x1), (2, .int x2), (3, .int (0 : Int32))]) rfl ?_
  exact B2 M a0 x1 x2 (0 : Int32) h
set_option maxHeartbeats 4000000 in
set_option maxRecDepth 100000 in
theorem c_X8_settles {G : mw_G} {l : Launch} (hlt : l.stackTraces = false) {n : Nat} {M : mw_M} {a0 : Nat} {x1 : Int32} {Q : mw_M → Int32 → Prop} (h : w_X8_settles n M a0 x1 Q) : mw_Met G l yX8_settles (.code yX8_settles cX8_settles 5 (some .int)) { frames := 2, cells := 0, slots := 0, locals := 46 } n M [.ref a0, .int x1] (fun n1 M1 v => n1 = n ∧ mw_rI Q M1 v) (fun _ _ => False) := by
  refine mw_enter (L0 := [(0, .ref a0), (1, .int x1)]) hlt rfl rfl (plainFor_of_name (by decide)) (Nat.le_of_ble_eq_true rfl) rfl ?_
  intro Y hC0 hZ hnL hini0 hn00
  have hC : mw_C G l _ Y cX8_settles RX8 := hC0
  have B80 : ∀ (M : mw_M) (r0 : Nat) (x1 : Int32) (x3 : Int32) (s0 : Int32) (s1 : Int32) (K4 : mw_M → Int32 → Int32 → Prop) (hK4 : ∀ (M_ : mw_M) (x2_ : Int32) (x3_ : Int32), K4 M_ x2_ x3_ → mw_J Y 0 0 n M_ 4 [(0, .ref r0), (1, .int x1), (2, .int x2_), (3, .int x3_)] []) (h : w_X8_settles_b80 n M r0 x1 x3 s0 s1 Q K4), mw_J Y 0 0 n M 80 [(0, .ref r0), (1, .int x1), (3, .int x3)] [.int s0, .int s1] := by
    intro M r0 x1 x3 s0 s1 K4 hK4 h
    unfold w_X8_settles_b80 at h
    refine jr_iadd hC dX8_settles_80 ?_
    refine jr_nmI (fun v1 ev1 => ?_)
    have h := h v1 ev1
    refine jr_istore_n (L1 := [(2, .int v1), (0, .ref r0), (1, .int x1), (3, .int x3)]) hC dX8_settles_81 rfl hnL (by decide) rfl ?_
    obtain ⟨v2, ev2⟩ : ∃ y : Int32, y = (x3 + (1 : Int32)) := ⟨_, rfl⟩
    have h := h v2 ev2
    refine jr_iinc (j := 3) (v := v2) (L1 := [(3, .int v2), (2, .int v1), (0, .ref r0), (1, .int x1)]) hC dX8_settles_82 rfl (by rw [ev2]; rfl) hnL (by decide) rfl ?_
    refine jr_goto (tgt := 4) hC dX8_settles_85 (by decide) ?_
    refine jr_sub [2, 3, 1, 0] (L1 := [(0, .ref r0), (1, .int x1), (2, .int v1), (3, .int v2)]) rfl ?_
    exact hK4 M v1 v2 h
  have B79 : ∀ (M : mw_M) (r0 : Nat) (x1 : Int32) (x3 : Int32) (s0 : Int32) (K4 : mw_M → Int32 → Int32 → Prop) (hK4 : ∀ (M_ : mw_M) (x2_ : Int32) (x3_ : Int32), K4 M_ x2_ x3_ → mw_J Y 0 0 n M_ 4 [(0, .ref r0), (1, .int x1), (2, .int x2_), (3, .int x3_)] []) (h : w_X8_settles_b79 n M r0 x1 x3 s0 Q K4), mw_J Y 0 0 n M 79 [(0, .ref r0), (1, .int x1), (3, .int x3)] [.int s0] := by
    intro M r0 x1 x3 s0 K4 hK4 h
    unfold w_X8_settles_b79 at h
    refine jr_iconst (v := (0 : Int32)) hC dX8_settles_79 (by decide) ?_
    exact B80 M r0 x1 x3 (0 : Int32) s0 K4 hK4 h
  have B62 : ∀ (M : mw_M) (r0 : Nat) (x1 : Int32) (x2 : Int32) (x3 : Int32) (s0 : Int32) (K4 : mw_M → Int32 → Int32 → Prop) (hK4 : ∀ (M_ : mw_M) (x2_ : Int32) (x3_ : Int32), K4 M_ x2_ x3_ → mw_J Y 0 0 n M_ 4 [(0, .ref r0), (1, .int x1), (2, .int x2_), (3, .int x3_)] []) (h : w_X8_settles_b62 n M r0 x1 x2 x3 s0 Q K4), mw_J Y 0 0 n M 62 [(0, .ref r0), (1, .int x1), (2, .int x2), (3, .int x3)] [.int s0] := by
    intro M r0 x1 x2 x3 s0 K4 hK4 h
    unfold w_X8_settles_b62 at h
    refine jr_istore (L1 := [(4, .int s0), (0, .ref r0), (1, .int x1), (2, .int x2), (3, .int x3)]) hC dX8_settles_62 hnL (by decide) rfl ?_
    refine jr_iload_n (j := 3) hC dX8_settles_64 rfl rfl ?_
    refine jr_iload_n (j := 4) hC dX8_settles_65 rfl rfl ?_
    refine jr_iload_n (j := 2) hC dX8_settles_66 rfl rfl ?_
    obtain ⟨hthb3, hfhb3⟩ := h
    refine jr_ic_eq (tgt := 79) hC dX8_settles_67 (by decide) (fun hb3 => ?_) (fun hb3 => ?_)
    · have h := hthb3 hb3
      refine jr_sub [1, 2, 4] (L1 := [(0, .ref r0), (1, .int x1), (3, .int x3)]) rfl ?_
      exact B79 M r0 x1 x3 x2 K4 hK4 h
    · have h := hfhb3 hb3
      refine jr_iload (j := 0) hC dX8_settles_70 rfl ?_
      obtain ⟨hthb4, hfhb4⟩ := h
      refine jr_if_eq (tgt := 79) hC dX8_settles_72 (by decide) (fun hb4 => ?_) (fun hb4 => ?_)
      · have h := hthb4 hb4
        refine jr_sub [1, 2, 4] (L1 := [(0, .ref r0), (1, .int x1), (3, .int x3)]) rfl ?_
        exact B79 M r0 x1 x3 x2 K4 hK4 h
      · have h := hfhb4 hb4
        refine jr_iconst (v := (1 : Int32)) hC dX8_settles_75 (by decide) ?_
        refine jr_goto (tgt := 80) hC dX8_settles_76 (by decide) ?_
        refine jr_sub [1, 2, 4] (L1 := [(0, .ref r0), (1, .int x1), (3, .int x3)]) rfl ?_
        exact B80 M r0 x1 x3 (1 : Int32) x2 K4 hK4 h
  have B57 : ∀ (M : mw_M) (r0 : Nat) (x1 : Int32) (x2 : Int32) (x3 : Int32) (K4 : mw_M → Int32 → Int32 → Prop) (hK4 : ∀ (M_ : mw_M) (x2_ : Int32) (x3_ : Int32), K4 M_ x2_ x3_ → mw_J Y 0 0 n M_ 4 [(0, .ref r0), (1, .int x1), (2, .int x2_), (3, .int x3_)] []) (h : w_X8_settles_b57 n M r0 x1 x2 x3 Q K4), mw_J Y 0 0 n M 57 [(0, .ref r0), (1, .int x1), (2, .int x2), (3, .int x3)] [] := by
    intro M r0 x1 x2 x3 K4 hK4 h
    unfold w_X8_settles_b57 at h
    refine jr_iconst (v := (1 : Int32)) hC dX8_settles_57 (by decide) ?_
    refine jr_goto (tgt := 62) hC dX8_settles_58 (by decide) ?_
    exact B62 M r0 x1 x2 x3 (1 : Int32) K4 hK4 h
  have B61 : ∀ (M : mw_M) (r0 : Nat) (x1 : Int32) (x2 : Int32) (x3 : Int32) (K4 : mw_M → Int32 → Int32 → Prop) (hK4 : ∀ (M_ : mw_M) (x2_ : Int32) (x3_ : Int32), K4 M_ x2_ x3_ → mw_J Y 0 0 n M_ 4 [(0, .ref r0), (1, .int x1), (2, .int x2_), (3, .int x3_)] []) (h : w_X8_settles_b61 n M r0 x1 x2 x3 Q K4), mw_J Y 0 0 n M 61 [(0, .ref r0), (1, .int x1), (2, .int x2), (3, .int x3)] [] := by
    intro M r0 x1 x2 x3 K4 hK4 h
    unfold w_X8_settles_b61 at h
    refine jr_iconst (v := (0 : Int32)) hC dX8_settles_61 (by decide) ?_
    exact B62 M r0 x1 x2 x3 (0 : Int32) K4 hK4 h
  have B4 : ∀ (M : mw_M) (r0 : Nat) (x1 : Int32) (x2 : Int32) (x3 : Int32) (h : w_X8_settles_b4 n M r0 x1 x2 x3 Q), mw_J Y 0 0 n M 4 [(0, .ref r0), (1, .int x1), (2, .int x2), (3, .int x3)] [] := by
    intro M r0 x1 x2 x3 h
    obtain ⟨Inv, mu, h0, hs⟩ := h
    refine mw_loop3 (fun (M : mw_M) (x2 : Int32) (x3 : Int32) => mw_J Y 0 0 n M 4 [(0, .ref r0), (1, .int x1), (2, .int x2), (3, .int x3)] []) Inv mu (fun M x2 x3 hI hrec => ?_) M x2 x3 h0
    have h := hs M x2 x3 hI
    refine jr_iload_n (j := 3) hC dX8_settles_4 rfl rfl ?_
    refine jr_aload_n (j := 0) hC dX8_settles_5 rfl rfl ?_
    obtain ⟨hc5, h⟩ := h
    refine jr_get0 hC fl_RX8_95 hc5 dX8_settles_6 ?_
    obtain ⟨hthb6, hfhb6⟩ := h
    refine jr_ic_ge (tgt := 88) hC dX8_settles_9 (by decide) (fun hb6 => ?_) (fun hb6 => ?_)
    · have h := hthb6 hb6
      refine jr_aload_n (j := 0) hC dX8_settles_88 rfl rfl ?_
      refine jr_iload_n (j := 1) hC dX8_settles_89 rfl rfl ?_
      refine jr_iload_n (j := 2) hC dX8_settles_90 rfl rfl ?_
      refine jr_callV_v (As := [.int x1, .int x2]) (st := []) hC nc_RX8_105 (c_X8_carries hlt h) hc5 rfl rfl ⟨⟨rfl, rfl⟩, ⟨by decide, by decide⟩, by decide, by decide⟩ (Nat.le_of_ble_eq_true rfl) dX8_settles_91 (fun M7 h => ?_)
      refine jr_iload_n (j := 2) hC dX8_settles_94 rfl rfl ?_
      exact jr_ireti hC hZ (by decide) (by decide) dX8_settles_95 ⟨rfl, _, rfl, h⟩
    · have h := hfhb6 hb6
      refine jr_aload_n (j := 0) hC dX8_settles_12 rfl rfl ?_
      refine jr_iload_n (j := 3) hC dX8_settles_13 rfl rfl ?_
      refine jr_iconst (v := (0 : Int32)) hC dX8_settles_14 (by decide) ?_
      refine jr_callV_pi (As := [.int x3, .int (0 : Int32)]) (st := []) hC nc_RX8_98 (c_X8_of hlt h) hc5 rfl rfl ⟨⟨rfl, rfl⟩, ⟨by decide, by decide⟩, by decide, by decide⟩ (Nat.le_of_ble_eq_true rfl) dX8_settles_15 (fun v8 h => ?_)
      refine jr_aload_n (j := 0) hC dX8_settles_18 rfl rfl ?_
      refine jr_iload_n (j := 1) hC dX8_settles_19 rfl rfl ?_
      refine jr_iconst (v := (0 : Int32)) hC dX8_settles_20 (by decide) ?_
      refine jr_callV_pi (As := [.int x1, .int (0 : Int32)]) (st := [.int v8]) hC nc_RX8_98 (c_X8_of hlt h) hc5 rfl rfl ⟨⟨rfl, rfl⟩, ⟨by decide, by decide⟩, by decide, by decide⟩ (Nat.le_of_ble_eq_true rfl) dX8_settles_21 (fun v9 h => ?_)
      obtain ⟨hthb10, hfhb10⟩ := h
      refine jr_ic_lt (tgt := 57) hC dX8_settles_24 (by decide) (fun hb10 => ?_) (fun hb10 => ?_)
      · have h := hthb10 hb10
        exact B57 M r0 x1 x2 x3 (fun (M_ : mw_M) (x2_ : Int32) (x3_ : Int32) => Inv M_ x2_ x3_ ∧ mu M_ x2_ x3_ < mu M x2 x3) (fun M_ x2_ x3_ h9 => hrec M_ x2_ x3_ h9) h
      · have h := hfhb10 hb10
        refine jr_aload_n (j := 0) hC dX8_settles_27 rfl rfl ?_
        refine jr_iload_n (j := 3) hC dX8_settles_28 rfl rfl ?_
        refine jr_iconst (v := (0 : Int32)) hC dX8_settles_29 (by decide) ?_
        refine jr_callV_pi (As := [.int x3, .int (0 : Int32)]) (st := []) hC nc_RX8_98 (c_X8_of hlt h) hc5 rfl rfl ⟨⟨rfl, rfl⟩, ⟨by decide, by decide⟩, by decide, by decide⟩ (Nat.le_of_ble_eq_true rfl) dX8_settles_30 (fun v11 h => ?_)
        refine jr_aload_n (j := 0) hC dX8_settles_33 rfl rfl ?_
        refine jr_iload_n (j := 1) hC dX8_settles_34 rfl rfl ?_
        refine jr_iconst (v := (0 : Int32)) hC dX8_settles_35 (by decide) ?_
        refine jr_callV_pi (As := [.int x1, .int (0 : Int32)]) (st := [.int v11]) hC nc_RX8_98 (c_X8_of hlt h) hc5 rfl rfl ⟨⟨rfl, rfl⟩, ⟨by decide, by decide⟩, by decide, by decide⟩ (Nat.le_of_ble_eq_true rfl) dX8_settles_36 (fun v12 h => ?_)
        obtain ⟨hthb13, hfhb13⟩ := h
        refine jr_ic_ne (tgt := 61) hC dX8_settles_39 (by decide) (fun hb13 => ?_) (fun hb13 => ?_)
        · have h := hthb13 hb13
          exact B61 M r0 x1 x2 x3 (fun (M_ : mw_M) (x2_ : Int32) (x3_ : Int32) => Inv M_ x2_ x3_ ∧ mu M_ x2_ x3_ < mu M x2 x3) (fun M_ x2_ x3_ h9 => hrec M_ x2_ x3_ h9) h
        · have h := hfhb13 hb13
          refine jr_aload_n (j := 0) hC dX8_settles_42 rfl rfl ?_
          refine jr_iload_n (j := 3) hC dX8_settles_43 rfl rfl ?_
          refine jr_iconst (v := (2 : Int32)) hC dX8_settles_44 (by decide) ?_
          refine jr_callV_pi (As := [.int x3, .int (2 : Int32)]) (st := []) hC nc_RX8_98 (c_X8_of hlt h) hc5 rfl rfl ⟨⟨rfl, rfl⟩, ⟨by decide, by decide⟩, by decide, by decide⟩ (Nat.le_of_ble_eq_true rfl) dX8_settles_45 (fun v14 h => ?_)
          refine jr_aload_n (j := 0) hC dX8_settles_48 rfl rfl ?_
          refine jr_iload_n (j := 1) hC dX8_settles_49 rfl rfl ?_
          refine jr_iconst (v := (2 : Int32)) hC dX8_settles_50 (by decide) ?_
          refine jr_callV_pi (As := [.int x1, .int (2 : Int32)]) (st := [.int v14]) hC nc_RX8_98 (c_X8_of hlt h) hc5 rfl rfl ⟨⟨rfl, rfl⟩, ⟨by decide, by decide⟩, by decide, by decide⟩ (Nat.le_of_ble_eq_true rfl) dX8_settles_51 (fun v15 h => ?_)
          obtain ⟨hthb16, hfhb16⟩ := h
          refine jr_ic_ge (tgt := 61) hC dX8_settles_54 (by decide) (fun hb16 => ?_) (fun hb16 => ?_)
          · have h := hthb16 hb16
            exact B61 M r0 x1 x2 x3 (fun (M_ : mw_M) (x2_ : Int32) (x3_ : Int32) => Inv M_ x2_ x3_ ∧ mu M_ x2_ x3_ < mu M x2 x3) (fun M_ x2_ x3_ h9 => hrec M_ x2_ x3_ h9) h
          · have h := hfhb16 hb16
            exact B57 M r0 x1 x2 x3 (fun (M_ : mw_M) (x2_ : Int32) (x3_ : Int32) => Inv M_ x2_ x3_ ∧ mu M_ x2_ x3_ < mu M x2 x3) (fun M_ x2_ x3_ h9 => hrec M_ x2_ x3_ h9) h
  unfold w_X8_settles at h
  refine jr_iconst (v := (0 : Int32)) hC dX8_settles_0 (by decide) ?_
  refine jr_istore_n (L1 := [(2, .int (0 : Int32)), (0, .ref a0), (1, .int x1)]) hC dX8_settles_1 rfl hnL (by decide) rfl ?_
  refine jr_iconst (v := (0 : Int32)) hC dX8_settles_2 (by decide) ?_
  refine jr_istore_n (L1 := [(3, .int (0 : Int32)), (2, .int (0 : Int32)), (0, .ref a0), (1, .int x1)]) hC dX8_settles_3 rfl hnL (by decide) rfl ?_
  refine jr_sub [2, 3, 1, 0] (L1 := [(0, .ref a0), (1, .int x1), (2, .int (0 : Int32)), (3, .int (0 : Int32))]) rfl ?_
  exact B4 M a0 x1 (0 : Int32) (0 : Int32) h
set_option maxHeartbeats 4000000 in
set_option maxRecDepth 100000 in
theorem c_X8_leaves {G : mw_G} {l : Launch} (hlt : l.stackTraces = false) {n : Nat} {M : mw_M} {a0 : Nat} {x1 : Int32} {Q : mw_M → Prop} (h : w_X8_leaves n M a0 x1 Q) : mw_Met G l yX8_leaves (.code yX8_leaves cX8_leaves 3 none) { frames := 1, cells := 0, slots := 0, locals := 23 } n M [.ref a0, .int x1] (fun n1 M1 v => n1 = n ∧ mw_rV Q M1 v) (fun _ _ => False) := by
  refine mw_enter (L0 := [(0, .ref a0), (1, .int x1)]) hlt rfl rfl (plainFor_of_name (by decide)) (Nat.le_of_ble_eq_true rfl) rfl ?_
  intro Y hC0 hZ hnL hini0 hn00
  have hC : mw_C G l _ Y cX8_leaves RX8 := hC0
  have B12 : ∀ (M : mw_M) (r0 : Nat) (x2 : Int32) (h : w_X8_leaves_b12 n M r0 x2 Q), mw_J Y 0 0 n M 12 [(0, .ref r0), (2, .int x2)] [] := by
    intro M r0 x2 h
    obtain ⟨Inv, mu, h0, hs⟩ := h
    refine mw_loop2 (fun (M : mw_M) (x2 : Int32) => mw_J Y 0 0 n M 12 [(0, .ref r0), (2, .int x2)] []) Inv mu (fun M x2 hI hrec => ?_) M x2 h0
    have h := hs M x2 hI
    refine jr_iload_n (j := 1) hC dX8_leaves_12 rfl rfl ?_
    refine jr_aload_n (j := 0) hC dX8_leaves_13 rfl rfl ?_
    obtain ⟨hc1, h⟩ := h
    refine jr_get0 hC fl_RX8_95 hc1 dX8_leaves_14 ?_
    obtain ⟨hthb2, hfhb2⟩ := h
    refine jr_ic_ge (tgt := 34) hC dX8_leaves_17 (by decide) (fun hb2 => ?_) (fun hb2 => ?_)
    · have h := hthb2 hb2
      exact jr_vret hC hZ (by decide) (by decide) dX8_leaves_34 ⟨rfl, rfl, h⟩
    · have h := hfhb2 hb2
      refine jr_aload_n (j := 0) hC dX8_leaves_20 rfl rfl ?_
      refine jr_iload_n (j := 1) hC dX8_leaves_21 rfl rfl ?_
      refine jr_iconst (v := (1 : Int32)) hC dX8_leaves_22 (by decide) ?_
      refine jr_iadd hC dX8_leaves_23 ?_
      refine jr_iload_n (j := 1) hC dX8_leaves_24 rfl rfl ?_
      refine jr_callV_v (As := [.int (x2 + (1 : Int32)), .int x2]) (st := []) hC nc_RX8_101 (c_X8_shifts hlt h) hc1 rfl rfl ⟨⟨rfl, rfl⟩, ⟨by decide, by decide⟩, by decide, by decide⟩ (Nat.le_of_ble_eq_true rfl) dX8_leaves_25 (fun M3 h => ?_)
      obtain ⟨v4, ev4⟩ : ∃ y : Int32, y = (x2 + (1 : Int32)) := ⟨_, rfl⟩
      have h := h v4 ev4
      refine jr_iinc (j := 1) (v := v4) (L1 := [(2, .int v4), (0, .ref r0)]) hC dX8_leaves_28 rfl (by rw [ev4]; rfl) hnL (by decide) rfl ?_
      refine jr_goto (tgt := 12) hC dX8_leaves_31 (by decide) ?_
      refine jr_sub [1, 0] (L1 := [(0, .ref r0), (2, .int v4)]) rfl ?_
      exact hrec M3 v4 h
  unfold w_X8_leaves at h
  refine jr_aload_n (j := 0) hC dX8_leaves_0 rfl rfl ?_
  refine jr_dup hC dX8_leaves_1 rfl ?_
  obtain ⟨hc5, h⟩ := h
  refine jr_get0 hC fl_RX8_95 hc5 dX8_leaves_2 ?_
  refine jr_iconst (v := (1 : Int32)) hC dX8_leaves_5 (by decide) ?_
  refine jr_isub hC dX8_leaves_6 ?_
  obtain ⟨M6, eM6⟩ : ∃ y : mw_M, y = sI M a0 6 ((mI M a0 6) - (1 : Int32)) := ⟨_, rfl⟩
  have h := h M6 eM6
  refine jr_putI hC fp_RX8_95 hc5 eM6 dX8_leaves_7 ?_
  refine jr_iload_n (j := 1) hC dX8_leaves_10 rfl rfl ?_
  refine jr_istore_n (L1 := [(2, .int x1), (0, .ref a0), (1, .int x1)]) hC dX8_leaves_11 rfl hnL (by decide) rfl ?_
  refine jr_sub [1, 0] (L1 := [(0, .ref a0), (2, .int x1)]) rfl ?_
  exact B12 M6 a0 x1 h
set_option maxHeartbeats 4000000 in
set_option maxRecDepth 100000 in
theorem c_X8_isFine {G : mw_G} {l : Launch} (hlt : l.stackTraces = false) {n : Nat} {M : mw_M} {a0 : Nat} {Q : Int32 → Prop} (h : w_X8_isFine n M a0 Q) : mw_Met G l yX8_isFine (.code yX8_isFine cX8_isFine 3 (some .boolean)) { frames := 2, cells := 0, slots := 0, locals := 43 } n M [.ref a0] (fun n1 M1 v => n1 = n ∧ mw_pI M Q M1 v) (fun _ _ => False) := by
  refine mw_enter (L0 := [(0, .ref a0)]) hlt rfl rfl (plainFor_of_name (by decide)) (Nat.le_of_ble_eq_true rfl) rfl ?_
  intro Y hC0 hZ hnL hini0 hn00
  have hC : mw_C G l _ Y cX8_isFine RX8 := hC0
  have B126 : ∀ (r0 : Nat) (x1 : Int32) (x2 : Int32) (K4 : Int32 → Int32 → Prop) (hK4 : ∀ (x1_ : Int32) (x2_ : Int32), K4 x1_ x2_ → mw_J Y 0 0 n M 4 [(0, .ref r0), (1, .int x1_), (2, .int x2_)] []) (h : w_X8_isFine_b126 n M r0 x1 x2 Q K4), mw_J Y 0 0 n M 126 [(0, .ref r0), (1, .int x1), (2, .int x2)] [] := by
    intro r0 x1 x2 K4 hK4 h
    unfold w_X8_isFine_b126 at h
    obtain ⟨v1, ev1⟩ : ∃ y : Int32, y = (x2 + (1 : Int32)) := ⟨_, rfl⟩
    have h := h v1 ev1
    refine jr_iinc (j := 2) (v := v1) (L1 := [(2, .int v1), (0, .ref r0), (1, .int x1)]) hC dX8_isFine_126 rfl (by rw [ev1]; rfl) hnL (by decide) rfl ?_
    refine jr_goto (tgt := 4) hC dX8_isFine_129 (by decide) ?_
    refine jr_sub [1, 2, 0] (L1 := [(0, .ref r0), (1, .int x1), (2, .int v1)]) rfl ?_
    exact hK4 x1 v1 h
  have B125 : ∀ (r0 : Nat) (x2 : Int32) (s0 : Int32) (K4 : Int32 → Int32 → Prop) (hK4 : ∀ (x1_ : Int32) (x2_ : Int32), K4 x1_ x2_ → mw_J Y 0 0 n M 4 [(0, .ref r0), (1, .int x1_), (2, .int x2_)] []) (h : w_X8_isFine_b125 n M r0 x2 s0 Q K4), mw_J Y 0 0 n M 125 [(0, .ref r0), (2, .int x2)] [.int s0] := by
    intro r0 x2 s0 K4 hK4 h
    unfold w_X8_isFine_b125 at h
    refine jr_istore_n (L1 := [(1, .int s0), (0, .ref r0), (2, .int x2)]) hC dX8_isFine_125 rfl hnL (by decide) rfl ?_
    refine jr_sub [1, 0, 2] (L1 := [(0, .ref r0), (1, .int s0), (2, .int x2)]) rfl ?_
    exact B126 r0 s0 x2 K4 hK4 h
  have B124 : ∀ (r0 : Nat) (x2 : Int32) (K4 : Int32 → Int32 → Prop) (hK4 : ∀ (x1_ : Int32) (x2_ : Int32), K4 x1_ x2_ → mw_J Y 0 0 n M 4 [(0, .ref r0), (1, .int x1_), (2, .int x2_)] []) (h : w_X8_isFine_b124 n M r0 x2 Q K4), mw_J Y 0 0 n M 124 [(0, .ref r0), (2, .int x2)] [] := by
    intro r0 x2 K4 hK4 h
    unfold w_X8_isFine_b124 at h
    refine jr_iconst (v := (0 : Int32)) hC dX8_isFine_124 (by decide) ?_
    exact B125 r0 x2 (0 : Int32) K4 hK4 h
  have B120 : ∀ (r0 : Nat) (x2 : Int32) (K4 : Int32 → Int32 → Prop) (hK4 : ∀ (x1_ : Int32) (x2_ : Int32), K4 x1_ x2_ → mw_J Y 0 0 n M 4 [(0, .ref r0), (1, .int x1_), (2, .int x2_)] []) (h : w_X8_isFine_b120 n M r0 x2 Q K4), mw_J Y 0 0 n M 120 [(0, .ref r0), (2, .int x2)] [] := by
    intro r0 x2 K4 hK4 h
    unfold w_X8_isFine_b120 at h
    refine jr_iconst (v := (1 : Int32)) hC dX8_isFine_120 (by decide) ?_
    refine jr_goto (tgt := 125) hC dX8_isFine_121 (by decide) ?_
    exact B125 r0 x2 (1 : Int32) K4 hK4 h
  have B72 : ∀ (r0 : Nat) (x2 : Int32) (s0 : Int32) (K4 : Int32 → Int32 → Prop) (hK4 : ∀ (x1_ : Int32) (x2_ : Int32), K4 x1_ x2_ → mw_J Y 0 0 n M 4 [(0, .ref r0), (1, .int x1_), (2, .int x2_)] []) (h : w_X8_isFine_b72 n M r0 x2 s0 Q K4), mw_J Y 0 0 n M 72 [(0, .ref r0), (2, .int x2)] [.int s0] := by
    intro r0 x2 s0 K4 hK4 h
    unfold w_X8_isFine_b72 at h
    refine jr_istore_n (L1 := [(1, .int s0), (0, .ref r0), (2, .int x2)]) hC dX8_isFine_72 rfl hnL (by decide) rfl ?_
    refine jr_iload_n (j := 0) hC dX8_isFine_73 rfl rfl ?_
    obtain ⟨hthb2, hfhb2⟩ := h
    refine jr_if_eq (tgt := 124) hC dX8_isFine_74 (by decide) (fun hb2 => ?_) (fun hb2 => ?_)
    · have h := hthb2 hb2
      refine jr_sub [1, 2] (L1 := [(0, .ref r0), (2, .int x2)]) rfl ?_
      exact B124 r0 x2 K4 hK4 h
    · have h := hfhb2 hb2
      refine jr_iload_n (j := 2) hC dX8_isFine_77 rfl rfl ?_
      refine jr_iconst (v := (2 : Int32)) hC dX8_isFine_78 (by decide) ?_
      refine jr_iadd hC dX8_isFine_79 ?_
      refine jr_aload_n (j := 1) hC dX8_isFine_80 rfl rfl ?_
      obtain ⟨hc3, h⟩ := h
      refine jr_get0 hC fl_RX8_95 hc3 dX8_isFine_81 ?_
      obtain ⟨hthb4, hfhb4⟩ := h
      refine jr_ic_ge (tgt := 120) hC dX8_isFine_84 (by decide) (fun hb4 => ?_) (fun hb4 => ?_)
      · have h := hthb4 hb4
        refine jr_sub [1, 2] (L1 := [(0, .ref r0), (2, .int x2)]) rfl ?_
        exact B120 r0 x2 K4 hK4 h
      · have h := hfhb4 hb4
        refine jr_aload_n (j := 1) hC dX8_isFine_87 rfl rfl ?_
        refine jr_iload_n (j := 2) hC dX8_isFine_88 rfl rfl ?_
        refine jr_iconst (v := (2 : Int32)) hC dX8_isFine_89 (by decide) ?_
        refine jr_iadd hC dX8_isFine_90 ?_
        refine jr_iconst (v := (0 : Int32)) hC dX8_isFine_91 (by decide) ?_
        refine jr_callV_pi (As := [.int (x2 + (2 : Int32)), .int (0 : Int32)]) (st := []) hC nc_RX8_98 (c_X8_of hlt h) hc3 rfl rfl ⟨⟨rfl, rfl⟩, ⟨by decide, by decide⟩, by decide, by decide⟩ (Nat.le_of_ble_eq_true rfl) dX8_isFine_92 (fun v5 h => ?_)
        refine jr_aload_n (j := 1) hC dX8_isFine_95 rfl rfl ?_
        refine jr_iload_n (j := 2) hC dX8_isFine_96 rfl rfl ?_
        refine jr_iconst (v := (0 : Int32)) hC dX8_isFine_97 (by decide) ?_
        refine jr_callV_pi (As := [.int x2, .int (0 : Int32)]) (st := [.int v5]) hC nc_RX8_98 (c_X8_of hlt h) hc3 rfl rfl ⟨⟨rfl, rfl⟩, ⟨by decide, by decide⟩, by decide, by decide⟩ (Nat.le_of_ble_eq_true rfl) dX8_isFine_98 (fun v6 h => ?_)
        obtain ⟨hthb7, hfhb7⟩ := h
        refine jr_ic_ne (tgt := 120) hC dX8_isFine_101 (by decide) (fun hb7 => ?_) (fun hb7 => ?_)
        · have h := hthb7 hb7
          refine jr_sub [1, 2] (L1 := [(0, .ref r0), (2, .int x2)]) rfl ?_
          exact B120 r0 x2 K4 hK4 h
        · have h := hfhb7 hb7
          refine jr_aload_n (j := 1) hC dX8_isFine_104 rfl rfl ?_
          refine jr_iload_n (j := 2) hC dX8_isFine_105 rfl rfl ?_
          refine jr_iconst (v := (2 : Int32)) hC dX8_isFine_106 (by decide) ?_
          refine jr_iadd hC dX8_isFine_107 ?_
          refine jr_iconst (v := (2 : Int32)) hC dX8_isFine_108 (by decide) ?_
          refine jr_callV_pi (As := [.int (x2 + (2 : Int32)), .int (2 : Int32)]) (st := []) hC nc_RX8_98 (c_X8_of hlt h) hc3 rfl rfl ⟨⟨rfl, rfl⟩, ⟨by decide, by decide⟩, by decide, by decide⟩ (Nat.le_of_ble_eq_true rfl) dX8_isFine_109 (fun v8 h => ?_)
          refine jr_aload_n (j := 1) hC dX8_isFine_112 rfl rfl ?_
          refine jr_iload_n (j := 2) hC dX8_isFine_113 rfl rfl ?_
          refine jr_callV_pi (As := [.int x2]) (st := [.int v8]) hC nc_RX8_108 (c_X8_endOf hlt h) hc3 rfl rfl ⟨⟨rfl, rfl⟩, ⟨by decide, by decide⟩, by decide, by decide⟩ (Nat.le_of_ble_eq_true rfl) dX8_isFine_114 (fun v9 h => ?_)
          obtain ⟨hthb10, hfhb10⟩ := h
          refine jr_ic_lt (tgt := 124) hC dX8_isFine_117 (by decide) (fun hb10 => ?_) (fun hb10 => ?_)
          · have h := hthb10 hb10
            refine jr_sub [1, 2] (L1 := [(0, .ref r0), (2, .int x2)]) rfl ?_
            exact B124 r0 x2 K4 hK4 h
          · have h := hfhb10 hb10
            refine jr_sub [1, 2] (L1 := [(0, .ref r0), (2, .int x2)]) rfl ?_
            exact B120 r0 x2 K4 hK4 h
  have B71 : ∀ (r0 : Nat) (x2 : Int32) (K4 : Int32 → Int32 → Prop) (hK4 : ∀ (x1_ : Int32) (x2_ : Int32), K4 x1_ x2_ → mw_J Y 0 0 n M 4 [(0, .ref r0), (1, .int x1_), (2, .int x2_)] []) (h : w_X8_isFine_b71 n M r0 x2 Q K4), mw_J Y 0 0 n M 71 [(0, .ref r0), (2, .int x2)] [] := by
    intro r0 x2 K4 hK4 h
    unfold w_X8_isFine_b71 at h
    refine jr_iconst (v := (0 : Int32)) hC dX8_isFine_71 (by decide) ?_
    exact B72 r0 x2 (0 : Int32) K4 hK4 h
  have B4 : ∀ (r0 : Nat) (x1 : Int32) (x2 : Int32) (h : w_X8_isFine_b4 n M r0 x1 x2 Q), mw_J Y 0 0 n M 4 [(0, .ref r0), (1, .int x1), (2, .int x2)] [] := by
    intro r0 x1 x2 h
    obtain ⟨Inv, mu, h0, hs⟩ := h
    refine mw_loop2 (fun (x1 : Int32) (x2 : Int32) => mw_J Y 0 0 n M 4 [(0, .ref r0), (1, .int x1), (2, .int x2)] []) Inv mu (fun x1 x2 hI hrec => ?_) x1 x2 h0
    have h := hs x1 x2 hI
    refine jr_iload_n (j := 2) hC dX8_isFine_4 rfl rfl ?_
    refine jr_iconst (v := (1 : Int32)) hC dX8_isFine_5 (by decide) ?_
    refine jr_iadd hC dX8_isFine_6 ?_
    refine jr_aload_n (j := 0) hC dX8_isFine_7 rfl rfl ?_
    obtain ⟨hc11, h⟩ := h
    refine jr_get0 hC fl_RX8_95 hc11 dX8_isFine_8 ?_
    obtain ⟨hthb12, hfhb12⟩ := h
    refine jr_ic_ge (tgt := 132) hC dX8_isFine_11 (by decide) (fun hb12 => ?_) (fun hb12 => ?_)
    · have h := hthb12 hb12
      refine jr_iload_n (j := 1) hC dX8_isFine_132 rfl rfl ?_
      obtain ⟨hc13, h⟩ := h
      exact jr_iretz hC hZ (by decide) (by decide) hc13 dX8_isFine_133 ⟨rfl, rfl, _, rfl, h⟩
    · have h := hfhb12 hb12
      refine jr_aload_n (j := 0) hC dX8_isFine_14 rfl rfl ?_
      refine jr_iload_n (j := 2) hC dX8_isFine_15 rfl rfl ?_
      refine jr_iconst (v := (0 : Int32)) hC dX8_isFine_16 (by decide) ?_
      refine jr_callV_pi (As := [.int x2, .int (0 : Int32)]) (st := []) hC nc_RX8_98 (c_X8_of hlt h) hc11 rfl rfl ⟨⟨rfl, rfl⟩, ⟨by decide, by decide⟩, by decide, by decide⟩ (Nat.le_of_ble_eq_true rfl) dX8_isFine_17 (fun v14 h => ?_)
      refine jr_aload_n (j := 0) hC dX8_isFine_20 rfl rfl ?_
      refine jr_iload_n (j := 2) hC dX8_isFine_21 rfl rfl ?_
      refine jr_iconst (v := (1 : Int32)) hC dX8_isFine_22 (by decide) ?_
      refine jr_iadd hC dX8_isFine_23 ?_
      refine jr_iconst (v := (0 : Int32)) hC dX8_isFine_24 (by decide) ?_
      refine jr_callV_pi (As := [.int (x2 + (1 : Int32)), .int (0 : Int32)]) (st := [.int v14]) hC nc_RX8_98 (c_X8_of hlt h) hc11 rfl rfl ⟨⟨rfl, rfl⟩, ⟨by decide, by decide⟩, by decide, by decide⟩ (Nat.le_of_ble_eq_true rfl) dX8_isFine_25 (fun v15 h => ?_)
      obtain ⟨hthb16, hfhb16⟩ := h
      refine jr_ic_ne (tgt := 126) hC dX8_isFine_28 (by decide) (fun hb16 => ?_) (fun hb16 => ?_)
      · have h := hthb16 hb16
        exact B126 r0 x1 x2 (fun (x1_ : Int32) (x2_ : Int32) => Inv x1_ x2_ ∧ mu x1_ x2_ < mu x1 x2) (fun x1_ x2_ h9 => hrec x1_ x2_ h9) h
      · have h := hfhb16 hb16
        refine jr_iload_n (j := 1) hC dX8_isFine_31 rfl rfl ?_
        obtain ⟨hthb17, hfhb17⟩ := h
        refine jr_if_eq (tgt := 71) hC dX8_isFine_32 (by decide) (fun hb17 => ?_) (fun hb17 => ?_)
        · have h := hthb17 hb17
          refine jr_sub [0, 2] (L1 := [(0, .ref r0), (2, .int x2)]) rfl ?_
          exact B71 r0 x2 (fun (x1_ : Int32) (x2_ : Int32) => Inv x1_ x2_ ∧ mu x1_ x2_ < mu x1 x2) (fun x1_ x2_ h9 => hrec x1_ x2_ h9) h
        · have h := hfhb17 hb17
          refine jr_aload_n (j := 0) hC dX8_isFine_35 rfl rfl ?_
          refine jr_iload_n (j := 2) hC dX8_isFine_36 rfl rfl ?_
          refine jr_iconst (v := (2 : Int32)) hC dX8_isFine_37 (by decide) ?_
          refine jr_callV_pi (As := [.int x2, .int (2 : Int32)]) (st := []) hC nc_RX8_98 (c_X8_of hlt h) hc11 rfl rfl ⟨⟨rfl, rfl⟩, ⟨by decide, by decide⟩, by decide, by decide⟩ (Nat.le_of_ble_eq_true rfl) dX8_isFine_38 (fun v18 h => ?_)
          refine jr_aload_n (j := 0) hC dX8_isFine_41 rfl rfl ?_
          refine jr_iload_n (j := 2) hC dX8_isFine_42 rfl rfl ?_
          refine jr_iconst (v := (1 : Int32)) hC dX8_isFine_43 (by decide) ?_
          refine jr_iadd hC dX8_isFine_44 ?_
          refine jr_iconst (v := (2 : Int32)) hC dX8_isFine_45 (by decide) ?_
          refine jr_callV_pi (As := [.int (x2 + (1 : Int32)), .int (2 : Int32)]) (st := [.int v18]) hC nc_RX8_98 (c_X8_of hlt h) hc11 rfl rfl ⟨⟨rfl, rfl⟩, ⟨by decide, by decide⟩, by decide, by decide⟩ (Nat.le_of_ble_eq_true rfl) dX8_isFine_46 (fun v19 h => ?_)
          obtain ⟨hthb20, hfhb20⟩ := h
          refine jr_ic_ge (tgt := 71) hC dX8_isFine_49 (by decide) (fun hb20 => ?_) (fun hb20 => ?_)
          · have h := hthb20 hb20
            refine jr_sub [0, 2] (L1 := [(0, .ref r0), (2, .int x2)]) rfl ?_
            exact B71 r0 x2 (fun (x1_ : Int32) (x2_ : Int32) => Inv x1_ x2_ ∧ mu x1_ x2_ < mu x1 x2) (fun x1_ x2_ h9 => hrec x1_ x2_ h9) h
          · have h := hfhb20 hb20
            refine jr_aload_n (j := 0) hC dX8_isFine_52 rfl rfl ?_
            refine jr_iload_n (j := 2) hC dX8_isFine_53 rfl rfl ?_
            refine jr_callV_pi (As := [.int x2]) (st := []) hC nc_RX8_108 (c_X8_endOf hlt h) hc11 rfl rfl ⟨⟨rfl, rfl⟩, ⟨by decide, by decide⟩, by decide, by decide⟩ (Nat.le_of_ble_eq_true rfl) dX8_isFine_54 (fun v21 h => ?_)
            refine jr_aload_n (j := 0) hC dX8_isFine_57 rfl rfl ?_
            refine jr_iload_n (j := 2) hC dX8_isFine_58 rfl rfl ?_
            refine jr_iconst (v := (1 : Int32)) hC dX8_isFine_59 (by decide) ?_
            refine jr_iadd hC dX8_isFine_60 ?_
            refine jr_callV_pi (As := [.int (x2 + (1 : Int32))]) (st := [.int v21]) hC nc_RX8_108 (c_X8_endOf hlt h) hc11 rfl rfl ⟨⟨rfl, rfl⟩, ⟨by decide, by decide⟩, by decide, by decide⟩ (Nat.le_of_ble_eq_true rfl) dX8_isFine_61 (fun v22 h => ?_)
            obtain ⟨hthb23, hfhb23⟩ := h
            refine jr_ic_ge (tgt := 71) hC dX8_isFine_64 (by decide) (fun hb23 => ?_) (fun hb23 => ?_)
            · have h := hthb23 hb23
              refine jr_sub [0, 2] (L1 := [(0, .ref r0), (2, .int x2)]) rfl ?_
              exact B71 r0 x2 (fun (x1_ : Int32) (x2_ : Int32) => Inv x1_ x2_ ∧ mu x1_ x2_ < mu x1 x2) (fun x1_ x2_ h9 => hrec x1_ x2_ h9) h
            · have h := hfhb23 hb23
              refine jr_iconst (v := (1 : Int32)) hC dX8_isFine_67 (by decide) ?_
              refine jr_goto (tgt := 72) hC dX8_isFine_68 (by decide) ?_
              refine jr_sub [0, 2] (L1 := [(0, .ref r0), (2, .int x2)]) rfl ?_
              exact B72 r0 x2 (1 : Int32) (fun (x1_ : Int32) (x2_ : Int32) => Inv x1_ x2_ ∧ mu x1_ x2_ < mu x1 x2) (fun x1_ x2_ h9 => hrec x1_ x2_ h9) h
  unfold w_X8_isFine at h
  refine jr_iconst (v := (1 : Int32)) hC dX8_isFine_0 (by decide) ?_
  refine jr_istore_n (L1 := [(1, .int (1 : Int32)), (0, .ref a0)]) hC dX8_isFine_1 rfl hnL (by decide) rfl ?_
  refine jr_iconst (v := (0 : Int32)) hC dX8_isFine_2 (by decide) ?_
  refine jr_istore_n (L1 := [(2, .int (0 : Int32)), (1, .int (1 : Int32)), (0, .ref a0)]) hC dX8_isFine_3 rfl hnL (by decide) rfl ?_
  refine jr_sub [2, 1, 0] (L1 := [(0, .ref a0), (1, .int (1 : Int32)), (2, .int (0 : Int32))]) rfl ?_
  exact B4 a0 (1 : Int32) (0 : Int32) h
set_option maxHeartbeats 4000000 in
set_option maxRecDepth 100000 in
theorem c_X8_takesOver {G : mw_G} {l : Launch} (hlt : l.stackTraces = false) {n : Nat} {M : mw_M} {a0 : Nat} {Q : mw_M → Prop} (h : w_X8_takesOver n M a0 Q) : mw_Met G l yX8_takesOver (.code yX8_takesOver cX8_takesOver 2 none) { frames := 0, cells := 0, slots := 0, locals := 0 } n M [.ref a0] (fun n1 M1 v => n1 = n ∧ mw_rV Q M1 v) (fun _ _ => False) := by
  refine mw_enter (L0 := [(0, .ref a0)]) hlt rfl rfl (plainFor_of_name (by decide)) (Nat.le_of_ble_eq_true rfl) rfl ?_
  intro Y hC0 hZ hnL hini0 hn00
  have hC : mw_C G l _ Y cX8_takesOver RX8 := hC0
  have B13 : ∀ (M : mw_M) (r0 : Nat) (x1 : Int32) (h : w_X8_takesOver_b13 n M r0 x1 Q), mw_J Y 0 0 n M 13 [(0, .ref r0), (1, .int x1)] [] := by
    intro M r0 x1 h
    obtain ⟨Inv, mu, h0, hs⟩ := h
    refine mw_loop2 (fun (M : mw_M) (x1 : Int32) => mw_J Y 0 0 n M 13 [(0, .ref r0), (1, .int x1)] []) Inv mu (fun M x1 hI hrec => ?_) M x1 h0
    have h := hs M x1 hI
    refine jr_iload_n (j := 1) hC dX8_takesOver_13 rfl rfl ?_
    refine jr_bipush (v := (9 : Int32)) hC dX8_takesOver_14 (by decide) ?_
    refine jr_aload_n (j := 0) hC dX8_takesOver_16 rfl rfl ?_
    obtain ⟨hc1, h⟩ := h
    refine jr_get0 hC fl_RX8_95 hc1 dX8_takesOver_17 ?_
    refine jr_imul hC dX8_takesOver_20 ?_
    obtain ⟨hthb2, hfhb2⟩ := h
    refine jr_ic_ge (tgt := 45) hC dX8_takesOver_21 (by decide) (fun hb2 => ?_) (fun hb2 => ?_)
    · have h := hthb2 hb2
      exact jr_vret hC hZ (by decide) (by decide) dX8_takesOver_45 ⟨rfl, rfl, h⟩
    · have h := hfhb2 hb2
      refine jr_aload_n (j := 0) hC dX8_takesOver_24 rfl rfl ?_
      refine jr_get2 hC fl_RX8_7 hc1 dX8_takesOver_25 ?_
      refine jr_bipush (v := (33 : Int32)) hC dX8_takesOver_28 (by decide) ?_
      refine jr_iload_n (j := 1) hC dX8_takesOver_30 rfl rfl ?_
      refine jr_iadd hC dX8_takesOver_31 ?_
      refine jr_aload_n (j := 0) hC dX8_takesOver_32 rfl rfl ?_
      refine jr_get2 hC fl_RX8_26 hc1 dX8_takesOver_33 ?_
      refine jr_iload_n (j := 1) hC dX8_takesOver_36 rfl rfl ?_
      obtain ⟨hc3, h⟩ := h
      obtain ⟨hc4, h⟩ := h
      refine jr_iald hC hc3 hc4 dX8_takesOver_37 ?_
      obtain ⟨hc5, h⟩ := h
      obtain ⟨hc6, h⟩ := h
      obtain ⟨M7, eM7⟩ : ∃ y : mw_M, y = sI M (mP M r0 0) (Int32.toNatClampNeg ((33 : Int32) + x1)) (mI M (mP M r0 7) (Int32.toNatClampNeg x1)) := ⟨_, rfl⟩
      have h := h M7 eM7
      refine jr_iast hC hc5 hc6 eM7 dX8_takesOver_38 ?_
      obtain ⟨v8, ev8⟩ : ∃ y : Int32, y = (x1 + (1 : Int32)) := ⟨_, rfl⟩
      have h := h v8 ev8
      refine jr_iinc (j := 1) (v := v8) (L1 := [(1, .int v8), (0, .ref r0)]) hC dX8_takesOver_39 rfl (by rw [ev8]; rfl) hnL (by decide) rfl ?_
      refine jr_goto (tgt := 13) hC dX8_takesOver_42 (by decide) ?_
      refine jr_sub [1, 0] (L1 := [(0, .ref r0), (1, .int v8)]) rfl ?_
      exact hrec M7 v8 h
  unfold w_X8_takesOver at h
  refine jr_aload_n (j := 0) hC dX8_takesOver_0 rfl rfl ?_
  obtain ⟨hc9, h⟩ := h
  refine jr_get2 hC fl_RX8_7 hc9 dX8_takesOver_1 ?_
  refine jr_bipush (v := (8 : Int32)) hC dX8_takesOver_4 (by decide) ?_
  refine jr_aload_n (j := 0) hC dX8_takesOver_6 rfl rfl ?_
  refine jr_get0 hC fl_RX8_95 hc9 dX8_takesOver_7 ?_
  obtain ⟨hc10, h⟩ := h
  obtain ⟨hc11, h⟩ := h
  obtain ⟨M12, eM12⟩ : ∃ y : mw_M, y = sI M (mP M a0 0) (Int32.toNatClampNeg (8 : Int32)) (mI M a0 6) := ⟨_, rfl⟩
  have h := h M12 eM12
  refine jr_iast hC hc10 hc11 eM12 dX8_takesOver_10 ?_
  refine jr_iconst (v := (0 : Int32)) hC dX8_takesOver_11 (by decide) ?_
  refine jr_istore_n (L1 := [(1, .int (0 : Int32)), (0, .ref a0)]) hC dX8_takesOver_12 rfl hnL (by decide) rfl ?_
  refine jr_sub [1, 0] (L1 := [(0, .ref a0), (1, .int (0 : Int32))]) rfl ?_
  exact B13 M12 a0 (0 : Int32) h
set_option maxHeartbeats 4000000 in
set_option maxRecDepth 100000 in
theorem c_X8_addClip {G : mw_G} {l : Launch} (hlt : l.stackTraces = false) {n : Nat} {M : mw_M} {a0 : Nat} {x1 : Int32} {x2 : Int32} {x3 : Int32} {x4 : Int32} {x5 : Int32} {x6 : Int32} {Q : mw_M → Int32 → Prop} (h : w_X8_addClip n M a0 x1 x2 x3 x4 x5 x6 Q) : mw_Met G l yX8_addClip (.code yX8_addClip cX8_addClip 9 (some .int)) { frames := 3, cells := 0, slots := 0, locals := 70 } n M [.ref a0, .int x1, .int x2, .int x3, .int x4, .int x5, .int x6] (fun n1 M1 v => n1 = n ∧ mw_rI Q M1 v) (fun _ _ => False) := by
  refine mw_enter (L0 := [(0, .ref a0), (1, .int x1), (2, .int x2), (3, .int x3), (4, .int x4), (5, .int x5), (6, .int x6)]) hlt rfl rfl (plainFor_of_name (by decide)) (Nat.le_of_ble_eq_true rfl) rfl ?_
  intro Y hC0 hZ hnL hini0 hn00
  have hC : mw_C G l _ Y cX8_addClip RX8 := hC0
  have B104 : ∀ (M : mw_M) (s0 : Int32) (h : w_X8_addClip_b104 n M s0 Q), mw_J Y 0 0 n M 104 [] [.int s0] := by
    intro M s0 h
    unfold w_X8_addClip_b104 at h
    exact jr_ireti hC hZ (by decide) (by decide) dX8_addClip_104 ⟨rfl, _, rfl, h⟩
  have B93 : ∀ (M : mw_M) (s0 : Int32) (s1r : Nat) (h : w_X8_addClip_b93 n M s0 s1r Q), mw_J Y 0 0 n M 93 [] [.int s0, .ref s1r] := by
    intro M s0 s1r h
    unfold w_X8_addClip_b93 at h
    obtain ⟨hc1, h⟩ := h
    refine jr_callV_i (As := [.int s0]) (st := []) hC nc_RX8_51 (c_X8_refuses hlt h) hc1 rfl rfl ⟨⟨rfl, rfl⟩, ⟨by decide, by decide⟩, by decide, by decide⟩ (Nat.le_of_ble_eq_true rfl) dX8_addClip_93 (fun M2 v3 h => ?_)
    obtain ⟨hthb4, hfhb4⟩ := h
    refine jr_if_eq (tgt := 103) hC dX8_addClip_96 (by decide) (fun hb4 => ?_) (fun hb4 => ?_)
    · have h := hthb4 hb4
      refine jr_iconst (v := (-1 : Int32)) hC dX8_addClip_103 (by decide) ?_
      exact B104 M2 (-1 : Int32) h
    · have h := hfhb4 hb4
      refine jr_iconst (v := (0 : Int32)) hC dX8_addClip_99 (by decide) ?_
      refine jr_goto (tgt := 104) hC dX8_addClip_100 (by decide) ?_
      exact B104 M2 (0 : Int32) h
  have B82 : ∀ (M : mw_M) (r0 : Nat) (x7 : Int32) (h : w_X8_addClip_b82 n M r0 x7 Q), mw_J Y 0 0 n M 82 [(0, .ref r0), (7, .int x7)] [] := by
    intro M r0 x7 h
    unfold w_X8_addClip_b82 at h
    refine jr_aload_n (j := 0) hC dX8_addClip_82 rfl rfl ?_
    refine jr_iload (j := 1) hC dX8_addClip_83 rfl ?_
    obtain ⟨hthb5, hfhb5⟩ := h
    refine jr_if_eq (tgt := 92) hC dX8_addClip_85 (by decide) (fun hb5 => ?_) (fun hb5 => ?_)
    · have h := hthb5 hb5
      refine jr_iconst (v := (1 : Int32)) hC dX8_addClip_92 (by decide) ?_
      refine jr_sub [] (L1 := []) rfl ?_
      exact B93 M (1 : Int32) r0 h
    · have h := hfhb5 hb5
      refine jr_iconst (v := (2 : Int32)) hC dX8_addClip_88 (by decide) ?_
      refine jr_goto (tgt := 93) hC dX8_addClip_89 (by decide) ?_
      refine jr_sub [] (L1 := []) rfl ?_
      exact B93 M (2 : Int32) r0 h
  have B234 : ∀ (M : mw_M) (r0 : Nat) (x8 : Int32) (s0 : Int32) (s1r : Nat) (h : w_X8_addClip_b234 n M r0 x8 s0 s1r Q), mw_J Y 0 0 n M 234 [(0, .ref r0), (8, .int x8)] [.int s0, .ref s1r] := by
    intro M r0 x8 s0 s1r h
    unfold w_X8_addClip_b234 at h
    obtain ⟨hc6, h⟩ := h
    refine jr_callV_i (As := [.int s0]) (st := []) hC nc_RX8_73 (c_X8_refusesChange hlt h) hc6 rfl rfl ⟨⟨rfl, rfl⟩, ⟨by decide, by decide⟩, by decide, by decide⟩ (Nat.le_of_ble_eq_true rfl) dX8_addClip_234 (fun M7 v8 h => ?_)
    obtain ⟨hthb9, hfhb9⟩ := h
    refine jr_if_eq (tgt := 242) hC dX8_addClip_237 (by decide) (fun hb9 => ?_) (fun hb9 => ?_)
    · have h := hthb9 hb9
      refine jr_aload_n (j := 0) hC dX8_addClip_242 rfl rfl ?_
      obtain ⟨hc10, h⟩ := h
      refine jr_callV_v (As := []) (st := []) hC nc_RX8_133 (c_X8_takesOver hlt h) hc10 rfl rfl ⟨⟨rfl, rfl⟩, ⟨by decide, by decide⟩, by decide, by decide⟩ (Nat.le_of_ble_eq_true rfl) dX8_addClip_243 (fun M11 h => ?_)
      refine jr_iload (j := 1) hC dX8_addClip_246 rfl ?_
      exact jr_ireti hC hZ (by decide) (by decide) dX8_addClip_248 ⟨rfl, _, rfl, h⟩
    · have h := hfhb9 hb9
      refine jr_iconst (v := (0 : Int32)) hC dX8_addClip_240 (by decide) ?_
      exact jr_ireti hC hZ (by decide) (by decide) dX8_addClip_241 ⟨rfl, _, rfl, h⟩
  have B112 : ∀ (M : mw_M) (r0 : Nat) (x1 : Int32) (x2 : Int32) (x3 : Int32) (x4 : Int32) (x5 : Int32) (x6 : Int32) (x8 : Int32) (h : w_X8_addClip_b112 n M r0 x1 x2 x3 x4 x5 x6 x8 Q), mw_J Y 0 0 n M 112 [(0, .ref r0), (1, .int x1), (2, .int x2), (3, .int x3), (4, .int x4), (5, .int x5), (6, .int x6), (8, .int x8)] [] := by
    intro M r0 x1 x2 x3 x4 x5 x6 x8 h
    obtain ⟨Inv, mu, h0, hs⟩ := h
    refine mw_loop2 (fun (M : mw_M) (x8 : Int32) => mw_J Y 0 0 n M 112 [(0, .ref r0), (1, .int x1), (2, .int x2), (3, .int x3), (4, .int x4), (5, .int x5), (6, .int x6), (8, .int x8)] []) Inv mu (fun M x8 hI hrec => ?_) M x8 h0
    have h := hs M x8 hI
    refine jr_iload (j := 7) hC dX8_addClip_112 rfl ?_
    refine jr_bipush (v := (9 : Int32)) hC dX8_addClip_114 (by decide) ?_
    obtain ⟨hthb12, hfhb12⟩ := h
    refine jr_ic_ge (tgt := 136) hC dX8_addClip_116 (by decide) (fun hb12 => ?_) (fun hb12 => ?_)
    · have h := hthb12 hb12
      refine jr_aload_n (j := 0) hC dX8_addClip_136 rfl rfl ?_
      refine jr_aload_n (j := 0) hC dX8_addClip_137 rfl rfl ?_
      obtain ⟨hc13, h⟩ := h
      refine jr_get0 hC fl_RX8_95 hc13 dX8_addClip_138 ?_
      refine jr_iconst (v := (0 : Int32)) hC dX8_addClip_141 (by decide) ?_
      refine jr_iload_n (j := 1) hC dX8_addClip_142 rfl rfl ?_
      refine jr_callV_v (As := [.int (mI M r0 6), .int (0 : Int32), .int x1]) (st := []) hC nc_RX8_122 (c_X8_set hlt h) hc13 rfl rfl ⟨⟨rfl, rfl⟩, ⟨by decide, by decide⟩, by decide, by decide⟩ (Nat.le_of_ble_eq_true rfl) dX8_addClip_143 (fun M14 h => ?_)
      refine jr_aload_n (j := 0) hC dX8_addClip_146 rfl rfl ?_
      refine jr_aload_n (j := 0) hC dX8_addClip_147 rfl rfl ?_
      refine jr_get0 hC fl_RX8_95 hc13 dX8_addClip_148 ?_
      refine jr_iconst (v := (1 : Int32)) hC dX8_addClip_151 (by decide) ?_
      refine jr_iload_n (j := 2) hC dX8_addClip_152 rfl rfl ?_
      refine jr_callV_v (As := [.int (mI M14 r0 6), .int (1 : Int32), .int x2]) (st := []) hC nc_RX8_122 (c_X8_set hlt h) hc13 rfl rfl ⟨⟨rfl, rfl⟩, ⟨by decide, by decide⟩, by decide, by decide⟩ (Nat.le_of_ble_eq_true rfl) dX8_addClip_153 (fun M15 h => ?_)
      refine jr_aload_n (j := 0) hC dX8_addClip_156 rfl rfl ?_
      refine jr_aload_n (j := 0) hC dX8_addClip_157 rfl rfl ?_
      refine jr_get0 hC fl_RX8_95 hc13 dX8_addClip_158 ?_
      refine jr_iconst (v := (2 : Int32)) hC dX8_addClip_161 (by decide) ?_
      refine jr_iload_n (j := 3) hC dX8_addClip_162 rfl rfl ?_
      refine jr_callV_v (As := [.int (mI M15 r0 6), .int (2 : Int32), .int x3]) (st := []) hC nc_RX8_122 (c_X8_set hlt h) hc13 rfl rfl ⟨⟨rfl, rfl⟩, ⟨by decide, by decide⟩, by decide, by decide⟩ (Nat.le_of_ble_eq_true rfl) dX8_addClip_163 (fun M16 h => ?_)
      refine jr_aload_n (j := 0) hC dX8_addClip_166 rfl rfl ?_
      refine jr_aload_n (j := 0) hC dX8_addClip_167 rfl rfl ?_
      refine jr_get0 hC fl_RX8_95 hc13 dX8_addClip_168 ?_
      refine jr_iconst (v := (3 : Int32)) hC dX8_addClip_171 (by decide) ?_
      refine jr_iload (j := 4) hC dX8_addClip_172 rfl ?_
      refine jr_callV_v (As := [.int (mI M16 r0 6), .int (3 : Int32), .int x4]) (st := []) hC nc_RX8_122 (c_X8_set hlt h) hc13 rfl rfl ⟨⟨rfl, rfl⟩, ⟨by decide, by decide⟩, by decide, by decide⟩ (Nat.le_of_ble_eq_true rfl) dX8_addClip_174 (fun M17 h => ?_)
      refine jr_aload_n (j := 0) hC dX8_addClip_177 rfl rfl ?_
      refine jr_aload_n (j := 0) hC dX8_addClip_178 rfl rfl ?_
      refine jr_get0 hC fl_RX8_95 hc13 dX8_addClip_179 ?_
      refine jr_iconst (v := (4 : Int32)) hC dX8_addClip_182 (by decide) ?_
      refine jr_iload (j := 5) hC dX8_addClip_183 rfl ?_
      refine jr_callV_v (As := [.int (mI M17 r0 6), .int (4 : Int32), .int x5]) (st := []) hC nc_RX8_122 (c_X8_set hlt h) hc13 rfl rfl ⟨⟨rfl, rfl⟩, ⟨by decide, by decide⟩, by decide, by decide⟩ (Nat.le_of_ble_eq_true rfl) dX8_addClip_185 (fun M18 h => ?_)
      refine jr_aload_n (j := 0) hC dX8_addClip_188 rfl rfl ?_
      refine jr_aload_n (j := 0) hC dX8_addClip_189 rfl rfl ?_
      refine jr_get0 hC fl_RX8_95 hc13 dX8_addClip_190 ?_
      refine jr_iconst (v := (5 : Int32)) hC dX8_addClip_193 (by decide) ?_
      refine jr_iload (j := 6) hC dX8_addClip_194 rfl ?_
      refine jr_callV_v (As := [.int (mI M18 r0 6), .int (5 : Int32), .int x6]) (st := []) hC nc_RX8_122 (c_X8_set hlt h) hc13 rfl rfl ⟨⟨rfl, rfl⟩, ⟨by decide, by decide⟩, by decide, by decide⟩ (Nat.le_of_ble_eq_true rfl) dX8_addClip_196 (fun M19 h => ?_)
      refine jr_aload_n (j := 0) hC dX8_addClip_199 rfl rfl ?_
      refine jr_dup hC dX8_addClip_200 rfl ?_
      refine jr_get0 hC fl_RX8_95 hc13 dX8_addClip_201 ?_
      refine jr_iconst (v := (1 : Int32)) hC dX8_addClip_204 (by decide) ?_
      refine jr_iadd hC dX8_addClip_205 ?_
      obtain ⟨M20, eM20⟩ : ∃ y : mw_M, y = sI M19 r0 6 ((mI M19 r0 6) + (1 : Int32)) := ⟨_, rfl⟩
      have h := h M20 eM20
      refine jr_putI hC fp_RX8_95 hc13 eM20 dX8_addClip_206 ?_
      refine jr_aload_n (j := 0) hC dX8_addClip_209 rfl rfl ?_
      refine jr_aload_n (j := 0) hC dX8_addClip_210 rfl rfl ?_
      refine jr_get0 hC fl_RX8_95 hc13 dX8_addClip_211 ?_
      refine jr_iconst (v := (1 : Int32)) hC dX8_addClip_214 (by decide) ?_
      refine jr_isub hC dX8_addClip_215 ?_
      refine jr_callV_i (As := [.int ((mI M20 r0 6) - (1 : Int32))]) (st := []) hC nc_RX8_126 (c_X8_settles hlt h) hc13 rfl rfl ⟨⟨rfl, rfl⟩, ⟨by decide, by decide⟩, by decide, by decide⟩ (Nat.le_of_ble_eq_true rfl) dX8_addClip_216 (fun M21 v22 h => ?_)
      refine jr_istore (L1 := [(8, .int v22), (0, .ref r0), (1, .int x1), (2, .int x2), (3, .int x3), (4, .int x4), (5, .int x5), (6, .int x6)]) hC dX8_addClip_219 hnL (by decide) rfl ?_
      refine jr_aload_n (j := 1) hC dX8_addClip_221 rfl rfl ?_
      refine jr_aload_n (j := 1) hC dX8_addClip_222 rfl rfl ?_
      refine jr_callV_pi (As := []) (st := [.ref r0]) hC nc_RX8_129 (c_X8_isFine hlt h) hc13 rfl rfl ⟨⟨rfl, rfl⟩, ⟨by decide, by decide⟩, by decide, by decide⟩ (Nat.le_of_ble_eq_true rfl) dX8_addClip_223 (fun v23 h => ?_)
      obtain ⟨hthb24, hfhb24⟩ := h
      refine jr_if_eq (tgt := 233) hC dX8_addClip_226 (by decide) (fun hb24 => ?_) (fun hb24 => ?_)
      · have h := hthb24 hb24
        refine jr_iconst (v := (3 : Int32)) hC dX8_addClip_233 (by decide) ?_
        refine jr_sub [1, 0] (L1 := [(0, .ref r0), (8, .int v22)]) rfl ?_
        exact B234 M21 r0 v22 (3 : Int32) r0 h
      · have h := hfhb24 hb24
        refine jr_iconst (v := (0 : Int32)) hC dX8_addClip_229 (by decide) ?_
        refine jr_goto (tgt := 234) hC dX8_addClip_230 (by decide) ?_
        refine jr_sub [1, 0] (L1 := [(0, .ref r0), (8, .int v22)]) rfl ?_
        exact B234 M21 r0 v22 (0 : Int32) r0 h
    · have h := hfhb12 hb12
      refine jr_aload_n (j := 0) hC dX8_addClip_119 rfl rfl ?_
      refine jr_aload_n (j := 0) hC dX8_addClip_120 rfl rfl ?_
      obtain ⟨hc25, h⟩ := h
      refine jr_get0 hC fl_RX8_95 hc25 dX8_addClip_121 ?_
      refine jr_iload (j := 7) hC dX8_addClip_124 rfl ?_
      refine jr_iconst (v := (0 : Int32)) hC dX8_addClip_126 (by decide) ?_
      refine jr_callV_v (As := [.int (mI M r0 6), .int x8, .int (0 : Int32)]) (st := []) hC nc_RX8_122 (c_X8_set hlt h) hc25 rfl rfl ⟨⟨rfl, rfl⟩, ⟨by decide, by decide⟩, by decide, by decide⟩ (Nat.le_of_ble_eq_true rfl) dX8_addClip_127 (fun M26 h => ?_)
      obtain ⟨v27, ev27⟩ : ∃ y : Int32, y = (x8 + (1 : Int32)) := ⟨_, rfl⟩
      have h := h v27 ev27
      refine jr_iinc (j := 7) (v := v27) (L1 := [(8, .int v27), (0, .ref r0), (1, .int x1), (2, .int x2), (3, .int x3), (4, .int x4), (5, .int x5), (6, .int x6)]) hC dX8_addClip_130 rfl (by rw [ev27]; rfl) hnL (by decide) rfl ?_
      refine jr_goto (tgt := 112) hC dX8_addClip_133 (by decide) ?_
      refine jr_sub [1, 2, 3, 4, 5, 6, 7, 0] (L1 := [(0, .ref r0), (1, .int x1), (2, .int x2), (3, .int x3), (4, .int x4), (5, .int x5), (6, .int x6), (8, .int v27)]) rfl ?_
      exact hrec M26 v27 h
  have B63 : ∀ (M : mw_M) (r0 : Nat) (x1 : Int32) (x2 : Int32) (x3 : Int32) (x4 : Int32) (x5 : Int32) (x6 : Int32) (s0 : Int32) (h : w_X8_addClip_b63 n M r0 x1 x2 x3 x4 x5 x6 s0 Q), mw_J Y 0 0 n M 63 [(0, .ref r0), (1, .int x1), (2, .int x2), (3, .int x3), (4, .int x4), (5, .int x5), (6, .int x6)] [.int s0] := by
    intro M r0 x1 x2 x3 x4 x5 x6 s0 h
    unfold w_X8_addClip_b63 at h
    refine jr_istore (L1 := [(7, .int s0), (0, .ref r0), (1, .int x1), (2, .int x2), (3, .int x3), (4, .int x4), (5, .int x5), (6, .int x6)]) hC dX8_addClip_63 hnL (by decide) rfl ?_
    refine jr_iload (j := 0) hC dX8_addClip_65 rfl ?_
    obtain ⟨hthb28, hfhb28⟩ := h
    refine jr_if_eq (tgt := 82) hC dX8_addClip_67 (by decide) (fun hb28 => ?_) (fun hb28 => ?_)
    · have h := hthb28 hb28
      refine jr_sub [1, 0] (L1 := [(0, .ref r0), (7, .int s0)]) rfl ?_
      exact B82 M r0 s0 h
    · have h := hfhb28 hb28
      refine jr_aload_n (j := 1) hC dX8_addClip_70 rfl rfl ?_
      obtain ⟨hc29, h⟩ := h
      refine jr_get2 hC fl_RX8_7 hc29 dX8_addClip_71 ?_
      refine jr_bipush (v := (8 : Int32)) hC dX8_addClip_74 (by decide) ?_
      obtain ⟨hc30, h⟩ := h
      obtain ⟨hc31, h⟩ := h
      refine jr_iald hC hc30 hc31 dX8_addClip_76 ?_
      refine jr_bipush (v := (12 : Int32)) hC dX8_addClip_77 (by decide) ?_
      obtain ⟨hthb32, hfhb32⟩ := h
      refine jr_ic_ne (tgt := 105) hC dX8_addClip_79 (by decide) (fun hb32 => ?_) (fun hb32 => ?_)
      · have h := hthb32 hb32
        refine jr_aload_n (j := 1) hC dX8_addClip_105 rfl rfl ?_
        refine jr_callV_v (As := []) (st := []) hC nc_RX8_119 (c_X8_tries hlt h) hc29 rfl rfl ⟨⟨rfl, rfl⟩, ⟨by decide, by decide⟩, by decide, by decide⟩ (Nat.le_of_ble_eq_true rfl) dX8_addClip_106 (fun M33 h => ?_)
        refine jr_iconst (v := (0 : Int32)) hC dX8_addClip_109 (by decide) ?_
        refine jr_istore (L1 := [(8, .int (0 : Int32)), (7, .int s0), (0, .ref r0), (1, .int x1), (2, .int x2), (3, .int x3), (4, .int x4), (5, .int x5), (6, .int x6)]) hC dX8_addClip_110 hnL (by decide) rfl ?_
        refine jr_sub [2, 3, 4, 5, 6, 7, 8, 0] (L1 := [(0, .ref r0), (1, .int x1), (2, .int x2), (3, .int x3), (4, .int x4), (5, .int x5), (6, .int x6), (8, .int (0 : Int32))]) rfl ?_
        exact B112 M33 r0 x1 x2 x3 x4 x5 x6 (0 : Int32) h
      · have h := hfhb32 hb32
        refine jr_sub [1, 0] (L1 := [(0, .ref r0), (7, .int s0)]) rfl ?_
        exact B82 M r0 s0 h
  have B62 : ∀ (M : mw_M) (r0 : Nat) (x1 : Int32) (x2 : Int32) (x3 : Int32) (x4 : Int32) (x5 : Int32) (x6 : Int32) (h : w_X8_addClip_b62 n M r0 x1 x2 x3 x4 x5 x6 Q), mw_J Y 0 0 n M 62 [(0, .ref r0), (1, .int x1), (2, .int x2), (3, .int x3), (4, .int x4), (5, .int x5), (6, .int x6)] [] := by
    intro M r0 x1 x2 x3 x4 x5 x6 h
    unfold w_X8_addClip_b62 at h
    refine jr_iconst (v := (0 : Int32)) hC dX8_addClip_62 (by decide) ?_
    exact B63 M r0 x1 x2 x3 x4 x5 x6 (0 : Int32) h
  unfold w_X8_addClip at h
  refine jr_iload_n (j := 1) hC dX8_addClip_0 rfl rfl ?_
  refine jr_callS_pi (As := [.int x1]) (st := []) hC nc_RX8_111 (c_X8_isTrack hlt h) rfl rfl ⟨⟨rfl, rfl⟩, ⟨by decide, by decide⟩, by decide, by decide⟩ (Nat.le_of_ble_eq_true rfl) dX8_addClip_1 (fun v34 h => ?_)
  obtain ⟨hthb35, hfhb35⟩ := h
  refine jr_if_eq (tgt := 62) hC dX8_addClip_4 (by decide) (fun hb35 => ?_) (fun hb35 => ?_)
  · have h := hthb35 hb35
    exact B62 M a0 x1 x2 x3 x4 x5 x6 h
  · have h := hfhb35 hb35
    refine jr_iload_n (j := 2) hC dX8_addClip_7 rfl rfl ?_
    refine jr_callS_pi (As := [.int x2]) (st := []) hC nc_RX8_70 (c_X8_isSource hlt h) rfl rfl ⟨⟨rfl, rfl⟩, ⟨by decide, by decide⟩, by decide, by decide⟩ (Nat.le_of_ble_eq_true rfl) dX8_addClip_8 (fun v36 h => ?_)
    obtain ⟨hthb37, hfhb37⟩ := h
    refine jr_if_eq (tgt := 62) hC dX8_addClip_11 (by decide) (fun hb37 => ?_) (fun hb37 => ?_)
    · have h := hthb37 hb37
      exact B62 M a0 x1 x2 x3 x4 x5 x6 h
    · have h := hfhb37 hb37
      refine jr_iload_n (j := 3) hC dX8_addClip_14 rfl rfl ?_
      refine jr_callS_pi (As := [.int x3]) (st := []) hC nc_RX8_114 (c_X8_isPlace hlt h) rfl rfl ⟨⟨rfl, rfl⟩, ⟨by decide, by decide⟩, by decide, by decide⟩ (Nat.le_of_ble_eq_true rfl) dX8_addClip_15 (fun v38 h => ?_)
      obtain ⟨hthb39, hfhb39⟩ := h
      refine jr_if_eq (tgt := 62) hC dX8_addClip_18 (by decide) (fun hb39 => ?_) (fun hb39 => ?_)
      · have h := hthb39 hb39
        exact B62 M a0 x1 x2 x3 x4 x5 x6 h
      · have h := hfhb39 hb39
        refine jr_iload (j := 4) hC dX8_addClip_21 rfl ?_
        refine jr_callS_pi (As := [.int x4]) (st := []) hC nc_RX8_114 (c_X8_isPlace hlt h) rfl rfl ⟨⟨rfl, rfl⟩, ⟨by decide, by decide⟩, by decide, by decide⟩ (Nat.le_of_ble_eq_true rfl) dX8_addClip_23 (fun v40 h => ?_)
        obtain ⟨hthb41, hfhb41⟩ := h
        refine jr_if_eq (tgt := 62) hC dX8_addClip_26 (by decide) (fun hb41 => ?_) (fun hb41 => ?_)
        · have h := hthb41 hb41
          exact B62 M a0 x1 x2 x3 x4 x5 x6 h
        · have h := hfhb41 hb41
          refine jr_iload (j := 5) hC dX8_addClip_29 rfl ?_
          refine jr_i2l hC dX8_addClip_31 ?_
          refine jr_lconst (v := (1 : Int64)) hC dX8_addClip_32 (by decide) ?_
          refine jr_sipush (v := (4000 : Int32)) hC dX8_addClip_33 (by decide) ?_
          refine jr_iload_n (j := 3) hC dX8_addClip_36 rfl rfl ?_
          refine jr_isub hC dX8_addClip_37 ?_
          refine jr_i2l hC dX8_addClip_38 ?_
          refine jr_callS_pi (As := [.long (Int32.toInt64 x5), .long (1 : Int64), .long (Int32.toInt64 ((4000 : Int32) - x3))]) (st := []) hC nc_RX8_45 (c_X8_in hlt h) rfl rfl ⟨⟨rfl, rfl⟩, ⟨by decide, by decide⟩, by decide, by decide⟩ (Nat.le_of_ble_eq_true rfl) dX8_addClip_39 (fun v42 h => ?_)
          obtain ⟨hthb43, hfhb43⟩ := h
          refine jr_if_eq (tgt := 62) hC dX8_addClip_42 (by decide) (fun hb43 => ?_) (fun hb43 => ?_)
          · have h := hthb43 hb43
            exact B62 M a0 x1 x2 x3 x4 x5 x6 h
          · have h := hfhb43 hb43
            refine jr_iload (j := 6) hC dX8_addClip_45 rfl ?_
            refine jr_i2l hC dX8_addClip_47 ?_
            refine jr_lconst (v := (0 : Int64)) hC dX8_addClip_48 (by decide) ?_
            refine jr_ldc2 (v := (2000 : Int64)) hC tw_1131 dX8_addClip_49 ?_
            refine jr_callS_pi (As := [.long (Int32.toInt64 x6), .long (0 : Int64), .long (2000 : Int64)]) (st := []) hC nc_RX8_45 (c_X8_in hlt h) rfl rfl ⟨⟨rfl, rfl⟩, ⟨by decide, by decide⟩, by decide, by decide⟩ (Nat.le_of_ble_eq_true rfl) dX8_addClip_52 (fun v44 h => ?_)
            obtain ⟨hthb45, hfhb45⟩ := h
            refine jr_if_eq (tgt := 62) hC dX8_addClip_55 (by decide) (fun hb45 => ?_) (fun hb45 => ?_)
            · have h := hthb45 hb45
              exact B62 M a0 x1 x2 x3 x4 x5 x6 h
            · have h := hfhb45 hb45
              refine jr_iconst (v := (1 : Int32)) hC dX8_addClip_58 (by decide) ?_
              refine jr_goto (tgt := 63) hC dX8_addClip_59 (by decide) ?_
              exact B63 M a0 x1 x2 x3 x4 x5 x6 (1 : Int32) h
set_option maxHeartbeats 4000000 in
set_option maxRecDepth 100000 in
theorem c_X8_setFades {G : mw_G} {l : Launch} (hlt : l.stackTraces = false) {n : Nat} {M : mw_M} {a0 : Nat} {x1 : Int32} {x2 : Int32} {x3 : Int32} {x4 : Int32} {Q : mw_M → Int32 → Prop} (h : w_X8_setFades n M a0 x1 x2 x3 x4 Q) : mw_Met G l yX8_setFades (.code yX8_setFades cX8_setFades 7 (some .int)) { frames := 2, cells := 0, slots := 0, locals := 46 } n M [.ref a0, .int x1, .int x2, .int x3, .int x4] (fun n1 M1 v => n1 = n ∧ mw_rI Q M1 v) (fun _ _ => False) := by
  refine mw_enter (L0 := [(0, .ref a0), (1, .int x1), (2, .int x2), (3, .int x3), (4, .int x4)]) hlt rfl rfl (plainFor_of_name (by decide)) (Nat.le_of_ble_eq_true rfl) rfl ?_
  intro Y hC0 hZ hnL hini0 hn00
  have hC : mw_C G l _ Y cX8_setFades RX8 := hC0
  have B65 : ∀ (M : mw_M) (r0 : Nat) (x1 : Int32) (x2 : Int32) (x3 : Int32) (x4 : Int32) (s0 : Int32) (s1r : Nat) (h : w_X8_setFades_b65 n M r0 x1 x2 x3 x4 s0 s1r Q), mw_J Y 0 0 n M 65 [(0, .ref r0), (1, .int x1), (2, .int x2), (3, .int x3), (4, .int x4)] [.int s0, .ref s1r] := by
    intro M r0 x1 x2 x3 x4 s0 s1r h
    unfold w_X8_setFades_b65 at h
    obtain ⟨hc1, h⟩ := h
    refine jr_callV_i (As := [.int s0]) (st := []) hC nc_RX8_73 (c_X8_refusesChange hlt h) hc1 rfl rfl ⟨⟨rfl, rfl⟩, ⟨by decide, by decide⟩, by decide, by decide⟩ (Nat.le_of_ble_eq_true rfl) dX8_setFades_65 (fun M2 v3 h => ?_)
    obtain ⟨hthb4, hfhb4⟩ := h
    refine jr_if_eq (tgt := 73) hC dX8_setFades_68 (by decide) (fun hb4 => ?_) (fun hb4 => ?_)
    · have h := hthb4 hb4
      refine jr_bipush (v := (33 : Int32)) hC dX8_setFades_73 (by decide) ?_
      refine jr_bipush (v := (9 : Int32)) hC dX8_setFades_75 (by decide) ?_
      refine jr_iload_n (j := 1) hC dX8_setFades_77 rfl rfl ?_
      refine jr_imul hC dX8_setFades_78 ?_
      refine jr_iadd hC dX8_setFades_79 ?_
      refine jr_nmI (fun v5 ev5 => ?_)
      have h := h v5 ev5
      refine jr_istore (L1 := [(6, .int v5), (0, .ref r0), (1, .int x1), (2, .int x2), (3, .int x3), (4, .int x4)]) hC dX8_setFades_80 hnL (by decide) rfl ?_
      refine jr_aload_n (j := 1) hC dX8_setFades_82 rfl rfl ?_
      obtain ⟨hc6, h⟩ := h
      refine jr_get2 hC fl_RX8_7 hc6 dX8_setFades_83 ?_
      refine jr_iload (j := 0) hC dX8_setFades_86 rfl ?_
      refine jr_bipush (v := (7 : Int32)) hC dX8_setFades_88 (by decide) ?_
      refine jr_iadd hC dX8_setFades_90 ?_
      refine jr_iload_n (j := 4) hC dX8_setFades_91 rfl rfl ?_
      obtain ⟨hc7, h⟩ := h
      obtain ⟨hc8, h⟩ := h
      obtain ⟨M9, eM9⟩ : ∃ y : mw_M, y = sI M2 (mP M2 r0 0) (Int32.toNatClampNeg (v5 + (7 : Int32))) x3 := ⟨_, rfl⟩
      have h := h M9 eM9
      refine jr_iast hC hc7 hc8 eM9 dX8_setFades_92 ?_
      refine jr_aload_n (j := 1) hC dX8_setFades_93 rfl rfl ?_
      refine jr_get2 hC fl_RX8_7 hc6 dX8_setFades_94 ?_
      refine jr_iload (j := 0) hC dX8_setFades_97 rfl ?_
      refine jr_bipush (v := (8 : Int32)) hC dX8_setFades_99 (by decide) ?_
      refine jr_iadd hC dX8_setFades_101 ?_
      refine jr_iload (j := 5) hC dX8_setFades_102 rfl ?_
      obtain ⟨hc10, h⟩ := h
      obtain ⟨hc11, h⟩ := h
      obtain ⟨M12, eM12⟩ : ∃ y : mw_M, y = sI M9 (mP M9 r0 0) (Int32.toNatClampNeg (v5 + (8 : Int32))) x4 := ⟨_, rfl⟩
      have h := h M12 eM12
      refine jr_iast hC hc10 hc11 eM12 dX8_setFades_104 ?_
      refine jr_aload_n (j := 1) hC dX8_setFades_105 rfl rfl ?_
      refine jr_iload (j := 0) hC dX8_setFades_106 rfl ?_
      refine jr_bipush (v := (6 : Int32)) hC dX8_setFades_108 (by decide) ?_
      refine jr_iadd hC dX8_setFades_110 ?_
      refine jr_iload_n (j := 3) hC dX8_setFades_111 rfl rfl ?_
      refine jr_callV_i (As := [.int (v5 + (6 : Int32)), .int x2]) (st := []) hC nc_RX8_76 (c_X8_becomes hlt h) hc6 rfl rfl ⟨⟨rfl, rfl⟩, ⟨by decide, by decide⟩, by decide, by decide⟩ (Nat.le_of_ble_eq_true rfl) dX8_setFades_112 (fun M13 v14 h => ?_)
      exact jr_ireti hC hZ (by decide) (by decide) dX8_setFades_115 ⟨rfl, _, rfl, h⟩
    · have h := hfhb4 hb4
      refine jr_iconst (v := (0 : Int32)) hC dX8_setFades_71 (by decide) ?_
      exact jr_ireti hC hZ (by decide) (by decide) dX8_setFades_72 ⟨rfl, _, rfl, h⟩
  have B40 : ∀ (M : mw_M) (r0 : Nat) (x1 : Int32) (x2 : Int32) (x3 : Int32) (x4 : Int32) (s0 : Int32) (h : w_X8_setFades_b40 n M r0 x1 x2 x3 x4 s0 Q), mw_J Y 0 0 n M 40 [(0, .ref r0), (1, .int x1), (2, .int x2), (3, .int x3), (4, .int x4)] [.int s0] := by
    intro M r0 x1 x2 x3 x4 s0 h
    unfold w_X8_setFades_b40 at h
    refine jr_istore (L1 := [(5, .int s0), (0, .ref r0), (1, .int x1), (2, .int x2), (3, .int x3), (4, .int x4)]) hC dX8_setFades_40 hnL (by decide) rfl ?_
    refine jr_aload_n (j := 1) hC dX8_setFades_42 rfl rfl ?_
    refine jr_aload_n (j := 1) hC dX8_setFades_43 rfl rfl ?_
    refine jr_iload_n (j := 2) hC dX8_setFades_44 rfl rfl ?_
    obtain ⟨hc15, h⟩ := h
    refine jr_callV_pi (As := [.int x1]) (st := [.ref r0]) hC nc_RX8_136 (c_X8_isClip hlt h) hc15 rfl rfl ⟨⟨rfl, rfl⟩, ⟨by decide, by decide⟩, by decide, by decide⟩ (Nat.le_of_ble_eq_true rfl) dX8_setFades_45 (fun v16 h => ?_)
    obtain ⟨hthb17, hfhb17⟩ := h
    refine jr_if_ne (tgt := 55) hC dX8_setFades_48 (by decide) (fun hb17 => ?_) (fun hb17 => ?_)
    · have h := hthb17 hb17
      refine jr_iload (j := 0) hC dX8_setFades_55 rfl ?_
      obtain ⟨hthb18, hfhb18⟩ := h
      refine jr_if_eq (tgt := 64) hC dX8_setFades_57 (by decide) (fun hb18 => ?_) (fun hb18 => ?_)
      · have h := hthb18 hb18
        refine jr_iconst (v := (2 : Int32)) hC dX8_setFades_64 (by decide) ?_
        refine jr_sub [1, 2, 3, 4, 5] (L1 := [(0, .ref r0), (1, .int x1), (2, .int x2), (3, .int x3), (4, .int x4)]) rfl ?_
        exact B65 M r0 x1 x2 x3 x4 (2 : Int32) r0 h
      · have h := hfhb18 hb18
        refine jr_iconst (v := (0 : Int32)) hC dX8_setFades_60 (by decide) ?_
        refine jr_goto (tgt := 65) hC dX8_setFades_61 (by decide) ?_
        refine jr_sub [1, 2, 3, 4, 5] (L1 := [(0, .ref r0), (1, .int x1), (2, .int x2), (3, .int x3), (4, .int x4)]) rfl ?_
        exact B65 M r0 x1 x2 x3 x4 (0 : Int32) r0 h
    · have h := hfhb17 hb17
      refine jr_iconst (v := (1 : Int32)) hC dX8_setFades_51 (by decide) ?_
      refine jr_goto (tgt := 65) hC dX8_setFades_52 (by decide) ?_
      refine jr_sub [1, 2, 3, 4, 5] (L1 := [(0, .ref r0), (1, .int x1), (2, .int x2), (3, .int x3), (4, .int x4)]) rfl ?_
      exact B65 M r0 x1 x2 x3 x4 (1 : Int32) r0 h
  have B39 : ∀ (M : mw_M) (r0 : Nat) (x1 : Int32) (x2 : Int32) (x3 : Int32) (x4 : Int32) (h : w_X8_setFades_b39 n M r0 x1 x2 x3 x4 Q), mw_J Y 0 0 n M 39 [(0, .ref r0), (1, .int x1), (2, .int x2), (3, .int x3), (4, .int x4)] [] := by
    intro M r0 x1 x2 x3 x4 h
    unfold w_X8_setFades_b39 at h
    refine jr_iconst (v := (0 : Int32)) hC dX8_setFades_39 (by decide) ?_
    exact B40 M r0 x1 x2 x3 x4 (0 : Int32) h
  unfold w_X8_setFades at h
  refine jr_iload_n (j := 2) hC dX8_setFades_0 rfl rfl ?_
  refine jr_i2l hC dX8_setFades_1 ?_
  refine jr_lconst (v := (0 : Int64)) hC dX8_setFades_2 (by decide) ?_
  refine jr_ldc2 (v := (4000 : Int64)) hC tw_1087 dX8_setFades_3 ?_
  refine jr_callS_pi (As := [.long (Int32.toInt64 x2), .long (0 : Int64), .long (4000 : Int64)]) (st := []) hC nc_RX8_45 (c_X8_in hlt h) rfl rfl ⟨⟨rfl, rfl⟩, ⟨by decide, by decide⟩, by decide, by decide⟩ (Nat.le_of_ble_eq_true rfl) dX8_setFades_6 (fun v19 h => ?_)
  obtain ⟨hthb20, hfhb20⟩ := h
  refine jr_if_eq (tgt := 39) hC dX8_setFades_9 (by decide) (fun hb20 => ?_) (fun hb20 => ?_)
  · have h := hthb20 hb20
    exact B39 M a0 x1 x2 x3 x4 h
  · have h := hfhb20 hb20
    refine jr_iload_n (j := 3) hC dX8_setFades_12 rfl rfl ?_
    refine jr_i2l hC dX8_setFades_13 ?_
    refine jr_lconst (v := (0 : Int64)) hC dX8_setFades_14 (by decide) ?_
    refine jr_ldc2 (v := (4000 : Int64)) hC tw_1087 dX8_setFades_15 ?_
    refine jr_callS_pi (As := [.long (Int32.toInt64 x3), .long (0 : Int64), .long (4000 : Int64)]) (st := []) hC nc_RX8_45 (c_X8_in hlt h) rfl rfl ⟨⟨rfl, rfl⟩, ⟨by decide, by decide⟩, by decide, by decide⟩ (Nat.le_of_ble_eq_true rfl) dX8_setFades_18 (fun v21 h => ?_)
    obtain ⟨hthb22, hfhb22⟩ := h
    refine jr_if_eq (tgt := 39) hC dX8_setFades_21 (by decide) (fun hb22 => ?_) (fun hb22 => ?_)
    · have h := hthb22 hb22
      exact B39 M a0 x1 x2 x3 x4 h
    · have h := hfhb22 hb22
      refine jr_iload (j := 4) hC dX8_setFades_24 rfl ?_
      refine jr_i2l hC dX8_setFades_26 ?_
      refine jr_lconst (v := (0 : Int64)) hC dX8_setFades_27 (by decide) ?_
      refine jr_lconst (v := (1 : Int64)) hC dX8_setFades_28 (by decide) ?_
      refine jr_callS_pi (As := [.long (Int32.toInt64 x4), .long (0 : Int64), .long (1 : Int64)]) (st := []) hC nc_RX8_45 (c_X8_in hlt h) rfl rfl ⟨⟨rfl, rfl⟩, ⟨by decide, by decide⟩, by decide, by decide⟩ (Nat.le_of_ble_eq_true rfl) dX8_setFades_29 (fun v23 h => ?_)
      obtain ⟨hthb24, hfhb24⟩ := h
      refine jr_if_eq (tgt := 39) hC dX8_setFades_32 (by decide) (fun hb24 => ?_) (fun hb24 => ?_)
      · have h := hthb24 hb24
        exact B39 M a0 x1 x2 x3 x4 h
      · have h := hfhb24 hb24
        refine jr_iconst (v := (1 : Int32)) hC dX8_setFades_35 (by decide) ?_
        refine jr_goto (tgt := 40) hC dX8_setFades_36 (by decide) ?_
        exact B40 M a0 x1 x2 x3 x4 (1 : Int32) h
set_option maxHeartbeats 4000000 in
set_option maxRecDepth 100000 in
theorem c_X8_moveClip {G : mw_G} {l : Launch} (hlt : l.stackTraces = false) {n : Nat} {M : mw_M} {a0 : Nat} {x1 : Int32} {x2 : Int32} {Q : mw_M → Int32 → Prop} (h : w_X8_moveClip n M a0 x1 x2 Q) : mw_Met G l yX8_moveClip (.code yX8_moveClip cX8_moveClip 5 (some .int)) { frames := 3, cells := 0, slots := 0, locals := 70 } n M [.ref a0, .int x1, .int x2] (fun n1 M1 v => n1 = n ∧ mw_rI Q M1 v) (fun _ _ => False) := by
  refine mw_enter (L0 := [(0, .ref a0), (1, .int x1), (2, .int x2)]) hlt rfl rfl (plainFor_of_name (by decide)) (Nat.le_of_ble_eq_true rfl) rfl ?_
  intro Y hC0 hZ hnL hini0 hn00
  have hC : mw_C G l _ Y cX8_moveClip RX8 := hC0
  have B79 : ∀ (M : mw_M) (r0 : Nat) (x4 : Int32) (s0 : Int32) (s1r : Nat) (h : w_X8_moveClip_b79 n M r0 x4 s0 s1r Q), mw_J Y 0 0 n M 79 [(0, .ref r0), (4, .int x4)] [.int s0, .ref s1r] := by
    intro M r0 x4 s0 s1r h
    unfold w_X8_moveClip_b79 at h
    obtain ⟨hc1, h⟩ := h
    refine jr_callV_i (As := [.int s0]) (st := []) hC nc_RX8_73 (c_X8_refusesChange hlt h) hc1 rfl rfl ⟨⟨rfl, rfl⟩, ⟨by decide, by decide⟩, by decide, by decide⟩ (Nat.le_of_ble_eq_true rfl) dX8_moveClip_79 (fun M2 v3 h => ?_)
    obtain ⟨hthb4, hfhb4⟩ := h
    refine jr_if_eq (tgt := 87) hC dX8_moveClip_82 (by decide) (fun hb4 => ?_) (fun hb4 => ?_)
    · have h := hthb4 hb4
      refine jr_aload_n (j := 0) hC dX8_moveClip_87 rfl rfl ?_
      obtain ⟨hc5, h⟩ := h
      refine jr_callV_v (As := []) (st := []) hC nc_RX8_133 (c_X8_takesOver hlt h) hc5 rfl rfl ⟨⟨rfl, rfl⟩, ⟨by decide, by decide⟩, by decide, by decide⟩ (Nat.le_of_ble_eq_true rfl) dX8_moveClip_88 (fun M6 h => ?_)
      refine jr_iload (j := 1) hC dX8_moveClip_91 rfl ?_
      exact jr_ireti hC hZ (by decide) (by decide) dX8_moveClip_93 ⟨rfl, _, rfl, h⟩
    · have h := hfhb4 hb4
      refine jr_iconst (v := (0 : Int32)) hC dX8_moveClip_85 (by decide) ?_
      exact jr_ireti hC hZ (by decide) (by decide) dX8_moveClip_86 ⟨rfl, _, rfl, h⟩
  have B21 : ∀ (M : mw_M) (s0 : Int32) (h : w_X8_moveClip_b21 n M s0 Q), mw_J Y 0 0 n M 21 [] [.int s0] := by
    intro M s0 h
    unfold w_X8_moveClip_b21 at h
    exact jr_ireti hC hZ (by decide) (by decide) dX8_moveClip_21 ⟨rfl, _, rfl, h⟩
  unfold w_X8_moveClip at h
  refine jr_aload_n (j := 0) hC dX8_moveClip_0 rfl rfl ?_
  refine jr_iload_n (j := 1) hC dX8_moveClip_1 rfl rfl ?_
  obtain ⟨hc7, h⟩ := h
  refine jr_callV_pi (As := [.int x1]) (st := []) hC nc_RX8_136 (c_X8_isClip hlt h) hc7 rfl rfl ⟨⟨rfl, rfl⟩, ⟨by decide, by decide⟩, by decide, by decide⟩ (Nat.le_of_ble_eq_true rfl) dX8_moveClip_2 (fun v8 h => ?_)
  obtain ⟨hthb9, hfhb9⟩ := h
  refine jr_if_ne (tgt := 22) hC dX8_moveClip_5 (by decide) (fun hb9 => ?_) (fun hb9 => ?_)
  · have h := hthb9 hb9
    refine jr_aload_n (j := 0) hC dX8_moveClip_22 rfl rfl ?_
    refine jr_callV_v (As := []) (st := []) hC nc_RX8_119 (c_X8_tries hlt h) hc7 rfl rfl ⟨⟨rfl, rfl⟩, ⟨by decide, by decide⟩, by decide, by decide⟩ (Nat.le_of_ble_eq_true rfl) dX8_moveClip_23 (fun M10 h => ?_)
    refine jr_iload_n (j := 2) hC dX8_moveClip_26 rfl rfl ?_
    refine jr_i2l hC dX8_moveClip_27 ?_
    refine jr_lconst (v := (0 : Int64)) hC dX8_moveClip_28 (by decide) ?_
    refine jr_sipush (v := (4000 : Int32)) hC dX8_moveClip_29 (by decide) ?_
    refine jr_aload_n (j := 0) hC dX8_moveClip_32 rfl rfl ?_
    refine jr_iload_n (j := 1) hC dX8_moveClip_33 rfl rfl ?_
    refine jr_iconst (v := (4 : Int32)) hC dX8_moveClip_34 (by decide) ?_
    refine jr_callV_pi (As := [.int x1, .int (4 : Int32)]) (st := [.int (4000 : Int32), .long (0 : Int64), .long (Int32.toInt64 x2)]) hC nc_RX8_98 (c_X8_of hlt h) hc7 rfl rfl ⟨⟨rfl, rfl⟩, ⟨by decide, by decide⟩, by decide, by decide⟩ (Nat.le_of_ble_eq_true rfl) dX8_moveClip_35 (fun v11 h => ?_)
    refine jr_isub hC dX8_moveClip_38 ?_
    refine jr_i2l hC dX8_moveClip_39 ?_
    refine jr_callS_pi (As := [.long (Int32.toInt64 x2), .long (0 : Int64), .long (Int32.toInt64 ((4000 : Int32) - v11))]) (st := []) hC nc_RX8_45 (c_X8_in hlt h) rfl rfl ⟨⟨rfl, rfl⟩, ⟨by decide, by decide⟩, by decide, by decide⟩ (Nat.le_of_ble_eq_true rfl) dX8_moveClip_40 (fun v12 h => ?_)
    refine jr_istore_n (L1 := [(3, .int v12), (0, .ref a0), (1, .int x1), (2, .int x2)]) hC dX8_moveClip_43 rfl hnL (by decide) rfl ?_
    refine jr_aload_n (j := 1) hC dX8_moveClip_44 rfl rfl ?_
    refine jr_iload_n (j := 2) hC dX8_moveClip_45 rfl rfl ?_
    refine jr_iconst (v := (2 : Int32)) hC dX8_moveClip_46 (by decide) ?_
    refine jr_iload_n (j := 3) hC dX8_moveClip_47 rfl rfl ?_
    refine jr_callV_v (As := [.int x1, .int (2 : Int32), .int x2]) (st := []) hC nc_RX8_122 (c_X8_set hlt h) hc7 rfl rfl ⟨⟨rfl, rfl⟩, ⟨by decide, by decide⟩, by decide, by decide⟩ (Nat.le_of_ble_eq_true rfl) dX8_moveClip_48 (fun M13 h => ?_)
    refine jr_aload_n (j := 1) hC dX8_moveClip_51 rfl rfl ?_
    refine jr_iload_n (j := 2) hC dX8_moveClip_52 rfl rfl ?_
    refine jr_callV_i (As := [.int x1]) (st := []) hC nc_RX8_126 (c_X8_settles hlt h) hc7 rfl rfl ⟨⟨rfl, rfl⟩, ⟨by decide, by decide⟩, by decide, by decide⟩ (Nat.le_of_ble_eq_true rfl) dX8_moveClip_53 (fun M14 v15 h => ?_)
    refine jr_istore (L1 := [(4, .int v15), (3, .int v12), (0, .ref a0), (1, .int x1), (2, .int x2)]) hC dX8_moveClip_56 hnL (by decide) rfl ?_
    refine jr_aload_n (j := 2) hC dX8_moveClip_58 rfl rfl ?_
    refine jr_iload_n (j := 1) hC dX8_moveClip_59 rfl rfl ?_
    obtain ⟨hthb16, hfhb16⟩ := h
    refine jr_if_ne (tgt := 67) hC dX8_moveClip_60 (by decide) (fun hb16 => ?_) (fun hb16 => ?_)
    · have h := hthb16 hb16
      refine jr_aload_n (j := 2) hC dX8_moveClip_67 rfl rfl ?_
      refine jr_callV_pi (As := []) (st := [.ref a0]) hC nc_RX8_129 (c_X8_isFine hlt h) hc7 rfl rfl ⟨⟨rfl, rfl⟩, ⟨by decide, by decide⟩, by decide, by decide⟩ (Nat.le_of_ble_eq_true rfl) dX8_moveClip_68 (fun v17 h => ?_)
      obtain ⟨hthb18, hfhb18⟩ := h
      refine jr_if_eq (tgt := 78) hC dX8_moveClip_71 (by decide) (fun hb18 => ?_) (fun hb18 => ?_)
      · have h := hthb18 hb18
        refine jr_iconst (v := (3 : Int32)) hC dX8_moveClip_78 (by decide) ?_
        refine jr_sub [2, 0] (L1 := [(0, .ref a0), (4, .int v15)]) rfl ?_
        exact B79 M14 a0 v15 (3 : Int32) a0 h
      · have h := hfhb18 hb18
        refine jr_iconst (v := (0 : Int32)) hC dX8_moveClip_74 (by decide) ?_
        refine jr_goto (tgt := 79) hC dX8_moveClip_75 (by decide) ?_
        refine jr_sub [2, 0] (L1 := [(0, .ref a0), (4, .int v15)]) rfl ?_
        exact B79 M14 a0 v15 (0 : Int32) a0 h
    · have h := hfhb16 hb16
      refine jr_iconst (v := (2 : Int32)) hC dX8_moveClip_63 (by decide) ?_
      refine jr_goto (tgt := 79) hC dX8_moveClip_64 (by decide) ?_
      refine jr_sub [2, 0] (L1 := [(0, .ref a0), (4, .int v15)]) rfl ?_
      exact B79 M14 a0 v15 (2 : Int32) a0 h
  · have h := hfhb9 hb9
    refine jr_aload_n (j := 0) hC dX8_moveClip_8 rfl rfl ?_
    refine jr_iconst (v := (1 : Int32)) hC dX8_moveClip_9 (by decide) ?_
    refine jr_callV_i (As := [.int (1 : Int32)]) (st := []) hC nc_RX8_51 (c_X8_refuses hlt h) hc7 rfl rfl ⟨⟨rfl, rfl⟩, ⟨by decide, by decide⟩, by decide, by decide⟩ (Nat.le_of_ble_eq_true rfl) dX8_moveClip_10 (fun M19 v20 h => ?_)
    obtain ⟨hthb21, hfhb21⟩ := h
    refine jr_if_eq (tgt := 20) hC dX8_moveClip_13 (by decide) (fun hb21 => ?_) (fun hb21 => ?_)
    · have h := hthb21 hb21
      refine jr_iconst (v := (-1 : Int32)) hC dX8_moveClip_20 (by decide) ?_
      refine jr_sub [] (L1 := []) rfl ?_
      exact B21 M19 (-1 : Int32) h
    · have h := hfhb21 hb21
      refine jr_iconst (v := (0 : Int32)) hC dX8_moveClip_16 (by decide) ?_
      refine jr_goto (tgt := 21) hC dX8_moveClip_17 (by decide) ?_
      refine jr_sub [] (L1 := []) rfl ?_
      exact B21 M19 (0 : Int32) h
set_option maxHeartbeats 4000000 in
set_option maxRecDepth 100000 in
theorem c_X8_limitsFades {G : mw_G} {l : Launch} (hlt : l.stackTraces = false) {n : Nat} {M : mw_M} {a0 : Nat} {x1 : Int32} {Q : mw_M → Prop} (h : w_X8_limitsFades n M a0 x1 Q) : mw_Met G l yX8_limitsFades (.code yX8_limitsFades cX8_limitsFades 3 none) { frames := 1, cells := 0, slots := 0, locals := 23 } n M [.ref a0, .int x1] (fun n1 M1 v => n1 = n ∧ mw_rV Q M1 v) (fun _ _ => False) := by
  refine mw_enter (L0 := [(0, .ref a0), (1, .int x1)]) hlt rfl rfl (plainFor_of_name (by decide)) (Nat.le_of_ble_eq_true rfl) rfl ?_
  intro Y hC0 hZ hnL hini0 hn00
  have hC : mw_C G l _ Y cX8_limitsFades RX8 := hC0
  have B62 : ∀ (M : mw_M) (s0 : Int32) (s1 : Int32) (s2 : Int32) (s3r : Nat) (h : w_X8_limitsFades_b62 n M s0 s1 s2 s3r Q), mw_J Y 0 0 n M 62 [] [.int s0, .int s1, .int s2, .ref s3r] := by
    intro M s0 s1 s2 s3r h
    unfold w_X8_limitsFades_b62 at h
    obtain ⟨hc1, h⟩ := h
    refine jr_callV_v (As := [.int s2, .int s1, .int s0]) (st := []) hC nc_RX8_122 (c_X8_set hlt h) hc1 rfl rfl ⟨⟨rfl, rfl⟩, ⟨by decide, by decide⟩, by decide, by decide⟩ (Nat.le_of_ble_eq_true rfl) dX8_limitsFades_62 (fun M2 h => ?_)
    exact jr_vret hC hZ (by decide) (by decide) dX8_limitsFades_65 ⟨rfl, rfl, h⟩
  have B33 : ∀ (M : mw_M) (r0 : Nat) (x1 : Int32) (x2 : Int32) (s0 : Int32) (s1 : Int32) (s2 : Int32) (s3r : Nat) (h : w_X8_limitsFades_b33 n M r0 x1 x2 s0 s1 s2 s3r Q), mw_J Y 0 0 n M 33 [(0, .ref r0), (1, .int x1), (2, .int x2)] [.int s0, .int s1, .int s2, .ref s3r] := by
    intro M r0 x1 x2 s0 s1 s2 s3r h
    unfold w_X8_limitsFades_b33 at h
    obtain ⟨hc3, h⟩ := h
    refine jr_callV_v (As := [.int s2, .int s1, .int s0]) (st := []) hC nc_RX8_122 (c_X8_set hlt h) hc3 rfl rfl ⟨⟨rfl, rfl⟩, ⟨by decide, by decide⟩, by decide, by decide⟩ (Nat.le_of_ble_eq_true rfl) dX8_limitsFades_33 (fun M4 h => ?_)
    refine jr_aload_n (j := 0) hC dX8_limitsFades_36 rfl rfl ?_
    refine jr_iload_n (j := 1) hC dX8_limitsFades_37 rfl rfl ?_
    refine jr_bipush (v := (7 : Int32)) hC dX8_limitsFades_38 (by decide) ?_
    refine jr_aload_n (j := 0) hC dX8_limitsFades_40 rfl rfl ?_
    refine jr_iload_n (j := 1) hC dX8_limitsFades_41 rfl rfl ?_
    refine jr_bipush (v := (7 : Int32)) hC dX8_limitsFades_42 (by decide) ?_
    obtain ⟨hc5, h⟩ := h
    refine jr_callV_pi (As := [.int x1, .int (7 : Int32)]) (st := [.int (7 : Int32), .int x1, .ref r0]) hC nc_RX8_98 (c_X8_of hlt h) hc5 rfl rfl ⟨⟨rfl, rfl⟩, ⟨by decide, by decide⟩, by decide, by decide⟩ (Nat.le_of_ble_eq_true rfl) dX8_limitsFades_44 (fun v6 h => ?_)
    refine jr_iload_n (j := 2) hC dX8_limitsFades_47 rfl rfl ?_
    obtain ⟨hthb7, hfhb7⟩ := h
    refine jr_ic_ge (tgt := 61) hC dX8_limitsFades_48 (by decide) (fun hb7 => ?_) (fun hb7 => ?_)
    · have h := hthb7 hb7
      refine jr_iload_n (j := 2) hC dX8_limitsFades_61 rfl rfl ?_
      refine jr_sub [] (L1 := []) rfl ?_
      exact B62 M4 x2 (7 : Int32) x1 r0 h
    · have h := hfhb7 hb7
      refine jr_aload_n (j := 0) hC dX8_limitsFades_51 rfl rfl ?_
      refine jr_iload_n (j := 1) hC dX8_limitsFades_52 rfl rfl ?_
      refine jr_bipush (v := (7 : Int32)) hC dX8_limitsFades_53 (by decide) ?_
      refine jr_callV_pi (As := [.int x1, .int (7 : Int32)]) (st := [.int (7 : Int32), .int x1, .ref r0]) hC nc_RX8_98 (c_X8_of hlt h) hc5 rfl rfl ⟨⟨rfl, rfl⟩, ⟨by decide, by decide⟩, by decide, by decide⟩ (Nat.le_of_ble_eq_true rfl) dX8_limitsFades_55 (fun v8 h => ?_)
      refine jr_goto (tgt := 62) hC dX8_limitsFades_58 (by decide) ?_
      refine jr_sub [] (L1 := []) rfl ?_
      exact B62 M4 v8 (7 : Int32) x1 r0 h
  unfold w_X8_limitsFades at h
  refine jr_aload_n (j := 0) hC dX8_limitsFades_0 rfl rfl ?_
  refine jr_iload_n (j := 1) hC dX8_limitsFades_1 rfl rfl ?_
  refine jr_iconst (v := (4 : Int32)) hC dX8_limitsFades_2 (by decide) ?_
  obtain ⟨hc9, h⟩ := h
  refine jr_callV_pi (As := [.int x1, .int (4 : Int32)]) (st := []) hC nc_RX8_98 (c_X8_of hlt h) hc9 rfl rfl ⟨⟨rfl, rfl⟩, ⟨by decide, by decide⟩, by decide, by decide⟩ (Nat.le_of_ble_eq_true rfl) dX8_limitsFades_3 (fun v10 h => ?_)
  refine jr_istore_n (L1 := [(2, .int v10), (0, .ref a0), (1, .int x1)]) hC dX8_limitsFades_6 rfl hnL (by decide) rfl ?_
  refine jr_aload_n (j := 1) hC dX8_limitsFades_7 rfl rfl ?_
  refine jr_iload_n (j := 2) hC dX8_limitsFades_8 rfl rfl ?_
  refine jr_bipush (v := (6 : Int32)) hC dX8_limitsFades_9 (by decide) ?_
  refine jr_aload_n (j := 1) hC dX8_limitsFades_11 rfl rfl ?_
  refine jr_iload_n (j := 2) hC dX8_limitsFades_12 rfl rfl ?_
  refine jr_bipush (v := (6 : Int32)) hC dX8_limitsFades_13 (by decide) ?_
  refine jr_callV_pi (As := [.int x1, .int (6 : Int32)]) (st := [.int (6 : Int32), .int x1, .ref a0]) hC nc_RX8_98 (c_X8_of hlt h) hc9 rfl rfl ⟨⟨rfl, rfl⟩, ⟨by decide, by decide⟩, by decide, by decide⟩ (Nat.le_of_ble_eq_true rfl) dX8_limitsFades_15 (fun v11 h => ?_)
  refine jr_iload_n (j := 0) hC dX8_limitsFades_18 rfl rfl ?_
  obtain ⟨hthb12, hfhb12⟩ := h
  refine jr_ic_ge (tgt := 32) hC dX8_limitsFades_19 (by decide) (fun hb12 => ?_) (fun hb12 => ?_)
  · have h := hthb12 hb12
    refine jr_iload_n (j := 0) hC dX8_limitsFades_32 rfl rfl ?_
    refine jr_sub [1, 2, 0] (L1 := [(0, .ref a0), (1, .int x1), (2, .int v10)]) rfl ?_
    exact B33 M a0 x1 v10 v10 (6 : Int32) x1 a0 h
  · have h := hfhb12 hb12
    refine jr_aload_n (j := 1) hC dX8_limitsFades_22 rfl rfl ?_
    refine jr_iload_n (j := 2) hC dX8_limitsFades_23 rfl rfl ?_
    refine jr_bipush (v := (6 : Int32)) hC dX8_limitsFades_24 (by decide) ?_
    refine jr_callV_pi (As := [.int x1, .int (6 : Int32)]) (st := [.int (6 : Int32), .int x1, .ref a0]) hC nc_RX8_98 (c_X8_of hlt h) hc9 rfl rfl ⟨⟨rfl, rfl⟩, ⟨by decide, by decide⟩, by decide, by decide⟩ (Nat.le_of_ble_eq_true rfl) dX8_limitsFades_26 (fun v13 h => ?_)
    refine jr_goto (tgt := 33) hC dX8_limitsFades_29 (by decide) ?_
    refine jr_sub [1, 2, 0] (L1 := [(0, .ref a0), (1, .int x1), (2, .int v10)]) rfl ?_
    exact B33 M a0 x1 v10 v13 (6 : Int32) x1 a0 h
